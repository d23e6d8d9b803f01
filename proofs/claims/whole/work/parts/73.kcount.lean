/-! keysUnder, keysAhead, spell. -/
section KU
variable {l : Launch} {g : xG} {M : xM} {Q : Option Value → xM → Prop} {φ ψ : Nat → Nat} {T : TT} {t nd ky : Nat} {KK sp : List Nat}
theorem sX8_keysBetween (hW : tWF T) (hc : cNs M φ ψ T) (hi : cInj φ T) {e : Option Nat} (he : ∀ x, e = some x → tU T x = true) {l1 l2 : List Nat} (hl : tEs T = l1 ++ l2) {r : Option Nat} (hr : r = l2.head?.map φ) (hQ : Q (some (.int (nI ((lto l2 e).countP (fun n => (tV T n).isSome))))) M) : xSp l g mX8_keysBetween 0 0 [va_rf r, va_rf (e.map φ)] M Q := by
  subst hr
  refine eX8_keysBetween _ _ (bX8_keysBetween_0 _ _ ?_)
  exact between_loop hW hc hi _ e he l2 l1 0 hl (by rw [Nat.zero_add]; exact hQ)
theorem sX8_keysUnder {tp tb : Nat} {key : List Nat} (hW : tWF T) (h : cTr M t KK φ ψ T sp nd ky) (htp : tpR M tp tb key) (htb : ∀ a ∈ KK, ψ a ≠ tb)
    (hQ : ∀ M1, cTr M1 t KK φ ψ T sp nd ky → xag (RG t KK ψ) M M1 → Q (some (.int (nI (tWn T key)))) M1) : xSp l g mX8_keysUnder 0 0 [va_rf (some t), va_rf (some tp)] M Q := by
  have hx1 : xag (RG t KK ψ) M (skM M t φ T key) := (sk3_ag _ _ _).mono (fun x z => by rw [z]; exact RGt)
  have h2 : cTr (skM M t φ T key) t KK φ ψ T sp nd ky := h.sk hW _ _ _
  have htp2 := tpR_RG htp h htb hx1
  have e5 := skM_R5 (M := M) (φ := φ) (T := T) t key
  have e7 := skM_I7 (M := M) (φ := φ) (T := T) t key
  obtain ⟨hu, hm, hk⟩ := tSe_ok hW key
  have h64 := htp.2.2.1
  have hsk : ∀ {Q1 : Option Value → xM → Prop}, Q1 none (skM M t φ T key) → xSp l g mX8_seek 0 0 [va_rf (some t), va_rf (some tp)] M Q1 := fun q => sX8_seek hW (h.ns hW) htp h.1.1 h.1.2.1 q
  generalize skM M t φ T key = M2 at *
  refine eX8_keysUnder _ _ (bX8_keysUnder_0 _ _ ⟨h.1.1, hsk ⟨rfl, ?_⟩⟩)
  refine ⟨h2.1.1, tp, rfl, htp2.1.1, fun d => ?_, fun d => ?_⟩
  · have d1 := nle d htp2.2.1 e7
    obtain ⟨l1, l2, l3, f1, f2, f3, f4, f5⟩ := tWn_1 (key := key) hW (by omega)
    rw [e5]
    refine ⟨_, rfl, (h2.2.1.1.1 _ hu).1.1.1, sX3_behind hW (h2.ns hW) hu ⟨_, rfl, sX8_keysBetween hW (h2.ns hW) h2.2.1.2.1 f4 f1 (by rw [f2]; rfl) ⟨_, rfl, ?_⟩⟩⟩
    rw [f3, f5]
    exact hQ M2 h2 hx1
  · have d1 := nnle d htp2.2.1 e7
    have := hQ M2 h2 hx1
    rw [tWn_0 hW d1] at this
    exact this
theorem sX8_firstNotAhead {tp tb s m w : Nat} {key : List Nat} (hW : tWF T) (h : cTr M t KK φ ψ T sp nd ky) (htp : tpR M tp tb key) (hs : tU T s = true) (hm : m ≤ (tX T s).length) (hw : w ≤ key.length) (h5 : xR M t 5 = some (φ s)) (h6 : xI M t 6 = nI m) (h7 : xI M t 7 = nI w)
    (hQ : Q (some (va_rf ((tFa T key s m w).map φ))) M) : xSp l g mX8_firstNotAhead 0 0 [va_rf (some t), va_rf (some tp)] M Q := by
  have hb := (h.2.1.1.1 s hs).1
  have h64 := htp.2.2.1
  have h12 := (tX_le hW hs).1
  have hgk : key.getD w 0 < 256 := getD_lt htp.2.2.2.2
  have hgx : (tX T s).getD m 0 < 256 := getD_lt (hW.2.1 s hs).2.2.1
  unfold tFa at hQ
  refine eX8_firstNotAhead _ _ (bX8_firstNotAhead_0 _ _ ⟨h.1.1, tp, rfl, htp.1.1, fun d1 => ?_, fun d1 => ?_⟩)
  · have f1 := nlt d1 h7 htp.2.1
    rw [if_neg (by omega)] at hQ
    rw [h7]
    refine sX7_byteAt htp.1 htp.2.1 h64 (by omega) ⟨_, rfl, h.1.1, φ s, h5, hb.1.1, fun d2 => ?_, fun d2 => ?_⟩
    · have f2 := nle d2 hb.2.1.1 h6
      rw [if_neg (by omega)] at hQ
      rw [if_pos f1, htp.2.2.2.1 w f1, h5]
      refine sX3_firstFrom hW (h.ns hW) hs (by omega) ⟨_, rfl, fun d3 => ?_, fun d3 => ?_⟩
      · cases hK : tK T s (key.getD w 0) with
        | none =>
          rw [hK] at hQ
          refine ⟨h.1.1, φ s, h5, hb.1.1, ?_⟩
          rw [h5]
          exact sX3_behind hW (h.ns hW) hs ⟨_, rfl, hQ⟩
        | some c => rw [hK] at d3; cases d3
      · cases hK : tK T s (key.getD w 0) with
        | none => rw [hK] at d3; exact absurd rfl d3
        | some c => rw [hK] at hQ; exact hQ
    · have f2 := nnle d2 hb.2.1.1 h6
      rw [if_pos f2] at hQ
      rw [if_pos f1, htp.2.2.2.1 w f1, h5, h6]
      refine sX3_prefixAt hW (h.ns hW) hs (by omega) ⟨_, rfl, fun d3 => ?_, fun d3 => ?_⟩
      · have f3 := nle d3 rfl rfl
        rw [if_neg (by omega)] at hQ
        refine ⟨h.1.1, φ s, h5, hb.1.1, ?_⟩
        rw [h5]
        exact sX3_behind hW (h.ns hW) hs ⟨_, rfl, hQ⟩
      · have f3 := nnle d3 rfl rfl
        rw [if_pos f3] at hQ
        refine ⟨h.1.1, ?_⟩
        rw [h5]; exact hQ
  · have f1 := nnlt d1 h7 htp.2.1
    rw [if_pos f1] at hQ
    rw [h5]; exact hQ
theorem sX8_keysAhead {tp tb : Nat} {key : List Nat} (hW : tWF T) (h : cTr M t KK φ ψ T sp nd ky) (htp : tpR M tp tb key) (htb : ∀ a ∈ KK, ψ a ≠ tb)
    (hQ : ∀ M1, cTr M1 t KK φ ψ T sp nd ky → xag (RG t KK ψ) M M1 → Q (some (.int (nI (tAn T key)))) M1) : xSp l g mX8_keysAhead 0 0 [va_rf (some t), va_rf (some tp)] M Q := by
  have hx1 : xag (RG t KK ψ) M (skM M t φ T key) := (sk3_ag _ _ _).mono (fun x z => by rw [z]; exact RGt)
  have h2 : cTr (skM M t φ T key) t KK φ ψ T sp nd ky := h.sk hW _ _ _
  have htp2 := tpR_RG htp h htb hx1
  have e5 := skM_R5 (M := M) (φ := φ) (T := T) t key
  have e6 := skM_I6 (M := M) (φ := φ) (T := T) t key
  have e7 := skM_I7 (M := M) (φ := φ) (T := T) t key
  obtain ⟨hu, hm, hk⟩ := tSe_ok hW key
  have hsk : ∀ {Q1 : Option Value → xM → Prop}, Q1 none (skM M t φ T key) → xSp l g mX8_seek 0 0 [va_rf (some t), va_rf (some tp)] M Q1 := fun q => sX8_seek hW (h.ns hW) htp h.1.1 h.1.2.1 q
  generalize skM M t φ T key = M2 at *
  refine eX8_keysAhead _ _ (bX8_keysAhead_0 _ _ ⟨h.1.1, hsk ⟨rfl, ?_⟩⟩)
  obtain ⟨l1, l2, f1, f2, f3, f4⟩ := tAn_1 (key := key) hW
  refine ⟨h2.1.1, sX8_firstNotAhead hW h2 htp2 hu hm hk e5 e6 e7 ⟨_, rfl, ?_⟩⟩
  refine sX8_keysBetween (l1 := []) (l2 := l1 ++ l2) hW (h2.ns hW) h2.2.1.2.1 f3 (by rw [f1]; rfl) (by rw [← f1, tEs_head]; exact h2.1.2.1) ⟨_, rfl, ?_⟩
  rw [f2, f4]
  exact hQ M2 h2 hx1
end KU
