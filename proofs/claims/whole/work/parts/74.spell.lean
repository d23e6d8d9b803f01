/-! What is known of locals may be forgotten. -/
def xlw : List (Nat × Value) → List (Nat × Value) → Prop
  | [], _ => True
  | _ :: _, [] => False
  | x :: L, y :: L1 => (x = y ∨ x.1 = 0) ∧ xlw L L1
theorem xlw_get : ∀ {L L1 : List (Nat × Value)}, xlw L L1 → ∀ (i t : Nat) (v : Value), L[i]? = some (t, v) → t ≠ 0 → L1[i]? = some (t, v)
  | [], _, _, i, t, v, h, _ => by simp at h
  | x :: L, y :: L1, hl, 0, t, v, h, ht => by
    simp only [List.getElem?_cons_zero, Option.some.injEq] at h ⊢
    rcases hl.1 with e | e
    · rw [← e]; exact h
    · rw [h] at e; exact absurd e ht
  | x :: L, y :: L1, hl, i + 1, t, v, h, ht => by
    simp only [List.getElem?_cons_succ] at h ⊢
    exact xlw_get hl.2 i t v h ht
theorem xWp.lw {l : Launch} {g : xG} {md : xMd} {mc ms pc : Nat} {L L1 : List (Nat × Value)} {st : List Value} {cs : Nat × Nat} {M : xM} {Q : Option Value → xM → Prop} (h : xWp l g md mc ms pc L st cs M Q) (hL : xlw L L1) : xWp l g md mc ms pc L1 st cs M Q :=
  fun p e R s m args below meth c A H locs Z ls a1 a2 a3 a4 a5 => h p e R s m args below meth c A H locs Z ls a1 a2 a3 a4 ⟨a5.1, a5.2.1, fun i t v hi ht => a5.2.2 i t v (xlw_get hL i t v hi ht) ht⟩
/-! spell. -/
section SPL
variable {l : Launch} {g : xG} {M : xM} {Q : Option Value → xM → Prop} {φ ψ : Nat → Nat} {T : TT} {t nd ky : Nat} {KK sp : List Nat}
/-- bytes of a row that stand on the tape from one on -/
theorem spell_in {tp tb x : Nat} {K : List Nat} {a0 : Nat} (hW : tWF T) (hx : tU T x = true) (hK12 : K.length ≤ 12) (hpre : ∃ r, K = tKey T x ++ r) {M0 : xM} (h0 : cTr M0 t KK φ ψ T sp nd ky) (htp0 : tpOk M0 tp tb) (htb : ∀ a ∈ KK, ψ a ≠ tb)
    (hcont : ∀ M1, xag (fun a => a = tb) M0 M1 → (∀ j, tL T x ≤ j → j < K.length → xI M1 tb j = nI (K.getD j 0)) → ((xR M1 (φ x) 9 = none → xWp l g mX3_spell 0 0 15 [(1, va_rf (some a0)), (1, va_rf (some tp)), (1, va_rf (xR M1 (φ x) 9)), (1, .int (nI (tL T x))), (1, .int (nI (tX T x).length))] [] (0, 0) M1 Q) ∧ (¬ (xR M1 (φ x) 9) = none → (xSp l g mX7_setByte 0 0 [va_rf (some tp), .int (nI (tL T x) - 1), .int (xI M1 (φ x) 6)] M1 (fun ρ6 M5 => ρ6 = none ∧ (xat M5 (φ x) 1 ∧ xWp l g mX3_spell 0 0 15 [(1, va_rf (some a0)), (1, va_rf (some tp)), (1, va_rf (xR M5 (φ x) 9)), (1, .int (nI (tL T x))), (1, .int (nI (tX T x).length))] [] (0, 0) M5 Q))))))
    : ∀ (d i : Nat) (M1 : xM), (tX T x).length = i + d → xag (fun a => a = tb) M0 M1 → (∀ j, (tKey T x).length ≤ j → j < K.length → xI M1 tb j = nI (K.getD j 0)) → (∀ j, tL T x ≤ j → j < tL T x + i → xI M1 tb j = nI (K.getD j 0)) → xWp l g mX3_spell 0 0 27 [(1, va_rf (some a0)), (1, va_rf (some tp)), (1, va_rf (some (φ x))), (1, .int (nI (tL T x))), (1, .int (nI i))] [] (0, 0) M1 Q := by
  have h12 := (tX_le hW hx)
  have hkl := tKey_len hW hx
  have hno : ∀ a, a = tb → ¬ RG t KK ψ a := fun a ha z => by
    rw [ha] at z
    rcases z with z | z | ⟨b, hb, z⟩
    · exact ne_of_kind htp0.2.2.1.2 h0.1.1.2 (by decide) z
    · exact ne_of_kind htp0.2.2.1.2 (h0.2.2.2.1 _ z).1.2 (by decide) rfl
    · exact htb b hb z.symm
  have htpb : ¬ tp = tb := ne_of_kind htp0.1.2 htp0.2.2.1.2 (by decide)
  intro d
  induction d with
  | zero =>
    intro i M1 hd hx1 hlo hhi
    have h1 := h0.ag hW hx1 hno
    have hb := (h1.2.1.1.1 x hx).1
    refine bX3_spell_27 _ _ _ _ _ ⟨φ x, rfl, hb.1.1, fun c => ?_, fun c => ?_⟩
    · have hi : i = (tX T x).length := by omega
      subst hi
      obtain ⟨c1, c2⟩ := hcont M1 hx1 (fun j hj1 hj2 => by
        by_cases hj : j < tL T x + (tX T x).length
        · exact hhi j hj1 hj
        · exact hlo j (by omega) hj2)
      exact ⟨c1, fun z => ⟨tp, rfl, hx1.at.mpr htp0.1, c2 z⟩⟩
    · have := nnle c hb.2.1.1 rfl
      omega
  | succ d ih =>
    intro i M1 hd hx1 hlo hhi
    have h1 := h0.ag hW hx1 hno
    have hb := (h1.2.1.1.1 x hx).1
    refine bX3_spell_27 _ _ _ _ _ ⟨φ x, rfl, hb.1.1, fun c => ?_, fun c => ?_⟩
    · have := nle c hb.2.1.1 rfl
      omega
    · refine sX3_prefixAt hW (h1.ns hW) hx (by omega) ⟨_, rfl, tp, rfl, hx1.at.mpr htp0.1, ?_⟩
      rw [nI_add]
      obtain ⟨f1, f2, f3⟩ := hx1.2 tp htpb
      obtain ⟨r, hr⟩ := hpre
      have hlK : (tKey T x).length ≤ K.length := by rw [hr]; simp
      refine sX7_setByte (b := tb) ⟨hx1.at.mpr htp0.1, by rw [f3]; exact htp0.2.1, hx1.at.mpr htp0.2.2.1, by rw [hx1.1.2.2.1]; exact htp0.2.2.2⟩ (by omega) ⟨rfl, ?_⟩
      rw [nI_1]
      have hval : K.getD (tL T x + i) 0 = (tX T x).getD i 0 := by
        rw [hr, tKey_eq hW hx, List.append_assoc, getD_app, if_neg (by rw [tPth_len hW hx]; omega), tPth_len hW hx, Nat.add_sub_cancel_left, getD_app, if_pos (by omega)]
      refine ih (i + 1) _ (by omega) (hx1.trans (xag_I _ rfl)) (fun j hj1 hj2 => ?_) (fun j hj1 hj2 => ?_)
      · rw [xI_sI, if_neg (fun z => by omega)]; exact hlo j hj1 hj2
      · by_cases hj : j = tL T x + i
        · rw [xI_sI, if_pos ⟨rfl, hj⟩, hj, hval]
        · rw [xI_sI, if_neg (fun z => hj z.2)]; exact hhi j hj1 (by omega)
theorem spell_up {tp tb : Nat} {K : List Nat} {a0 : Nat} (hW : tWF T) (hK12 : K.length ≤ 12) {M0 : xM} (h0 : cTr M0 t KK φ ψ T sp nd ky) (htp0 : tpOk M0 tp tb) (htb : ∀ a ∈ KK, ψ a ≠ tb)
    (hcont : ∀ M1, xag (fun a => a = tb) M0 M1 → (∀ j, j < K.length → xI M1 tb j = nI (K.getD j 0)) → Q none M1) :
    ∀ (k x : Nat) (M1 : xM) (w3 w4 : Value), tU T x = true → tL T x ≤ k → (∃ r, K = tKey T x ++ r) → xag (fun a => a = tb) M0 M1 → (∀ j, (tKey T x).length ≤ j → j < K.length → xI M1 tb j = nI (K.getD j 0)) → xWp l g mX3_spell 0 0 15 [(1, va_rf (some a0)), (1, va_rf (some tp)), (1, va_rf (some (φ x))), (0, w3), (0, w4)] [] (0, 0) M1 Q := by
  have hno : ∀ a, a = tb → ¬ RG t KK ψ a := fun a ha z => by
    rw [ha] at z
    rcases z with z | z | ⟨b, hb, z⟩
    · exact ne_of_kind htp0.2.2.1.2 h0.1.1.2 (by decide) z
    · exact ne_of_kind htp0.2.2.1.2 (h0.2.2.2.1 _ z).1.2 (by decide) rfl
    · exact htb b hb z.symm
  have htpb : ¬ tp = tb := ne_of_kind htp0.1.2 htp0.2.2.1.2 (by decide)
  intro k
  induction k with
  | zero =>
    intro x M1 w3 w4 hx hk hpre hx1 hlo
    have h1 := h0.ag hW hx1 hno
    have hb := (h1.2.1.1.1 x hx).1
    have hp : tP T x = none := by
      cases hp : tP T x with
      | none => rfl
      | some p =>
        have := (hW.2.2.2.1 x p hx hp).2.2
        omega
    refine bX3_spell_15 _ _ _ _ _ ⟨fun z => (by cases z), fun _ => ⟨φ x, rfl, hb.1.1, sX3_lead hW (h1.ns hW) hx ⟨_, rfl, ?_⟩⟩⟩
    refine spell_in hW hx hK12 hpre h0 htp0 htb (fun M2 hx2 hall => ?_) (tX T x).length 0 M1 (by omega) hx1 hlo (fun j a b => by omega)
    have h2 := h0.ag hW hx2 hno
    have hb2 := (h2.2.1.1.1 x hx).1
    have e9 : xR M2 (φ x) 9 = none := by rw [hb2.2.2.2, hp]; rfl
    refine ⟨fun _ => ?_, fun z => absurd e9 z⟩
    rw [e9]
    exact xWp.lw (bX3_spell_15 _ _ _ .null .null ⟨fun _ => hcont M2 hx2 (fun j hj => hall j (by omega) hj), fun z => absurd rfl z⟩) ⟨Or.inl rfl, Or.inl rfl, Or.inl rfl, Or.inr rfl, Or.inr rfl, trivial⟩
  | succ k ih =>
    intro x M1 w3 w4 hx hk hpre hx1 hlo
    have h1 := h0.ag hW hx1 hno
    have hb := (h1.2.1.1.1 x hx).1
    refine bX3_spell_15 _ _ _ _ _ ⟨fun z => (by cases z), fun _ => ⟨φ x, rfl, hb.1.1, sX3_lead hW (h1.ns hW) hx ⟨_, rfl, ?_⟩⟩⟩
    refine spell_in hW hx hK12 hpre h0 htp0 htb (fun M2 hx2 hall => ?_) (tX T x).length 0 M1 (by omega) hx1 hlo (fun j a b => by omega)
    have h2 := h0.ag hW hx2 hno
    have hb2 := (h2.2.1.1.1 x hx).1
    cases hp : tP T x with
    | none =>
      have e9 : xR M2 (φ x) 9 = none := by rw [hb2.2.2.2, hp]; rfl
      have hl0 : tL T x = 0 := by
        have hxo : x = tO T := by
          apply Classical.byContradiction
          intro z
          obtain ⟨p, hp2, -⟩ := hW.2.2.1 x hx z
          rw [hp] at hp2; cases hp2
        rw [hxo]; exact hW.1.2.2
      refine ⟨fun _ => ?_, fun z => absurd e9 z⟩
      rw [e9]
      exact xWp.lw (bX3_spell_15 _ _ _ .null .null ⟨fun _ => hcont M2 hx2 (fun j hj => hall j (by omega) hj), fun z => absurd rfl z⟩) ⟨Or.inl rfl, Or.inl rfl, Or.inl rfl, Or.inr rfl, Or.inr rfl, trivial⟩
    | some p =>
      obtain ⟨p1, p2, p3⟩ := hW.2.2.2.1 x p hx hp
      have e9 : xR M2 (φ x) 9 = some (φ p) := by rw [hb2.2.2.2, hp]; rfl
      refine ⟨fun z => (by rw [e9] at z; cases z), fun _ => ?_⟩
      obtain ⟨f1, f2, f3⟩ := hx2.2 tp htpb
      have h12 := (tX_le hW hx).2
      have hpk := tKey_len hW p1
      obtain ⟨r, hr⟩ := id hpre
      have ekx : tKey T x = tKey T p ++ (tB T x :: tX T x) := by
        rw [tKey_eq hW hx, tPth_child hp, List.append_assoc]; rfl
      have hKp : ∃ r, K = tKey T p ++ r := ⟨tB T x :: tX T x ++ r, by rw [hr, ekx, List.append_assoc]⟩
      rw [p3, nI_pred, hb2.2.2.1.2.2.2.2.1]
      refine sX7_setByte (b := tb) ⟨hx2.at.mpr htp0.1, by rw [f3]; exact htp0.2.1, hx2.at.mpr htp0.2.2.1, by rw [hx2.1.2.2.1]; exact htp0.2.2.2⟩ (by omega) ⟨rfl, hb2.1.1, ?_⟩
      have e9b : xR (xsI M2 tb (tL T p + (tX T p).length) (nI (tB T x))) (φ x) 9 = some (φ p) := e9
      rw [e9b]
      refine xWp.lw (ih p _ .null .null p1 (by omega) hKp (hx2.trans (xag_I _ rfl)) (fun j hj1 hj2 => ?_)) ⟨Or.inl rfl, Or.inl rfl, Or.inl rfl, Or.inr rfl, Or.inr rfl, trivial⟩
      by_cases hj : j = tL T p + (tX T p).length
      · rw [xI_sI, if_pos ⟨rfl, hj⟩, hj, hr, ekx, List.append_assoc, ← hpk, getD_app, if_neg (by omega), Nat.sub_self]; rfl
      · rw [xI_sI, if_neg (fun z => hj z.2)]; exact hall j (by omega) hj2
theorem sX3_spell {n tp tb : Nat} (hW : tWF T) (h : cTr M t KK φ ψ T sp nd ky) (hn : tU T n = true) (htp : tpOk M tp tb) (htb : ∀ a ∈ KK, ψ a ≠ tb)
    (hQ : ∀ M1, tpR M1 tp tb (tKey T n) → xag (fun a => a = tp ∨ a = tb) M M1 → Q none M1) : xSp l g mX3_spell 0 0 [va_rf (some (φ n)), va_rf (some tp)] M Q := by
  have hb := (h.2.1.1.1 n hn).1
  have hkl := tKey_len hW hn
  have h12 := (hW.2.1 n hn).2.2.2
  have htpb : ¬ tp = tb := ne_of_kind htp.1.2 htp.2.2.1.2 (by decide)
  refine eX3_spell _ _ (bX3_spell_0 _ _ ⟨hb.1.1, sX3_lead hW (h.ns hW) hn ⟨_, rfl, hb.1.1, tp, rfl, htp.1, ?_⟩⟩)
  rw [hb.2.1.1, nI_add, ← hkl]
  have hx0 : xag (fun a => a = tp) M (xsI M tp 1 (nI (tKey T n).length)) := xag_I _ rfl
  have h0 : cTr (xsI M tp 1 (nI (tKey T n).length)) t KK φ ψ T sp nd ky := h.ag hW hx0 (fun a ha z => by
    rw [ha] at z
    rcases z with z | z | ⟨b, hb, z⟩
    · exact ne_of_kind htp.1.2 h.1.1.2 (by decide) z
    · exact ne_of_kind htp.1.2 (h.2.2.2.1 _ z).1.2 (by decide) rfl
    · exact ne_of_kind htp.1.2 (h.2.2.2.1 _ hb).2.2.1.2 (by decide) z)
  refine spell_up (K := tKey T n) hW (by omega) h0 htp htb (fun M1 hx1 hall => ?_) (tL T n) n _ _ _ hn (Nat.le_refl _) ⟨[], (List.append_nil _).symm⟩ xag.rf (fun j a b => by omega)
  obtain ⟨f1, f2, f3⟩ := hx1.2 tp htpb
  refine hQ M1 ⟨⟨hx1.at.mpr htp.1, by rw [f3]; exact htp.2.1, hx1.at.mpr htp.2.2.1, by rw [hx1.1.2.2.1]; exact htp.2.2.2⟩, ?_, by omega, hall, fun b hb2 => tKey_lt hW 12 n hn b hb2⟩ ((hx0.mono (fun a z => Or.inl z)).trans (hx1.mono (fun a z => Or.inr z)))
  rw [f1, xI_sI, if_pos ⟨rfl, rfl⟩]
end SPL
