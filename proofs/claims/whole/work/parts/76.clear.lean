/-! clear. -/
/-- a tree without keys -/
def tNil : TT := ((fun n => decide (n = 0)), (fun _ => none), (fun _ => 0), (fun _ => []), (fun _ => none), (fun _ => 1), (fun _ => 0), (fun _ => false), (fun _ => []), (fun _ => 0), 0)
theorem tNil_u {n : Nat} (h : tU tNil n = true) : n = 0 := by
  have h1 : decide (n = 0) = true := h
  simpa using h1
theorem tNil_wf : tWF tNil := by
  refine ⟨⟨rfl, rfl, rfl⟩, fun n hn => ?_, fun n hn hne => absurd (tNil_u hn) hne, fun n p _ hp => (by cases hp), fun p c _ hc => (by cases hc), fun p _ => List.Pairwise.nil⟩
  rw [tNil_u hn]
  exact ⟨by decide, by decide, fun b hb => (by cases hb), by decide⟩
theorem tNil_cnt : tCnt tNil = 1 ∧ tKy tNil = 0 := by
  constructor
  · have h : (List.range 220).countP (tU tNil) = (List.range 220).countP (fun _ => false) + 1 := cnt_up220 (c := 0) (by decide) rfl rfl (fun x hx => by
      show decide (x = 0) = false
      simpa using hx)
    unfold tCnt
    rw [h]
    simp
  · refine (cnt0_iff (T := tNil) (fun n => (tV tNil n).isSome)).mpr (fun n _ _ => rfl)
theorem tNil_inv : tInv tNil := by
  refine ⟨fun n hn => ⟨by show 1 ≤ 1; omega, by show 1 ≤ 4; omega, by show 0 < 256; omega, by show 0 ≤ _; omega⟩, fun n hn => Or.inr (Or.inr ⟨tNil_u hn, rfl, rfl, rfl⟩), ?_⟩
  rw [tNil_cnt.1]; omega
/-- what stands of a tree object whatever its tree is -/
def cKK (M : xM) (t st : Nat) (KK : List Nat) (ψ : Nat → Nat) : Prop :=
  xat M t 5 ∧ (xR M t 0 = some st ∧ xat M st 12 ∧ xN M st = 200 ∧ KK.length = 200 ∧ KK.Nodup ∧ ∀ i, i < 200 → xR M st i = KK[i]?) ∧
  (∀ a ∈ KK, xat M a 1 ∧ xR M a 0 = some (ψ a) ∧ xat M (ψ a) 9 ∧ xN M (ψ a) = 12) ∧ (∀ a ∈ KK, ∀ b ∈ KK, ψ a = ψ b → a = b)
section CL
variable {l : Launch} {g : xG} {M : xM} {Q : Option Value → xM → Prop} {φ ψ : Nat → Nat} {T : TT} {t st nd ky : Nat} {KK sp : List Nat}
theorem cKK.ag {M1 : xM} {P : Nat → Prop} (h : cKK M t st KK ψ) (hx : xag P M M1) (hs : ¬ P st) : cKK M1 t st KK ψ := by
  obtain ⟨a1, ⟨b1, b2, b3, b4, b5, b6⟩, d, e⟩ := h
  refine ⟨hx.at.mpr a1, ⟨by rw [hx.1.2.2.2]; exact b1, hx.at.mpr b2, by rw [hx.1.2.2.1]; exact b3, b4, b5, fun i hi => by rw [(hx.2 st hs).2.2]; exact b6 i hi⟩, fun a ha => ?_, e⟩
  obtain ⟨d1, d2, d3, d4⟩ := d a ha
  exact ⟨hx.at.mpr d1, by rw [hx.1.2.2.2]; exact d2, hx.at.mpr d3, by rw [hx.1.2.2.1]; exact d4⟩
theorem cKK.no (h : cKK M t st KK ψ) : ¬ RG t KK ψ st := fun z => by
  obtain ⟨a1, ⟨b1, b2, b3, b4, b5, b6⟩, d, e⟩ := h
  rcases z with z | z | ⟨b, hb, z⟩
  · exact ne_of_kind b2.2 a1.2 (by decide) z
  · exact ne_of_kind b2.2 (d _ z).1.2 (by decide) rfl
  · exact ne_of_kind b2.2 (d _ hb).2.2.1.2 (by decide) z
theorem cKK.rg {M1 : xM} (h : cKK M t st KK ψ) (hx : xag (RG t KK ψ) M M1) : cKK M1 t st KK ψ := h.ag hx h.no
theorem clear_loop {r : Nat} {M0 : xM} (h0 : cKK M0 t st KK ψ) (hr0 : xR M0 t 2 = some r)
    (hcont : ∀ M1 w4, xag (RG t KK ψ) M0 M1 → xR M1 t 2 = some r → chS M1 (xR M1 t 1) (KK.filter (fun a => decide (a ≠ r))).reverse → xWp l g mX8_clear 0 0 15 [(1, va_rf (some t)), (1, va_rf (some st)), (1, .int (nI 200)), (1, .int (nI 200)), (0, w4)] [] (0, 0) M1 Q) :
    ∀ (d i : Nat) (M1 : xM) (w4 : Value), 200 = i + d → xag (RG t KK ψ) M0 M1 → xR M1 t 2 = some r → chS M1 (xR M1 t 1) ((KK.take i).filter (fun a => decide (a ≠ r))).reverse → xWp l g mX8_clear 0 0 15 [(1, va_rf (some t)), (1, va_rf (some st)), (1, .int (nI 200)), (1, .int (nI i)), (0, w4)] [] (0, 0) M1 Q
  | 0, i, M1, w4, hd, hx, hr, hs => by
    have hi : i = 200 := by omega
    subst hi
    rw [List.take_of_length_le (by rw [h0.2.1.2.2.2.1]; omega)] at hs
    exact hcont M1 w4 hx hr hs
  | d + 1, i, M1, w4, hd, hx, hr, hs => by
    have h1 := h0.rg hx
    obtain ⟨a1, ⟨b1, b2, b3, b4, b5, b6⟩, dd, e⟩ := id h1
    have hiK : i < KK.length := by omega
    have hg : KK[i]? = some KK[i] := List.getElem?_eq_getElem hiK
    have hst : xR M1 st i = some KK[i] := by rw [b6 i (by omega), hg]
    have hm : KK[i] ∈ KK := List.getElem_mem hiK
    have htk : KK.take (i + 1) = KK.take i ++ [KK[i]] := by rw [List.take_add_one, hg]; rfl
    refine bX8_clear_15 _ _ _ _ _ ⟨fun c => ?_, fun _ => ⟨st, rfl, i, ?_, a1, fun c => ?_, fun c => ?_⟩⟩
    · exfalso
      have := nle c rfl rfl
      omega
    · exact ⟨b2, rfl, by rw [b3]; omega, by rw [b3]; omega⟩
    · rw [hst, hr] at c
      rw [hst, nI_1]
      refine xWp.lw (clear_loop h0 hr0 hcont d (i + 1) M1 .null (by omega) hx hr ?_) ⟨Or.inl rfl, Or.inl rfl, Or.inl rfl, Or.inl rfl, Or.inr rfl, trivial⟩
      have e2 : (KK.take (i + 1)).filter (fun a => decide (a ≠ r)) = (KK.take i).filter (fun a => decide (a ≠ r)) := by
        rw [htk, List.filter_append, List.filter_cons_of_neg (by simp [Option.some.inj c]), List.filter_nil, List.append_nil]
      rw [e2]; exact hs
    · rw [hst] at c ⊢
      rw [hr] at c
      have hne : KK[i] ≠ r := fun z => c (by rw [z])
      refine ⟨KK[i], rfl, (dd _ hm).1, ?_⟩
      rw [nI_1]
      have htn : t ≠ KK[i] := ne_of_kind a1.2 (dd _ hm).1.2 (by decide)
      refine xWp.lw (clear_loop h0 hr0 hcont d (i + 1) _ .null (by omega) (hx.trans ((xag_R (P := RG t KK ψ) M1 (RGk hm)).trans (xag_R (P := RG t KK ψ) _ RGt))) ?_ ?_) ⟨Or.inl rfl, Or.inl rfl, Or.inl rfl, Or.inl rfl, Or.inr rfl, trivial⟩
      · rw [xR_sR, if_neg (fun z => absurd z.2 (by decide)), xR_sR, if_neg (fun z => absurd z.2 (by decide))]; exact hr
      · have e2 : (KK.take (i + 1)).filter (fun a => decide (a ≠ r)) = (KK.take i).filter (fun a => decide (a ≠ r)) ++ [KK[i]] := by
          rw [htk, List.filter_append, List.filter_cons_of_pos (by simpa using hne), List.filter_nil]
        rw [e2, List.reverse_append, List.reverse_singleton, List.singleton_append]
        refine ⟨by rw [xR_sR, if_pos ⟨rfl, rfl⟩], ?_⟩
        have e3 : xR (xsR (xsR M1 KK[i] 11 (xR M1 t 1)) t 1 (some KK[i])) KK[i] 11 = xR M1 t 1 := by
          rw [xR_sR, if_neg (fun z => absurd z.2 (by decide)), xR_sR, if_pos ⟨rfl, rfl⟩]
        rw [e3]
        refine chS_fr hs (fun a ha => ?_)
        have ha2 : a ∈ KK.take i := (List.mem_filter.mp (List.mem_reverse.mp ha)).1
        have hai : a ≠ KK[i] := fun z => by
          have hnd : (KK.take (i + 1)).Nodup := b5.sublist (List.take_sublist _ _)
          rw [htk] at hnd
          exact (List.nodup_append.mp hnd).2.2 a ha2 KK[i] List.mem_cons_self z
        rw [xR_sR, if_neg (fun z => absurd z.2 (by decide)), xR_sR, if_neg (fun z => hai z.1)]
theorem sX8_clear {r : Nat} (h : cKK M t st KK ψ) (hr : xR M t 2 = some r) (hrK : r ∈ KK)
    (hQ : ∀ M1, cTr M1 t KK (fun _ => r) ψ tNil (KK.filter (fun a => decide (a ≠ r))).reverse 1 0 → xag (RG t KK ψ) M M1 → Q none M1) : xSp l g mX8_clear 0 0 [va_rf (some t)] M Q := by
  obtain ⟨a1, ⟨b1, b2, b3, b4, b5, b6⟩, dd, e⟩ := id h
  have e0 : xR (xsR M t 1 none) t 0 = some st := by rw [xR_sR, if_neg (fun z => absurd z.2 (by decide))]; exact b1
  refine eX8_clear _ (bX8_clear_0 _ ⟨a1, st, e0, b2, ?_⟩)
  rw [e0]
  have eN : xN (xsR M t 1 none) st = 200 := b3
  rw [eN]
  have hx0 : xag (RG t KK ψ) M (xsR M t 1 none) := xag_R M RGt
  refine clear_loop (h.rg hx0) (by rw [xR_sR, if_neg (fun z => absurd z.2 (by decide))]; exact hr) (fun M1 w4 hx1 hr1 hs1 => ?_) 200 0 _ _ (by omega) xag.rf (by rw [xR_sR, if_neg (fun z => absurd z.2 (by decide))]; exact hr) (by
    show xR (xsR M t 1 none) t 1 = none
    rw [xR_sR, if_pos ⟨rfl, rfl⟩])
  have h1 := (h.rg hx0).rg hx1
  obtain ⟨a1', -, dd', -⟩ := id h1
  have htr : t ≠ r := ne_of_kind a1'.2 (dd' _ hrK).1.2 (by decide)
  refine bX8_clear_15 _ _ _ _ _ ⟨fun _ => ⟨a1', r, hr1, (dd' _ hrK).1, ?_⟩, fun c => absurd (Int32.le_refl _) c⟩
  rw [hr1]
  have hxr : xag (RG t KK ψ) M1 (rst M1 r) := ⟨⟨rst_L _ _, rst_K _ _, rst_N _ _, fun a => by rw [rst_R, if_neg (fun z => by omega)]⟩, fun a ha => ⟨fun k => by rw [rst_I, if_neg (fun z => ha (by rw [z.1]; exact RGk hrK))], fun k => by rw [rst_J, if_neg (fun z => ha (by rw [z.1]; exact RGk hrK))], fun k => by rw [rst_R, if_neg (fun z => ha (by rw [z.1]; exact RGk hrK))]⟩⟩
  refine sX3_reset (dd' _ hrK).1 ⟨rfl, hxr.at.mpr a1', ?_⟩
  have e2 : xR (rst M1 r) t 2 = some r := by rw [rst_R, if_neg (fun z => htr z.1)]; exact hr1
  rw [e2]
  have hx2 : xag (RG t KK ψ) (rst M1 r) (xsI (xsI (xsR (rst M1 r) t 5 (some r)) t 3 1) t 4 0) := (xag_R (P := RG t KK ψ) _ RGt).trans ((xag_I (P := RG t KK ψ) _ RGt).trans (xag_I (P := RG t KK ψ) _ RGt))
  have hxA := hx0.trans (hx1.trans (hxr.trans hx2))
  have h3 := h.rg hxA
  obtain ⟨a1'', -, dd'', e''⟩ := id h3
  have hI : ∀ j, xI (xsI (xsI (xsR (rst M1 r) t 5 (some r)) t 3 1) t 4 0) r j = xI (rst M1 r) r j := fun j => by
    rw [xI_sI, if_neg (fun z => htr z.1.symm), xI_sI, if_neg (fun z => htr z.1.symm), xI_sR]
  have hR : ∀ j, xR (xsI (xsI (xsR (rst M1 r) t 5 (some r)) t 3 1) t 4 0) r j = xR (rst M1 r) r j := fun j => by
    rw [xR_sI, xR_sI, xR_sR, if_neg (fun z => htr z.1.symm)]
  obtain ⟨k1, k2, k3, k4⟩ := dd'' r hrK
  refine hQ _ ⟨⟨a1'', ?_, ?_, ?_⟩, ⟨⟨fun n hn => ⟨⟨⟨k1, k2, k3, k4⟩, ⟨?_, fun i hi => absurd hi (by show ¬ i < 0; omega)⟩, ⟨?_, ?_, ?_, ?_, ?_, ?_, ?_⟩, ?_⟩, ?_⟩, ?_⟩, fun a b ha hb _ => (tNil_u ha).trans (tNil_u hb).symm, fun n _ => hrK⟩, ⟨?_, ?_, ?_, ?_⟩, dd'', e''⟩ hxA
  · rw [xR_sI, xR_sI, xR_sR, if_neg (fun z => absurd z.2 (by decide))]; exact e2
  · rw [xI_sI, if_neg (fun z => absurd z.2 (by decide)), xI_sI, if_pos ⟨rfl, rfl⟩]; rfl
  · rw [xI_sI, if_pos ⟨rfl, rfl⟩]; rfl
  · rw [hI, rst_I, if_pos ⟨rfl, by omega, by omega, by omega⟩]; rfl
  · rw [hI, rst_I, if_pos ⟨rfl, by omega, by omega, by omega⟩]; rfl
  · rw [hI, rst_I, if_pos ⟨rfl, by omega, by omega, by omega⟩]; rfl
  · rw [xJ_sI, xJ_sI, xJ_sR, rst_J, if_pos ⟨rfl, rfl⟩]; rfl
  · rw [hI, rst_I, if_pos ⟨rfl, by omega, by omega, by omega⟩]; rfl
  · rw [hI, rst_I, if_pos ⟨rfl, by omega, by omega, by omega⟩]; rfl
  · rw [hI, rst_I, if_pos ⟨rfl, by omega, by omega, by omega⟩]; rfl
  · rw [hI, rst_I, if_pos ⟨rfl, by omega, by omega, by omega⟩]; rfl
  · rw [hR, rst_R, if_pos ⟨rfl, by omega⟩]; rfl
  · show xR _ r 10 = none
    rw [hR, rst_R, if_pos ⟨rfl, by omega⟩]
  · rw [hR, rst_R, if_pos ⟨rfl, by omega⟩]
  · have e1 : xR (xsI (xsI (xsR (rst M1 r) t 5 (some r)) t 3 1) t 4 0) t 1 = xR M1 t 1 := by
      rw [xR_sI, xR_sI, xR_sR, if_neg (fun z => absurd z.2 (by decide)), rst_R, if_neg (fun z => htr z.1)]
    rw [e1]
    refine chS_fr hs1 (fun a ha => ?_)
    have ha2 := List.mem_filter.mp (List.mem_reverse.mp ha)
    have har : a ≠ r := by simpa using ha2.2
    rw [xR_sI, xR_sI, xR_sR, if_neg (fun z => absurd z.2 (by decide)), rst_R, if_neg (fun z => har z.1)]
  · exact List.pairwise_reverse.mpr ((b5.sublist List.filter_sublist).imp (fun h => h.symm))
  · intro a ha
    have ha2 := List.mem_filter.mp (List.mem_reverse.mp ha)
    have har : a ≠ r := by simpa using ha2.2
    exact ⟨ha2.1, fun n _ z => har z.symm⟩
  · obtain ⟨l1, l2, hl⟩ := List.append_of_mem hrK
    rw [List.length_reverse]
    rw [hl] at b5 b4 ⊢
    rw [filt_split b5]
    simp only [List.length_append, List.length_cons] at b4 ⊢
    omega
end CL
