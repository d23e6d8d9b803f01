/-! The reference's nth, tapeAt. -/
/-- scratch and the tape -/
def rYt (y : Nat) (ad : Nat → Nat) (a k : Nat) : Prop := rY y ad a k ∨ (a = y ∧ k = 2) ∨ a = ad 1
section RNU
variable {l : Launch} {g : xG} {M M1 M2 : xM} {Q : Option Value → xM → Prop} {y : Nat} {ad : Nat → Nat} {T Tc : TT} {o n b : Nat} {K W : List Nat} {dn : Bool} {D : Nat → Nat} {pw : Option Nat} {tr sq : Nat} {P P1 : Nat → Nat → Prop}
theorem rYt_g : ∀ a k, rYt y ad a k → rG y ad a := fun a k h => by
  rcases h with h | h | h
  · exact rY_g a k h
  · exact Or.inl h.1
  · exact Or.inr ⟨1, by decide, h⟩
theorem rR.tp {K1 : List Nat} (hA : aI T Tc sq) (h : rR M y ad K dn T Tc D pw tr sq) (hx : rX (rYt y ad) M M1) (hP1 : rP M1 y ad K1) : rR M1 y ad K1 dn T Tc D pw tr sq := by
  obtain ⟨hS, hP, h3, ⟨hT, hr⟩, ⟨hTc, hrc⟩, hq, ⟨hD, hD2⟩, hp, ht, ht2, hpw⟩ := h
  have fy : ∀ k, ¬ (k = 0 ∨ k = 20 ∨ k = 21 ∨ k = 22 ∨ k = 24 ∨ k = 2) → ¬ rYt y ad y k := fun k hk z => by
    rcases z with (z | z) | z | z
    · exact hk (by omega)
    · exact hS.ny (j := 23) (by decide) z.symm
    · exact hk (by omega)
    · exact hS.ny (j := 1) (by decide) z.symm
  have fa : ∀ j ∈ RL9, j ≠ 23 → j ≠ 1 → ∀ k, ¬ rYt y ad (ad j) k := fun j hj h23 h1 k z => by
    rcases z with (z | z) | z | z
    · exact hS.ny hj z.1
    · exact hS.na hj (by decide) h23 z
    · exact hS.ny hj z.1
    · exact hS.na hj (by decide) h1 z
  have hW := hA.1.1
  have hWc := hA.2.1.1
  refine ⟨hx.sS hS, hP1, by rw [(hx.2 _ _ (fy 3 (by decide))).1]; exact h3, ⟨?_, by rw [(hx.2 _ _ (fy 14 (by decide))).1]; exact hr⟩, ⟨?_, by rw [(hx.2 _ _ (fy 15 (by decide))).1]; exact hrc⟩, by rw [(hx.2 _ _ (fy 16 (by decide))).2]; exact hq, ⟨fun k hk => by rw [(hx.2 _ _ (fa 17 (by decide) (by decide) (by decide) _)).1]; exact hD k hk, hD2⟩, fun z => by rw [(hx.2 _ _ (fy 18 (by decide))).1]; exact hp z, fun z => by rw [(hx.2 _ _ (fy 19 (by decide))).1]; exact ht z, ht2, hpw⟩
  · refine hx.tT hT (fun j hj n hn => fa j ?_ ?_ ?_ _) (fun i hi => fa 7 (by decide) (by decide) (by decide) _) (fun n hn hu => (tX_le hW hu).1)
    · revert j; decide
    · intro z; subst z; revert hj; decide
    · intro z; subst z; revert hj; decide
  · refine hx.tT hTc (fun j hj n hn => fa j ?_ ?_ ?_ _) (fun i hi => fa 7 (by decide) (by decide) (by decide) _) (fun n hn hu => (tX_le hWc hu).1)
    · revert j; decide
    · intro z; subst z; revert hj; decide
    · intro z; subst z; revert hj; decide
theorem in_lt {j k : Nat} (hj : j < 2 ^ 31) (hk : k < 2 ^ 31) : nI j ≤ nI k - 1 ↔ j < k := by
  cases k with
  | zero =>
    have e : nI 0 - 1 = -1 := by decide
    rw [e]
    exact ⟨fun z => absurd z (nI_nm1 hj), fun z => by omega⟩
  | succ k =>
    rw [nI_pred]
    constructor
    · intro z
      have := nle z rfl rfl
      omega
    · intro z
      apply Classical.byContradiction
      intro c
      have := nnle c rfl rfl
      omega
theorem nn_ge {i : Int32} (h : ¬ i < 0) : (0 : Int32) ≤ i := Int32.not_lt.mp h
theorem sX10_tapeAt {i : Int32} (hA : aI T Tc sq) (h : rR M y ad K dn T Tc D pw tr sq) (hQ : ∀ M1, rR M1 y ad K dn T Tc D pw tr sq → xag (rG y ad) M M1 → xI M1 y 0 = 0 → Q (some (.int (if i < 0 then -1 else if i.toNatClampNeg < K.length then nI (K.getD i.toNatClampNeg 0) else -1))) M1) : xSp l g mX10_tapeAt 0 0 [va_rf (some y), .int i] M Q := by
  obtain ⟨hS, hP, h3, ⟨hT, hr⟩, -⟩ := h.th (v := 0) hA
  have h64 := hP.2.1
  refine eX10_tapeAt _ _ (bX10_tapeAt_0 _ _ ⟨hS.1, ?_⟩)
  rw [hP.1]
  refine sX10_in (a := 0) ⟨_, rfl, fun c => ?_, fun c => ⟨hS.1, ad 1, (hS.2.1 1 (by decide)).1, ?_⟩⟩
  · by_cases hi : i < 0
    · rw [if_pos hi] at hQ; exact th_out hA h hQ
    · obtain ⟨j, hj31, hj⟩ := nI_of hi
      subst hj
      rw [if_neg hi, nI_clamp hj31] at hQ
      have hn : ¬ j < K.length := fun z => by
        rw [if_pos ⟨nn_ge hi, (in_lt hj31 (by omega)).mpr z⟩] at c
        exact absurd c (by decide)
      rw [if_neg hn] at hQ
      exact th_out hA h hQ
  · have hi : ¬ i < 0 := fun z => by
      rw [if_neg (fun q => Int32.not_lt.mpr q.1 z)] at c
      exact c rfl
    obtain ⟨j, hj31, hj⟩ := nI_of hi
    subst hj
    rw [if_neg hi, nI_clamp hj31] at hQ
    have hl : j < K.length := Classical.byContradiction (fun z => by
      rw [if_neg (fun q => z ((in_lt hj31 (by omega)).mp q.2))] at c
      exact c rfl)
    rw [if_pos hl] at hQ
    refine ⟨j, hS.ai (j := 1) (by decide) (by show j < 64; omega), ?_⟩
    rw [hP.2.2.1 j hl]
    exact th_out hA h hQ
theorem nth_copy (hS : rS M y ad) (hR : rW M y ad W) {x1 x2 x3 : Int32} (hQ : ∀ M1, rX (rYt y ad) M M1 → xI M1 y 0 = xI M y 0 → rP M1 y ad W → Q (some (.int (nI W.length))) M1) :
    ∀ (d k : Nat) (M1 : xM), W.length = k + d → rX (rYt y ad) M M1 → xI M1 y 0 = xI M y 0 → rW M1 y ad W → (∀ i, i < k → xI M1 (ad 1) i = nI (W.getD i 0)) → xWp l g mX10_nth 0 0 87 [(1, va_rf (some y)), (1, .int x1), (1, .int x2), (1, .int x3), (1, .int (nI k))] [] (0, 0) M1 Q := by
  intro d
  induction d with
  | zero =>
    intro k M1 hd hx h0 hR1 hk
    have hS1 := hx.sS hS
    have h12 := hR.2.1
    refine bX10_nth_87 _ _ _ _ _ ⟨hS1.1, fun _ => ?_, fun c => ?_⟩
    · rw [xI_sI, if_pos ⟨rfl, rfl⟩, hR1.1]
      refine hQ _ (hx.trans (rX_I (Or.inr (Or.inl ⟨rfl, rfl⟩)))) ?_ ⟨by rw [xI_sI, if_pos ⟨rfl, rfl⟩], by omega, fun i hi => ?_, hR.2.2.2⟩
      · rw [xI_sI, if_neg (fun z => absurd z.2 (by decide))]; exact h0
      · rw [xI_sI, if_neg (fun z => hS.ny (j := 1) (by decide) z.1)]; exact hk i (by omega)
    · exfalso
      have := nnle c hR1.1 rfl
      omega
  | succ d ih =>
    intro k M1 hd hx h0 hR1 hk
    have hS1 := hx.sS hS
    have h12 := hR.2.1
    refine bX10_nth_87 _ _ _ _ _ ⟨hS1.1, fun c => ?_, fun _ => ⟨ad 23, (hS1.2.1 23 (by decide)).1, k, hS1.ai (j := 23) (by decide) (by show k < 40; omega), ad 1, (hS1.2.1 1 (by decide)).1, k, hS1.ai (j := 1) (by decide) (by show k < 64; omega), ?_⟩⟩
    · exfalso
      have := nle c hR1.1 rfl
      omega
    · rw [nI_1, hR1.2.2.1 k (by omega)]
      refine ih (k + 1) _ (by omega) (hx.trans (rX_I (Or.inr (Or.inr rfl)))) ?_ ⟨?_, hR.2.1, fun i hi => ?_, hR.2.2.2⟩ (fun i hi => ?_)
      · rw [xI_sI, if_neg (fun z => hS.ny (j := 1) (by decide) z.1.symm)]; exact h0
      · rw [xI_sI, if_neg (fun z => hS.ny (j := 1) (by decide) z.1.symm)]; exact hR1.1
      · rw [xI_sI, if_neg (fun z => hS.na (i := 23) (j := 1) (by decide) (by decide) (by decide) z.1)]; exact hR1.2.2.1 i hi
      · by_cases e : i = k
        · rw [xI_sI, if_pos ⟨rfl, e⟩, e]
        · rw [xI_sI, if_neg (fun z => e z.2)]; exact hk i (by omega)
theorem nth_loop {x1 : Int32} {m : Nat} {w4 : Value} (hW : tWF T) (hS : rS M y ad) (hT : rT M ad 0 T) (hr : xI M y 14 = nI (tO T))
    (hQ : ∀ M1, rX (rYt y ad) M M1 → xI M1 y 0 = xI M y 0 → rP M1 y ad (tKey T m) → Q (some (.int (nI (tKey T m).length))) M1) :
    ∀ (r l1 : List Nat) (n j : Nat), tEs T = l1 ++ n :: r → j < 2 ^ 31 → ((n :: r).filter (fun n => (tV T n).isSome))[j]? = some m → xWp l g mX10_nth 0 0 40 [(1, va_rf (some y)), (1, .int x1), (1, .int (nI j)), (1, .int (nI n)), (0, w4)] [] (0, 0) M Q := by
  intro r
  induction r with
  | nil =>
    intro l1 n j he hj hm
    obtain ⟨hu, hN⟩ := tEs_at hW he
    have hn220 := (hW.2.1 n hu).1
    have c9 := ((hT n hn220).2 hu).2.2.2.2.1
    rw [Nat.zero_add] at c9
    have hv : (tV T n).isSome = true := by
      cases hv : (tV T n).isSome with
      | true => rfl
      | false => rw [List.filter_cons, if_neg (by rw [hv]; decide)] at hm; simp at hm
    rw [List.filter_cons, if_pos hv, List.filter_nil] at hm
    have hj0 : j = 0 := by
      cases j with
      | zero => rfl
      | succ j => simp at hm
    subst hj0
    have hmn : n = m := by simpa using hm
    subst hmn
    refine bX10_nth_40 _ _ _ _ _ ⟨hS.1, ad 9, (hS.2.1 9 (by decide)).1, n, hS.ai (j := 9) (by decide) (by show n < 440; omega), fun c => ?_, fun c => ⟨fun c2 => ?_, fun c2 => absurd (Int32.le_refl _) c2⟩⟩
    · rw [c9, hv] at c; exact absurd c (by decide)
    · refine sX10_tell hW hu hS hT hr (fun M2 hO2 hR => ⟨rfl, ?_⟩)
      refine nth_copy (hO2.s hS) hR (fun M3 x3 z3 p3 => hQ M3 ((hO2.x.mono (fun a k h => Or.inl h)).trans x3) (z3.trans (hO2.f hS (by decide))) p3) (tKey T n).length 0 M2 (by omega) rX.rf rfl hR (fun i hi => by omega)
  | cons n2 r ih =>
    intro l1 n j he hj hm
    obtain ⟨hu, hN⟩ := tEs_at hW he
    have hn220 := (hW.2.1 n hu).1
    have c9 := ((hT n hn220).2 hu).2.2.2.2.1
    rw [Nat.zero_add] at c9
    have he2 : tEs T = (l1 ++ [n]) ++ n2 :: r := by rw [he]; simp
    have nx : xSp l g mX10_next 0 0 [va_rf (some y), .int (nI n)] M (fun ρ M3 => ρ = some (.int (nI n2)) ∧ M3 = M) :=
      sX10_next hS hT hW hr hu ⟨by rw [hN]; rfl, rfl⟩
    have go : (tV T n).isSome = true → ∀ k, j = k + 1 → xWp l g mX10_nth 0 0 53 [(1, va_rf (some y)), (1, .int x1), (1, .int (nI j)), (1, .int (nI n)), (0, w4)] [] (0, 0) M Q := fun hv k hk => by
      refine bX10_nth_53 _ _ _ _ _ ⟨hS.1, ad 9, (hS.2.1 9 (by decide)).1, n, hS.ai (j := 9) (by decide) (by show n < 440; omega), fun c => ?_, fun c => nx.mono ?_⟩
      · rw [c9, hv] at c; exact absurd c (by decide)
      · rintro ρ M3 ⟨e1, e2⟩
        subst e2
        refine ⟨_, e1, ?_⟩
        subst hk
        rw [nI_pred]
        refine ih (l1 ++ [n]) n2 k he2 (by omega) ?_
        rw [List.filter_cons, if_pos hv, List.getElem?_cons_succ] at hm
        exact hm
    refine bX10_nth_40 _ _ _ _ _ ⟨hS.1, ad 9, (hS.2.1 9 (by decide)).1, n, hS.ai (j := 9) (by decide) (by show n < 440; omega), fun c => ?_, fun c => ⟨fun c2 => ?_, fun c2 => ?_⟩⟩
    · have hv := z01.mp (c9.symm.trans c)
      refine bX10_nth_53 _ _ _ _ _ ⟨hS.1, ad 9, (hS.2.1 9 (by decide)).1, n, hS.ai (j := 9) (by decide) (by show n < 440; omega), fun _ => nx.mono ?_, fun c2 => absurd c c2⟩
      rintro ρ M3 ⟨e1, e2⟩
      subst e2
      refine ⟨_, e1, ?_⟩
      rw [Int32.sub_zero]
      refine ih (l1 ++ [n]) n2 j he2 hj ?_
      rw [List.filter_cons, if_neg (by rw [hv]; decide)] at hm
      exact hm
    · have hv := bnf (fun z => c (c9.trans (z01.mpr z)))
      have hj0 : j = 0 := by
        have := nle c2 rfl (b := 0) rfl
        omega
      subst hj0
      rw [List.filter_cons, if_pos hv, List.getElem?_cons_zero] at hm
      have hmn : n = m := by simpa using hm
      subst hmn
      refine sX10_tell hW hu hS hT hr (fun M2 hO2 hR => ⟨rfl, ?_⟩)
      refine nth_copy (hO2.s hS) hR (fun M3 x3 z3 p3 => hQ M3 ((hO2.x.mono (fun a k h => Or.inl h)).trans x3) (z3.trans (hO2.f hS (by decide))) p3) (tKey T n).length 0 M2 (by omega) rX.rf rfl hR (fun i hi => by omega)
    · have hv := bnf (fun z => c (c9.trans (z01.mpr z)))
      have hj0 : j ≠ 0 := fun z => c2 (by rw [z]; exact Int32.le_refl _)
      exact go hv (j - 1) (by omega)
theorem sX10_nth {i : Int32} (hA : aI T Tc sq) (h : rR M y ad K dn T Tc D pw tr sq) (hQ : ∀ M1, rR M1 y ad (aNth K dn T i).2 dn T Tc D pw tr sq → xag (rG y ad) M M1 → xI M1 y 0 = 0 → Q (some (.int (aNth K dn T i).1)) M1) : xSp l g mX10_nth 0 0 [va_rf (some y), .int i] M Q := by
  obtain ⟨hS, hP, h3, ⟨hT, hr⟩, -⟩ := h.th (v := 0) hA
  have hS0 := h.1
  have hW := hA.1.1
  unfold aNth at hQ
  have hk220 := (cnt_all T).2
  refine eX10_nth _ _ (bX10_nth_0 _ _ ⟨hS.1, fun c => ?_, fun c => ?_⟩)
  · have hdn := (dn0 h3).mp c
    rw [if_neg (by rw [hdn]; decide)] at hQ
    refine sX10_keys hS hT ⟨_, rfl, sX10_in (a := 0) ⟨_, rfl, fun c2 => ⟨hS.1, ?_⟩, fun c2 => ?_⟩⟩
    · have hi : ¬ i < 0 := fun z => by
        rw [if_neg (fun q => Int32.not_lt.mpr q.1 z)] at c2
        exact c2 rfl
      obtain ⟨j, hj31, hj⟩ := nI_of hi
      subst hj
      have hl : j < tKy T := Classical.byContradiction (fun z => by
        rw [if_neg (fun q => z ((in_lt hj31 (by omega)).mp q.2))] at c2
        exact c2 rfl)
      have hlen : ((tEs T).filter (fun n => (tV T n).isSome)).length = tKy T := by
        rw [← List.countP_eq_length_filter, tEs_cnt hW]; rfl
      have hm : tNk T (nI j) = some (((tEs T).filter (fun n => (tV T n).isSome))[j]'(by omega)) := by
        unfold tNk
        rw [if_neg hi, nI_clamp hj31, List.getElem?_eq_getElem]
      have hm2 : ((tEs T).filter (fun n => (tV T n).isSome))[j]? = some (((tEs T).filter (fun n => (tV T n).isSome))[j]'(by omega)) := List.getElem?_eq_getElem _
      rw [hm] at hQ
      generalize ((tEs T).filter (fun n => (tV T n).isSome))[j]'(by omega) = m at hQ hm2
      obtain ⟨r, hes⟩ : ∃ r, tEs T = tO T :: r := by
        have := tEs_head T
        cases hh : tEs T with
        | nil => rw [hh] at this; cases this
        | cons a r => rw [hh] at this; simp at this; exact ⟨r, by rw [this]⟩
      rw [hr]
      refine nth_loop (m := m) hW hS hT hr (fun M1 hx h0 hp => ?_) r [] (tO T) j (by rw [hes]; rfl) hj31 (by rw [← hes]; exact hm2)
      refine hQ M1 ((h.th hA).tp hA hx hp) ?_ (h0.trans (by rw [xI_sI, if_pos ⟨rfl, rfl⟩]))
      exact ((rX_I (Or.inl (Or.inl ⟨rfl, Or.inl rfl⟩))).trans hx).xa rYt_g
    · have hm : tNk T i = none := by
        unfold tNk
        by_cases hi : i < 0
        · rw [if_pos hi]
        · obtain ⟨j, hj31, hj⟩ := nI_of hi
          subst hj
          rw [if_neg hi, nI_clamp hj31]
          have hn : ¬ j < tKy T := fun z => by
            rw [if_pos ⟨nn_ge hi, (in_lt hj31 (by omega)).mpr z⟩] at c2
            exact absurd c2 (by decide)
          have hlen : ((tEs T).filter (fun n => (tV T n).isSome)).length = tKy T := by
            rw [← List.countP_eq_length_filter, tEs_cnt hW]; rfl
          exact List.getElem?_eq_none (by omega)
      rw [hm] at hQ
      exact th_out hA h hQ
  · rw [if_pos (dn1 h3 c)] at hQ
    exact th_out hA h hQ
end RNU
