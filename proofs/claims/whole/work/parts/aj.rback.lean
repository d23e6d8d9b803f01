/-! The reference's copy, keep, back, whole. -/
section RCQ
variable {l : Launch} {g : xG} {M M0 M1 M2 M3 M4 M5 : xM} {Q : Option Value → xM → Prop} {y : Nat} {ad : Nat → Nat} {T T1 Tc : TT} {o n b c s m w a u f t k : Nat} {K W js : List Nat} {v : Int64} {P P1 : Nat → Nat → Prop} {dn : Bool} {D : Nat → Nat} {pw : Option Nat} {tr sq : Nat}
theorem RA_7 : ∀ j ∈ [13, 12, 11, 10, 9, 8, 6, 5, 4], j ∈ RA9 := by decide
theorem copy_loop (hft : (f = 0 ∧ t = 220) ∨ (f = 220 ∧ t = 0)) (hS : rS M y ad) (hQ : ∀ M1, rX (rH ad t) M M1 → (∀ n, n < 220 → cpC M M1 ad f t n) → Q none M1) :
    ∀ (d k : Nat) (M1 : xM) (w4 : Value), 220 = k + d → rX (rH ad t) M M1 → (∀ n, n < k → cpC M M1 ad f t n) → xWp l g mX10_copy 0 0 2 [(1, va_rf (some y)), (1, .int (nI f)), (1, .int (nI t)), (1, .int (nI k)), (0, w4)] [] (0, 0) M1 Q := by
  intro d
  induction d with
  | zero =>
    intro k M1 w4 hd hx hc
    have hk : k = 220 := by omega
    subst hk
    exact bX10_copy_2 _ _ _ _ _ ⟨fun _ => hQ M1 hx hc, fun z => absurd (Int32.le_refl _) z⟩
  | succ d ih =>
    intro k M1 w4 hd hx hc
    have hS1 := hx.sS hS
    have eF : nI f + nI k = nI (f + k) := nI_add _ _
    have eT : nI t + nI k = nI (t + k) := nI_add _ _
    have hne : f + k ≠ t + k := by omega
    have fh : ∀ j ∈ RA9, ¬ rH ad t (ad j) (f + k) := fun j hj z => by
      rcases z with ⟨i, hi, z1, z2⟩ | ⟨z1, -⟩
      · omega
      · exact hS.na (RA_RL j hj) (j := 7) (by decide) (fun q => by subst q; revert hj; decide) z1
    have f7 : ∀ i, i < 12 → ¬ rH ad t (ad 7) (12 * (f + k) + i) := fun i hi z => by
      rcases z with ⟨j, hj, z1, z2⟩ | ⟨z1, z2⟩
      · exact hS.na (i := 7) (by decide) (RA_RL j hj) (fun q => by subst q; revert hj; decide) z1
      · omega
    have step : ∀ M2, cp9 ad (f + k) (t + k) [13, 12, 11, 10, 9, 8, 6, 5, 4] M1 M2 → xWp l g mX10_copy 0 0 156 [(1, va_rf (some y)), (1, .int (nI f)), (1, .int (nI t)), (1, .int (nI k)), (1, .int (nI 0))] [] (0, 0) M2 Q := fun M2 h2 => by
      have hS2 := h2.1.sS hS1
      refine copy_pre hS2 (f := f + k) (t := t + k) (by omega) (by omega) hne eF eT (fun M3 hx3 h37 => ?_) 12 0 M2 (by omega) rX.rf (fun j hj => by omega)
      have a7 : ∀ j ∈ RA9, ad j ≠ ad 7 := fun j hj => hS.na (RA_RL j hj) (j := 7) (by decide) (fun q => by subst q; revert hj; decide)
      have m3 : ∀ j ∈ RA9, ∀ i, xI M3 (ad j) i = xI M2 (ad j) i ∧ xJ M3 (ad j) i = xJ M2 (ad j) i := fun j hj i => hx3.2 _ _ (fun z => a7 j hj z.1)
      have m27 : ∀ i, xI M2 (ad 7) i = xI M1 (ad 7) i := fun i => (h2.1.2 _ _ (fun z => by obtain ⟨j, hj, z, -⟩ := z; exact a7 j (RA_7 j hj) z.symm)).1
      have m2 : ∀ j i, i ≠ t + k → xI M2 (ad j) i = xI M1 (ad j) i ∧ xJ M2 (ad j) i = xJ M1 (ad j) i := fun j i hi => h2.1.2 _ _ (fun z => by obtain ⟨q, -, -, z⟩ := z; exact hi z)
      have hx13 : rX (rH ad t) M1 M3 := (h2.1.mono (fun a i z => by obtain ⟨j, hj, z1, z2⟩ := z; exact Or.inl ⟨j, RA_7 j hj, z1, by omega, by omega⟩)).trans (hx3.mono (fun a i z => Or.inr ⟨z.1, by omega, by omega⟩))
      rw [nI_1]
      refine xWp.lw (ih (k + 1) M3 .null (by omega) (hx.trans hx13) (fun n hn => ?_)) ⟨Or.inl rfl, Or.inl rfl, Or.inl rfl, Or.inl rfl, Or.inr rfl, trivial⟩
      by_cases e : n = k
      · subst e
        refine ⟨fun j hj h10 => ?_, ?_, fun i hi => ?_⟩
        · rw [(m3 j hj _).1, h2.2.1 j (by revert j; decide) h10, (hx.2 _ _ (fh j hj)).1]
        · rw [(m3 10 (by decide) _).2, h2.2.2 (by decide), (hx.2 _ _ (fh 10 (by decide))).2]
        · rw [h37 i hi, m27, (hx.2 _ _ (f7 i hi)).1]
      · obtain ⟨q1, q2, q3⟩ := hc n (by omega)
        refine ⟨fun j hj h10 => ?_, ?_, fun i hi => ?_⟩
        · rw [(m3 j hj _).1, (m2 j _ (by omega)).1]; exact q1 j hj h10
        · rw [(m3 10 (by decide) _).2, (m2 10 _ (by omega)).2]; exact q2
        · rw [(hx3.2 _ _ (fun z => by omega)).1, m27]; exact q3 i hi
    refine bX10_copy_2 _ _ _ _ _ ⟨fun z => ?_, fun _ => ⟨hS1.1, ad 4, (hS1.2.1 4 (by decide)).1, f + k, by rw [eF]; exact hS1.ai (j := 4) (by decide) (by show f + k < 440; omega), t + k, by rw [eT]; exact hS1.ai (j := 4) (by decide) (by show t + k < 440; omega), ad 5, (hS1.2.1 5 (by decide)).1, f + k, by rw [eF]; exact hS1.ai (j := 5) (by decide) (by show f + k < 440; omega), t + k, by rw [eT]; exact hS1.ai (j := 5) (by decide) (by show t + k < 440; omega), ad 6, (hS1.2.1 6 (by decide)).1, f + k, by rw [eF]; exact hS1.ai (j := 6) (by decide) (by show f + k < 440; omega), t + k, by rw [eT]; exact hS1.ai (j := 6) (by decide) (by show t + k < 440; omega), ad 8, (hS1.2.1 8 (by decide)).1, f + k, by rw [eF]; exact hS1.ai (j := 8) (by decide) (by show f + k < 440; omega), t + k, by rw [eT]; exact hS1.ai (j := 8) (by decide) (by show t + k < 440; omega), ad 9, (hS1.2.1 9 (by decide)).1, f + k, by rw [eF]; exact hS1.ai (j := 9) (by decide) (by show f + k < 440; omega), t + k, by rw [eT]; exact hS1.ai (j := 9) (by decide) (by show t + k < 440; omega), ad 10, (hS1.2.1 10 (by decide)).1, f + k, by rw [eF]; exact hS1.ai (j := 10) (by decide) (by show f + k < 440; omega), t + k, by rw [eT]; exact hS1.ai (j := 10) (by decide) (by show t + k < 440; omega), ad 11, (hS1.2.1 11 (by decide)).1, f + k, by rw [eF]; exact hS1.ai (j := 11) (by decide) (by show f + k < 440; omega), t + k, by rw [eT]; exact hS1.ai (j := 11) (by decide) (by show t + k < 440; omega), ad 12, (hS1.2.1 12 (by decide)).1, f + k, by rw [eF]; exact hS1.ai (j := 12) (by decide) (by show f + k < 440; omega), t + k, by rw [eT]; exact hS1.ai (j := 12) (by decide) (by show t + k < 440; omega), ad 13, (hS1.2.1 13 (by decide)).1, f + k, by rw [eF]; exact hS1.ai (j := 13) (by decide) (by show f + k < 440; omega), t + k, by rw [eT]; exact hS1.ai (j := 13) (by decide) (by show t + k < 440; omega), ?_⟩⟩
    · exfalso
      have := nle z (a := 220) rfl rfl
      omega
    · exact step _ (cp9_B 13 hS1 hne (by decide) (by decide) (by decide) (by decide) (by decide) (cp9_I 12 hS1 hne (by decide) (by decide) (by decide) (by decide) (by decide) (cp9_I 11 hS1 hne (by decide) (by decide) (by decide) (by decide) (by decide) (cp9_J hS1 hne (by decide) (by decide) (cp9_B 9 hS1 hne (by decide) (by decide) (by decide) (by decide) (by decide) (cp9_I 8 hS1 hne (by decide) (by decide) (by decide) (by decide) (by decide) (cp9_I 6 hS1 hne (by decide) (by decide) (by decide) (by decide) (by decide) (cp9_I 5 hS1 hne (by decide) (by decide) (by decide) (by decide) (by decide) (cp9_B 4 hS1 hne (by decide) (by decide) (by decide) (by decide) (by decide) cp9_nil)))))))))
theorem b1a (b : Bool) : ((if b = true then (1 : Int32) else 0) &&& 1) = if b = true then 1 else 0 := by cases b <;> decide
theorem rT_cp (hT : rT M ad f T) (hc : ∀ n, n < 220 → cpC M M1 ad f t n) (h12 : ∀ n, n < 220 → tU T n = true → (tX T n).length ≤ 12) : rT M1 ad t T := by
  intro n hn
  obtain ⟨h1, h2⟩ := hT n hn
  obtain ⟨q1, q2, q3⟩ := hc n hn
  refine ⟨?_, fun hu => ?_⟩
  · rw [q1 4 (by decide) (by decide), if_pos (by decide), h1]; exact b1a _
  · obtain ⟨c1, c2, c3, c4, c5, c6, c7, c8, c9⟩ := h2 hu
    have hl := h12 n hn hu
    refine ⟨?_, ?_, ?_, fun i hi => ?_, ?_, ?_, ?_, ?_, ?_⟩
    · rw [q1 5 (by decide) (by decide), if_neg (by decide)]; exact c1
    · rw [q1 6 (by decide) (by decide), if_neg (by decide)]; exact c2
    · rw [q1 8 (by decide) (by decide), if_neg (by decide)]; exact c3
    · rw [q3 i (by omega)]; exact c4 i hi
    · rw [q1 9 (by decide) (by decide), if_pos (by decide), c5]; exact b1a _
    · rw [q2]; exact c6
    · rw [q1 11 (by decide) (by decide), if_neg (by decide)]; exact c7
    · rw [q1 12 (by decide) (by decide), if_neg (by decide)]; exact c8
    · rw [q1 13 (by decide) (by decide), if_pos (by decide), c9]; exact b1a _
theorem sX10_copy (hft : (f = 0 ∧ t = 220) ∨ (f = 220 ∧ t = 0)) (hS : rS M y ad) (hT : rT M ad f T) (h12 : ∀ n, n < 220 → tU T n = true → (tX T n).length ≤ 12) (hQ : ∀ M1, rX (rH ad t) M M1 → rT M1 ad t T → Q none M1) : xSp l g mX10_copy 0 0 [va_rf (some y), .int (nI f), .int (nI t)] M Q :=
  eX10_copy _ _ _ (bX10_copy_0 _ _ _ (copy_loop hft hS (fun M1 hx hc => hQ M1 hx (rT_cp hT hc h12)) 220 0 M .null (by omega) rX.rf (fun n hn => by omega)))
theorem rH_y (hS : rS M0 y ad) (hx : rX (rH ad t) M M1) (k : Nat) : xI M1 y k = xI M y k ∧ xJ M1 y k = xJ M y k := hx.2 _ _ (fun z => by
  rcases z with ⟨j, hj, z, -⟩ | ⟨z, -⟩
  · exact hS.ny (RA_RL j hj) z.symm
  · exact hS.ny (j := 7) (by decide) z.symm)
theorem rH_lo : ∀ a k, rH ad 0 a k → rLo y ad a k := fun a k z => by
  rcases z with ⟨j, hj, z1, z2⟩ | ⟨z1, z2⟩
  · exact Or.inr (Or.inr (Or.inl ⟨j, hj, z1, by omega⟩))
  · exact Or.inr (Or.inr (Or.inr ⟨z1, by omega⟩))
theorem sX10_keep (hS : rS M y ad) (hT : rT M ad 0 T) (h12 : ∀ n, n < 220 → tU T n = true → (tX T n).length ≤ 12) (hQ : ∀ M1, rX (fun a k => rH ad 220 a k ∨ (a = y ∧ k = 15)) M M1 → rT M1 ad 220 T → xI M1 y 15 = xI M y 14 → Q none M1) : xSp l g mX10_keep 0 0 [va_rf (some y)] M Q := by
  refine eX10_keep _ (bX10_keep_0 _ ⟨hS.1, ?_⟩)
  refine sX10_copy (f := 0) (t := 220) (Or.inl ⟨rfl, rfl⟩) hS hT h12 (fun M1 hx hT1 => ⟨rfl, (hx.sS hS).1, ?_⟩)
  refine hQ _ ((hx.mono (fun a k z => Or.inl z)).trans (rX_I (Or.inr ⟨rfl, rfl⟩))) (rT_y (hx.sS hS) hT1 h12) ?_
  rw [xI_sI, if_pos ⟨rfl, rfl⟩]; exact (rH_y hS hx 14).1
theorem sX10_back (hA : aI T Tc sq) (h : rR M y ad K dn T Tc D pw tr sq) (hQ : ∀ M1, rR M1 y ad K dn (if dn = true then T else Tc) Tc D pw tr sq → xag (rG y ad) M M1 → xI M1 y 0 = 0 → Q (some (.int (if dn = true then -4 else nI (tFn T)))) M1) : xSp l g mX10_back 0 0 [va_rf (some y)] M Q := by
  have hR0 := h.th (v := 0) hA
  obtain ⟨hS, hP, h3, ⟨hT, hr⟩, ⟨hTc, hrc⟩, -⟩ := id hR0
  have h12 : ∀ n, n < 220 → tU Tc n = true → (tX Tc n).length ≤ 12 := fun n _ hn => (tX_le hA.2.1.1 hn).1
  refine eX10_back _ (bX10_back_0 _ ⟨hS.1, fun c => ?_, fun c => ?_⟩)
  · have hdn := (dn0 h3).mp c
    rw [if_neg (by rw [hdn]; decide), if_neg (by rw [hdn]; decide)] at hQ
    refine sX10_freshMany hS hT hA.1.1 ⟨_, rfl, hS.1, ?_⟩
    refine sX10_copy (f := 220) (t := 0) (Or.inr ⟨rfl, rfl⟩) hS hTc h12 (fun M1 hx hT1 => ⟨rfl, (hx.sS hS).1, ?_⟩)
    have hS1 := hx.sS hS
    have hx2 : rX (rLo y ad) (xsI M y 0 0) (xsI M1 y 14 (xI M1 y 15)) := (hx.mono rH_lo).trans (rX_I (Or.inr (Or.inl ⟨rfl, rfl⟩)))
    refine hQ _ (hR0.low hA hx2 (rT_y hS1 hT1 h12) ?_) (((rX_I (Or.inl (Or.inl ⟨rfl, Or.inl rfl⟩))).trans hx2).xa rLo_g) ?_
    · rw [xI_sI, if_pos ⟨rfl, rfl⟩, (rH_y hS hx 15).1]; exact hrc
    · rw [xI_sI, if_neg (fun z => absurd z.2 (by decide)), (rH_y hS hx 0).1, xI_sI, if_pos ⟨rfl, rfl⟩]
  · rw [if_pos (dn1 h3 c), if_pos (dn1 h3 c)] at hQ
    exact th_out hA h hQ
end RCQ
