/-! The reference's clear, findTaken, count. -/
/-- no node at all -/
def tNo : TT := ((fun _ => false), (fun _ => none), (fun _ => 0), (fun _ => []), (fun _ => none), (fun _ => 1), (fun _ => 0), (fun _ => false), (fun _ => []), (fun _ => 0), 0)
section RCM
variable {l : Launch} {g : xG} {M M0 M1 M2 M3 M4 M5 : xM} {Q : Option Value → xM → Prop} {y : Nat} {ad : Nat → Nat} {T T1 Tc : TT} {o n b c s m w a u f t k : Nat} {K W js : List Nat} {v : Int64} {P P1 : Nat → Nat → Prop} {dn dn1 : Bool} {D : Nat → Nat} {pw pw1 : Option Nat} {tr tr1 sq : Nat}
theorem tNo_cnt : tCnt tNo = 0 := by
  unfold tCnt
  rw [List.countP_eq_zero]
  intro x _ z
  exact absurd (show false = true from z) (by decide)
theorem tNo_free : tFree tNo = 0 := by
  have h := tFree_first (T := tNo) (by rw [tNo_cnt]; omega)
  apply Classical.byContradiction
  intro z
  have := h 0 (by omega)
  exact absurd this (by decide)
theorem rclear_loop (hS : rS M y ad) (hQ : ∀ M1, rX (rLo y ad) M M1 → rT M1 ad 0 tNil → xI M1 y 14 = 0 → (∀ k, k ≠ 14 → xI M1 y k = xI M y k) → Q none M1) :
    ∀ (d k : Nat) (M1 : xM), 220 = k + d → rX (fun a i => a = ad 4 ∧ i < 220) M M1 → (∀ n, n < k → xI M1 (ad 4) n = 0) → xWp l g mX10_clear 0 0 2 [(1, va_rf (some y)), (1, .int (nI k))] [] (0, 0) M1 Q := by
  intro d
  induction d with
  | zero =>
    intro k M1 hd hx h4
    have hk : k = 220 := by omega
    subst hk
    have hS1 := hx.sS hS
    have hT1 : rT M1 ad 0 tNo := fun n hn => ⟨by rw [Nat.zero_add, h4 n hn]; rfl, fun z => absurd (show false = true from z) (by decide)⟩
    refine bX10_clear_2 _ _ ⟨fun _ => ⟨hS1.1, ?_⟩, fun z => absurd (Int32.le_refl _) z⟩
    refine sX10_newNode hS1 hT1 (by rw [tNo_cnt]; omega) (fun M2 hx2 hn2 => ⟨_, rfl, (hx2.sS hS1).1, ad 13, ((hx2.sS hS1).2.1 13 (by decide)).1, 0, ?_, ?_⟩)
    · rw [xI_sI, if_pos ⟨rfl, rfl⟩, tNo_free]; exact (hx2.sS hS1).ai (j := 13) (by decide) (by decide)
    · rw [tNo_free] at hx2 hn2 ⊢
      have hS2 := hx2.sS hS1
      rw [show ((0 : Int32) &&& 1) = 0 by decide]
      have hx3 : rX (rLo y ad) M2 (xsI (xsI M2 y 14 (nI 0)) (ad 13) 0 0) := (rX_I (Or.inr (Or.inl ⟨rfl, rfl⟩))).trans (rX_I (Or.inr (Or.inr (Or.inl ⟨13, by decide, rfl, by omega⟩))))
      have hxa : rX (rLo y ad) M (xsI (xsI M2 y 14 (nI 0)) (ad 13) 0 0) := (hx.mono (fun a i z => Or.inr (Or.inr (Or.inl ⟨4, by decide, z.1, z.2⟩)))).trans ((hx2.mono (rN_lo (by omega))).trans hx3)
      obtain ⟨n4, n5, n6, n8, n9, n10, n11, n12, n13⟩ := hn2
      have e : ∀ j ∈ RL9, j ≠ 13 → ∀ i, xI (xsI (xsI M2 y 14 (nI 0)) (ad 13) 0 0) (ad j) i = xI M2 (ad j) i := fun j hj hn i => by
        rw [rsk hS hj (by decide) hn, xI_sI, if_neg (fun z => hS.ny hj z.1)]
      refine hQ _ hxa (fun n hn => ?_) ?_ (fun k hk => ?_)
      · rw [Nat.zero_add]
        by_cases hn0 : n = 0
        · subst hn0
          refine ⟨by rw [e 4 (by decide) (by decide), n4]; rfl, fun _ => rC0.mpr ⟨?_, ?_, ?_, fun i hi => absurd hi (Nat.not_lt_zero _), ?_, ?_, ?_, ?_, ?_⟩⟩
          · rw [e 5 (by decide) (by decide), n5]; rfl
          · rw [e 6 (by decide) (by decide), n6]; rfl
          · rw [e 8 (by decide) (by decide), n8]; rfl
          · rw [e 9 (by decide) (by decide), n9]; rfl
          · exact n10
          · rw [e 11 (by decide) (by decide), n11]; rfl
          · rw [e 12 (by decide) (by decide), n12]; rfl
          · rw [xI_sI, if_pos ⟨rfl, rfl⟩]; rfl
        · have hu : tU tNil n = false := by
            show decide (n = 0) = false
            exact decide_eq_false hn0
          refine ⟨?_, fun z => by rw [hu] at z; cases z⟩
          rw [hu, e 4 (by decide) (by decide), (hx2.2 _ _ (rN_arr (j := 4) hS1 (by decide) hn0)).1, h4 n hn]; rfl
      · rw [xI_sI, if_neg (fun z => hS.ny (j := 13) (by decide) z.1.symm), xI_sI, if_pos ⟨rfl, rfl⟩]; rfl
      · rw [xI_sI, if_neg (fun z => hS.ny (j := 13) (by decide) z.1.symm), xI_sI, if_neg (fun z => hk z.2), (hx2.2 _ _ (rN_y hS1 k)).1, (hx.2 _ _ (fun z => hS.ny (j := 4) (by decide) z.1.symm)).1]
  | succ d ih =>
    intro k M1 hd hx h4
    have hS1 := hx.sS hS
    refine bX10_clear_2 _ _ ⟨fun z => ?_, fun _ => ⟨hS1.1, ad 4, (hS1.2.1 4 (by decide)).1, k, hS1.ai (j := 4) (by decide) (by show k < 440; omega), ?_⟩⟩
    · exfalso
      have := nle z (a := 220) rfl rfl
      omega
    · rw [nI_1, show ((0 : Int32) &&& 1) = 0 by decide]
      refine ih (k + 1) _ (by omega) (hx.trans (rX_I ⟨rfl, by omega⟩)) (fun n hn => ?_)
      by_cases e : n = k
      · rw [xI_sI, if_pos ⟨rfl, e⟩]
      · rw [xI_sI, if_neg (fun z => e z.2)]; exact h4 n (by omega)
theorem sX10_clear (hS : rS M y ad) (hQ : ∀ M1, rX (rLo y ad) M M1 → rT M1 ad 0 tNil → xI M1 y 14 = 0 → (∀ k, k ≠ 14 → xI M1 y k = xI M y k) → Q none M1) : xSp l g mX10_clear 0 0 [va_rf (some y)] M Q :=
  eX10_clear _ (bX10_clear_0 _ (rclear_loop hS hQ 220 0 M (by omega) rX.rf (fun n hn => by omega)))
end RCM
