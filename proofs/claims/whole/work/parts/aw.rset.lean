/-! The last step of the reference's commit. -/
section RSE
variable {l : Launch} {g : xG} {M M0 M1 : xM} {Q : Option Value → xM → Prop} {y n : Nat} {ad : Nat → Nat} {T : TT}
theorem com_set {x1 x2 : Int32} (hW : tWF T) (hS : rS M y ad) (hT : rT M ad 0 T)
    (hQ : ∀ M1, rX (fun a k => rH ad 220 a k ∨ (a = y ∧ k = 15) ∨ (a = ad 13 ∧ k < 220)) M M1 → rT M1 ad 0 (tSet T) → rT M1 ad 220 (tSet T) → xI M1 y 15 = xI M y 14 → Q (some (.int (x1 + 1))) M1) :
    ∀ (d k : Nat) (M1 : xM), 220 = k + d → rX (fun a i => a = ad 13 ∧ i < 220) M M1 → (∀ i, i < k → xI M1 (ad 13) i = 0) → xWp l g mX10_commit 0 0 241 [(1, va_rf (some y)), (1, .int x1), (1, .int x2), (1, .int (nI k))] [] (0, 0) M1 Q := by
  intro d
  induction d with
  | zero =>
    intro k M1 hd hx h
    have hk : k = 220 := by omega
    subst hk
    have hS1 := hx.sS hS
    have e : ∀ j ∈ RL9, j ≠ 13 → ∀ i, xI M1 (ad j) i = xI M (ad j) i ∧ xJ M1 (ad j) i = xJ M (ad j) i := fun j hj hn i => hx.2 _ _ (fun z => hS.na hj (by decide) hn z.1)
    have hT1 : rT M1 ad 0 (tSet T) := fun n hn => by
      obtain ⟨h1, h2⟩ := hT n hn
      refine ⟨by rw [(e 4 (by decide) (by decide) _).1]; exact h1, fun hu => ?_⟩
      obtain ⟨c1, c2, c3, c4, c5, c6, c7, c8, c9⟩ := h2 hu
      refine ⟨by rw [(e 5 (by decide) (by decide) _).1]; exact c1, by rw [(e 6 (by decide) (by decide) _).1]; exact c2, by rw [(e 8 (by decide) (by decide) _).1]; exact c3, fun i hi => by rw [(e 7 (by decide) (by decide) _).1]; exact c4 i hi, by rw [(e 9 (by decide) (by decide) _).1]; exact c5, by rw [(e 10 (by decide) (by decide) _).2]; exact c6, by rw [(e 11 (by decide) (by decide) _).1]; exact c7, by rw [(e 12 (by decide) (by decide) _).1]; exact c8, ?_⟩
      rw [Nat.zero_add, h n hn]; rfl
    have hl : ∀ n, n < 220 → tU (tSet T) n = true → (tX (tSet T) n).length ≤ 12 := fun n _ hu => (tX_le hW hu).1
    refine bX10_commit_241 _ _ _ _ ⟨fun _ => ⟨hS1.1, ?_⟩, fun z => absurd (Int32.le_refl _) z⟩
    refine sX10_keep hS1 hT1 hl (fun M2 hx2 hT2 h15 => ⟨rfl, ?_⟩)
    refine hQ M2 ((hx.mono (fun a k z => Or.inr (Or.inr z))).trans (hx2.mono (fun a k z => z.elim Or.inl (fun q => Or.inr (Or.inl q))))) ?_ hT2 ?_
    · refine hx2.tT hT1 (fun j hj n hn z => ?_) (fun i hi z => ?_) hl
      · rcases z with (⟨q, hq, z1, z2⟩ | ⟨z1, -⟩) | z
        · omega
        · exact hS.na (RA_RL j hj) (j := 7) (by decide) (fun q => by subst q; revert hj; decide) z1
        · exact hS.ny (RA_RL j hj) z.1
      · rcases z with (⟨q, hq, z1, z2⟩ | ⟨z1, z2⟩) | z
        · exact hS.na (i := 7) (by decide) (RA_RL q hq) (fun w => by subst w; revert hq; decide) z1
        · omega
        · exact hS.ny (j := 7) (by decide) z.1
    · rw [h15]; exact (hx.2 _ _ (fun z => hS.ny (j := 13) (by decide) z.1.symm)).1
  | succ d ih =>
    intro k M1 hd hx h
    have hS1 := hx.sS hS
    refine bX10_commit_241 _ _ _ _ ⟨fun z => ?_, fun _ => ⟨hS1.1, ad 13, (hS1.2.1 13 (by decide)).1, k, hS1.ai (j := 13) (by decide) (by show k < 440; omega), ?_⟩⟩
    · exfalso
      have := nle z (a := 220) rfl rfl
      omega
    · rw [nI_1, show ((0 : Int32) &&& 1) = 0 by decide]
      refine ih (k + 1) _ (by omega) (hx.trans (rX_I ⟨rfl, by omega⟩)) (fun i hi => ?_)
      by_cases e : i = k
      · rw [xI_sI, if_pos ⟨rfl, e⟩]
      · rw [xI_sI, if_neg (fun z => e z.2)]; exact h i (by omega)
end RSE
