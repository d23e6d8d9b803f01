/-! The reference's readChildren. -/
section RRC3
variable {l : Launch} {g : xG} {M M0 M1 : xM} {Q : Option Value → xM → Prop} {y n p m : Nat} {ad : Nat → Nat} {T : TT} {f : Nat → Nat} {D : Nat → Nat}
theorem rc_end {k : Nat} {x1 x6 x7 : Int32} {w9 w10 w11 : Value} (hS : rS M y ad) (hc : ∀ k, k < 512 → xI M (ad 17) (512 * p + k) = nI (f k)) (hl : ∀ x, f x < 256) (hp : p < 256) (hk : k ≤ 256)
    (h1 : ((f 0 = 3 → ∀ j, k ≤ j → j < 48 → f (280 + j) = 0) ∧ k = f 23) → Q (some (.int 1)) M) (h0 : ¬ ((f 0 = 3 → ∀ j, k ≤ j → j < 48 → f (280 + j) = 0) ∧ k = f 23) → Q (some (.int 0)) M) :
    ∀ (d j : Nat), k ≤ j → j ≤ 256 → 48 ≤ j + d → (f 0 = 3 → ∀ i, k ≤ i → i < j → f (280 + i) = 0) → xWp l g mX10_readChildren 0 0 264 [(1, va_rf (some y)), (1, .int x1), (1, .int (nI (512 * p))), (1, .int (nI (f 0))), (1, .int (nI (f 23))), (1, .int (nI k)), (1, .int x6), (1, .int x7), (1, .int (nI j)), (0, w9), (0, w10), (0, w11)] [] (0, 0) M Q := by
  have l0 := hl 0
  have l23 := hl 23
  intro d
  induction d with
  | zero =>
    intro j hkj hj hd hz
    have e48 : 48 ≤ j := by omega
    refine bX10_readChildren_264 _ _ _ _ _ _ _ _ _ _ _ _ ⟨fun _ => ⟨fun z => h0 (fun q => nne z rfl rfl q.2), fun z => h1 ⟨fun h3 i a b => hz h3 i a (by omega), neq z rfl rfl⟩⟩, fun z => ?_⟩
    exfalso
    have := nnle z (a := 48) rfl rfl
    omega
  | succ d ih =>
    intro j hkj hj hd hz
    refine bX10_readChildren_264 _ _ _ _ _ _ _ _ _ _ _ _ ⟨fun z48 => ⟨fun z => h0 (fun q => nne z rfl rfl q.2), fun z => h1 ⟨fun h3 i a b => hz h3 i a (by have := nle z48 (a := 48) rfl rfl; omega), neq z rfl rfl⟩⟩, fun z48 => ⟨fun z3 => ⟨fun z => h0 (fun q => nne z rfl rfl q.2), fun z => h1 ⟨fun h3 => absurd h3 (nne z3 rfl (b := 3) rfl), neq z rfl rfl⟩⟩, fun z3 => ⟨hS.1, ad 17, (hS.2.1 17 (by decide)).1, 512 * p + (280 + j), ?_, ?_⟩⟩⟩
    · have h48 := nnle z48 (a := 48) rfl rfl
      rw [show nI (512 * p) + 280 = nI (512 * p + 280) from nI_add _ 280, nI_add, Nat.add_assoc]
      exact hS.ai (j := 17) (by decide) (by show 512 * p + (280 + j) < 131072; omega)
    · have h48 := nnle z48 (a := 48) rfl rfl
      have h3 : f 0 = 3 := neq z3 rfl (b := 3) rfl
      have lj := hl (280 + j)
      rw [hc _ (by omega), nI_1]
      refine ⟨fun z => ih (j + 1) (by omega) (by omega) (by omega) (fun h3 i a b => ?_), fun z => h0 (fun q => nne z rfl (b := 0) rfl (q.1 h3 j hkj h48))⟩
      by_cases e : i = j
      · rw [e]; exact neq z rfl (b := 0) rfl
      · exact hz h3 i a (by omega)
theorem rc_loop (hS0 : rS M0 y ad) (hD0 : rDk M0 ad D) (hp : p < 256) (hF : 1 ≤ pgF D p 0 ∧ pgF D p 0 ≤ 4) :
    ∀ (d e k : Nat) (T : TT) (tk : Nat → Bool) (la : Option Nat) (M1 : xM) (w9 w10 w11 : Value), e + d = rCl (pgF D p 0) → k ≤ e → (∀ b, la = some b → b < 256) → rX (rRd ad) M0 M1 → rT M1 ad 0 T → rK M1 ad tk → tCnt T ≤ 200 → (∀ m, tU T m = true → (tX T m).length ≤ 12) →
    ((¬ ∃ cs tk1, rdL (pgF D p) d e k = some cs ∧ acc (tCnt T) tk la cs = some tk1) → ∀ M2, rX (rRd ad) M0 M2 → Q (some (.int 0)) M2) →
    (∀ cs tk1 M2, rdL (pgF D p) d e k = some cs → acc (tCnt T) tk la cs = some tk1 → rX (rRd ad) M0 M2 → rT M2 ad 0 (adCs T n cs) → rK M2 ad tk1 → Q (some (.int 1)) M2) →
    xWp l g mX10_readChildren 0 0 26 [(1, va_rf (some y)), (1, .int (nI n)), (1, .int (nI (512 * p))), (1, .int (nI (pgF D p 0))), (1, .int (nI (pgF D p 23))), (1, .int (nI k)), (1, .int (pI la)), (1, .int (nI (rCl (pgF D p 0)))), (1, .int (nI e)), (0, w9), (0, w10), (0, w11)] [] (0, 0) M1 Q := by
  have hl : ∀ x, pgF D p x < 256 := fun x => hD0.2 _
  have l0 := hl 0
  have l23 := hl 23
  have hcl : rCl (pgF D p 0) ≤ 256 := by
    unfold rCl
    split
    · have := fRoom2 (F := pgF D p 0) (by omega) (by omega) hF.1 hF.2
      omega
    · omega
  intro d
  induction d with
  | zero =>
    intro e k T tk la M1 w9 w10 w11 he hke hla hx hT hK hcnt h12 hno hyes
    have hS1 := hx.sS hS0
    have hc : ∀ k, k < 512 → xI M1 (ad 17) (512 * p + k) = nI (pgF D p k) := fun k hk => by rw [(hx.2 _ _ (rRd_a hS0 (by decide) (by decide))).1]; exact hD0.1 _ (by omega)
    have he2 : e = rCl (pgF D p 0) := by omega
    refine bX10_readChildren_26 _ _ _ _ _ _ _ _ _ _ _ _ ⟨fun _ => ?_, fun z => ?_⟩
    · refine rc_end hS1 hc hl hp (by omega) (fun q => ?_) (fun q => ?_) 48 k (Nat.le_refl _) (by omega) (by omega) (fun _ i a b => by omega)
      · exact hyes [] tk M1 (rdL_0.mpr ⟨q, rfl⟩) rfl hx hT hK
      · refine hno ?_ M1 hx
        rintro ⟨cs, tk1, h1, -⟩
        exact q (rdL_0.mp h1).1
    · exfalso
      rw [he2] at z
      exact z (Int32.le_refl _)
  | succ d ih =>
    intro e k T tk la M1 w9 w10 w11 he hke hla hx hT hK hcnt h12 hno hyes
    have hS1 := hx.sS hS0
    have hc : ∀ k, k < 512 → xI M1 (ad 17) (512 * p + k) = nI (pgF D p k) := fun k hk => by rw [(hx.2 _ _ (rRd_a hS0 (by decide) (by decide))).1]; exact hD0.1 _ (by omega)
    refine rc_disp hS1 hc hl hp hF (by omega) (by omega) (fun hb => ?_) (fun hs a b c => ?_) (fun b q hcd hb hq c => ?_)
    · refine hno ?_ M1 hx
      rintro ⟨cs, tk1, h1, -⟩
      rw [rdL_bad hb] at h1; cases h1
    · rw [rdL_skip hs] at hno hyes
      exact ih (e + 1) k T tk la M1 a b c (by omega) (by omega) hla hx hT hK hcnt h12 hno hyes
    · refine rc_child hS1 hT hK hcnt h12 hla hb hq (by omega) l23 (by omega) (fun w => ?_) (fun hkm hC M2 hx2 hT2 hK2 u v w => ?_)
      · refine hno ?_ M1 hx
        rintro ⟨cs, tk1, h1, h2⟩
        obtain ⟨g1, r, g2, g3⟩ := (rdL_child hcd).mp h1
        rw [g3] at h2
        refine w ⟨g1, Classical.byContradiction (fun z => ?_)⟩
        have h2 : (if tCnt T < 200 ∧ (∀ b0, la = some b0 → b0 < b) ∧ 2 ≤ q ∧ tk q = false then acc (tCnt T + 1) (va_up tk q true) (some b) r else none) = some tk1 := h2
        rw [if_neg z] at h2; cases h2
      · have hcn : tCnt (adC T n b q) = tCnt T + 1 := adC_cnt (by omega)
        have hacc : ∀ r, acc (tCnt T) tk la ((b, q) :: r) = acc (tCnt T + 1) (va_up tk q true) (some b) r := fun r => by
          show (if tCnt T < 200 ∧ (∀ b0, la = some b0 → b0 < b) ∧ 2 ≤ q ∧ tk q = false then acc (tCnt T + 1) (va_up tk q true) (some b) r else none) = _
          rw [if_pos hC]
        refine ih (e + 1) (k + 1) (adC T n b q) (va_up tk q true) (some b) M2 u v w (by omega) (by omega) (fun b0 h0 => by injection h0 with h0; omega) (hx.trans hx2) hT2 hK2 (by omega) (adC_12 h12) (fun z M3 hx3 => hno ?_ M3 hx3) (fun cs tk1 M3 h1 h2 hx3 hT3 hK3 => ?_)
        · rintro ⟨cs, tk1, h1, h2⟩
          obtain ⟨-, r, g2, g3⟩ := (rdL_child hcd).mp h1
          rw [g3, hacc] at h2
          exact z ⟨r, tk1, g2, by rw [hcn]; exact h2⟩
        · rw [hcn] at h2
          exact hyes ((b, q) :: cs) tk1 M3 ((rdL_child hcd).mpr ⟨hkm, cs, h1, rfl⟩) (by rw [hacc]; exact h2) hx3 hT3 hK3
theorem sX10_readChildren {tk : Nat → Bool} (hS : rS M y ad) (hD : rDk M ad D) (hp : p < 256) (hF : 1 ≤ pgF D p 0 ∧ pgF D p 0 ≤ 4) (hT : rT M ad 0 T) (hK : rK M ad tk) (hcnt : tCnt T ≤ 200) (h12 : ∀ m, tU T m = true → (tX T m).length ≤ 12)
    (hno : (¬ ∃ cs tk1, rdL (pgF D p) (rCl (pgF D p 0)) 0 0 = some cs ∧ acc (tCnt T) tk none cs = some tk1) → ∀ M2, rX (rRd ad) M M2 → Q (some (.int 0)) M2)
    (hyes : ∀ cs tk1 M2, rdL (pgF D p) (rCl (pgF D p 0)) 0 0 = some cs → acc (tCnt T) tk none cs = some tk1 → rX (rRd ad) M M2 → rT M2 ad 0 (adCs T n cs) → rK M2 ad tk1 → Q (some (.int 1)) M2) :
    xSp l g mX10_readChildren 0 0 [va_rf (some y), .int (nI n), .int (nI (512 * p)), .int (nI (pgF D p 0)), .int (nI (pgF D p 23))] M Q := by
  have l0 : pgF D p 0 < 256 := hD.2 _
  have go := fun w9 w10 w11 => rc_loop (l := l) (g := g) (Q := Q) (n := n) hS hD hp hF (rCl (pgF D p 0)) 0 0 T tk none M w9 w10 w11 (by omega) (by omega) (fun b h => by cases h) rX.rf hT hK hcnt h12 hno hyes
  refine eX10_readChildren _ _ _ _ _ (bX10_readChildren_0 _ _ _ _ _ ⟨fun z => ?_, fun z => ?_⟩)
  · have h3 : 3 ≤ pgF D p 0 := nle z (a := 3) rfl rfl
    have e : rCl (pgF D p 0) = 256 := by unfold rCl; rw [if_neg (by omega)]
    have := go .null .null .null
    rw [show (nI (rCl (pgF D p 0))) = (256 : Int32) by rw [e]; rfl] at this
    exact this
  · have h3 : pgF D p 0 < 3 := nnle z (a := 3) rfl rfl
    have e : rCl (pgF D p 0) = fRoom (pgF D p 0) := by unfold rCl; rw [if_pos h3]
    refine sX10_room (by omega) ⟨_, rfl, ?_⟩
    rw [← e]
    exact go .null .null .null
end RRC3
