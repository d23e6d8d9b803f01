/-! The reference's readNode. -/
/-- a node with what its page says -/
def rdT (T : TT) (n : Nat) (f : Nat → Nat) : TT := (tU T, tP T, tB T, va_up (tX T) n (pgX f), va_up (tV T) n (pgV f), va_up (tF T) n (f 0), tG T, va_up (tR T) n false, tC T, tL T, tO T)
/-- whether there is enough in a node -/
def enR (f : Nat → Nat) (rt : Prop) : Prop := f 1 = 1 ∨ 1 < f 23 ∨ (rt ∧ f 23 = 0 ∧ f 10 = 0 ∧ f 0 = 1)
/-- what the reference asks of a page -/
def okR (f : Nat → Nat) (nd : Nat) (tk : Nat → Bool) (rt : Prop) : Prop :=
  (lNm f 504 8 = sm f 504 ∧ (1 ≤ f 0 ∧ f 0 ≤ 4) ∧ f 1 ≤ 1 ∧ (f 1 = 0 → lNm f 2 8 = 0)) ∧ (lNm f 2 8 ≠ -9223372036854775808 ∧ f 10 ≤ 12 ∧ f 23 ≤ fRoom (f 0)) ∧ (∀ k, f 10 ≤ k → k < 12 → f (11 + k) = 0) ∧ (enR f rt ∧ ∀ k, rEn (f 0) ≤ k → k < 504 → f k = 0) ∧ ∃ cs tk1, rdL f (rCl (f 0)) 0 0 = some cs ∧ acc nd tk none cs = some tk1
/-- the cells that are written while a node is read -/
def RB9 : List Nat := [8, 9, 10, 11, 13]
theorem RB_RA : ∀ j ∈ RB9, j ∈ RA9 := by decide
def rM (ad : Nat → Nat) (c a k : Nat) : Prop := (∃ j ∈ RB9, a = ad j ∧ k = c) ∨ (a = ad 7 ∧ 12 * c ≤ k ∧ k < 12 * c + 12)
theorem rM_n {ad : Nat → Nat} {c : Nat} : ∀ a k, rM ad c a k → rN ad c a k := fun a k h => by
  rcases h with ⟨j, hj, h⟩ | h
  · exact Or.inl ⟨j, RB_RA j hj, h⟩
  · exact Or.inr h
section RRN
variable {l : Launch} {g : xG} {M M0 M1 : xM} {Q : Option Value → xM → Prop} {y n p r : Nat} {ad : Nat → Nat} {T : TT} {f : Nat → Nat} {D : Nat → Nat}
theorem rd_tail {x9 : Int32} {j7 : Int64} {w8 : Value} (hS : rS M y ad) (hc : ∀ k, k < 512 → xI M (ad 17) (512 * p + k) = nI (f k)) (hl : ∀ x, f x < 256) (hp : p < 256) (hn : n < 220) (hr : xI M y 14 = nI r) (hr2 : r < 220)
    (hrc : (enR f (n = r) ∧ ∀ k, rEn (f 0) ≤ k → k < 504 → f k = 0) → xSp l g mX10_readChildren 0 0 [va_rf (some y), .int (nI n), .int (nI (512 * p)), .int (nI (f 0)), .int (nI (f 23))] M (fun ρ M2 => ∃ v : Int32, ρ = some (.int v) ∧ ((v = 0 → Q (some (.int 0)) M2) ∧ (¬ v = 0 → Q (some (.int 1)) M2))))
    (h0 : ¬ (enR f (n = r) ∧ ∀ k, rEn (f 0) ≤ k → k < 504 → f k = 0) → Q (some (.int 0)) M) :
    ∀ (d k : Nat), 504 = k + d → (∀ j, rEn (f 0) ≤ j → j < k → f j = 0) → rEn (f 0) ≤ k → xWp l g mX10_readNode 0 0 295 [(1, va_rf (some y)), (1, .int (nI n)), (1, .int (nI (512 * p))), (1, .int (nI (f 0))), (1, .int (nI (f 10))), (1, .int (nI (f 1))), (1, .int (nI (f 23))), (2, .long j7), (0, w8), (1, .int x9), (1, .int (nI k))] [] (0, 0) M Q := by
  have l0 := hl 0
  have l1 := hl 1
  have l10 := hl 10
  have l23 := hl 23
  intro d
  induction d with
  | zero =>
    intro k hd hz hk
    have hk4 : k = 504 := by omega
    subst hk4
    have bad : ¬ enR f (n = r) → Q (some (.int 0)) M := fun z => h0 (fun q => z q.1)
    have good := fun (z : enR f (n = r)) => hrc ⟨z, hz⟩
    refine bX10_readNode_295 _ _ _ _ _ _ _ _ _ _ _ ⟨fun _ => ⟨fun z => ⟨fun q => absurd q (by decide), fun _ => ⟨hS.1, good (Or.inl (neq z rfl (b := 1) rfl))⟩⟩, fun z1 => ⟨fun z => ⟨fun q => absurd q (by decide), fun _ => ⟨hS.1, good (Or.inr (Or.inl (nlt z (a := 1) rfl rfl)))⟩⟩, fun z2 => ⟨hS.1, fun z => ⟨fun _ => ?_, fun q => absurd rfl q⟩, fun z3 => ⟨fun z => ⟨fun _ => ?_, fun q => absurd rfl q⟩, fun z4 => ⟨fun z => ⟨fun _ => ?_, fun q => absurd rfl q⟩, fun z5 => ⟨fun z => ⟨fun _ => ?_, fun q => absurd rfl q⟩, fun z6 => ⟨fun q => absurd q (by decide), fun _ => good (Or.inr (Or.inr ⟨?_, neq z4 rfl (b := 0) rfl, neq z5 rfl (b := 0) rfl, neq z6 rfl (b := 1) rfl⟩))⟩⟩⟩⟩⟩⟩⟩, fun z => absurd (Int32.le_refl _) z⟩
    · refine bad (fun q => ?_)
      have n1 : f 1 ≠ 1 := nne z1 rfl (b := 1) rfl
      have n2 : f 23 ≤ 1 := nnlt z2 (a := 1) rfl rfl
      rcases q with q | q | q
      · exact n1 q
      · omega
      · exact z (by rw [hr, q.1])
    · refine bad (fun q => ?_)
      have n1 : f 1 ≠ 1 := nne z1 rfl (b := 1) rfl
      have n2 : f 23 ≤ 1 := nnlt z2 (a := 1) rfl rfl
      have n3 : f 23 ≠ 0 := nne z rfl (b := 0) rfl
      rcases q with q | q | q
      · exact n1 q
      · omega
      · exact n3 q.2.1
    · refine bad (fun q => ?_)
      have n1 : f 1 ≠ 1 := nne z1 rfl (b := 1) rfl
      have n2 : f 23 ≤ 1 := nnlt z2 (a := 1) rfl rfl
      have n3 : f 10 ≠ 0 := nne z rfl (b := 0) rfl
      rcases q with q | q | q
      · exact n1 q
      · omega
      · exact n3 q.2.2.1
    · refine bad (fun q => ?_)
      have n1 : f 1 ≠ 1 := nne z1 rfl (b := 1) rfl
      have n2 : f 23 ≤ 1 := nnlt z2 (a := 1) rfl rfl
      have n3 : f 0 ≠ 1 := nne z rfl (b := 1) rfl
      rcases q with q | q | q
      · exact n1 q
      · omega
      · exact n3 q.2.2.2
    · rw [hr] at z3
      exact neq z3 rfl rfl
  | succ d ih =>
    intro k hd hz hk
    have lk := hl k
    refine bX10_readNode_295 _ _ _ _ _ _ _ _ _ _ _ ⟨fun z => ?_, fun _ => ⟨hS.1, ad 17, (hS.2.1 17 (by decide)).1, 512 * p + k, ?_, ?_⟩⟩
    · exfalso
      have := nle z (a := 504) rfl rfl
      omega
    · rw [nI_add]; exact hS.ai (j := 17) (by decide) (by show 512 * p + k < 131072; omega)
    · rw [hc k (by omega), nI_1]
      refine ⟨fun z => ih (k + 1) (by omega) (fun j a b => ?_) (by omega), fun z => h0 (fun q => nne z rfl (b := 0) rfl (q.2 k hk (by omega)))⟩
      by_cases e : j = k
      · rw [e]; exact neq z rfl (b := 0) rfl
      · exact hz j a (by omega)
/-- the cells of a node while it is read -/
def rdK (M : xM) (ad : Nat → Nat) (n : Nat) (f : Nat → Nat) (k : Nat) : Prop :=
  xI M (ad 11) n = nI (f 0) ∧ xI M (ad 9) n = (if f 1 = 1 then 1 else 0) ∧ xJ M (ad 10) n = lNm f 2 8 ∧ xI M (ad 8) n = nI (f 10) ∧ xI M (ad 13) n = 0 ∧ ∀ i, i < k → xI M (ad 7) (12 * n + i) = nI (f (11 + i))
theorem rd_pre {w8 w10 : Value} {j7 : Int64} (hS : rS M y ad) (hl : ∀ x, f x < 256) (hp : p < 256) (hn : n < 220) (hc : ∀ k, k < 512 → xI M (ad 17) (512 * p + k) = nI (f k)) (hF : 1 ≤ f 0 ∧ f 0 ≤ 4)
    (h0 : ¬ (∀ k, f 10 ≤ k → k < 12 → f (11 + k) = 0) → ∀ M2, rX (rM ad n) M M2 → Q (some (.int 0)) M2)
    (h1 : (∀ k, f 10 ≤ k → k < 12 → f (11 + k) = 0) → ∀ M2 x9, rX (rM ad n) M M2 → rdK M2 ad n f 12 → xWp l g mX10_readNode 0 0 295 [(1, va_rf (some y)), (1, .int (nI n)), (1, .int (nI (512 * p))), (1, .int (nI (f 0))), (1, .int (nI (f 10))), (1, .int (nI (f 1))), (1, .int (nI (f 23))), (2, .long j7), (0, w8), (1, .int x9), (1, .int (nI (rEn (f 0))))] [] (0, 0) M2 Q) :
    ∀ (d k : Nat) (M1 : xM), 12 = k + d → rX (rM ad n) M M1 → rdK M1 ad n f k → (∀ i, i < k → f 10 ≤ i → f (11 + i) = 0) → xWp l g mX10_readNode 0 0 197 [(1, va_rf (some y)), (1, .int (nI n)), (1, .int (nI (512 * p))), (1, .int (nI (f 0))), (1, .int (nI (f 10))), (1, .int (nI (f 1))), (1, .int (nI (f 23))), (2, .long j7), (0, w8), (1, .int (nI k)), (0, w10)] [] (0, 0) M1 Q := by
  have l0 := hl 0
  have l10 := hl 10
  intro d
  induction d with
  | zero =>
    intro k M1 hd hx hR hz
    have hk : k = 12 := by omega
    subst hk
    have go := h1 (fun k a b => hz k b a) M1
    refine bX10_readNode_197 _ _ _ _ _ _ _ _ _ _ _ ⟨fun _ => ⟨fun z3 => ⟨fun z => ?_, fun z => ?_⟩, fun z3 => ?_⟩, fun z => absurd (Int32.le_refl _) z⟩
    · have h3 : 3 ≤ f 0 := nle z3 (a := 3) rfl rfl
      have n3 : f 0 ≠ 3 := nne z rfl (b := 3) rfl
      have e : rEn (f 0) = 280 := by unfold rEn; rw [if_neg (by omega), if_neg n3]
      have := go 280 hx hR
      rw [e] at this
      exact this
    · have h3 : f 0 = 3 := neq z rfl (b := 3) rfl
      have e : rEn (f 0) = 328 := by unfold rEn; rw [if_neg (by omega), if_pos h3]
      have := go 328 hx hR
      rw [e] at this
      exact this
    · have h3 : f 0 < 3 := nnle z3 (a := 3) rfl rfl
      have e : rEn (f 0) = 24 + 2 * fRoom (f 0) := by unfold rEn; rw [if_pos h3]
      refine sX10_room (by omega) ⟨_, rfl, ?_⟩
      have e2 : 24 + 2 * nI (fRoom (f 0)) = nI (rEn (f 0)) := by
        rw [e, show (2 : Int32) * nI (fRoom (f 0)) = nI (2 * fRoom (f 0)) from nI_mul 2 _]
        exact nI_add 24 _
      have := go (24 + 2 * nI (fRoom (f 0))) hx hR
      rw [← e2] at this
      exact this
  | succ d ih =>
    intro k M1 hd hx hR hz
    have hS1 := hx.sS hS
    have h17 := (hS1.2.1 17 (by decide)).1
    have lk := hl (11 + k)
    have c17 : ∀ {N : xM} {v : Int32} {i : Nat}, rX (rM ad n) M N → xI (xsI N (ad 7) i v) (ad 17) (512 * p + (11 + k)) = nI (f (11 + k)) := fun {N v i} hN => by
      rw [rsk hS (i := 17) (j := 7) (by decide) (by decide) (by decide), (hN.2 _ _ ?_).1]
      · exact hc _ (by omega)
      · intro z
        rcases z with ⟨j, hj, z, -⟩ | ⟨z, -⟩
        · exact hS.na (i := 17) (by decide) (RA_RL j (RB_RA j hj)) (fun w => by subst w; revert hj; decide) z
        · exact hS.na (i := 17) (j := 7) (by decide) (by decide) (by decide) z
    have e17 : xI M1 (ad 17) (512 * p + (11 + k)) = nI (f (11 + k)) := by
      rw [(hx.2 _ _ ?_).1]
      · exact hc _ (by omega)
      · intro z
        rcases z with ⟨j, hj, z, -⟩ | ⟨z, -⟩
        · exact hS.na (i := 17) (by decide) (RA_RL j (RB_RA j hj)) (fun w => by subst w; revert hj; decide) z
        · exact hS.na (i := 17) (j := 7) (by decide) (by decide) (by decide) z
    have ex : (nI (512 * p) + 11) + nI k = nI (512 * p + (11 + k)) := by rw [show nI (512 * p) + 11 = nI (512 * p + 11) from nI_add _ 11, nI_add, Nat.add_assoc]
    have ep : 12 * nI n + nI k = nI (12 * n + k) := by rw [show (12 : Int32) * nI n = nI (12 * n) from nI_mul 12 n, nI_add]
    have a17 : xai M1 (ad 17) 9 ((nI (512 * p) + 11) + nI k) (512 * p + (11 + k)) := by rw [ex]; exact hS1.ai (j := 17) (by decide) (by show 512 * p + (11 + k) < 131072; omega)
    have hx2 : rX (rM ad n) M (xsI M1 (ad 7) (12 * n + k) (nI (f (11 + k)))) := hx.trans (rX_I (Or.inr ⟨rfl, by omega, by omega⟩))
    have hR2 : rdK (xsI M1 (ad 7) (12 * n + k) (nI (f (11 + k)))) ad n f (k + 1) := by
      obtain ⟨r1, r2, r3, r4, r5, r6⟩ := hR
      refine ⟨by rw [rsk hS (i := 11) (j := 7) (by decide) (by decide) (by decide)]; exact r1, by rw [rsk hS (i := 9) (j := 7) (by decide) (by decide) (by decide)]; exact r2, r3, by rw [rsk hS (i := 8) (j := 7) (by decide) (by decide) (by decide)]; exact r4, by rw [rsk hS (i := 13) (j := 7) (by decide) (by decide) (by decide)]; exact r5, fun i hi => ?_⟩
      by_cases e : i = k
      · rw [xI_sI, if_pos ⟨rfl, by rw [e]⟩, e]
      · rw [xI_sI, if_neg (fun z => e (by omega))]; exact r6 i (by omega)
    refine bX10_readNode_197 _ _ _ _ _ _ _ _ _ _ _ ⟨fun z => ?_, fun _ => ⟨hS1.1, ad 17, h17, 512 * p + (11 + k), a17, ad 7, (hS1.2.1 7 (by decide)).1, 12 * n + k, by rw [ep]; exact hS1.ai (j := 7) (by decide) (by show 12 * n + k < 5280; omega), ?_⟩⟩
    · exfalso
      have := nle z (a := 12) rfl rfl
      omega
    · rw [e17, nI_1]
      refine ⟨fun z => ?_, fun z => ⟨ad 17, h17, 512 * p + (11 + k), a17, ?_⟩⟩
      · have h10 : k < f 10 := nlt z rfl rfl
        exact ih (k + 1) _ (by omega) hx2 hR2 (fun i a b => hz i (by omega) b)
      · have h10 : f 10 ≤ k := nnlt z rfl rfl
        rw [c17 hx]
        refine ⟨fun z => ?_, fun z => ?_⟩
        · have h0k : f (11 + k) = 0 := neq z rfl (b := 0) rfl
          refine ih (k + 1) _ (by omega) hx2 hR2 (fun i a b => ?_)
          by_cases e : i = k
          · rw [e]; exact h0k
          · exact hz i (by omega) b
        · exact h0 (fun q => nne z rfl (b := 0) rfl (q k h10 (by omega))) _ hx2
theorem rd_T (hS : rS M y ad) (hT : rT M ad 0 T) (hn : n < 220) (hu : tU T n = true) (h12 : ∀ m, tU T m = true → (tX T m).length ≤ 12) (h1 : f 1 ≤ 1 ∧ (f 1 = 0 → lNm f 2 8 = 0)) (h10 : f 10 ≤ 12) (hx : rX (rM ad n) M M1) (hR : rdK M1 ad n f 12) : rT M1 ad 0 (rdT T n f) := by
  obtain ⟨c1, c2, c3, c4, c5, c6, c7, c8, c9⟩ := rC0.mp ((hT n hn).2 hu)
  obtain ⟨r1, r2, r3, r4, r5, r6⟩ := hR
  have no : ∀ j ∈ [4, 5, 6, 12], ∀ k, ¬ rM ad n (ad j) k := fun j hj k z => by
    have hj9 : j ∈ RL9 := (show ∀ j ∈ [4, 5, 6, 12], j ∈ RL9 by decide) j hj
    have hnb : j ∉ RB9 := (show ∀ j ∈ [4, 5, 6, 12], j ∉ RB9 by decide) j hj
    rcases z with ⟨i, hi, z, -⟩ | ⟨z, -⟩
    · exact hS.na hj9 (RA_RL i (RB_RA i hi)) (fun w => hnb (by rw [w]; exact hi)) z
    · exact hS.na hj9 (j := 7) (by decide) (fun w => by subst w; revert hj; decide) z
  have u1 : tX (rdT T n f) n = pgX f := va_up_self _ _ _
  have u2 : tV (rdT T n f) n = pgV f := va_up_self _ _ _
  have u3 : tF (rdT T n f) n = f 0 := va_up_self _ _ _
  have u4 : tR (rdT T n f) n = false := va_up_self _ _ _
  refine rT_upd (c := n) hS hT (hx.mono rM_n) h12 ⟨by rw [(hx.2 _ _ (no 4 (by decide) _)).1]; exact hT.u hn, fun _ => rC0.mpr ?_⟩ (fun m hm => ⟨rfl, rfl, rfl, va_up_ne _ _ hm, va_up_ne _ _ hm, va_up_ne _ _ hm, rfl, va_up_ne _ _ hm⟩)
  refine ⟨by rw [(hx.2 _ _ (no 5 (by decide) _)).1]; exact c1, by rw [(hx.2 _ _ (no 6 (by decide) _)).1]; exact c2, by rw [r4, u1, pgX_len], fun i hi => ?_, ?_, ?_, by rw [r1, u3], by rw [(hx.2 _ _ (no 12 (by decide) _)).1]; exact c8, by rw [r5, u4]; rfl⟩
  · rw [u1, pgX_len] at hi
    rw [r6 i (by omega), u1, pgX_get, if_pos hi]
  · rw [r2, u2]
    unfold pgV
    by_cases e : f 1 = 1
    · rw [if_pos e, if_pos e]; rfl
    · rw [if_neg e, if_neg e]; rfl
  · rw [r3, u2]
    unfold pgV
    by_cases e : f 1 = 1
    · rw [if_pos e]; rfl
    · rw [if_neg e]; exact h1.2 (by omega)
end RRN
