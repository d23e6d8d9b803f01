/-! The reference's readChildren. -/
/-- a child that was found -/
def adC (T : TT) (n b p : Nat) : TT := (va_up (tU T) (tFree T) true, va_up (tP T) (tFree T) (some n), va_up (tB T) (tFree T) b, va_up (tX T) (tFree T) [], va_up (tV T) (tFree T) none, va_up (tF T) (tFree T) 1, va_up (tG T) (tFree T) p, va_up (tR T) (tFree T) true, tC T, tL T, tO T)
def adCs (T : TT) (n : Nat) : List (Nat × Nat) → TT
  | [] => T
  | (b, p) :: r => adCs (adC T n b p) n r
/-- what the reference changes while it reads -/
def rRd (ad : Nat → Nat) (a k : Nat) : Prop := a = ad 26 ∨ (∃ j ∈ RA9, a = ad j ∧ k < 220) ∨ (a = ad 7 ∧ k < 2640)
theorem rN_rd {ad : Nat → Nat} {c : Nat} (hc : c < 220) : ∀ a k, rN ad c a k → rRd ad a k := fun a k h => by
  rcases h with ⟨j, hj, h1, h2⟩ | ⟨h1, h2, h3⟩
  · exact Or.inr (Or.inl ⟨j, hj, h1, by omega⟩)
  · exact Or.inr (Or.inr ⟨h1, by omega⟩)
section RRC
variable {l : Launch} {g : xG} {M M0 M1 : xM} {Q : Option Value → xM → Prop} {y n p e k : Nat} {ad : Nat → Nat} {T : TT} {f : Nat → Nat} {tk : Nat → Bool}
theorem rRd_y (hS : rS M y ad) {k : Nat} : ¬ rRd ad y k := fun z => by
  rcases z with z | ⟨j, hj, z, -⟩ | ⟨z, -⟩
  · exact hS.ny (j := 26) (by decide) z.symm
  · exact hS.ny (RA_RL j hj) z.symm
  · exact hS.ny (j := 7) (by decide) z.symm
theorem rRd_a (hS : rS M y ad) {i k : Nat} (hi : i ∈ RL9) (h : i ∉ RA9 ∧ i ≠ 7 ∧ i ≠ 26) : ¬ rRd ad (ad i) k := fun z => by
  rcases z with z | ⟨j, hj, z, -⟩ | ⟨z, -⟩
  · exact hS.na hi (j := 26) (by decide) h.2.2 z
  · exact hS.na hi (RA_RL j hj) (fun q => h.1 (by rw [q]; exact hj)) z
  · exact hS.na hi (j := 7) (by decide) h.2.1 z
theorem rc_disp {x6 : Int32} {w9 w10 w11 : Value} (hS : rS M y ad) (hc : ∀ k, k < 512 → xI M (ad 17) (512 * p + k) = nI (f k)) (hl : ∀ x, f x < 256) (hp : p < 256) (hF : 1 ≤ f 0 ∧ f 0 ≤ 4) (he : e < rCl (f 0)) (hk : k ≤ 256)
    (hbad : enC f e k = none → Q (some (.int 0)) M)
    (hskip : enC f e k = some none → ∀ a b c, xWp l g mX10_readChildren 0 0 26 [(1, va_rf (some y)), (1, .int (nI n)), (1, .int (nI (512 * p))), (1, .int (nI (f 0))), (1, .int (nI (f 23))), (1, .int (nI k)), (1, .int x6), (1, .int (nI (rCl (f 0)))), (1, .int (nI (e + 1))), (0, a), (0, b), (0, c)] [] (0, 0) M Q)
    (hch : ∀ b q, enC f e k = some (some (b, q)) → b < 256 → q < 256 → ∀ c, xWp l g mX10_readChildren 0 0 177 [(1, va_rf (some y)), (1, .int (nI n)), (1, .int (nI (512 * p))), (1, .int (nI (f 0))), (1, .int (nI (f 23))), (1, .int (nI k)), (1, .int x6), (1, .int (nI (rCl (f 0)))), (1, .int (nI e)), (1, .int (nI b)), (1, .int (nI q)), (0, c)] [] (0, 0) M Q) :
    xWp l g mX10_readChildren 0 0 26 [(1, va_rf (some y)), (1, .int (nI n)), (1, .int (nI (512 * p))), (1, .int (nI (f 0))), (1, .int (nI (f 23))), (1, .int (nI k)), (1, .int x6), (1, .int (nI (rCl (f 0)))), (1, .int (nI e)), (0, w9), (0, w10), (0, w11)] [] (0, 0) M Q := by
  have h17 := (hS.2.1 17 (by decide)).1
  have aD : ∀ k, k < 512 → xai M (ad 17) 9 (nI (512 * p + k)) (512 * p + k) := fun k hk => hS.ai (j := 17) (by decide) (by show 512 * p + k < 131072; omega)
  have hR16 : f 0 < 3 → fRoom (f 0) ≤ 16 := fun h => fRoom2 (by omega) (by omega) hF.1 hF.2
  have hcl : f 0 < 3 → rCl (f 0) = fRoom (f 0) := fun h => by unfold rCl; rw [if_pos h]
  have hcl2 : ¬ f 0 < 3 → rCl (f 0) = 256 := fun h => by unfold rCl; rw [if_neg h]
  have he256 : e < 256 := by
    by_cases h : f 0 < 3
    · have := hR16 h; rw [hcl h] at he; omega
    · rw [hcl2 h] at he; exact he
  have sk : enC f e k = some none → ∀ u v c, xWp l g mX10_readChildren 0 0 26 [(1, va_rf (some y)), (1, .int (nI n)), (1, .int (nI (512 * p))), (1, .int (nI (f 0))), (1, .int (nI (f 23))), (1, .int (nI k)), (1, .int x6), (1, .int (nI (rCl (f 0)))), (1, .int (nI e + 1)), (1, u), (1, v), (0, c)] [] (0, 0) M Q := fun h u v c => by
    rw [nI_1]
    exact xWp.lw (hskip h u v c) ⟨Or.inl rfl, Or.inl rfl, Or.inl rfl, Or.inl rfl, Or.inl rfl, Or.inl rfl, Or.inl rfl, Or.inl rfl, Or.inl rfl, Or.inr rfl, Or.inr rfl, Or.inl rfl, trivial⟩
  have e24 : nI (512 * p) + 24 = nI (512 * p + 24) := nI_add _ 24
  have e279 : nI (512 * p) + 279 = nI (512 * p + 279) := nI_add _ 279
  have hle : ¬ nI (rCl (f 0)) ≤ nI e := fun z => by
    have h1 : rCl (f 0) ≤ 256 := by
      by_cases h : f 0 < 3
      · have := hR16 h; rw [hcl h]; omega
      · rw [hcl2 h]; omega
    have := nle z rfl rfl
    omega
  have hl0 := hl 0
  have hl23 := hl 23
  refine bX10_readChildren_26 _ _ _ _ _ _ _ _ _ _ _ _ ⟨fun z => absurd z hle, fun _ => ⟨fun z => ?_, fun z => ?_⟩⟩
  · have h3 : 3 ≤ f 0 := nle z (a := 3) rfl rfl
    have ex : (nI (512 * p) + 24) + nI e = nI (512 * p + (24 + e)) := by rw [e24, nI_add, Nat.add_assoc]
    have hle := hl (24 + e)
    have ec := hc (24 + e) (by omega)
    have en0 : enC f e k = (if f (24 + e) = 0 then some none else if f 0 = 4 then some (some (e, f (24 + e))) else if f (24 + e) = k + 1 ∧ k + 1 ≤ 48 then some (some (e, f (280 + k))) else none) := by
      unfold enC
      rw [if_neg (by omega)]
    refine bX10_readChildren_55 _ _ _ _ _ _ _ _ _ _ _ _ _ ⟨fun _ => ⟨hS.1, ad 17, h17, 512 * p + (24 + e), by rw [ex]; exact aD _ (by omega), fun _ => ?_, fun z2 => absurd z z2⟩, fun z2 => absurd z z2⟩
    rw [ec]
    refine bX10_readChildren_118 _ _ _ _ _ _ _ _ _ _ _ _ ⟨fun z4 => ⟨fun z5 => ?_, fun _ => ⟨fun z6 => ?_, fun z6 => ?_⟩⟩, fun z4 => ⟨fun z5 => ⟨fun z6 => ?_, fun _ => ⟨fun z7 => ?_, fun z7 => ?_⟩⟩, fun z5 => ⟨fun z6 => ?_, fun z6 => ⟨fun z7 => ⟨hS.1, ad 17, h17, 512 * p + (280 + k), ?_, ?_⟩, fun z7 => ?_⟩⟩⟩⟩
    · exfalso
      have := nle z5 rfl (b := 2) rfl
      omega
    · have n3 : f 0 ≠ 3 := nne z4 rfl (b := 3) rfl
      have h6 : f (24 + e) ≠ 0 := nne z6 rfl (b := 0) rfl
      rw [if_neg h6, if_pos (by omega)] at en0
      exact hch e _ en0 he256 (hl _) _
    · have h6 : f (24 + e) = 0 := neq z6 rfl (b := 0) rfl
      rw [if_pos h6] at en0
      exact sk en0 _ _ _
    · exfalso
      have := nle z6 rfl (b := 2) rfl
      omega
    · exfalso
      have h7 : f (24 + e) ≠ 0 := nne z7 rfl (b := 0) rfl
      have := nle z5 rfl (b := 0) rfl
      omega
    · have h6 : f (24 + e) = 0 := neq z7 rfl (b := 0) rfl
      rw [if_pos h6] at en0
      exact sk en0 _ _ _
    · have h3e : f 0 = 3 := neq z4 rfl (b := 3) rfl
      have h5 : 0 < f (24 + e) := nnle z5 rfl (b := 0) rfl
      have h6 : f (24 + e) ≠ k + 1 := nne z6 rfl (b := k + 1) (nI_1 k)
      rw [if_neg (by omega), if_neg (by omega), if_neg (fun q => h6 q.1)] at en0
      exact hbad en0
    · have h6 : f (24 + e) = k + 1 := neq z6 rfl (b := k + 1) (nI_1 k)
      rw [e279, nI_add, h6, show 512 * p + 279 + (k + 1) = 512 * p + (280 + k) by omega]
      have h7 : f (24 + e) ≤ 48 := nle z7 rfl (b := 48) rfl
      exact aD _ (by omega)
    · have h3e : f 0 = 3 := neq z4 rfl (b := 3) rfl
      have h5 : 0 < f (24 + e) := nnle z5 rfl (b := 0) rfl
      have h6 : f (24 + e) = k + 1 := neq z6 rfl (b := k + 1) (nI_1 k)
      have h7 : f (24 + e) ≤ 48 := nle z7 rfl (b := 48) rfl
      rw [hc _ (by omega)]
      rw [if_neg (by omega), if_neg (by omega), if_pos ⟨h6, by omega⟩] at en0
      exact hch e _ en0 he256 (hl _) _
    · have h3e : f 0 = 3 := neq z4 rfl (b := 3) rfl
      have h5 : 0 < f (24 + e) := nnle z5 rfl (b := 0) rfl
      have h6 : f (24 + e) = k + 1 := neq z6 rfl (b := k + 1) (nI_1 k)
      have h7 : 48 < f (24 + e) := nnle z7 rfl (b := 48) rfl
      rw [if_neg (by omega), if_neg (by omega), if_neg (fun q => by omega)] at en0
      exact hbad en0
  · have h3 : f 0 < 3 := nnle z (a := 3) rfl rfl
    have hR := hR16 h3
    rw [hcl h3] at he
    have ex : (nI (512 * p) + 24) + nI e = nI (512 * p + (24 + e)) := by rw [e24, nI_add, Nat.add_assoc]
    have ex2 : ((nI (512 * p) + 24) + nI (rCl (f 0))) + nI e = nI (512 * p + (24 + fRoom (f 0) + e)) := by rw [e24, nI_add, nI_add, hcl h3]; congr 1; omega
    have ec := hc (24 + e) (by omega)
    have ec2 := hc (24 + fRoom (f 0) + e) (by omega)
    have hle1 := hl (24 + e)
    have hle2 := hl (24 + fRoom (f 0) + e)
    have en0 : enC f e k = (if e < f 23 then some (some (f (24 + e), f (24 + fRoom (f 0) + e))) else if f (24 + e) = 0 ∧ f (24 + fRoom (f 0) + e) = 0 then some none else none) := by
      unfold enC
      rw [if_pos h3]
    refine ⟨hS.1, ad 17, h17, 512 * p + (24 + e), by rw [ex]; exact aD _ (by omega), ?_⟩
    rw [ec]
    refine bX10_readChildren_55 _ _ _ _ _ _ _ _ _ _ _ _ _ ⟨fun z2 => absurd z2 z, fun _ => ⟨hS.1, ad 17, h17, 512 * p + (24 + fRoom (f 0) + e), by rw [ex2]; exact aD _ (by omega), fun z2 => absurd z2 z, fun _ => ?_⟩⟩
    rw [ec2]
    refine ⟨fun z4 => ?_, fun z4 => ⟨fun z5 => ?_, fun z5 => ⟨fun z6 => ?_, fun z6 => ?_⟩⟩⟩
    · have h4 : e < f 23 := nlt z4 rfl rfl
      rw [if_pos h4] at en0
      refine bX10_readChildren_118 _ _ _ _ _ _ _ _ _ _ _ _ ⟨fun _ => ⟨fun _ => hch _ _ en0 hle1 hle2 _, fun z6 => ?_⟩, fun z5 => ?_⟩
      · exfalso
        have := nnle z6 rfl (b := 2) rfl
        omega
      · exfalso
        have := neq z5 rfl (b := 3) rfl
        omega
    · have h4 : f 23 ≤ e := nnlt z4 rfl rfl
      have h5 : f (24 + e) ≠ 0 := nne z5 rfl (b := 0) rfl
      rw [if_neg (by omega), if_neg (fun q => h5 q.1)] at en0
      exact hbad en0
    · have h4 : f 23 ≤ e := nnlt z4 rfl rfl
      have h5 : f (24 + e) = 0 := neq z5 rfl (b := 0) rfl
      have h6 : f (24 + fRoom (f 0) + e) = 0 := neq z6 rfl (b := 0) rfl
      rw [if_neg (by omega), if_pos ⟨h5, h6⟩] at en0
      exact sk en0 _ _ _
    · have h4 : f 23 ≤ e := nnlt z4 rfl rfl
      have h6 : f (24 + fRoom (f 0) + e) ≠ 0 := nne z6 rfl (b := 0) rfl
      rw [if_neg (by omega), if_neg (fun q => h6 q.2)] at en0
      exact hbad en0
end RRC
