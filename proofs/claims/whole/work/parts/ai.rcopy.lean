/-! The reference's copy, keep, back. -/
/-- what copying one node's cells does, array by array -/
def cp9 (ad : Nat → Nat) (f t : Nat) (js : List Nat) (M M1 : xM) : Prop :=
  rX (fun a i => ∃ j ∈ js, a = ad j ∧ i = t) M M1 ∧ (∀ j ∈ js, j ≠ 10 → xI M1 (ad j) t = (if rk j = 11 then xI M (ad j) f &&& 1 else xI M (ad j) f)) ∧ (10 ∈ js → xJ M1 (ad 10) t = xJ M (ad 10) f)
/-- the half at t -/
def rH (ad : Nat → Nat) (t a k : Nat) : Prop := (∃ j ∈ RA9, a = ad j ∧ t ≤ k ∧ k < t + 220) ∨ (a = ad 7 ∧ 12 * t ≤ k ∧ k < 12 * t + 2640)
/-- one node copied -/
def cpC (M M1 : xM) (ad : Nat → Nat) (f t n : Nat) : Prop :=
  (∀ j ∈ RA9, j ≠ 10 → xI M1 (ad j) (t + n) = (if rk j = 11 then xI M (ad j) (f + n) &&& 1 else xI M (ad j) (f + n))) ∧ xJ M1 (ad 10) (t + n) = xJ M (ad 10) (f + n) ∧ ∀ i, i < 12 → xI M1 (ad 7) (12 * (t + n) + i) = xI M (ad 7) (12 * (f + n) + i)
section RCP
variable {l : Launch} {g : xG} {M M0 M1 M2 M3 M4 M5 : xM} {Q : Option Value → xM → Prop} {y : Nat} {ad : Nat → Nat} {T T1 Tc : TT} {o n b c s m w a u f t k : Nat} {K W js : List Nat} {v : Int64} {P P1 : Nat → Nat → Prop} {dn : Bool} {D : Nat → Nat} {pw : Option Nat} {tr sq : Nat}
theorem cp9_nil : cp9 ad f t [] M M := ⟨rX.rf, fun j hj => (by cases hj), fun h => (by cases h)⟩
theorem cp9_sub (hS : rS M0 y ad) (h : cp9 ad f t js M M1) (hft : f ≠ t) {j : Nat} : xI M1 (ad j) f = xI M (ad j) f ∧ xJ M1 (ad j) f = xJ M (ad j) f :=
  h.1.2 _ _ (fun z => by obtain ⟨i, -, -, z⟩ := z; exact hft z)
theorem cp9_old (hS : rS M0 y ad) (hj : ∀ i ∈ js, i ∈ RL9) {j : Nat} (hjl : j ∈ RL9) (hjn : j ∉ js) : ∀ i ∈ js, ad i ≠ ad j := fun i hi z => hjn (by rw [← hS.2.2 i (hj i hi) j hjl z]; exact hi)
theorem cp9_mono {j : Nat} (h : rX (fun a i => ∃ j ∈ js, a = ad j ∧ i = t) M M1) : rX (fun a i => ∃ q ∈ j :: js, a = ad q ∧ i = t) M M1 := h.mono (fun a i z => by obtain ⟨q, hq, z1, z2⟩ := z; exact ⟨q, List.mem_cons_of_mem _ hq, z1, z2⟩)
theorem cp9_I (j : Nat) (hS : rS M0 y ad) (hft : f ≠ t) (hj : ∀ i ∈ js, i ∈ RL9) (hjl : j ∈ RL9) (hjn : j ∉ js) (h10 : j ≠ 10) (hk : rk j ≠ 11) (h : cp9 ad f t js M M1) : cp9 ad f t (j :: js) M (xsI M1 (ad j) t (xI M1 (ad j) f)) := by
  refine ⟨(cp9_mono h.1).trans (rX_I ⟨j, List.mem_cons_self, rfl, rfl⟩), fun i hi hi10 => ?_, fun hm => ?_⟩
  · rcases List.mem_cons.mp hi with hi | hi
    · rw [hi, xI_sI, if_pos ⟨rfl, rfl⟩, if_neg hk]; exact (cp9_sub hS h hft).1
    · rw [xI_sI, if_neg (fun z => cp9_old hS hj hjl hjn i hi z.1)]; exact h.2.1 i hi hi10
  · rcases List.mem_cons.mp hm with hm | hm
    · exact absurd hm.symm h10
    · exact h.2.2 hm
theorem cp9_B (j : Nat) (hS : rS M0 y ad) (hft : f ≠ t) (hj : ∀ i ∈ js, i ∈ RL9) (hjl : j ∈ RL9) (hjn : j ∉ js) (h10 : j ≠ 10) (hk : rk j = 11) (h : cp9 ad f t js M M1) : cp9 ad f t (j :: js) M (xsI M1 (ad j) t (xI M1 (ad j) f &&& 1)) := by
  refine ⟨(cp9_mono h.1).trans (rX_I ⟨j, List.mem_cons_self, rfl, rfl⟩), fun i hi hi10 => ?_, fun hm => ?_⟩
  · rcases List.mem_cons.mp hi with hi | hi
    · rw [hi, xI_sI, if_pos ⟨rfl, rfl⟩, if_pos hk, (cp9_sub hS h hft).1]
    · rw [xI_sI, if_neg (fun z => cp9_old hS hj hjl hjn i hi z.1)]; exact h.2.1 i hi hi10
  · rcases List.mem_cons.mp hm with hm | hm
    · exact absurd hm.symm h10
    · exact h.2.2 hm
theorem cp9_J (hS : rS M0 y ad) (hft : f ≠ t) (hj : ∀ i ∈ js, i ∈ RL9) (hjn : 10 ∉ js) (h : cp9 ad f t js M M1) : cp9 ad f t (10 :: js) M (xsJ M1 (ad 10) t (xJ M1 (ad 10) f)) := by
  refine ⟨(cp9_mono h.1).trans (rX_J ⟨10, List.mem_cons_self, rfl, rfl⟩), fun i hi hi10 => ?_, fun _ => ?_⟩
  · rcases List.mem_cons.mp hi with hi | hi
    · exact absurd hi hi10
    · exact h.2.1 i hi hi10
  · rw [xJ_sJ, if_pos ⟨rfl, rfl⟩]; exact (cp9_sub hS h hft).2
theorem copy_pre {x3 : Int32} (hS : rS M y ad) (hf : f < 440) (ht : t < 440) (hft : f ≠ t) {F1 T1 : Int32} (hF : F1 + x3 = nI f) (hT : T1 + x3 = nI t)
    (hcont : ∀ M1, rX (fun a i => a = ad 7 ∧ 12 * t ≤ i ∧ i < 12 * t + 12) M M1 → (∀ i, i < 12 → xI M1 (ad 7) (12 * t + i) = xI M (ad 7) (12 * f + i)) → xWp l g mX10_copy 0 0 2 [(1, va_rf (some y)), (1, .int F1), (1, .int T1), (1, .int (x3 + 1)), (1, .int (nI 12))] [] (0, 0) M1 Q) :
    ∀ (d i : Nat) (M1 : xM), 12 = i + d → rX (fun a i => a = ad 7 ∧ 12 * t ≤ i ∧ i < 12 * t + 12) M M1 → (∀ j, j < i → xI M1 (ad 7) (12 * t + j) = xI M (ad 7) (12 * f + j)) → xWp l g mX10_copy 0 0 156 [(1, va_rf (some y)), (1, .int F1), (1, .int T1), (1, .int x3), (1, .int (nI i))] [] (0, 0) M1 Q := by
  intro d
  induction d with
  | zero =>
    intro i M1 hd hx h7
    have hi : i = 12 := by omega
    subst hi
    exact bX10_copy_156 _ _ _ _ _ ⟨fun _ => hcont M1 hx h7, fun z => absurd (Int32.le_refl _) z⟩
  | succ d ih =>
    intro i M1 hd hx h7
    have hS1 := hx.sS hS
    have e1 : 12 * (F1 + x3) + nI i = nI (12 * f + i) := by rw [hF, show (12 : Int32) = nI 12 from rfl, nI_mul, nI_add]
    have e2 : 12 * (T1 + x3) + nI i = nI (12 * t + i) := by rw [hT, show (12 : Int32) = nI 12 from rfl, nI_mul, nI_add]
    refine bX10_copy_156 _ _ _ _ _ ⟨fun z => ?_, fun _ => ⟨hS1.1, ad 7, (hS1.2.1 7 (by decide)).1, 12 * f + i, by rw [e1]; exact hS1.ai (j := 7) (by decide) (by show _ < 5280; omega), 12 * t + i, by rw [e2]; exact hS1.ai (j := 7) (by decide) (by show _ < 5280; omega), ?_⟩⟩
    · exfalso
      have := nle z (a := 12) rfl rfl
      omega
    · rw [nI_1, (hx.2 _ _ (fun z => by omega)).1]
      refine ih (i + 1) _ (by omega) (hx.trans (rX_I ⟨rfl, by omega, by omega⟩)) (fun j hj => ?_)
      by_cases e : j = i
      · rw [xI_sI, if_pos ⟨rfl, by omega⟩, e]
      · rw [xI_sI, if_neg (fun z => by omega)]; exact h7 j (by omega)
end RCP
