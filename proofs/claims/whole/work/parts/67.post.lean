/-! Each node behind its children. -/
def tPo (T : TT) : Nat → Nat → List Nat
  | 0, n => [n]
  | f + 1, n => (tC T n).flatMap (tPo T f) ++ [n]
def tPs (T : TT) : List Nat := tPo T 13 (tO T)
/-- a list along which each node is followed by the next one of that order -/
def tWa (T : TT) : List Nat → Option Nat → Prop
  | [], _ => True
  | [n], e => tAb T n = e
  | n :: m :: r, e => tAb T n = some m ∧ tWa T (m :: r) e
section PO
variable {T : TT}
theorem tWa_app : ∀ (l1 l2 : List Nat) (e : Option Nat), l2 ≠ [] → tWa T l1 l2.head? → tWa T l2 e → tWa T (l1 ++ l2) e
  | [], l2, e, _, _, h2 => h2
  | [n], l2, e, hne, h1, h2 => by
    cases l2 with
    | nil => exact absurd rfl hne
    | cons m r => exact ⟨h1, h2⟩
  | n :: m :: r, l2, e, hne, h1, h2 => ⟨h1.1, tWa_app (m :: r) l2 e hne h1.2 h2⟩
theorem tPo_ne (f n : Nat) : tPo T f n ≠ [] := by cases f <;> simp [tPo]
theorem tC_none12 (hW : tWF T) {n : Nat} (hn : tU T n = true) (h : 12 ≤ tL T n) : tC T n = [] := by
  cases hc : tC T n with
  | nil => rfl
  | cons c r =>
    exfalso
    have h2 := hW.2.2.2.2.1 n c hn (by rw [hc]; exact List.mem_cons_self)
    have h3 := (hW.2.2.2.1 c n h2.1 h2.2).2.2
    have h4 := (hW.2.1 c h2.1).2.2.2
    omega
theorem tD_fuel (hW : tWF T) : ∀ (f k n : Nat), tU T n = true → 12 ≤ f + tL T n → tD T (f + k) n = tD T f n
  | 0, k, n, hn, hf => by
    have hc := tC_none12 hW hn (by omega)
    cases k with
    | zero => rfl
    | succ k => rw [Nat.zero_add]; simp only [tD, hc, List.head?_nil]
  | f + 1, k, n, hn, hf => by
    rw [show f + 1 + k = (f + k) + 1 by omega]
    simp only [tD]
    cases hc : (tC T n).head? with
    | none => rfl
    | some c =>
      have h2 := hW.2.2.2.2.1 n c hn (List.mem_of_head? hc)
      have h3 := (hW.2.2.2.1 c n h2.1 h2.2).2.2
      exact tD_fuel hW f k c h2.1 (by omega)
theorem tPo_head (hW : tWF T) : ∀ (f n : Nat), tU T n = true → 12 ≤ f + tL T n → (tPo T f n).head? = some (tD T 13 n)
  | 0, n, hn, hf => by
    have hc := tC_none12 hW hn (by omega)
    show some n = _
    rw [show (13 : Nat) = 12 + 1 from rfl]
    simp only [tD, hc, List.head?_nil]
  | f + 1, n, hn, hf => by
    simp only [tPo]
    cases hc : tC T n with
    | nil =>
      rw [show (13 : Nat) = 12 + 1 from rfl]
      simp only [tD, hc, List.head?_nil, List.flatMap_nil, List.nil_append, List.head?_cons]
    | cons c r =>
      have h2 := hW.2.2.2.2.1 n c hn (by rw [hc]; exact List.mem_cons_self)
      have h3 := (hW.2.2.2.1 c n h2.1 h2.2).2.2
      have ih := tPo_head hW f c h2.1 (by omega)
      rw [List.flatMap_cons, List.append_assoc, List.head?_append, ih]
      have e1 : tD T 13 c = tD T 12 c := tD_fuel hW 12 1 c h2.1 (by omega)
      have e2 : tD T (12 + 1) n = tD T 12 c := by rw [tD, hc, List.head?_cons]
      rw [e1]
      show some (tD T 12 c) = some (tD T (12 + 1) n)
      rw [e2]
theorem tPo_walk (hW : tWF T) : ∀ (f n : Nat), tU T n = true → 12 ≤ f + tL T n → tWa T (tPo T f n) (tAb T n)
  | 0, n, hn, hf => rfl
  | f + 1, n, hn, hf => by
    have key : ∀ (l2 l1 : List Nat), tC T n = l1 ++ l2 → l2 ≠ [] → tWa T (l2.flatMap (tPo T f)) (some n) := by
      intro l2
      induction l2 with
      | nil => intro _ _ h; exact absurd rfl h
      | cons c r ih =>
        intro l1 hc _
        have hcm : c ∈ tC T n := by rw [hc]; simp
        have hcu := hW.2.2.2.2.1 n c hn hcm
        have hcl := (hW.2.2.2.1 c n hcu.1 hcu.2).2.2
        have hw := tPo_walk hW f c hcu.1 (by omega)
        have hs : tS T c = r.head? := tS_child hW hn hc
        rw [List.flatMap_cons]
        cases r with
        | nil =>
          rw [List.flatMap_nil, List.append_nil]
          have e : tAb T c = some n := by unfold tAb; rw [hs]; exact hcu.2
          rw [← e]; exact hw
        | cons d r =>
          have hdm : d ∈ tC T n := by rw [hc]; simp
          have hdu := hW.2.2.2.2.1 n d hn hdm
          have hdl := (hW.2.2.2.1 d n hdu.1 hdu.2).2.2
          refine tWa_app _ _ _ ?_ ?_ (ih (l1 ++ [c]) (by rw [hc]; simp) (by simp))
          · rw [List.flatMap_cons]
            intro z
            exact tPo_ne f d (List.append_eq_nil_iff.mp z).1
          · have e : tAb T c = ((d :: r).flatMap (tPo T f)).head? := by
              unfold tAb
              rw [hs, List.head?_cons, List.flatMap_cons, List.head?_append, tPo_head hW f d hdu.1 (by omega)]
              rfl
            rw [← e]; exact hw
    show tWa T ((tC T n).flatMap (tPo T f) ++ [n]) (tAb T n)
    cases hc : tC T n with
    | nil => exact rfl
    | cons c r =>
      refine tWa_app _ _ _ (by simp) ?_ rfl
      rw [← hc]
      exact key (tC T n) [] rfl (by rw [hc]; simp)
theorem tWa_suf : ∀ (l1 l2 : List Nat) (e : Option Nat), tWa T (l1 ++ l2) e → tWa T l2 e
  | [], l2, e, h => h
  | [n], [], e, h => trivial
  | [n], m :: r, e, h => h.2
  | n :: m :: r, l2, e, h => tWa_suf (m :: r) l2 e h.2
theorem tWa_head {n : Nat} {r : List Nat} (h : tWa T (n :: r) none) : tAb T n = r.head? := by
  cases r with
  | nil => exact h
  | cons m r => exact h.1
theorem tPo_mem (hW : tWF T) : ∀ (f n : Nat), tU T n = true → 12 ≤ f + tL T n → ∀ x, x ∈ tPo T f n ↔ x ∈ tE T f n
  | 0, n, hn, hf, x => Iff.rfl
  | f + 1, n, hn, hf, x => by
    simp only [tPo, tE, List.mem_append, List.mem_cons, List.mem_flatMap, List.mem_singleton, List.not_mem_nil, or_false]
    have hh : (∃ a, a ∈ tC T n ∧ x ∈ tPo T f a) ↔ (∃ a, a ∈ tC T n ∧ x ∈ tE T f a) := by
      constructor
      · rintro ⟨a, ha, hx⟩
        have h2 := hW.2.2.2.2.1 n a hn ha
        have h3 := (hW.2.2.2.1 a n h2.1 h2.2).2.2
        exact ⟨a, ha, (tPo_mem hW f a h2.1 (by omega) x).mp hx⟩
      · rintro ⟨a, ha, hx⟩
        have h2 := hW.2.2.2.2.1 n a hn ha
        have h3 := (hW.2.2.2.1 a n h2.1 h2.2).2.2
        exact ⟨a, ha, (tPo_mem hW f a h2.1 (by omega) x).mpr hx⟩
    rw [hh]
    exact Or.comm
theorem tPo_perm (hW : tWF T) : ∀ (f n : Nat), tU T n = true → 12 ≤ f + tL T n → (tPo T f n).Perm (tE T f n)
  | 0, n, hn, hf => List.Perm.refl _
  | f + 1, n, hn, hf => by
    simp only [tPo, tE]
    refine (List.perm_append_comm).trans ?_
    show (n :: (tC T n).flatMap (tPo T f)).Perm _
    refine List.Perm.cons n ?_
    have key : ∀ (l2 l1 : List Nat), tC T n = l1 ++ l2 → (l2.flatMap (tPo T f)).Perm (l2.flatMap (tE T f)) := by
      intro l2
      induction l2 with
      | nil => intro _ _; exact List.Perm.refl _
      | cons c r ih =>
        intro l1 hc
        have h2 := hW.2.2.2.2.1 n c hn (by rw [hc]; simp)
        have h3 := (hW.2.2.2.1 c n h2.1 h2.2).2.2
        rw [List.flatMap_cons, List.flatMap_cons]
        exact List.Perm.append (tPo_perm hW f c h2.1 (by omega)) (ih (l1 ++ [c]) (by rw [hc]; simp))
    exact key (tC T n) [] rfl
theorem tPs_mem (hW : tWF T) {n : Nat} : n ∈ tPs T ↔ tU T n = true :=
  (tPo_mem hW 13 (tO T) hW.1.1 (by omega) n).trans (tEs_mem hW)
theorem tPs_nodup (hW : tWF T) : (tPs T).Nodup := (tPo_perm hW 13 (tO T) hW.1.1 (by omega)).nodup_iff.mpr (tEs_nodup hW)
theorem tPs_head (hW : tWF T) : (tPs T).head? = some (tD T 13 (tO T)) := tPo_head hW 13 (tO T) hW.1.1 (by omega)
theorem tPs_at (hW : tWF T) {l1 r : List Nat} {n : Nat} (h : tPs T = l1 ++ n :: r) : tU T n = true ∧ tAb T n = r.head? := by
  have h1 : tU T n = true := (tPs_mem hW).mp (by rw [h]; simp)
  have h2 := tPo_walk hW 13 (tO T) hW.1.1 (by omega)
  have e : tAb T (tO T) = none := by
    unfold tAb
    rw [tS_root hW.1.2.1]; exact hW.1.2.1
  rw [e] at h2
  have h3 : tWa T (l1 ++ n :: r) none := by rw [← h]; exact h2
  exact ⟨h1, tWa_head (tWa_suf _ _ _ h3)⟩
end PO
