/-! THE ABSTRACT TREE: ids with parent, byte, prefix, value, format, page, new or not, children by rising bytes, the bytes that lead there; the root. -/
abbrev TT : Type := (Nat → Bool) × (Nat → Option Nat) × (Nat → Nat) × (Nat → List Nat) × (Nat → Option Int64) × (Nat → Nat) × (Nat → Nat) × (Nat → Bool) × (Nat → List Nat) × (Nat → Nat) × Nat
def tU (T : TT) : Nat → Bool := T.1
def tP (T : TT) : Nat → Option Nat := T.2.1
def tB (T : TT) : Nat → Nat := T.2.2.1
def tX (T : TT) : Nat → List Nat := T.2.2.2.1
def tV (T : TT) : Nat → Option Int64 := T.2.2.2.2.1
def tF (T : TT) : Nat → Nat := T.2.2.2.2.2.1
def tG (T : TT) : Nat → Nat := T.2.2.2.2.2.2.1
def tR (T : TT) : Nat → Bool := T.2.2.2.2.2.2.2.1
def tC (T : TT) : Nat → List Nat := T.2.2.2.2.2.2.2.2.1
def tL (T : TT) : Nat → Nat := T.2.2.2.2.2.2.2.2.2.1
def tO (T : TT) : Nat := T.2.2.2.2.2.2.2.2.2.2
/-- well formed -/
def tWF (T : TT) : Prop :=
  (tU T (tO T) = true ∧ tP T (tO T) = none ∧ tL T (tO T) = 0) ∧
  (∀ n, tU T n = true → n < 220 ∧ tB T n < 256 ∧ (∀ b ∈ tX T n, b < 256) ∧ tL T n + (tX T n).length ≤ 12) ∧
  (∀ n, tU T n = true → n ≠ tO T → ∃ p, tP T n = some p ∧ n ∈ tC T p) ∧
  (∀ n p, tU T n = true → tP T n = some p → tU T p = true ∧ n ∈ tC T p ∧ tL T n = tL T p + (tX T p).length + 1) ∧
  (∀ p c, tU T p = true → c ∈ tC T p → tU T c = true ∧ tP T c = some p) ∧
  (∀ p, tU T p = true → (tC T p).Pairwise (fun x y => tB T x < tB T y))
/-- the way up -/
def tA (T : TT) : Nat → Nat → List Nat
  | 0, n => [n]
  | f + 1, n => n :: (match tP T n with | none => [] | some p => tA T f p)
/-- a node and all below it, each before its children -/
def tE (T : TT) : Nat → Nat → List Nat
  | 0, n => [n]
  | f + 1, n => n :: (tC T n).flatMap (tE T f)
/-- the next among its parent's children -/
def lnx (l : List Nat) (n : Nat) : Option Nat := match l with
  | [] => none
  | a :: r => if a = n then r.head? else lnx r n
def tS (T : TT) (n : Nat) : Option Nat := match tP T n with
  | none => none
  | some p => lnx (tC T p) n
/-- the next node that is not below this one -/
def tH (T : TT) : Nat → Nat → Option Nat
  | 0, n => tS T n
  | f + 1, n => match tS T n with
    | some s => some s
    | none => match tP T n with
      | none => none
      | some p => tH T f p
/-- the next node, each before its children -/
def tN (T : TT) (n : Nat) : Option Nat := match (tC T n).head? with
  | some c => some c
  | none => tH T 13 n
theorem tS_root {T : TT} {n : Nat} (h : tP T n = none) : tS T n = none := by simp [tS, h]
theorem tH_root {T : TT} {n : Nat} (f : Nat) (h : tP T n = none) : tH T f n = none := by
  cases f with
  | zero => exact tS_root h
  | succ f => simp [tH, tS_root h, h]
/-- more fuel than there are bytes ahead changes nothing -/
theorem tH_fuel {T : TT} (hW : tWF T) : ∀ (f k n : Nat), tU T n = true → tL T n ≤ f → tH T (f + k) n = tH T f n
  | 0, k, n, hn, hf => by
    have hr : n = tO T := by
      apply Classical.byContradiction
      intro hne
      obtain ⟨p, hp, -⟩ := hW.2.2.1 n hn hne
      have := (hW.2.2.2.1 n p hn hp).2.2
      omega
    subst hr
    rw [tH_root _ hW.1.2.1, tH_root _ hW.1.2.1]
  | f + 1, k, n, hn, hf => by
    rw [show f + 1 + k = (f + k) + 1 by omega]
    simp only [tH]
    cases hs : tS T n with
    | some s => rfl
    | none =>
      cases hp : tP T n with
      | none => rfl
      | some p =>
        obtain ⟨h1, h2, h3⟩ := hW.2.2.2.1 n p hn hp
        exact tH_fuel hW f k p h1 (by omega)
theorem tH_step {T : TT} (hW : tWF T) {n : Nat} (hn : tU T n = true) : tH T 13 n = match tS T n with
    | some s => some s
    | none => match tP T n with
      | none => none
      | some p => tH T 13 p := by
  cases hp : tP T n with
  | none => rw [tH_root _ hp, tS_root hp]
  | some p =>
    show tH T (12 + 1) n = _
    simp only [tH, hp]
    cases hs : tS T n with
    | some s => rfl
    | none =>
      obtain ⟨h1, h2, h3⟩ := hW.2.2.2.1 n p hn hp
      have h4 := (hW.2.1 p h1).2.2.2
      exact (tH_fuel hW 12 1 p h1 (by omega)).symm
theorem lnx_app {l1 l2 : List Nat} {n : Nat} (h : n ∉ l1) : lnx (l1 ++ n :: l2) n = l2.head? := by
  induction l1 with
  | nil => simp [lnx]
  | cons a r ih =>
    have h1 : a ≠ n := fun q => h (by rw [q]; exact List.mem_cons_self)
    simp only [List.cons_append, lnx, if_neg h1]
    exact ih (fun q => h (List.mem_cons_of_mem _ q))
/-- children are apart -/
theorem tC_nodup {T : TT} (hW : tWF T) {p : Nat} (hp : tU T p = true) : (tC T p).Nodup := by
  have h := hW.2.2.2.2.2 p hp
  exact h.imp (fun h => by intro q; subst q; omega)
theorem tS_child {T : TT} (hW : tWF T) {p n : Nat} {l1 l2 : List Nat} (hp : tU T p = true) (h : tC T p = l1 ++ n :: l2) : tS T n = l2.head? := by
  have hn := hW.2.2.2.2.1 p n hp (by rw [h]; simp)
  have hd := tC_nodup hW hp
  rw [h] at hd
  have hnot : n ∉ l1 := fun q => (List.nodup_append.mp hd).2.2 n q n List.mem_cons_self rfl
  simp only [tS, hn.2, h]
  exact lnx_app hnot
/-- a list along which each node is followed by the next one -/
def tWk (T : TT) : List Nat → Option Nat → Prop
  | [], _ => True
  | [n], e => tN T n = e
  | n :: m :: r, e => tN T n = some m ∧ tWk T (m :: r) e
theorem tWk_app {T : TT} : ∀ (l1 l2 : List Nat) (e : Option Nat), l2 ≠ [] → tWk T l1 l2.head? → tWk T l2 e → tWk T (l1 ++ l2) e
  | [], l2, e, _, _, h2 => h2
  | [n], l2, e, hne, h1, h2 => by
    cases l2 with
    | nil => exact absurd rfl hne
    | cons m r => exact ⟨h1, h2⟩
  | n :: m :: r, l2, e, hne, h1, h2 => ⟨h1.1, tWk_app (m :: r) l2 e hne h1.2 h2⟩
theorem tE_head (T : TT) (f n : Nat) : (tE T f n).head? = some n := by cases f <;> rfl
theorem tE_ne (T : TT) (f n : Nat) : tE T f n ≠ [] := by cases f <;> simp [tE]
/-- the nodes from one on, each before its children, are met one behind the other -/
theorem tE_walk {T : TT} (hW : tWF T) : ∀ (f n : Nat), tU T n = true → 12 ≤ f + tL T n → tWk T (tE T f n) (tH T 13 n)
  | 0, n, hn, hf => by
    have h1 := (hW.2.1 n hn).2.2.2
    show tN T n = tH T 13 n
    unfold tN
    cases hc : (tC T n).head? with
    | none => rfl
    | some c =>
      exfalso
      have hm : c ∈ tC T n := List.mem_of_head? hc
      have h2 := hW.2.2.2.2.1 n c hn hm
      have h3 := (hW.2.2.2.1 c n h2.1 h2.2).2.2
      have h4 := (hW.2.1 c h2.1).2.2.2
      omega
  | f + 1, n, hn, hf => by
    have key : ∀ (l1 l2 : List Nat), tC T n = l1 ++ l2 → l2 ≠ [] → tWk T (l2.flatMap (tE T f)) (tH T 13 n) := by
      intro l1 l2
      induction l2 generalizing l1 with
      | nil => intro _ h; exact absurd rfl h
      | cons c r ih =>
        intro hc _
        have hcm : c ∈ tC T n := by rw [hc]; simp
        have hcu := hW.2.2.2.2.1 n c hn hcm
        have hcl := (hW.2.2.2.1 c n hcu.1 hcu.2).2.2
        have hw := tE_walk hW f c hcu.1 (by omega)
        have hs : tS T c = r.head? := tS_child hW hn hc
        rw [List.flatMap_cons]
        cases r with
        | nil =>
          rw [List.flatMap_nil, List.append_nil]
          rw [tH_step hW hcu.1, hs, hcu.2] at hw
          exact hw
        | cons c2 r2 =>
          refine tWk_app _ _ _ ?_ ?_ (ih (l1 ++ [c]) (by rw [hc]; simp) (by simp))
          · simp only [List.flatMap_cons]
            intro q
            exact tE_ne T f c2 (List.append_eq_nil_iff.mp q).1
          · rw [tH_step hW hcu.1, hs] at hw
            simp only [List.head?_cons] at hw
            have : (List.flatMap (tE T f) (c2 :: r2)).head? = some c2 := by
              rw [List.flatMap_cons, List.head?_append, tE_head]; rfl
            rw [this]; exact hw
    cases hc : tC T n with
    | nil =>
      simp only [tE, hc, List.flatMap_nil]
      show tN T n = _
      simp [tN, hc]
    | cons c r =>
      simp only [tE, hc, List.flatMap_cons]
      have h1 := key [] (c :: r) hc (by simp)
      rw [List.flatMap_cons] at h1
      refine tWk_app [n] (tE T f c ++ List.flatMap (tE T f) r) _ ?_ ?_ h1
      · intro q; exact tE_ne T f c (List.append_eq_nil_iff.mp q).1
      · show tN T n = (tE T f c ++ List.flatMap (tE T f) r).head?
        simp only [tN, hc, List.head?_cons]
        rw [List.head?_append, tE_head]; rfl
