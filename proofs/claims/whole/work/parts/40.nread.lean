/-! THE CLASS'S NODES: what the cells of the nodes hold, by the abstract tree; the methods that read them. phi: a node's address, psi: its prefix's array. -/
def cN (M : xM) (φ ψ : Nat → Nat) (T : TT) (n : Nat) : Prop :=
  (xat M (φ n) 1 ∧ xR M (φ n) 0 = some (ψ (φ n)) ∧ xat M (ψ (φ n)) 9 ∧ xN M (ψ (φ n)) = 12) ∧
  (xI M (φ n) 1 = nI (tX T n).length ∧ ∀ i, i < (tX T n).length → xI M (ψ (φ n)) i = nI ((tX T n).getD i 0)) ∧
  (xI M (φ n) 2 = nI (tF T n) ∧ xI M (φ n) 3 = (if (tV T n).isSome = true then 1 else 0) ∧ xJ M (φ n) 4 = (tV T n).getD 0 ∧ xI M (φ n) 5 = nI (tC T n).length ∧ xI M (φ n) 6 = nI (tB T n) ∧ xI M (φ n) 7 = nI (tG T n) ∧ xI M (φ n) 8 = (if tR T n = true then 1 else 0)) ∧
  (xR M (φ n) 9 = (tP T n).map φ ∧ xR M (φ n) 10 = (tC T n).head?.map φ ∧ xR M (φ n) 11 = (tS T n).map φ)
def cNs (M : xM) (φ ψ : Nat → Nat) (T : TT) : Prop := ∀ n, tU T n = true → cN M φ ψ T n
section NR
variable {l : Launch} {g : xG} {M : xM} {Q : Option Value → xM → Prop} {φ ψ : Nat → Nat} {T : TT}
theorem sX3_prefixAt0 {a pa k j : Nat} (h1 : xat M a 1) (h2 : xR M a 0 = some pa) (h3 : xat M pa 9) (h4 : xN M pa = 12) (hk : xI M a 1 = nI k) (hk12 : k ≤ 12) (hj : j < 2 ^ 31) (hQ : Q (some (.int (if j < k then xI M pa j else 0))) M) : xSp l g mX3_prefixAt 0 0 [va_rf (some a), .int (nI j)] M Q := by
  refine eX3_prefixAt a _ (bX3_prefixAt_0 a _ ⟨fun c => (nneg c rfl).elim, fun _ => ⟨h1, fun c => ?_, fun c => ⟨pa, h2, h3, fun c2 => ?_, fun c2 => ⟨j, ⟨h3, rfl, ?_, by omega⟩, ?_⟩⟩⟩⟩)
  · have c1 := nle c hk rfl
    rw [if_neg (by omega)] at hQ; exact hQ
  · have c1 := nnle c hk rfl
    have c3 := nle c2 rfl rfl
    omega
  · have c1 := nnle c hk rfl
    omega
  · have c1 := nnle c hk rfl
    rw [if_pos c1] at hQ; exact hQ
theorem tX_le (hW : tWF T) {n : Nat} (hn : tU T n = true) : (tX T n).length ≤ 12 ∧ tL T n ≤ 12 := by
  have := (hW.2.1 n hn).2.2.2
  omega
theorem sX3_prefixAt (hW : tWF T) (hc : cNs M φ ψ T) {n j : Nat} (hn : tU T n = true) (hj : j < 2 ^ 31) (hQ : Q (some (.int (nI ((tX T n).getD j 0)))) M) : xSp l g mX3_prefixAt 0 0 [va_rf (some (φ n)), .int (nI j)] M Q := by
  obtain ⟨⟨h1, h2, h3, h4⟩, ⟨h5, h6⟩, -, -⟩ := hc n hn
  refine sX3_prefixAt0 h1 h2 h3 h4 h5 (tX_le hW hn).1 hj ?_
  by_cases hlt : j < (tX T n).length
  · rw [if_pos hlt, h6 j hlt]; exact hQ
  · rw [if_neg hlt]
    have : (tX T n).getD j 0 = 0 := by simp [List.getD_eq_getElem?_getD, List.getElem?_eq_none (by omega : (tX T n).length ≤ j)]
    rw [this] at hQ; exact hQ
theorem lead_loop (hW : tWF T) (hc : cNs M φ ψ T) (a0 : Nat) : ∀ (f p s : Nat), tU T p = true → tL T p ≤ f → Q (some (.int (nI (s + (tL T p + (tX T p).length + 1))))) M → xWp l g mX3_lead 0 0 7 [(1, va_rf (some a0)), (1, .int (nI s)), (1, va_rf (some (φ p)))] [] (0, 0) M Q
  | f, p, s, hp, hf, hQ => by
    obtain ⟨⟨h1, -⟩, ⟨h5, -⟩, -, ⟨h9, -⟩⟩ := hc p hp
    refine bX3_lead_7 _ _ _ ⟨fun c => (by cases c), fun _ => ⟨φ p, rfl, h1, ?_⟩⟩
    rw [h5, h9, nI_1, nI_add]
    cases hq : tP T p with
    | none =>
      have hr : p = tO T := by
        apply Classical.byContradiction
        intro hne
        obtain ⟨q, hq2, -⟩ := hW.2.2.1 p hp hne
        rw [hq] at hq2; cases hq2
      refine bX3_lead_7 _ _ _ ⟨fun _ => ?_, fun c => absurd rfl c⟩
      rw [hr, hW.1.2.2] at hQ
      rw [hr]
      simpa using hQ
    | some q =>
      obtain ⟨k1, k2, k3⟩ := hW.2.2.2.1 p q hp hq
      match f, hf with
      | 0, hf => omega
      | f + 1, hf =>
        refine lead_loop hW hc a0 f q _ k1 (by omega) ?_
        rw [k3] at hQ
        rw [show s + ((tX T p).length + 1) + (tL T q + (tX T q).length + 1) = s + (tL T q + (tX T q).length + 1 + (tX T p).length + 1) by omega]
        exact hQ
theorem sX3_lead (hW : tWF T) (hc : cNs M φ ψ T) {n : Nat} (hn : tU T n = true) (hQ : Q (some (.int (nI (tL T n)))) M) : xSp l g mX3_lead 0 0 [va_rf (some (φ n))] M Q := by
  obtain ⟨⟨h1, -⟩, -, -, ⟨h9, -⟩⟩ := hc n hn
  refine eX3_lead _ (bX3_lead_0 _ ⟨h1, ?_⟩)
  rw [h9]
  cases hq : tP T n with
  | none =>
    have hr : n = tO T := by
      apply Classical.byContradiction
      intro hne
      obtain ⟨q, hq2, -⟩ := hW.2.2.1 n hn hne
      rw [hq] at hq2; cases hq2
    refine bX3_lead_7 _ _ _ ⟨fun _ => ?_, fun c => absurd rfl c⟩
    rw [hr, hW.1.2.2] at hQ
    exact hQ
  | some q =>
    obtain ⟨k1, k2, k3⟩ := hW.2.2.2.1 n q hn hq
    refine lead_loop hW hc _ 12 q 0 k1 (tX_le hW k1).2 ?_
    rw [Nat.zero_add, ← k3]
    exact hQ
/-- how many nodes from the root to this one -/
def tLv (T : TT) : Nat → Nat → Nat
  | 0, _ => 1
  | f + 1, n => match tP T n with | none => 1 | some p => tLv T f p + 1
theorem tLv_fuel (hW : tWF T) : ∀ (f k n : Nat), tU T n = true → tL T n ≤ f → tLv T (f + k) n = tLv T f n
  | 0, k, n, hn, hf => by
    have hr : tP T n = none := by
      cases hp : tP T n with
      | none => rfl
      | some p =>
        have := (hW.2.2.2.1 n p hn hp).2.2
        omega
    cases k with
    | zero => rfl
    | succ k => rw [Nat.zero_add]; simp [tLv, hr]
  | f + 1, k, n, hn, hf => by
    rw [show f + 1 + k = (f + k) + 1 by omega]
    simp only [tLv]
    cases hp : tP T n with
    | none => rfl
    | some p =>
      obtain ⟨h1, h2, h3⟩ := hW.2.2.2.1 n p hn hp
      simp only [tLv_fuel hW f k p h1 (by omega)]
theorem level_loop (hW : tWF T) (hc : cNs M φ ψ T) (a0 : Nat) : ∀ (f p s : Nat), tU T p = true → tL T p ≤ f → Q (some (.int (nI (s + tLv T f p)))) M → xWp l g mX3_level 0 0 4 [(1, va_rf (some a0)), (1, .int (nI s)), (1, va_rf (some (φ p)))] [] (0, 0) M Q
  | f, p, s, hp, hf, hQ => by
    obtain ⟨⟨h1, -⟩, -, -, ⟨h9, -⟩⟩ := hc p hp
    refine bX3_level_4 _ _ _ ⟨fun c => (by cases c), fun _ => ⟨φ p, rfl, h1, ?_⟩⟩
    rw [h9, nI_1]
    cases hq : tP T p with
    | none =>
      refine bX3_level_4 _ _ _ ⟨fun _ => ?_, fun c => absurd rfl c⟩
      cases f with
      | zero => exact hQ
      | succ f => simp only [tLv, hq] at hQ; exact hQ
    | some q =>
      obtain ⟨k1, k2, k3⟩ := hW.2.2.2.1 p q hp hq
      match f, hf, hQ with
      | 0, hf, _ => omega
      | f + 1, hf, hQ =>
        refine level_loop hW hc a0 f q _ k1 (by omega) ?_
        simp only [tLv, hq] at hQ
        rw [show s + 1 + tLv T f q = s + (tLv T f q + 1) by omega]
        exact hQ
theorem sX3_level (hW : tWF T) (hc : cNs M φ ψ T) {n : Nat} (hn : tU T n = true) (hQ : Q (some (.int (nI (tLv T 12 n)))) M) : xSp l g mX3_level 0 0 [va_rf (some (φ n))] M Q := by
  refine eX3_level _ (bX3_level_0 _ (level_loop hW hc _ 12 n 0 hn (tX_le hW hn).2 ?_))
  rw [Nat.zero_add]; exact hQ
theorem behind_loop (hW : tWF T) (hc : cNs M φ ψ T) (a0 : Nat) : ∀ (f p : Nat), tU T p = true → tL T p ≤ f → Q (some (va_rf ((tH T f p).map φ))) M → xWp l g mX3_behind 0 0 2 [(1, va_rf (some a0)), (1, va_rf (some (φ p)))] [] (0, 0) M Q
  | f, p, hp, hf, hQ => by
    obtain ⟨⟨h1, -⟩, -, -, ⟨h9, -, h11⟩⟩ := hc p hp
    refine bX3_behind_2 _ _ ⟨fun c => (by cases c), fun _ => ⟨φ p, rfl, h1, fun c => ?_, fun c => ?_⟩⟩
    · rw [h11] at c
      have hs : tS T p = none := by
        cases hs : tS T p with
        | none => rfl
        | some s => rw [hs] at c; cases c
      rw [h9]
      cases hq : tP T p with
      | none =>
        refine bX3_behind_2 _ _ ⟨fun _ => ?_, fun c => absurd rfl c⟩
        rw [tH_root _ hq] at hQ
        exact hQ
      | some q =>
        obtain ⟨k1, k2, k3⟩ := hW.2.2.2.1 p q hp hq
        match f, hf, hQ with
        | 0, hf, _ => omega
        | f + 1, hf, hQ =>
          simp only [tH, hs, hq] at hQ
          exact behind_loop hW hc a0 f q k1 (by omega) hQ
    · rw [h11] at c ⊢
      cases hs : tS T p with
      | none => rw [hs] at c; exact absurd rfl c
      | some s =>
        cases f with
        | zero => simp only [tH, hs] at hQ; exact hQ
        | succ f => simp only [tH, hs] at hQ; exact hQ
theorem sX3_behind (hW : tWF T) (hc : cNs M φ ψ T) {n : Nat} (hn : tU T n = true) (hQ : Q (some (va_rf ((tH T 13 n).map φ))) M) : xSp l g mX3_behind 0 0 [va_rf (some (φ n))] M Q :=
  eX3_behind _ (bX3_behind_0 _ (behind_loop hW hc _ 13 n hn (Nat.le_trans (tX_le hW hn).2 (by decide)) hQ))
theorem sX3_following (hW : tWF T) (hc : cNs M φ ψ T) {n : Nat} (hn : tU T n = true) (hQ : Q (some (va_rf ((tN T n).map φ))) M) : xSp l g mX3_following 0 0 [va_rf (some (φ n))] M Q := by
  obtain ⟨⟨h1, -⟩, -, -, ⟨-, h10, -⟩⟩ := hc n hn
  refine eX3_following _ (bX3_following_0 _ ⟨h1, fun c => ?_, fun c => ?_⟩)
  · rw [h10] at c
    refine sX3_behind hW hc hn ⟨_, rfl, ?_⟩
    cases hh : (tC T n).head? with
    | none => simp only [tN, hh] at hQ; exact hQ
    | some x => rw [hh] at c; cases c
  · rw [h10] at c ⊢
    cases hh : (tC T n).head? with
    | none => rw [hh] at c; exact absurd rfl c
    | some x => simp only [tN, hh] at hQ; exact hQ
/-- the first of all below, itself too, each behind its children -/
def tD (T : TT) : Nat → Nat → Nat
  | 0, n => n
  | f + 1, n => match (tC T n).head? with | none => n | some c => tD T f c
def tAb (T : TT) (n : Nat) : Option Nat := match tS T n with
  | some s => some (tD T 13 s)
  | none => tP T n
theorem lowest_loop (hW : tWF T) (hc : cNs M φ ψ T) (a0 : Nat) : ∀ (f p : Nat), tU T p = true → 12 ≤ f + tL T p → Q (some (va_rf (some (φ (tD T f p))))) M → xWp l g mX3_lowest 0 0 7 [(1, va_rf (some a0)), (1, va_rf (some (φ p))), (1, va_rf ((tC T p).head?.map φ))] [] (0, 0) M Q
  | f, p, hp, hf, hQ => by
    cases hh : (tC T p).head? with
    | none =>
      refine bX3_lowest_7 _ _ _ ⟨fun _ => ?_, fun c => absurd rfl c⟩
      cases f with
      | zero => exact hQ
      | succ f => simp only [tD, hh] at hQ; exact hQ
    | some x =>
      have hx := hW.2.2.2.2.1 p x hp (List.mem_of_head? hh)
      obtain ⟨k1, k2, k3⟩ := hW.2.2.2.1 x p hx.1 hx.2
      have k4 := (hW.2.1 x hx.1).2.2.2
      obtain ⟨⟨h1, -⟩, -, -, ⟨-, h10, -⟩⟩ := hc x hx.1
      refine bX3_lowest_7 _ _ _ ⟨fun c => (by cases c), fun _ => ⟨φ x, rfl, h1, ?_⟩⟩
      rw [h10]
      match f, hf, hQ with
      | 0, hf, _ => omega
      | f + 1, hf, hQ =>
        simp only [tD, hh] at hQ
        exact lowest_loop hW hc a0 f x hx.1 (by omega) hQ
theorem sX3_lowest (hW : tWF T) (hc : cNs M φ ψ T) {n : Nat} (hn : tU T n = true) (hQ : Q (some (va_rf (some (φ (tD T 13 n))))) M) : xSp l g mX3_lowest 0 0 [va_rf (some (φ n))] M Q := by
  obtain ⟨⟨h1, -⟩, -, -, ⟨-, h10, -⟩⟩ := hc n hn
  refine eX3_lowest _ (bX3_lowest_0 _ ⟨h1, ?_⟩)
  rw [h10]
  exact lowest_loop hW hc _ 13 n hn (by omega) hQ
theorem tS_used (hW : tWF T) {n s : Nat} (hn : tU T n = true) (h : tS T n = some s) : tU T s = true := by
  cases hp : tP T n with
  | none => simp [tS, hp] at h
  | some p =>
    obtain ⟨k1, k2, k3⟩ := hW.2.2.2.1 n p hn hp
    obtain ⟨l1, l2, hl⟩ := List.append_of_mem k2
    rw [tS_child hW k1 hl] at h
    exact (hW.2.2.2.2.1 p s k1 (by rw [hl]; exact List.mem_append_right _ (List.mem_cons_of_mem _ (List.mem_of_head? h)))).1
theorem sX3_above (hW : tWF T) (hc : cNs M φ ψ T) {n : Nat} (hn : tU T n = true) (hQ : Q (some (va_rf ((tAb T n).map φ))) M) : xSp l g mX3_above 0 0 [va_rf (some (φ n))] M Q := by
  obtain ⟨⟨h1, -⟩, -, -, ⟨h9, -, h11⟩⟩ := hc n hn
  refine eX3_above _ (bX3_above_0 _ ⟨h1, fun c => ?_, fun c => ?_⟩)
  · rw [h11] at c
    rw [h9]
    cases hs : tS T n with
    | none => simp only [tAb, hs] at hQ; exact hQ
    | some s => rw [hs] at c; cases c
  · rw [h11] at c ⊢
    cases hs : tS T n with
    | none => rw [hs] at c; exact absurd rfl c
    | some s =>
      have hu := tS_used hW hn hs
      refine ⟨φ s, rfl, (hc s hu).1.1, sX3_lowest hW hc hu ⟨_, rfl, ?_⟩⟩
      simp only [tAb, hs] at hQ
      exact hQ
/-- the first child whose byte is b or above it -/
def tK (T : TT) (n b : Nat) : Option Nat := (tC T n).find? (fun c => decide (b ≤ tB T c))
theorem first_loop (hW : tWF T) (hc : cNs M φ ψ T) (a0 : Nat) {n b : Nat} (hn : tU T n = true) (hb : b < 2 ^ 31) : ∀ (l2 l1 : List Nat), tC T n = l1 ++ l2 → Q (some (va_rf ((l2.find? (fun c => decide (b ≤ tB T c))).map φ))) M → xWp l g mX3_firstFrom 0 0 5 [(1, va_rf (some a0)), (1, .int (nI b)), (1, va_rf (l2.head?.map φ))] [] (0, 0) M Q
  | [], l1, _, hQ => bX3_firstFrom_5 _ _ _ ⟨fun _ => hQ, fun c => absurd rfl c⟩
  | x :: r, l1, hl, hQ => by
    have hx := hW.2.2.2.2.1 n x hn (by rw [hl]; simp)
    have hxb := (hW.2.1 x hx.1).2.1
    obtain ⟨⟨h1, -⟩, -, ⟨-, -, -, -, h6, -⟩, ⟨-, -, h11⟩⟩ := hc x hx.1
    refine bX3_firstFrom_5 _ _ _ ⟨fun c => (by cases c), fun _ => ⟨φ x, rfl, h1, fun c => ?_, fun c => ?_⟩⟩
    · have c1 := nlt c h6 rfl
      rw [h11, tS_child hW hn hl]
      refine first_loop hW hc a0 hn hb r (l1 ++ [x]) (by rw [hl]; simp) ?_
      rw [List.find?_cons_of_neg (by simp; omega)] at hQ
      exact hQ
    · have c1 := nnlt c h6 rfl
      rw [List.find?_cons_of_pos (by simp; omega)] at hQ
      exact hQ
theorem sX3_firstFrom (hW : tWF T) (hc : cNs M φ ψ T) {n b : Nat} (hn : tU T n = true) (hb : b < 2 ^ 31) (hQ : Q (some (va_rf ((tK T n b).map φ))) M) : xSp l g mX3_firstFrom 0 0 [va_rf (some (φ n)), .int (nI b)] M Q := by
  obtain ⟨⟨h1, -⟩, -, -, ⟨-, h10, -⟩⟩ := hc n hn
  refine eX3_firstFrom _ _ (bX3_firstFrom_0 _ _ ⟨h1, ?_⟩)
  rw [h10]
  exact first_loop hW hc _ hn hb (tC T n) [] rfl hQ
theorem tK_mem {n b k : Nat} (h : tK T n b = some k) : k ∈ tC T n ∧ b ≤ tB T k := by
  have h1 := List.find?_some h
  exact ⟨List.mem_of_find?_eq_some h, by simpa using h1⟩
/-- the child by the byte b -/
def tKb (T : TT) (n b : Nat) : Option Nat := match tK T n b with
  | none => none
  | some k => if tB T k = b then some k else none
theorem sX3_childBy (hW : tWF T) (hc : cNs M φ ψ T) {n b : Nat} (hn : tU T n = true) (hb : b < 2 ^ 31) (hQ : Q (some (va_rf ((tKb T n b).map φ))) M) : xSp l g mX3_childBy 0 0 [va_rf (some (φ n)), .int (nI b)] M Q := by
  have h1 := (hc n hn).1.1
  refine eX3_childBy _ _ (bX3_childBy_0 _ _ ⟨h1, sX3_firstFrom hW hc hn hb ⟨_, rfl, fun c => ?_, fun c => ?_⟩⟩)
  · cases hk : tK T n b with
    | none => simp only [tKb, hk] at hQ; exact hQ
    | some k => rw [hk] at c; cases c
  · cases hk : tK T n b with
    | none => rw [hk] at c; exact absurd rfl c
    | some k =>
      have hx := hW.2.2.2.2.1 n k hn (tK_mem hk).1
      have hxb := (hW.2.1 k hx.1).2.1
      obtain ⟨⟨h1, -⟩, -, ⟨-, -, -, -, h6, -⟩, -⟩ := hc k hx.1
      refine ⟨φ k, rfl, h1, fun c => ?_, fun c => ?_⟩
      · have c1 := nne c h6 rfl
        simp only [tKb, hk, if_neg c1] at hQ; exact hQ
      · have c1 := neq c h6 rfl
        simp only [tKb, hk, if_pos c1] at hQ; exact hQ
end NR
