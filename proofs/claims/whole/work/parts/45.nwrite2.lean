/-! The nodes' writing methods, on: freshen, yieldTo, prefixes, values. -/
def frs (M : xM) : List Nat → xM
  | [] => M
  | a :: r => frs (xsI (xsI M a 8 1) a 7 0) r
theorem frs_same : ∀ (s : List Nat) (M : xM), xL (frs M s) = xL M ∧ xK (frs M s) = xK M ∧ xN (frs M s) = xN M ∧ xJ (frs M s) = xJ M ∧ xR (frs M s) = xR M
  | [], M => ⟨rfl, rfl, rfl, rfl, rfl⟩
  | a :: r, M => frs_same r (xsI (xsI M a 8 1) a 7 0)
theorem frs_I : ∀ (s : List Nat) (M : xM) (x j : Nat), xI (frs M s) x j = if x ∈ s ∧ j = 7 then 0 else if x ∈ s ∧ j = 8 then 1 else xI M x j
  | [], M, x, j => by simp [frs]
  | a :: r, M, x, j => by
    show xI (frs (xsI (xsI M a 8 1) a 7 0) r) x j = _
    rw [frs_I r]
    simp only [xI_sI, List.mem_cons]
    by_cases h1 : x ∈ r
    · by_cases h7 : j = 7
      · simp [h1, h7]
      · by_cases h8 : j = 8
        · simp [h1, h8]
        · simp [h7, h8]
    · by_cases hx : x = a
      · by_cases h7 : j = 7
        · simp [hx, h7]
        · by_cases h8 : j = 8
          · simp [hx, h8]
          · simp [h7, h8]
      · simp [h1, hx]
section NW2
variable {l : Launch} {g : xG} {M : xM} {Q : Option Value → xM → Prop} {φ ψ : Nat → Nat} {T : TT}
/-- the parents are known -/
def pN (M : xM) (φ : Nat → Nat) (T : TT) : Prop := ∀ n, tU T n = true → xat M (φ n) 1 ∧ xR M (φ n) 9 = (tP T n).map φ
theorem cNs.pN {M : xM} {φ ψ : Nat → Nat} {T : TT} (h : cNs M φ ψ T) : pN M φ T := fun n hn => ⟨(h n hn).1.1, (h n hn).2.2.2.1⟩
theorem tA_fuel (hW : tWF T) : ∀ (f k n : Nat), tU T n = true → tL T n ≤ f → tA T (f + k) n = tA T f n
  | 0, k, n, hn, hf => by
    have hr : tP T n = none := by
      cases hp : tP T n with
      | none => rfl
      | some p =>
        have := (hW.2.2.2.1 n p hn hp).2.2
        omega
    cases k with
    | zero => rfl
    | succ k => rw [Nat.zero_add]; simp [tA, hr]
  | f + 1, k, n, hn, hf => by
    rw [show f + 1 + k = (f + k) + 1 by omega]
    simp only [tA]
    cases hp : tP T n with
    | none => rfl
    | some p =>
      obtain ⟨h1, h2, h3⟩ := hW.2.2.2.1 n p hn hp
      simp only [tA_fuel hW f k p h1 (by omega)]
theorem freshen_loop (hW : tWF T) (a0 : Nat) : ∀ (f n : Nat) (M : xM), pN M φ T → tU T n = true → tL T n ≤ f → Q none (frs M ((tA T f n).map φ)) → xWp l g mX3_freshen 0 0 2 [(1, va_rf (some a0)), (1, va_rf (some (φ n)))] [] (0, 0) M Q
  | f, n, M, hp, hn, hf, hQ => by
    obtain ⟨h1, h9⟩ := hp n hn
    refine bX3_freshen_2 _ _ ⟨fun c => (by cases c), fun _ => ⟨φ n, rfl, h1, ?_⟩⟩
    have e : xR (xsI (xsI M (φ n) 8 1) (φ n) 7 0) (φ n) 9 = (tP T n).map φ := h9
    rw [e]
    cases hq : tP T n with
    | none =>
      refine bX3_freshen_2 _ _ ⟨fun _ => ?_, fun c => absurd rfl c⟩
      cases f with
      | zero => exact hQ
      | succ f => simp only [tA, hq] at hQ; exact hQ
    | some q =>
      obtain ⟨k1, k2, k3⟩ := hW.2.2.2.1 n q hn hq
      match f, hf, hQ with
      | 0, hf, _ => omega
      | f + 1, hf, hQ =>
        simp only [tA, hq, List.map_cons, frs] at hQ
        exact freshen_loop hW a0 f q _ (fun m hm => hp m hm) k1 (by omega) hQ
theorem sX3_freshen (hW : tWF T) (hp : pN M φ T) {n : Nat} (hn : tU T n = true) (hQ : Q none (frs M ((tA T 12 n).map φ))) : xSp l g mX3_freshen 0 0 [va_rf (some (φ n))] M Q :=
  eX3_freshen _ (bX3_freshen_0 _ (freshen_loop hW _ 12 n M hp hn (tX_le hW hn).2 hQ))
theorem sX3_setPrefixAt {a pa j : Nat} {v : Int32} (h1 : xat M a 1) (h2 : xR M a 0 = some pa) (h3 : xat M pa 9) (h4 : xN M pa = 12) (hj : j < 12) (hQ : Q none (xsI M pa j v)) : xSp l g mX3_setPrefixAt 0 0 [va_rf (some a), .int (nI j), .int v] M Q := by
  refine eX3_setPrefixAt a _ _ (bX3_setPrefixAt_0 a _ _ ⟨fun c => (nneg c rfl).elim, fun _ => ⟨h1, pa, h2, h3, fun c => ?_, fun c => ⟨j, ⟨h3, rfl, by omega, by omega⟩, hQ⟩⟩⟩)
  have c1 := nle c rfl rfl
  omega
theorem sX3_appendToPrefix {a pa k : Nat} {v : Int32} (h1 : xat M a 1) (h2 : xR M a 0 = some pa) (h3 : xat M pa 9) (h4 : xN M pa = 12) (hk : xI M a 1 = nI k) (hk12 : k < 12) (hQ : Q none (xsI (xsI M pa k v) a 1 (nI (k + 1)))) : xSp l g mX3_appendToPrefix 0 0 [va_rf (some a), .int v] M Q := by
  have hne : a ≠ pa := ne_of_kind h1.2 h3.2 (by decide)
  refine eX3_appendToPrefix a _ (bX3_appendToPrefix_0 a _ ⟨h1, pa, h2, h3, fun c => ?_, fun c => ?_⟩)
  · have c1 := nle c rfl hk
    omega
  · rw [hk]
    refine sX3_setPrefixAt h1 h2 h3 h4 hk12 ⟨rfl, h1, ?_⟩
    rw [xI_sI, if_neg (fun q => hne q.1), hk, nI_1]
    exact hQ
theorem sX3_setValue {a : Nat} {v : Int64} (h1 : xat M a 1) (hQ : Q none (xsJ (xsI M a 3 1) a 4 v)) : xSp l g mX3_setValue 0 0 [va_rf (some a), .long v] M Q :=
  eX3_setValue _ _ (bX3_setValue_0 _ _ ⟨h1, hQ⟩)
theorem sX3_loseValue {a : Nat} (h1 : xat M a 1) (hQ : Q none (xsJ (xsI M a 3 0) a 4 0)) : xSp l g mX3_loseValue 0 0 [va_rf (some a)] M Q :=
  eX3_loseValue _ (bX3_loseValue_0 _ ⟨h1, hQ⟩)
/-- a node as it is new -/
def rst (M : xM) (a : Nat) : xM := xsR (xsR (xsR (xsI (xsI (xsI (xsI (xsJ (xsI (xsI (xsI M a 1 0) a 2 1) a 3 0) a 4 0) a 5 0) a 6 0) a 7 0) a 8 0) a 9 none) a 10 none) a 11 none
theorem sX3_reset {a : Nat} (h1 : xat M a 1) (hQ : Q none (rst M a)) : xSp l g mX3_reset 0 0 [va_rf (some a)] M Q :=
  eX3_reset _ (bX3_reset_0 _ ⟨h1, hQ⟩)
theorem rst_I (M : xM) (a x j : Nat) : xI (rst M a) x j = if x = a ∧ (1 ≤ j ∧ j ≤ 8 ∧ j ≠ 4) then (if j = 2 then 1 else 0) else xI M x j := by
  simp only [rst, xI_sI, xI_sR, xI_sJ]
  by_cases hx : x = a
  · by_cases h : j ≤ 8
    · rcases (show j = 0 ∨ j = 1 ∨ j = 2 ∨ j = 3 ∨ j = 4 ∨ j = 5 ∨ j = 6 ∨ j = 7 ∨ j = 8 by omega) with rfl | rfl | rfl | rfl | rfl | rfl | rfl | rfl | rfl <;> simp [hx]
    · have h1 : ¬ j = 1 := by omega
      have h2 : ¬ j = 2 := by omega
      have h3 : ¬ j = 3 := by omega
      have h5 : ¬ j = 5 := by omega
      have h6 : ¬ j = 6 := by omega
      have h7 : ¬ j = 7 := by omega
      have h8 : ¬ j = 8 := by omega
      simp [h1, h2, h3, h5, h6, h7, h8, h]
  · simp [hx]
theorem rst_J (M : xM) (a x j : Nat) : xJ (rst M a) x j = if x = a ∧ j = 4 then 0 else xJ M x j := by
  simp only [rst, xJ_sI, xJ_sR, xJ_sJ]
theorem rst_R (M : xM) (a x j : Nat) : xR (rst M a) x j = if x = a ∧ (9 ≤ j ∧ j ≤ 11) then none else xR M x j := by
  simp only [rst, xR_sI, xR_sR, xR_sJ]
  by_cases hx : x = a
  · by_cases h : 9 ≤ j ∧ j ≤ 11
    · rcases (show j = 9 ∨ j = 10 ∨ j = 11 by omega) with rfl | rfl | rfl <;> simp [hx]
    · have h1 : ¬ j = 9 := by omega
      have h2 : ¬ j = 10 := by omega
      have h3 : ¬ j = 11 := by omega
      simp [h1, h2, h3, h]
  · simp [hx]
/-- what a prefix's change does -/
def pfxP (M M1 : xM) (a pa : Nat) (p : List Nat) : Prop :=
  (xL M1 = xL M ∧ xK M1 = xK M ∧ xN M1 = xN M ∧ xJ M1 = xJ M ∧ xR M1 = xR M) ∧ (∀ x j, x ≠ pa → ¬ (x = a ∧ j = 1) → xI M1 x j = xI M x j) ∧ xI M1 a 1 = nI p.length ∧ ∀ i, i < p.length → xI M1 pa i = nI (p.getD i 0)
theorem getD_drop (p : List Nat) (k i : Nat) : (p.drop k).getD i 0 = p.getD (k + i) 0 := by
  simp [List.getD_eq_getElem?_getD, List.getElem?_drop]
theorem drop_loop {a pa k : Nat} {p : List Nat} (M0 : xM) (hk : k ≤ p.length) (hp : p.length ≤ 12) (hne : a ≠ pa) : ∀ (d i : Nat) (M : xM), p.length - k = i + d → xat M a 1 → xR M a 0 = some pa → xat M pa 9 → xN M pa = 12 → xI M a 1 = nI p.length →
    (xL M = xL M0 ∧ xK M = xK M0 ∧ xN M = xN M0 ∧ xJ M = xJ M0 ∧ xR M = xR M0) → (∀ x j, x ≠ pa → xI M x j = xI M0 x j) → (∀ j, j < i → xI M pa j = nI (p.getD (k + j) 0)) → (∀ j, i ≤ j → j < p.length → xI M pa j = nI (p.getD j 0)) →
    (∀ M1, pfxP M0 M1 a pa (p.drop k) → Q none M1) → xWp l g mX3_dropFromPrefix 0 0 13 [(1, va_rf (some a)), (1, .int (nI k)), (1, .int (nI (p.length - k))), (1, .int (nI i))] [] (0, 0) M Q
  | d, i, M, hd, h1, h2, h3, h4, hl, hs, hx, hlo, hhi, hQ => by
    refine bX3_dropFromPrefix_13 _ _ _ _ ⟨fun c => ⟨h1, hQ _ ?_⟩, fun c => ?_⟩
    · have c1 := nle c rfl rfl
      refine ⟨hs, fun x j e1 e2 => by rw [xI_sI, if_neg e2]; exact hx x j e1, by simp [xI_sI], fun j hj => ?_⟩
      rw [List.length_drop] at hj
      rw [xI_sI, if_neg (fun q => hne q.1.symm), hlo j (by omega), getD_drop]
    · have c1 := nnle c rfl rfl
      match d, hd with
      | 0, hd => omega
      | d + 1, hd =>
        refine ⟨h1, ?_⟩
        rw [nI_add]
        refine sX3_prefixAt0 h1 h2 h3 h4 hl hp (by omega) ⟨_, rfl, h1, ?_⟩
        rw [if_pos (by omega), hhi (i + k) (by omega) (by omega)]
        refine sX3_setPrefixAt h1 h2 h3 h4 (by omega) ⟨rfl, ?_⟩
        rw [nI_1]
        refine drop_loop M0 hk hp hne d (i + 1) _ (by omega) h1 h2 h3 h4 (by rw [xI_sI, if_neg (fun q => hne q.1)]; exact hl) hs (fun x j e => by rw [xI_sI, if_neg (fun q => e q.1)]; exact hx x j e) (fun j hj => ?_) (fun j hj1 hj2 => ?_) hQ
        · by_cases hji : j = i
          · subst hji; simp [xI_sI, Nat.add_comm]
          · rw [xI_sI, if_neg (fun q => hji q.2)]; exact hlo j (by omega)
        · rw [xI_sI, if_neg (by omega)]; exact hhi j (by omega) hj2
theorem sX3_dropFromPrefix {a pa k : Nat} {p : List Nat} (h1 : xat M a 1) (h2 : xR M a 0 = some pa) (h3 : xat M pa 9) (h4 : xN M pa = 12) (hl : xI M a 1 = nI p.length) (hp : ∀ i, i < p.length → xI M pa i = nI (p.getD i 0)) (hp12 : p.length ≤ 12) (hk : k ≤ p.length) (hQ : ∀ M1, pfxP M M1 a pa (p.drop k) → Q none M1) : xSp l g mX3_dropFromPrefix 0 0 [va_rf (some a), .int (nI k)] M Q := by
  refine eX3_dropFromPrefix _ _ (bX3_dropFromPrefix_0 _ _ ⟨h1, ?_⟩)
  rw [hl, pk_sub hk, if_neg (nI_pos (by omega))]
  exact drop_loop M hk hp12 (ne_of_kind h1.2 h3.2 (by decide)) (p.length - k) 0 M (by omega) h1 h2 h3 h4 hl ⟨rfl, rfl, rfl, rfl, rfl⟩ (fun _ _ _ => rfl) (fun j hj => by omega) (fun j _ hj => hp j hj) hQ
end NW2
