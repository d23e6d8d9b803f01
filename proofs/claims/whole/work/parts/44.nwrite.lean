/-! Formats; chains of nodes; the nodes' writing methods. -/
/-- worlds that differ at some addresses alone -/
def xag (P : Nat → Prop) (M M1 : xM) : Prop := (xL M1 = xL M ∧ xK M1 = xK M ∧ xN M1 = xN M ∧ ∀ a, xR M1 a 0 = xR M a 0) ∧ ∀ a, ¬ P a → (∀ k, xI M1 a k = xI M a k) ∧ (∀ k, xJ M1 a k = xJ M a k) ∧ ∀ k, xR M1 a k = xR M a k
theorem xag.rf {P : Nat → Prop} {M : xM} : xag P M M := ⟨⟨rfl, rfl, rfl, fun _ => rfl⟩, fun _ _ => ⟨fun _ => rfl, fun _ => rfl, fun _ => rfl⟩⟩
theorem xag.trans {P : Nat → Prop} {M M1 M2 : xM} (h1 : xag P M M1) (h2 : xag P M1 M2) : xag P M M2 := by
  obtain ⟨⟨a1, a2, a3, a0⟩, a4⟩ := h1
  obtain ⟨⟨b1, b2, b3, b0⟩, b4⟩ := h2
  refine ⟨⟨b1.trans a1, b2.trans a2, b3.trans a3, fun a => (b0 a).trans (a0 a)⟩, fun a ha => ?_⟩
  obtain ⟨c1, c2, c3⟩ := a4 a ha
  obtain ⟨d1, d2, d3⟩ := b4 a ha
  exact ⟨fun k => (d1 k).trans (c1 k), fun k => (d2 k).trans (c2 k), fun k => (d3 k).trans (c3 k)⟩
theorem xag.mono {P P1 : Nat → Prop} {M M1 : xM} (h : xag P M M1) (hp : ∀ a, P a → P1 a) : xag P1 M M1 := ⟨h.1, fun a ha => h.2 a (fun q => ha (hp a q))⟩
theorem xag_I {P : Nat → Prop} (M : xM) {a k : Nat} {v : Int32} (h : P a) : xag P M (xsI M a k v) := ⟨⟨rfl, rfl, rfl, fun _ => rfl⟩, fun b hb => ⟨fun j => by rw [xI_sI, if_neg (fun q => hb (by rw [q.1]; exact h))], fun _ => rfl, fun _ => rfl⟩⟩
theorem xag_J {P : Nat → Prop} (M : xM) {a k : Nat} {v : Int64} (h : P a) : xag P M (xsJ M a k v) := ⟨⟨rfl, rfl, rfl, fun _ => rfl⟩, fun b hb => ⟨fun _ => rfl, fun j => by rw [xJ_sJ, if_neg (fun q => hb (by rw [q.1]; exact h))], fun _ => rfl⟩⟩
theorem xag_R {P : Nat → Prop} (M : xM) {a k : Nat} {v : Option Nat} (h : P a) (hk : k ≠ 0 := by decide) : xag P M (xsR M a k v) := ⟨⟨rfl, rfl, rfl, fun b => by rw [xR_sR, if_neg (fun q => hk q.2.symm)]⟩, fun b hb => ⟨fun _ => rfl, fun _ => rfl, fun j => by rw [xR_sR, if_neg (fun q => hb (by rw [q.1]; exact h))]⟩⟩
theorem xag.at {P : Nat → Prop} {M M1 : xM} (h : xag P M M1) {a c : Nat} : xat M1 a c ↔ xat M a c := by simp only [xat, h.1.1, h.1.2.1]
/-- how many children a format holds; when it is left -/
def fRoom (f : Nat) : Nat := if f = 1 then 4 else if f = 2 then 16 else if f = 3 then 48 else 256
def fGrow (f k : Nat) : Nat := if fRoom f < k then f + 1 else f
def fLeast (f : Nat) : Nat := if f = 2 then 3 else if f = 3 then 12 else if f = 4 then 40 else 0
def fShrink (f k : Nat) : Nat := if 1 < f ∧ k ≤ fLeast f then f - 1 else f
section NW
variable {l : Launch} {g : xG} {M : xM} {Q : Option Value → xM → Prop} {φ ψ : Nat → Nat} {T : TT}
theorem xmc_room {f : Nat} (h1 : 1 ≤ f) (h4 : f ≤ 4) : xmc f = nI (fRoom f) := by
  rcases (show f = 1 ∨ f = 2 ∨ f = 3 ∨ f = 4 by omega) with rfl | rfl | rfl | rfl <;> rfl
theorem xsh_least {f : Nat} (h1 : 2 ≤ f) (h4 : f ≤ 4) : xsh f = nI (fLeast f) := by
  rcases (show f = 2 ∨ f = 3 ∨ f = 4 by omega) with rfl | rfl | rfl <;> rfl
theorem fRoom_le (f : Nat) : fRoom f ≤ 256 := by unfold fRoom; split <;> (try split) <;> (try split) <;> omega
theorem sX1_mostChildren {f : Nat} (h1 : 1 ≤ f) (h4 : f ≤ 4) (hQ : Q (some (.int (nI (fRoom f)))) M) : xSp l g mX1_mostChildren 0 0 [.int (nI f)] M Q := by
  refine eX1_mostChildren _ (bX1_mostChildren_0 _ ⟨fun c => ?_, fun _ => ⟨fun c => ?_, fun _ => ⟨f, rfl, by omega, ?_⟩⟩⟩)
  · have c1 := nlt c rfl (b := 1) rfl
    omega
  · have c1 := nle c (a := 5) rfl rfl
    omega
  · rw [xmc_room h1 h4]; exact hQ
theorem sX1_grown {f k : Nat} (h1 : 1 ≤ f) (h4 : f ≤ 4) (hk : k ≤ 256) (hQ : Q (some (.int (nI (fGrow f k)))) M) : xSp l g mX1_grown 0 0 [.int (nI f), .int (nI k)] M Q := by
  have hr := fRoom_le f
  refine eX1_grown _ _ (bX1_grown_0 _ _ ⟨fun c => ?_, fun c => ?_⟩)
  · have c1 := nle c (a := 4) rfl rfl
    have : f = 4 := by omega
    subst this
    have e : fGrow 4 k = 4 := by
      have e1 : fRoom 4 = 256 := rfl
      rw [fGrow, e1, if_neg (by omega)]
    rw [e] at hQ; exact hQ
  · have c1 := nnle c (a := 4) rfl rfl
    refine sX1_mostChildren h1 h4 ⟨_, rfl, fun c2 => ?_, fun c2 => ?_⟩
    · have c3 := nle c2 rfl rfl
      rw [fGrow, if_neg (by omega)] at hQ; exact hQ
    · have c3 := nnle c2 rfl rfl
      rw [fGrow, if_pos c3] at hQ
      rw [nI_1]; exact hQ
theorem sX1_shrunk {f k : Nat} (h1 : 1 ≤ f) (h4 : f ≤ 4) (hk : k ≤ 256) (hQ : Q (some (.int (nI (fShrink f k)))) M) : xSp l g mX1_shrunk 0 0 [.int (nI f), .int (nI k)] M Q := by
  refine eX1_shrunk _ _ (bX1_shrunk_0 _ _ ⟨fun c => ⟨fun _ => ?_, fun q => absurd rfl q⟩, fun c => ⟨fun c2 => ⟨fun _ => ?_, fun q => absurd rfl q⟩, fun c2 => ⟨f, rfl, by omega, fun c3 => ⟨fun _ => ?_, fun q => absurd rfl q⟩, fun c3 => ⟨fun q => absurd q (by decide), fun _ => ?_⟩⟩⟩⟩)
  · have c1 := nle c rfl (b := 1) rfl
    rw [fShrink, if_neg (by omega)] at hQ; exact hQ
  · have c1 := nle c2 (a := 5) rfl rfl
    omega
  · have c1 := nnle c rfl (b := 1) rfl
    have hl : fLeast f ≤ 40 := by unfold fLeast; split <;> (try split) <;> (try split) <;> omega
    have c4 := nlt c3 (xsh_least (by omega) h4) rfl
    rw [fShrink, if_neg (by omega)] at hQ; exact hQ
  · have c1 := nnle c rfl (b := 1) rfl
    have hl : fLeast f ≤ 40 := by unfold fLeast; split <;> (try split) <;> (try split) <;> omega
    have c4 := nnlt c3 (xsh_least (by omega) h4) rfl
    rw [fShrink, if_pos (by omega)] at hQ
    have : nI f - 1 = nI (f - 1) := by
      obtain ⟨j, rfl⟩ : ∃ j, f = j + 1 := ⟨f - 1, by omega⟩
      rw [nI_pred]; rfl
    rw [this]; exact hQ
/-- a chain by the field 'next' -/
def chS (M : xM) : Option Nat → List Nat → Prop
  | r, [] => r = none
  | r, a :: s => r = some a ∧ chS M (xR M a 11) s
theorem chS_fr {M M1 : xM} : ∀ {s : List Nat} {r : Option Nat}, chS M r s → (∀ a ∈ s, xR M1 a 11 = xR M a 11) → chS M1 r s
  | [], r, h, _ => h
  | a :: s, r, h, hf => ⟨h.1, by rw [hf a List.mem_cons_self]; exact chS_fr h.2 (fun b hb => hf b (List.mem_cons_of_mem _ hb))⟩
theorem chS_head {M : xM} {s : List Nat} {r : Option Nat} (h : chS M r s) : r = s.head? := by
  cases s with
  | nil => exact h
  | cons a s => exact h.1
theorem chS_app {M : xM} : ∀ {s1 s2 : List Nat} {r : Option Nat}, chS M r (s1 ++ s2) → chS M (match s1.getLast? with | none => r | some a => xR M a 11) s2
  | [], s2, r, h => h
  | [a], s2, r, h => h.2
  | a :: b :: s1, s2, r, h => by
    have := chS_app (s1 := b :: s1) h.2
    obtain ⟨z, hz⟩ : ∃ z, (b :: s1).getLast? = some z := ⟨_, List.getLast?_eq_some_getLast (by simp)⟩
    rw [hz] at this
    rw [List.getLast?_cons_cons, hz]
    exact this
/-- the last one of a chain whose byte is below b -/
theorem last_loop (a0 b : Nat) (e : Nat → Nat) (hb : b < 2 ^ 31) : ∀ (s2 s1 : List Nat) (r : Option Nat), chS M r s2 → (∀ x ∈ s2, xat M x 1 ∧ xI M x 6 = nI (e x) ∧ e x < 256) → Q (some (va_rf ((s1 ++ s2.takeWhile (fun x => decide (e x < b))).getLast?))) M → xWp l g mX3_lastBelow 0 0 7 [(1, va_rf (some a0)), (1, .int (nI b)), (1, va_rf s1.getLast?), (1, va_rf r)] [] (0, 0) M Q
  | [], s1, r, h, _, hQ => by
    have h : r = none := h
    subst h
    refine bX3_lastBelow_7 _ _ _ _ ⟨fun _ => ?_, fun c => absurd rfl c⟩
    simpa using hQ
  | x :: s2, s1, r, h, hx, hQ => by
    obtain ⟨h1, h2⟩ := h
    subst h1
    obtain ⟨x1, x2, x3⟩ := hx x List.mem_cons_self
    refine bX3_lastBelow_7 _ _ _ _ ⟨fun c => (by cases c), fun _ => ⟨x, rfl, x1, fun c => ?_, fun c => ?_⟩⟩
    · have c1 := nle c rfl x2
      rw [List.takeWhile_cons_of_neg (by simp; omega), List.append_nil] at hQ
      exact hQ
    · have c1 := nnle c rfl x2
      have := last_loop a0 b e hb s2 (s1 ++ [x]) (xR M x 11) h2 (fun y hy => hx y (List.mem_cons_of_mem _ hy)) (by
        rw [List.takeWhile_cons_of_pos (by simp; omega)] at hQ
        simpa using hQ)
      simpa using this
theorem sX3_lastBelow {a b : Nat} (e : Nat → Nat) {s : List Nat} (hb : b < 2 ^ 31) (ha : xat M a 1) (hs : chS M (xR M a 10) s) (hx : ∀ x ∈ s, xat M x 1 ∧ xI M x 6 = nI (e x) ∧ e x < 256) (hQ : Q (some (va_rf (s.takeWhile (fun x => decide (e x < b))).getLast?)) M) : xSp l g mX3_lastBelow 0 0 [va_rf (some a), .int (nI b)] M Q :=
  eX3_lastBelow _ _ (bX3_lastBelow_0 _ _ ⟨ha, last_loop a b e hb s [] _ hs hx hQ⟩)
theorem sX3_setNextOf {a : Nat} {p c : Option Nat} (ha : xat M a 1) (hp : ∀ x, p = some x → xat M x 1) (hQ : Q none (match p with | none => xsR M a 10 c | some x => xsR M x 11 c)) : xSp l g mX3_setNextOf 0 0 [va_rf (some a), va_rf p, va_rf c] M Q := by
  refine eX3_setNextOf _ _ _ (bX3_setNextOf_0 _ _ _ ⟨fun q => ?_, fun q => ?_⟩)
  · cases p with
    | none => exact absurd rfl q
    | some x => exact ⟨x, rfl, hp x rfl, hQ⟩
  · subst q; exact ⟨ha, hQ⟩
/-- what gain does -/
def gainP (M M1 : xM) (a c : Nat) (s1 s2 : List Nat) (k f : Nat) : Prop :=
  (xL M1 = xL M ∧ xK M1 = xK M ∧ xN M1 = xN M ∧ xJ M1 = xJ M) ∧
  (∀ x j, xI M1 x j = if x = a ∧ j = 2 then nI (fGrow f (k + 1)) else if x = a ∧ j = 5 then nI (k + 1) else xI M x j) ∧
  (∀ x j, xR M1 x j = if s1.getLast? = none ∧ x = a ∧ j = 10 then some c else if s1.getLast? = some x ∧ j = 11 then some c else if x = c ∧ j = 11 then s2.head? else if x = c ∧ j = 9 then some a else xR M x j)
theorem sX3_gain {a c b k f : Nat} (e : Nat → Nat) {s1 s2 : List Nat} (hac : a ≠ c) (hcs : c ∉ s1) (ha : xat M a 1) (hc : xat M c 1) (hb : xI M c 6 = nI b) (hb256 : b < 256) (hs : chS M (xR M a 10) (s1 ++ s2)) (hx : ∀ x ∈ s1 ++ s2, xat M x 1 ∧ xI M x 6 = nI (e x) ∧ e x < 256) (h1 : ∀ x ∈ s1, e x < b) (h2 : ∀ x ∈ s2, ¬ e x < b) (hk : xI M a 5 = nI k) (hk256 : k < 256) (hf : xI M a 2 = nI f) (hf1 : 1 ≤ f) (hf4 : f ≤ 4)
    (hQ : ∀ M1, gainP M M1 a c s1 s2 k f → Q none M1) : xSp l g mX3_gain 0 0 [va_rf (some a), va_rf (some c)] M Q := by
  have htw : (s1 ++ s2).takeWhile (fun x => decide (e x < b)) = s1 := by
    rw [List.takeWhile_append_of_pos (fun x hx => by simpa using h1 x hx)]
    cases s2 with
    | nil => simp
    | cons y s2 => rw [List.takeWhile_cons_of_neg (by simpa using h2 y List.mem_cons_self), List.append_nil]
  have hch := chS_head (chS_app hs)
  refine eX3_gain _ _ (bX3_gain_0 _ _ ⟨c, rfl, hc, ha, ?_⟩)
  rw [hb]
  refine sX3_lastBelow e (by omega) ha hs hx ⟨_, rfl, hc, fun q => ?_, fun q => ?_⟩
  · rw [htw] at q ⊢
    cases hl : s1.getLast? with
    | none => rw [hl] at q; exact absurd rfl q
    | some y =>
      have hy : y ∈ s1 := List.mem_of_getLast? hl
      have hyc : y ≠ c := fun z => hcs (z ▸ hy)
      rw [hl] at hch
      refine ⟨y, rfl, (hx y (List.mem_append_left _ hy)).1, ha, ?_⟩
      rw [show xR (xsR M c 9 (some a)) y 11 = s2.head? by rw [xR_sR, if_neg (fun z => hyc z.1)]; exact hch]
      refine sX3_setNextOf ha (fun x hx2 => by cases hx2; exact (hx y (List.mem_append_left _ hy)).1) ⟨rfl, ha, ?_⟩
      simp only [xI_sI, xI_sR, hk, hf, nI_1]
      simp only [true_and, show ¬ (2 : Nat) = 5 by decide, and_false, if_false, and_self, if_true]
      refine sX1_grown hf1 hf4 (by omega) ⟨_, rfl, ha, hQ _ ⟨⟨rfl, rfl, rfl, rfl⟩, fun x j => ?_, fun x j => ?_⟩⟩
      · simp only [xI_sI, xI_sR]
      · simp only [xR_sI, xR_sR, hl]
        by_cases z1 : x = y ∧ j = 11
        · rw [if_pos z1, if_neg (fun w => by cases w.1), if_pos ⟨by rw [z1.1], z1.2⟩]
        · have z2 : ¬ (some y = some x ∧ j = 11) := fun w => z1 ⟨(Option.some.inj w.1).symm, w.2⟩
          rw [if_neg z1, if_neg (show ¬ (some y = none ∧ x = a ∧ j = 10) from fun w => by cases w.1), if_neg z2]
  · rw [htw] at q ⊢
    rw [q] at hch ⊢
    refine ⟨ha, ?_⟩
    rw [show xR (xsR M c 9 (some a)) a 10 = s2.head? by rw [xR_sR, if_neg (fun z => hac z.1)]; exact hch]
    refine sX3_setNextOf ha (fun x hx2 => by cases hx2) ⟨rfl, ha, ?_⟩
    simp only [xI_sI, xI_sR, hk, hf, nI_1]
    simp only [true_and, show ¬ (2 : Nat) = 5 by decide, and_false, if_false, and_self, if_true]
    refine sX1_grown hf1 hf4 (by omega) ⟨_, rfl, ha, hQ _ ⟨⟨rfl, rfl, rfl, rfl⟩, fun x j => ?_, fun x j => ?_⟩⟩
    · simp only [xI_sI, xI_sR]
    · simp only [xR_sI, xR_sR, q]
      simp
/-- what lose does -/
def loseP (M M1 : xM) (a : Nat) (s1 s2 : List Nat) (k f : Nat) : Prop :=
  (xL M1 = xL M ∧ xK M1 = xK M ∧ xN M1 = xN M ∧ xJ M1 = xJ M) ∧
  (∀ x j, xI M1 x j = if x = a ∧ j = 2 then nI (fShrink f k) else if x = a ∧ j = 5 then nI k else xI M x j) ∧
  (∀ x j, xR M1 x j = if s1.getLast? = none ∧ x = a ∧ j = 10 then s2.head? else if s1.getLast? = some x ∧ j = 11 then s2.head? else xR M x j)
theorem sX3_lose {a c b k f : Nat} (e : Nat → Nat) {s1 s2 : List Nat} (ha : xat M a 1) (hb : e c = b) (hs : chS M (xR M a 10) (s1 ++ c :: s2)) (hx : ∀ x ∈ s1 ++ c :: s2, xat M x 1 ∧ xI M x 6 = nI (e x) ∧ e x < 256) (h1 : ∀ x ∈ s1, e x < b) (hk : xI M a 5 = nI (k + 1)) (hk256 : k < 256) (hf : xI M a 2 = nI f) (hf1 : 1 ≤ f) (hf4 : f ≤ 4)
    (hQ : ∀ M1, loseP M M1 a s1 s2 k f → Q none M1) : xSp l g mX3_lose 0 0 [va_rf (some a), va_rf (some c)] M Q := by
  obtain ⟨hc, hc6, hc256⟩ := hx c (List.mem_append_right _ List.mem_cons_self)
  have htw : (s1 ++ c :: s2).takeWhile (fun x => decide (e x < b)) = s1 := by
    rw [List.takeWhile_append_of_pos (fun x hx => by simpa using h1 x hx), List.takeWhile_cons_of_neg (by rw [hb]; simp), List.append_nil]
  have hcn : xR M c 11 = s2.head? := by
    have := chS_app hs
    exact chS_head this.2
  refine eX3_lose _ _ (bX3_lose_0 _ _ ⟨c, rfl, hc, ha, ?_⟩)
  rw [hc6, hb]
  refine sX3_lastBelow e (by omega) ha hs hx ⟨_, rfl, hc, ha, ?_⟩
  rw [htw, hcn]
  cases hl : s1.getLast? with
  | none =>
    refine sX3_setNextOf ha (fun x hx2 => by cases hx2) ⟨rfl, ha, ?_⟩
    simp only [xI_sI, xI_sR, hk, hf, nI_pred]
    simp only [true_and, show ¬ (2 : Nat) = 5 by decide, and_false, if_false, and_self, if_true]
    refine sX1_shrunk hf1 hf4 (by omega) ⟨_, rfl, ha, hQ _ ⟨⟨rfl, rfl, rfl, rfl⟩, fun x j => ?_, fun x j => ?_⟩⟩
    · simp only [xI_sI, xI_sR]
    · simp only [xR_sI, xR_sR, hl]
      simp
  | some y =>
    refine sX3_setNextOf ha (fun x hx2 => by cases hx2; exact (hx y (List.mem_append_left _ (List.mem_of_getLast? hl))).1) ⟨rfl, ha, ?_⟩
    simp only [xI_sI, xI_sR, hk, hf, nI_pred]
    simp only [true_and, show ¬ (2 : Nat) = 5 by decide, and_false, if_false, and_self, if_true]
    refine sX1_shrunk hf1 hf4 (by omega) ⟨_, rfl, ha, hQ _ ⟨⟨rfl, rfl, rfl, rfl⟩, fun x j => ?_, fun x j => ?_⟩⟩
    · simp only [xI_sI, xI_sR]
    · simp only [xR_sI, xR_sR, hl]
      by_cases z1 : x = y ∧ j = 11
      · rw [if_pos z1, if_neg (fun w => by cases w.1), if_pos ⟨by rw [z1.1], z1.2⟩]
      · have z2 : ¬ (some y = some x ∧ j = 11) := fun w => z1 ⟨(Option.some.inj w.1).symm, w.2⟩
        rw [if_neg z1, if_neg (fun w => by cases w.1), if_neg z2]
end NW
