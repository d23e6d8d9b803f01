/-! takePrefixOfParent, yieldTo. -/
section NW3
variable {l : Launch} {g : xG} {M : xM} {Q : Option Value → xM → Prop}
theorem getD_app (p q : List Nat) (i : Nat) : (p ++ q).getD i 0 = if i < p.length then p.getD i 0 else q.getD (i - p.length) 0 := by
  simp only [List.getD_eq_getElem?_getD]
  by_cases h : i < p.length
  · rw [if_pos h, List.getElem?_append_left h]
  · rw [if_neg h, List.getElem?_append_right (by omega)]
theorem take_loop2 {a pa u ua b : Nat} {p q : List Nat} {x2 x3 : Int32} (M0 : xM) (hq : q.length + 1 + p.length ≤ 12) (hne : a ≠ pa) (hua : ua ≠ pa) (hupa : u ≠ pa) (hau : a ≠ u) : ∀ (d i : Nat) (M : xM), q.length = i + d → xat M a 1 → xR M a 0 = some pa → xat M pa 9 → xN M pa = 12 → xat M u 1 → xR M u 0 = some ua → xat M ua 9 → xN M ua = 12 → xI M u 1 = nI q.length → (∀ j, j < q.length → xI M ua j = nI (q.getD j 0)) →
    (xL M = xL M0 ∧ xK M = xK M0 ∧ xN M = xN M0 ∧ xJ M = xJ M0 ∧ xR M = xR M0) → (∀ x j, x ≠ pa → ¬ (x = a ∧ j = 1) → xI M x j = xI M0 x j) → xI M a 1 = nI (q.length + 1 + p.length) → (∀ j, j < i → xI M pa j = nI (q.getD j 0)) → (∀ j, q.length ≤ j → j < q.length + 1 + p.length → xI M pa j = nI ((q ++ b :: p).getD j 0)) →
    (∀ M1, pfxP M0 M1 a pa (q ++ b :: p) → Q none M1) → xWp l g mX3_takePrefixOfParent 0 0 71 [(1, va_rf (some a)), (1, va_rf (some u)), (1, .int x2), (1, .int x3), (1, .int (nI i))] [] (0, 0) M Q
  | d, i, M, hd, h1, h2, h3, h4, u1, u2, u3, u4, ul, uc, hs, hx, hl, hlo, hhi, hQ => by
    refine bX3_takePrefixOfParent_71 _ _ _ _ _ ⟨u, rfl, u1, fun c => hQ _ ?_, fun c => ?_⟩
    · have c1 := nle c ul rfl
      refine ⟨hs, hx, by rw [hl]; congr 1; simp; omega, fun j hj => ?_⟩
      by_cases hj2 : j < q.length
      · rw [hlo j (by omega), getD_app, if_pos hj2]
      · exact hhi j (by omega) (by simp at hj; omega)
    · have c1 := nnle c ul rfl
      match d, hd with
      | 0, hd => omega
      | d + 1, hd =>
        refine sX3_prefixAt0 u1 u2 u3 u4 ul (by omega) (by omega) ⟨_, rfl, h1, ?_⟩
        rw [if_pos c1, uc i c1]
        refine sX3_setPrefixAt h1 h2 h3 h4 (by omega) ⟨rfl, ?_⟩
        rw [nI_1]
        refine take_loop2 M0 hq hne hua hupa hau d (i + 1) _ (by omega) h1 h2 h3 h4 u1 u2 u3 u4 (by rw [xI_sI, if_neg (fun z => hupa z.1)]; exact ul) (fun j hj => by rw [xI_sI, if_neg (fun z => hua z.1)]; exact uc j hj) hs (fun x j e1 e2 => by rw [xI_sI, if_neg (fun z => e1 z.1)]; exact hx x j e1 e2) (by rw [xI_sI, if_neg (fun z => hne z.1)]; exact hl) (fun j hj => ?_) (fun j hj1 hj2 => ?_) hQ
        · by_cases hji : j = i
          · subst hji; simp [xI_sI]
          · rw [xI_sI, if_neg (fun z => hji z.2)]; exact hlo j (by omega)
        · rw [xI_sI, if_neg (by omega)]; exact hhi j hj1 hj2
theorem take_loop1 {a pa u ua b : Nat} {p q : List Nat} {x3 : Int32} (M0 : xM) (hq : q.length + 1 + p.length ≤ 12) (hne : a ≠ pa) (hua : ua ≠ pa) (hupa : u ≠ pa) (hau : a ≠ u) : ∀ (i : Nat) (M : xM), i ≤ p.length → xat M a 1 → xR M a 0 = some pa → xat M pa 9 → xN M pa = 12 → xat M u 1 → xR M u 0 = some ua → xat M ua 9 → xN M ua = 12 → xI M u 1 = nI q.length → (∀ j, j < q.length → xI M ua j = nI (q.getD j 0)) →
    (xL M = xL M0 ∧ xK M = xK M0 ∧ xN M = xN M0 ∧ xJ M = xJ M0 ∧ xR M = xR M0) → (∀ x j, x ≠ pa → ¬ (x = a ∧ j = 1) → xI M x j = xI M0 x j) → xI M a 6 = nI b → xI M a 1 = nI (q.length + 1 + p.length) → (∀ j, j < i → xI M pa j = nI (p.getD j 0)) → (∀ j, i ≤ j → j < p.length → xI M pa (j + (q.length + 1)) = nI (p.getD j 0)) →
    (∀ M1, pfxP M0 M1 a pa (q ++ b :: p) → Q none M1) → xWp l g mX3_takePrefixOfParent 0 0 32 [(1, va_rf (some a)), (1, va_rf (some u)), (1, .int (nI (q.length + 1))), (1, .int x3), (1, .int (nI i - 1))] [] (0, 0) M Q
  | 0, M, hi, h1, h2, h3, h4, u1, u2, u3, u4, ul, uc, hs, hx, hb, hl, hlo, hhi, hQ => by
    refine bX3_takePrefixOfParent_32 _ _ _ _ _ ⟨fun c => ⟨h1, ?_⟩, fun c => absurd (by decide) c⟩
    rw [nI_pred, hb]
    refine sX3_setPrefixAt h1 h2 h3 h4 (by omega) ⟨rfl, ?_⟩
    refine take_loop2 (b := b) (p := p) M0 hq hne hua hupa hau q.length 0 _ (by omega) h1 h2 h3 h4 u1 u2 u3 u4 (by rw [xI_sI, if_neg (fun z => hupa z.1)]; exact ul) (fun j hj => by rw [xI_sI, if_neg (fun z => hua z.1)]; exact uc j hj) hs (fun x j e1 e2 => by rw [xI_sI, if_neg (fun z => e1 z.1)]; exact hx x j e1 e2) (by rw [xI_sI, if_neg (fun z => hne z.1)]; exact hl) (fun j hj => by omega) (fun j hj1 hj2 => ?_) hQ
    by_cases hj : j = q.length
    · subst hj
      rw [xI_sI, if_pos ⟨rfl, rfl⟩, getD_app, if_neg (by omega)]
      simp
    · rw [xI_sI, if_neg (fun z => hj z.2), getD_app, if_neg (by omega)]
      obtain ⟨m, rfl⟩ : ∃ m, j = m + (q.length + 1) := ⟨j - (q.length + 1), by omega⟩
      rw [hhi m (Nat.zero_le _) (by omega)]
      rw [show m + (q.length + 1) - q.length = m + 1 by omega]
      simp [List.getD_eq_getElem?_getD]
  | i + 1, M, hi, h1, h2, h3, h4, u1, u2, u3, u4, ul, uc, hs, hx, hb, hl, hlo, hhi, hQ => by
    rw [nI_pred]
    refine bX3_takePrefixOfParent_32 _ _ _ _ _ ⟨fun c => (nneg c rfl).elim, fun _ => ⟨h1, ?_⟩⟩
    refine sX3_prefixAt0 h1 h2 h3 h4 hl hq (by omega) ⟨_, rfl, h1, ?_⟩
    rw [if_pos (by omega), hlo i (by omega), nI_add]
    refine sX3_setPrefixAt h1 h2 h3 h4 (by omega) ⟨rfl, ?_⟩
    rw [show nI i + (-1) = nI i - 1 from (Int32.sub_eq_add_neg _ _).symm]
    refine take_loop1 M0 hq hne hua hupa hau i _ (by omega) h1 h2 h3 h4 u1 u2 u3 u4 (by rw [xI_sI, if_neg (fun z => hupa z.1)]; exact ul) (fun j hj => by rw [xI_sI, if_neg (fun z => hua z.1)]; exact uc j hj) hs (fun x j e1 e2 => by rw [xI_sI, if_neg (fun z => e1 z.1)]; exact hx x j e1 e2) (by rw [xI_sI, if_neg (fun z => hne z.1)]; exact hb) (by rw [xI_sI, if_neg (fun z => hne z.1)]; exact hl) (fun j hj => ?_) (fun j hj1 hj2 => ?_) hQ
    · rw [xI_sI, if_neg (by omega)]; exact hlo j (by omega)
    · by_cases hji : j = i
      · subst hji; simp [xI_sI]
      · rw [xI_sI, if_neg (by omega)]; exact hhi j (by omega) hj2
theorem sX3_takePrefixOfParent {a pa u ua b : Nat} {p q : List Nat} (hq : q.length + 1 + p.length ≤ 12) (hau : a ≠ u) (hua : ua ≠ pa) (h1 : xat M a 1) (h2 : xR M a 0 = some pa) (h3 : xat M pa 9) (h4 : xN M pa = 12) (hl : xI M a 1 = nI p.length) (hp : ∀ i, i < p.length → xI M pa i = nI (p.getD i 0)) (hb : xI M a 6 = nI b)
    (u1 : xat M u 1) (u2 : xR M u 0 = some ua) (u3 : xat M ua 9) (u4 : xN M ua = 12) (ul : xI M u 1 = nI q.length) (uc : ∀ j, j < q.length → xI M ua j = nI (q.getD j 0)) (hQ : ∀ M1, pfxP M M1 a pa (q ++ b :: p) → Q none M1) : xSp l g mX3_takePrefixOfParent 0 0 [va_rf (some a), va_rf (some u)] M Q := by
  have hne : a ≠ pa := ne_of_kind h1.2 h3.2 (by decide)
  have hupa : u ≠ pa := ne_of_kind u1.2 h3.2 (by decide)
  refine eX3_takePrefixOfParent _ _ (bX3_takePrefixOfParent_0 _ _ ⟨u, rfl, u1, h1, pa, h2, h3, ?_⟩)
  rw [ul, hl, h4, nI_1, nI_add, if_neg (nI_nlt (by omega) (by omega))]
  have := take_loop1 (l := l) (g := g) (Q := Q) (b := b) (p := p) (q := q) (x3 := nI p.length) M hq hne hua hupa hau p.length (xsI M a 1 (nI (p.length + (q.length + 1)))) (Nat.le_refl _) h1 h2 h3 h4 u1 u2 u3 u4 (by rw [xI_sI, if_neg (fun z => hau z.1.symm)]; exact ul) (fun j hj => by rw [xI_sI, if_neg (fun z => (ne_of_kind h1.2 u3.2 (by decide)) z.1.symm)]; exact uc j hj) ⟨rfl, rfl, rfl, rfl, rfl⟩ (fun x j e1 e2 => by rw [xI_sI, if_neg e2]) (by rw [xI_sI, if_neg (by simp)]; exact hb) (by rw [xI_sI, if_pos ⟨rfl, rfl⟩]; congr 1; omega) (fun j hj => by rw [xI_sI, if_neg (fun z => hne z.1.symm)]; exact hp j hj) (fun j hj1 hj2 => by omega) hQ
  exact this
/-- what yieldTo does: the parent, and its children ahead of the one that goes -/
def yieldP (M M1 : xM) (a o : Nat) (w : Option (Nat × List Nat)) : Prop :=
  (xL M1 = xL M ∧ xK M1 = xK M ∧ xN M1 = xN M ∧ xJ M1 = xJ M) ∧
  (∀ x j, xI M1 x j = if x = o ∧ j = 6 then xI M a 6 else xI M x j) ∧
  (∀ x j, xR M1 x j = match w with
    | none => if x = o ∧ j = 11 then xR M a 11 else if x = o ∧ j = 9 then xR M a 9 else xR M x j
    | some (p, s1) => if s1.getLast? = none ∧ x = p ∧ j = 10 then some o else if s1.getLast? = some x ∧ j = 11 then some o else if x = o ∧ j = 11 then xR M a 11 else if x = o ∧ j = 9 then xR M a 9 else xR M x j)
theorem sX3_yieldTo0 {a o : Nat} (hao : a ≠ o) (ha : xat M a 1) (ho : xat M o 1) (hp : xR M a 9 = none) (hQ : ∀ M1, yieldP M M1 a o none → Q none M1) : xSp l g mX3_yieldTo 0 0 [va_rf (some a), va_rf (some o)] M Q := by
  refine eX3_yieldTo _ _ (bX3_yieldTo_0 _ _ ⟨ha, o, rfl, ho, fun c => hQ _ ⟨⟨rfl, rfl, rfl, rfl⟩, fun x j => ?_, fun x j => ?_⟩, fun c => absurd ?_ c⟩)
  · simp only [xI_sI, xI_sR]
  · simp only [xR_sI, xR_sR]
    rw [if_neg (show ¬ (a = o ∧ 11 = 9) from fun z => hao z.1)]
  · simp only [xR_sI, xR_sR]
    rw [if_neg (fun z => hao z.1), if_neg (fun z => hao z.1)]; exact hp
theorem sX3_yieldTo {a o p : Nat} (e : Nat → Nat) {s1 s2 : List Nat} (hao : a ≠ o) (hos : o ∉ s1 ++ a :: s2) (hop : o ≠ p) (ha : xat M a 1) (ho : xat M o 1) (hpa : xat M p 1) (hp : xR M a 9 = some p) (hs : chS M (xR M p 10) (s1 ++ a :: s2)) (hx : ∀ x ∈ s1 ++ a :: s2, xat M x 1 ∧ xI M x 6 = nI (e x) ∧ e x < 256) (h1 : ∀ x ∈ s1, e x < e a)
    (hQ : ∀ M1, yieldP M M1 a o (some (p, s1)) → Q none M1) : xSp l g mX3_yieldTo 0 0 [va_rf (some a), va_rf (some o)] M Q := by
  obtain ⟨-, ha6, ha256⟩ := hx a (List.mem_append_right _ List.mem_cons_self)
  have e1 : xR (xsR M o 9 (xR M a 9)) a 11 = xR M a 11 := by rw [xR_sR, if_neg (fun z => hao z.1)]
  refine eX3_yieldTo _ _ (bX3_yieldTo_0 _ _ ⟨ha, o, rfl, ho, ?_⟩)
  simp only [xI_sR, xR_sI, e1]
  have e2 : xR (xsR (xsI (xsR M o 9 (xR M a 9)) o 6 (xI M a 6)) o 11 (xR M a 11)) a 9 = some p := by
    rw [xR_sR, if_neg (fun z => hao z.1), xR_sI, xR_sR, if_neg (fun z => hao z.1)]; exact hp
  have e3 : xI (xsI (xsR M o 9 (xR M a 9)) o 6 (xI M a 6)) a 6 = nI (e a) := by
    rw [xI_sI, if_neg (fun z => hao z.1)]; exact ha6
  rw [e2, e3]
  have htw : (s1 ++ a :: s2).takeWhile (fun x => decide (e x < e a)) = s1 := by
    rw [List.takeWhile_append_of_pos (fun x hx => by simpa using h1 x hx), List.takeWhile_cons_of_neg (by simp), List.append_nil]
  refine ⟨fun c => (by cases c), fun _ => ⟨p, rfl, hpa, ?_⟩⟩
  refine sX3_lastBelow e (by omega) hpa (s := s1 ++ a :: s2) ?_ (fun x hx2 => ?_) ⟨_, rfl, p, rfl, hpa, ?_⟩
  · have : xR (xsR (xsI (xsR M o 9 (xR M a 9)) o 6 (xI M a 6)) o 11 (xR M a 11)) p 10 = xR M p 10 := by
      rw [xR_sR, if_neg (fun z => hop z.1.symm), xR_sI, xR_sR, if_neg (fun z => hop z.1.symm)]
    rw [this]
    refine chS_fr hs (fun x hx2 => ?_)
    have hxo : x ≠ o := fun z => hos (z ▸ hx2)
    rw [xR_sR, if_neg (fun z => hxo z.1), xR_sI, xR_sR, if_neg (fun z => hxo z.1)]
  · have hxo : x ≠ o := fun z => hos (z ▸ hx2)
    obtain ⟨k1, k2, k3⟩ := hx x hx2
    exact ⟨k1, by rw [xI_sR, xI_sI, if_neg (fun z => hxo z.1)]; exact k2, k3⟩
  · rw [htw]
    cases hl : s1.getLast? with
    | none =>
      refine sX3_setNextOf hpa (fun x hx2 => by cases hx2) ⟨rfl, hQ _ ⟨⟨rfl, rfl, rfl, rfl⟩, fun x j => ?_, fun x j => ?_⟩⟩
      · simp only [xI_sI, xI_sR]
      · simp only [xR_sI, xR_sR, hl]
        simp
    | some y =>
      have hy : y ∈ s1 := List.mem_of_getLast? hl
      refine sX3_setNextOf hpa (fun x hx2 => by cases hx2; exact (hx y (List.mem_append_left _ hy)).1) ⟨rfl, hQ _ ⟨⟨rfl, rfl, rfl, rfl⟩, fun x j => ?_, fun x j => ?_⟩⟩
      · simp only [xI_sI, xI_sR]
      · simp only [xR_sI, xR_sR, hl]
        by_cases z1 : x = y ∧ j = 11
        · rw [if_pos z1, if_neg (show ¬ (some y = none ∧ x = p ∧ j = 10) from fun w => by cases w.1), if_pos ⟨by rw [z1.1], z1.2⟩]
        · have z2 : ¬ (some y = some x ∧ j = 11) := fun w => z1 ⟨(Option.some.inj w.1).symm, w.2⟩
          rw [if_neg z1, if_neg (show ¬ (some y = none ∧ x = p ∧ j = 10) from fun w => by cases w.1), if_neg z2]
end NW3
