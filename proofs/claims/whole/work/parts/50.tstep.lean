/-! STEPS of the abstract tree, and that they keep it well formed. -/
/-- the path to a node is new -/
def tFr (T : TT) (n : Nat) : TT := (tU T, tP T, tB T, tX T, tV T, tF T, (fun x => if x ∈ tA T 12 n then 0 else tG T x), (fun x => if x ∈ tA T 12 n then true else tR T x), tC T, tL T, tO T)
/-- another value -/
def tSv (T : TT) (n : Nat) (v : Option Int64) : TT := (tU T, tP T, tB T, tX T, va_up (tV T) n v, tF T, tG T, tR T, tC T, tL T, tO T)
/-- another prefix and format, of a root without children -/
def tXf (T : TT) (n : Nat) (p : List Nat) (f : Nat) : TT := (tU T, tP T, tB T, va_up (tX T) n p, tV T, va_up (tF T) n f, tG T, tR T, tC T, tL T, tO T)
/-- a list with one more, by its byte -/
def lIns (e : Nat → Nat) (b c : Nat) (s : List Nat) : List Nat := s.takeWhile (fun x => decide (e x < b)) ++ c :: s.dropWhile (fun x => decide (e x < b))
/-- a new leaf c below s -/
def tAdd (T : TT) (s c b : Nat) (p : List Nat) (v : Int64) : TT :=
  (va_up (tU T) c true, va_up (tP T) c (some s), va_up (tB T) c b, va_up (tX T) c p, va_up (tV T) c (some v), va_up (va_up (tF T) c 1) s (fGrow (tF T s) ((tC T s).length + 1)), va_up (tG T) c 0, va_up (tR T) c false, va_up (va_up (tC T) c []) s (lIns (tB T) b c (tC T s)), va_up (tL T) c (tL T s + (tX T s).length + 1), tO T)
/-- one for another in a list -/
def lRep (s a : Nat) (l : List Nat) : List Nat := l.map (fun x => if x = s then a else x)
/-- s is cut behind m bytes of its prefix: a is above it -/
def tCut (T : TT) (s m a : Nat) : TT :=
  (va_up (tU T) a true, va_up (va_up (tP T) a (tP T s)) s (some a), va_up (va_up (tB T) a (tB T s)) s ((tX T s).getD m 0), va_up (va_up (tX T) a ((tX T s).take m)) s ((tX T s).drop (m + 1)), va_up (tV T) a none, va_up (tF T) a 1, va_up (tG T) a 0, va_up (tR T) a false,
   (fun x => if x = a then [s] else if tP T s = some x then lRep s a (tC T x) else tC T x), va_up (va_up (tL T) a (tL T s)) s (tL T s + m + 1), if s = tO T then a else tO T)
/-- the leaf n goes from its parent p -/
def tDel (T : TT) (n p : Nat) : TT :=
  (va_up (tU T) n false, tP T, tB T, tX T, tV T, va_up (tF T) p (fShrink (tF T p) ((tC T p).length - 1)), tG T, tR T, va_up (tC T) p ((tC T p).filter (fun x => decide (x ≠ n))), tL T, tO T)
/-- u, without a value, and its only child c become one -/
def tJn (T : TT) (u c : Nat) : TT :=
  (va_up (tU T) u false, va_up (tP T) c (tP T u), va_up (tB T) c (tB T u), va_up (tX T) c (tX T u ++ tB T c :: tX T c), tV T, tF T, tG T, tR T,
   (fun x => if tP T u = some x then lRep u c (tC T x) else tC T x), va_up (tL T) c (tL T u), if u = tO T then c else tO T)
theorem tWF_same {T S : TT} (h : tWF T) (h1 : tU S = tU T) (h2 : tP S = tP T) (h3 : tB S = tB T) (h4 : tX S = tX T) (h5 : tC S = tC T) (h6 : tL S = tL T) (h7 : tO S = tO T) : tWF S := by
  unfold tWF
  rw [h1, h2, h3, h4, h5, h6, h7]
  exact h
theorem tFr_wf {T : TT} (h : tWF T) (n : Nat) : tWF (tFr T n) := tWF_same h rfl rfl rfl rfl rfl rfl rfl
theorem tSv_wf {T : TT} (h : tWF T) (n : Nat) (v : Option Int64) : tWF (tSv T n v) := tWF_same h rfl rfl rfl rfl rfl rfl rfl
theorem tXf_wf {T : TT} (h : tWF T) {n : Nat} (hn : n = tO T) (hc : tC T n = []) {p : List Nat} (hp : ∀ b ∈ p, b < 256) (h12 : p.length ≤ 12) (f : Nat) : tWF (tXf T n p f) := by
  obtain ⟨w1, w2, w3, w4, w5, w6⟩ := h
  refine ⟨w1, fun x hx => ?_, w3, fun x q hx hq => ?_, w5, w6⟩
  · obtain ⟨a1, a2, a3, a4⟩ := w2 x hx
    show x < 220 ∧ tB T x < 256 ∧ (∀ b ∈ va_up (tX T) n p x, b < 256) ∧ tL T x + (va_up (tX T) n p x).length ≤ 12
    by_cases hxn : x = n
    · subst hxn
      rw [va_up_self]
      refine ⟨a1, a2, hp, ?_⟩
      rw [hn, w1.2.2]; omega
    · rw [va_up_ne _ _ hxn]; exact ⟨a1, a2, a3, a4⟩
  · obtain ⟨a1, a2, a3⟩ := w4 x q hx hq
    refine ⟨a1, a2, ?_⟩
    show tL T x = tL T q + (va_up (tX T) n p q).length + 1
    by_cases hqn : q = n
    · subst hqn; rw [hc] at a2; cases a2
    · rw [va_up_ne _ _ hqn]; exact a3
theorem lIns_mem {e : Nat → Nat} {b c x : Nat} {s : List Nat} : x ∈ lIns e b c s ↔ x = c ∨ x ∈ s := by
  unfold lIns
  conv => rhs; rw [← List.takeWhile_append_dropWhile (p := fun x => decide (e x < b)) (l := s)]
  simp only [List.mem_append, List.mem_cons]
  constructor
  · rintro (h | h | h)
    · exact Or.inr (Or.inl h)
    · exact Or.inl h
    · exact Or.inr (Or.inr h)
  · rintro (h | h | h)
    · exact Or.inr (Or.inl h)
    · exact Or.inl h
    · exact Or.inr (Or.inr h)
theorem dropWhile_ge {e : Nat → Nat} {b : Nat} : ∀ {s : List Nat}, s.Pairwise (fun x y => e x < e y) → ∀ x ∈ s.dropWhile (fun x => decide (e x < b)), b ≤ e x
  | [], _, x, hx => by simp at hx
  | y :: s, hs, x, hx => by
    by_cases hy : e y < b
    · rw [List.dropWhile_cons_of_pos (by simpa using hy)] at hx
      exact dropWhile_ge (List.pairwise_cons.mp hs).2 x hx
    · rw [List.dropWhile_cons_of_neg (by simpa using hy)] at hx
      rcases List.mem_cons.mp hx with rfl | hx
      · omega
      · have := (List.pairwise_cons.mp hs).1 x hx
        omega
theorem takeWhile_lt {e : Nat → Nat} {b : Nat} : ∀ {s : List Nat}, ∀ x ∈ s.takeWhile (fun x => decide (e x < b)), e x < b
  | [], x, hx => by simp at hx
  | y :: s, x, hx => by
    by_cases hy : e y < b
    · rw [List.takeWhile_cons_of_pos (by simpa using hy)] at hx
      rcases List.mem_cons.mp hx with rfl | hx
      · exact hy
      · exact takeWhile_lt x hx
    · rw [List.takeWhile_cons_of_neg (by simpa using hy)] at hx
      cases hx
theorem lIns_len (e : Nat → Nat) (b c : Nat) (s : List Nat) : (lIns e b c s).length = s.length + 1 := by
  have := congrArg List.length (List.takeWhile_append_dropWhile (p := fun x => decide (e x < b)) (l := s))
  simp only [lIns, List.length_append, List.length_cons] at this ⊢
  omega
theorem lIns_sorted {e e1 : Nat → Nat} {b c : Nat} {s : List Nat} (hs : s.Pairwise (fun x y => e x < e y)) (hb : ∀ x ∈ s, e x ≠ b) (hc : e1 c = b) (he : ∀ x ∈ s, e1 x = e x) : (lIns e b c s).Pairwise (fun x y => e1 x < e1 y) := by
  have hsub : ∀ x ∈ s.takeWhile (fun x => decide (e x < b)), x ∈ s := fun x hx => (List.takeWhile_sublist _).subset hx
  have hsub2 : ∀ x ∈ s.dropWhile (fun x => decide (e x < b)), x ∈ s := fun x hx => (List.dropWhile_sublist _).subset hx
  have hall := hs
  rw [← List.takeWhile_append_dropWhile (p := fun x => decide (e x < b)) (l := s), List.pairwise_append] at hall
  obtain ⟨p1, p2, p3⟩ := hall
  unfold lIns
  rw [List.pairwise_append]
  refine ⟨p1.imp_of_mem (fun hx hy h => by rw [he _ (hsub _ hx), he _ (hsub _ hy)]; exact h), List.pairwise_cons.mpr ⟨fun x hx => ?_, p2.imp_of_mem (fun hx hy h => by rw [he _ (hsub2 _ hx), he _ (hsub2 _ hy)]; exact h)⟩, fun x hx y hy => ?_⟩
  · rw [hc, he x (hsub2 x hx)]
    have h1 := dropWhile_ge hs x hx
    have h2 := hb x (hsub2 x hx)
    omega
  · rcases List.mem_cons.mp hy with rfl | hy
    · rw [hc, he x (hsub x hx)]; exact takeWhile_lt x hx
    · rw [he x (hsub x hx), he y (hsub2 y hy)]; exact p3 x hx y hy
theorem tAdd_wf {T : TT} (hW : tWF T) {s c b : Nat} {p : List Nat} (v : Int64) (hs : tU T s = true) (hc : tU T c = false) (hc220 : c < 220) (hb : b < 256) (hp : ∀ x ∈ p, x < 256) (h12 : tL T s + (tX T s).length + 1 + p.length ≤ 12) (hnb : ∀ x ∈ tC T s, tB T x ≠ b) : tWF (tAdd T s c b p v) := by
  obtain ⟨w1, w2, w3, w4, w5, w6⟩ := hW
  have hsc : s ≠ c := fun q => by rw [q, hc] at hs; cases hs
  have hoc : tO T ≠ c := fun q => by rw [q, hc] at w1; cases w1.1
  have huc : ∀ x, tU T x = true → x ≠ c := fun x hx q => by rw [q, hc] at hx; cases hx
  have eU : ∀ x, tU (tAdd T s c b p v) x = if x = c then true else tU T x := fun x => rfl
  have eP : ∀ x, tP (tAdd T s c b p v) x = if x = c then some s else tP T x := fun x => rfl
  have eB : ∀ x, tB (tAdd T s c b p v) x = if x = c then b else tB T x := fun x => rfl
  have eX : ∀ x, tX (tAdd T s c b p v) x = if x = c then p else tX T x := fun x => rfl
  have eC : ∀ x, tC (tAdd T s c b p v) x = if x = s then lIns (tB T) b c (tC T s) else if x = c then [] else tC T x := fun x => rfl
  have eL : ∀ x, tL (tAdd T s c b p v) x = if x = c then tL T s + (tX T s).length + 1 else tL T x := fun x => rfl
  have hold : ∀ x, x ≠ c → tU (tAdd T s c b p v) x = true → tU T x = true := fun x hx h => by rw [eU, if_neg hx] at h; exact h
  refine ⟨?_, fun n hn => ?_, fun n hn hne => ?_, fun n q hn hq => ?_, fun q x hq hx => ?_, fun q hq => ?_⟩
  · show tU (tAdd T s c b p v) (tO T) = true ∧ tP (tAdd T s c b p v) (tO T) = none ∧ tL (tAdd T s c b p v) (tO T) = 0
    rw [eU, eP, eL, if_neg hoc, if_neg hoc, if_neg hoc]
    exact w1
  · rw [eB, eX, eL]
    by_cases hnc : n = c
    · subst hnc
      simp only [if_true]
      exact ⟨hc220, hb, hp, by omega⟩
    · simp only [if_neg hnc]
      exact w2 n (hold n hnc hn)
  · by_cases hnc : n = c
    · subst hnc
      exact ⟨s, by rw [eP, if_pos rfl], by rw [eC, if_pos rfl]; exact lIns_mem.mpr (Or.inl rfl)⟩
    · obtain ⟨q, h1, h2⟩ := w3 n (hold n hnc hn) hne
      have hqu := (w4 n q (hold n hnc hn) h1).1
      refine ⟨q, by rw [eP, if_neg hnc]; exact h1, ?_⟩
      rw [eC]
      by_cases hqs : q = s
      · rw [if_pos hqs]; exact lIns_mem.mpr (Or.inr (hqs ▸ h2))
      · rw [if_neg hqs, if_neg (huc q hqu)]; exact h2
  · by_cases hnc : n = c
    · subst hnc
      rw [eP, if_pos rfl] at hq
      cases hq
      refine ⟨by rw [eU, if_neg hsc]; exact hs, by rw [eC, if_pos rfl]; exact lIns_mem.mpr (Or.inl rfl), ?_⟩
      rw [eL, eL, eX, if_pos rfl, if_neg hsc, if_neg hsc]
    · rw [eP, if_neg hnc] at hq
      obtain ⟨h1, h2, h3⟩ := w4 n q (hold n hnc hn) hq
      have hqc := huc q h1
      refine ⟨by rw [eU, if_neg hqc]; exact h1, ?_, by rw [eL, eL, eX, if_neg hnc, if_neg hqc, if_neg hqc]; exact h3⟩
      rw [eC]
      by_cases hqs : q = s
      · rw [if_pos hqs]; exact lIns_mem.mpr (Or.inr (hqs ▸ h2))
      · rw [if_neg hqs, if_neg hqc]; exact h2
  · rw [eC] at hx
    by_cases hqs : q = s
    · subst hqs
      rw [if_pos rfl] at hx
      rcases lIns_mem.mp hx with rfl | hx
      · exact ⟨by rw [eU, if_pos rfl], by rw [eP, if_pos rfl]⟩
      · obtain ⟨h1, h2⟩ := w5 q x hs hx
        exact ⟨by rw [eU, if_neg (huc x h1)]; exact h1, by rw [eP, if_neg (huc x h1)]; exact h2⟩
    · rw [if_neg hqs] at hx
      by_cases hqc : q = c
      · rw [if_pos hqc] at hx; cases hx
      · rw [if_neg hqc] at hx
        obtain ⟨h1, h2⟩ := w5 q x (hold q hqc hq) hx
        exact ⟨by rw [eU, if_neg (huc x h1)]; exact h1, by rw [eP, if_neg (huc x h1)]; exact h2⟩
  · rw [eC]
    by_cases hqs : q = s
    · rw [if_pos hqs]
      exact lIns_sorted (w6 s hs) hnb (by rw [eB, if_pos rfl]) (fun x hx => by rw [eB, if_neg (huc x (w5 s x hs hx).1)])
    · rw [if_neg hqs]
      by_cases hqc : q = c
      · rw [if_pos hqc]; exact List.Pairwise.nil
      · rw [if_neg hqc]
        have hqu := hold q hqc hq
        exact (w6 q hqu).imp_of_mem (fun hx hy h => by rw [eB, eB, if_neg (huc _ (w5 q _ hqu hx).1), if_neg (huc _ (w5 q _ hqu hy).1)]; exact h)
