/-! What put does to the abstract tree. -/

/-- the reference's next node -/
def tFree (T : TT) : Nat := ((List.range 220).find? (fun n => !tU T n)).getD 0
/-- what stands in every tree -/
def tInv (T : TT) : Prop :=
  (∀ n, tU T n = true → 1 ≤ tF T n ∧ tF T n ≤ 4 ∧ tG T n < 256 ∧ (tC T n).length ≤ fRoom (tF T n)) ∧
  (∀ n, tU T n = true → (tV T n).isSome = true ∨ 2 ≤ (tC T n).length ∨ (n = tO T ∧ tC T n = [] ∧ tX T n = [] ∧ tF T n = 1)) ∧
  tCnt T ≤ 200
theorem tFree_ok {T : TT} (h : tCnt T < 220) : tU T (tFree T) = false ∧ tFree T < 220 := by
  unfold tCnt at h
  unfold tFree
  cases hf : (List.range 220).find? (fun n => !tU T n) with
  | none =>
    exfalso
    have h1 := List.find?_eq_none.mp hf
    have h2 : (List.range 220).countP (tU T) = (List.range 220).length := List.countP_eq_length.mpr (fun x hx => by simpa using h1 x hx)
    rw [List.length_range] at h2
    omega
  | some c =>
    have h1 := List.find?_some hf
    have h2 := List.mem_range.mp (List.mem_of_find?_eq_some hf)
    exact ⟨by simpa using h1, h2⟩
/-- what put answers, and the tree then; the way ends at s behind m bytes of its prefix, w of the key; a, c: the next nodes -/
def tPutG (T : TT) (key : List Nat) (v : Int64) (s m w a c : Nat) : Int32 × TT :=
  if w = key.length ∧ m = (tX T s).length ∧ (tV T s).isSome = true then (0, if tV T s = some v then T else tFr (tSv T s (some v)) s)
  else if tV T (tO T) = none ∧ tC T (tO T) = [] then (1, tFr (tSv (tXf T (tO T) key (tF T (tO T))) (tO T) (some v)) (tO T))
  else if 200 < tCnt T + (if m < (tX T s).length then 1 else 0) + (if w < key.length then 1 else 0) then (-2, T)
  else if m < (tX T s).length then
    (1, if w < key.length then tFr (tAdd (tFr (tCut T s m a) s) a c (key.getD w 0) (key.drop (w + 1)) v) c else tSv (tFr (tCut T s m a) s) a (some v))
  else if w < key.length then (1, tFr (tAdd T s a (key.getD w 0) (key.drop (w + 1)) v) a)
  else (1, tFr (tSv T s (some v)) s)
def tPut (T : TT) (key : List Nat) (v : Int64) : Int32 × TT := tPutG T key v (tSe T key).1 (tSe T key).2.1 (tSe T key).2.2 (tFree T) (tFree (tCut T (tSe T key).1 (tSe T key).2.1 (tFree T)))
/-- what is known of where a way ends -/
def skOk (T : TT) (key : List Nat) (s m w : Nat) : Prop :=
  tU T s = true ∧ m ≤ (tX T s).length ∧ w ≤ key.length ∧ w = tL T s + m ∧ (¬ m < (tX T s).length → w < key.length → ∀ x ∈ tC T s, tB T x ≠ key.getD w 0) ∧ (m < (tX T s).length → w < key.length → (tX T s).getD m 0 ≠ key.getD w 0)
section TP
variable {T : TT} {key : List Nat}
/-- where a way ends -/
theorem tSk_end (hW : tWF T) : ∀ (f n u : Nat), tU T n = true → 12 ≤ f + tL T n → u ≤ key.length → u = tL T n →
    tSt T key (tSk T key f n u).1 (tSk T key f n u).2.1 (tSk T key f n u).2.2 = none ∧ (tSk T key f n u).2.2 = tL T (tSk T key f n u).1 + (tSk T key f n u).2.1 ∧ (tSk T key f n u).2.1 = lcp (tX T (tSk T key f n u).1) (key.drop (tL T (tSk T key f n u).1))
  | f, n, u, hn, hf, hu, hul => by
    have hle := lcp_le (tX T n) (key.drop u)
    rw [List.length_drop] at hle
    cases hs : tSt T key n (lcp (tX T n) (key.drop u)) (u + lcp (tX T n) (key.drop u)) with
    | none =>
      have : tSk T key f n u = (n, lcp (tX T n) (key.drop u), u + lcp (tX T n) (key.drop u)) := by
        cases f with
        | zero => rfl
        | succ f => simp only [tSk, hs]
      rw [this]
      exact ⟨hs, by rw [hul], by rw [hul]⟩
    | some k =>
      obtain ⟨k1, k2, k3, k4, k5⟩ := tSt_in hW hn hs
      have k6 := (hW.2.1 k k2).2.2.2
      match f, hf with
      | 0, hf => omega
      | f + 1, hf =>
        simp only [tSk, hs]
        exact tSk_end hW f k _ k2 (by omega) (by omega) (by omega)
theorem tSe_end (hW : tWF T) (key : List Nat) : tSt T key (tSe T key).1 (tSe T key).2.1 (tSe T key).2.2 = none ∧ (tSe T key).2.2 = tL T (tSe T key).1 + (tSe T key).2.1 ∧ (tSe T key).2.1 = lcp (tX T (tSe T key).1) (key.drop (tL T (tSe T key).1)) :=
  tSk_end hW 12 (tO T) 0 hW.1.1 (by omega) (Nat.zero_le _) hW.1.2.2.symm
/-- no child has the byte where the way ends behind a whole prefix -/
theorem tSe_nb (hW : tWF T) (h1 : ¬ (tSe T key).2.1 < (tX T (tSe T key).1).length) (h2 : (tSe T key).2.2 < key.length) : ∀ x ∈ tC T (tSe T key).1, tB T x ≠ key.getD (tSe T key).2.2 0 := by
  intro c hc hb
  have hs := (tSe_end hW key).1
  have hu := (tSe_ok hW key).1
  simp only [tSt] at hs
  rw [if_neg (by omega)] at hs
  simp only [tKb] at hs
  cases hK : tK T (tSe T key).1 (key.getD (tSe T key).2.2 0) with
  | none => have := tK_none hK c hc; omega
  | some k =>
    rw [hK] at hs
    obtain ⟨hge, l1, l3, hl, hlt⟩ := tK_some hK
    have hne : tB T k ≠ key.getD (tSe T key).2.2 0 := fun z => by simp only [if_pos z] at hs; cases hs
    have hsort := hW.2.2.2.2.2 _ hu
    rw [hl, List.pairwise_append, List.pairwise_cons] at hsort
    rw [hl] at hc
    rcases List.mem_append.mp hc with hc | hc
    · have := hlt c hc; omega
    · rcases List.mem_cons.mp hc with rfl | hc
      · exact hne hb
      · have := hsort.2.1.1 c hc; omega
/-- the byte differs where the way ends within a prefix -/
theorem tSe_ne (hW : tWF T) (h1 : (tSe T key).2.1 < (tX T (tSe T key).1).length) (h2 : (tSe T key).2.2 < key.length) : (tX T (tSe T key).1).getD (tSe T key).2.1 0 ≠ key.getD (tSe T key).2.2 0 := by
  obtain ⟨-, e1, e2⟩ := tSe_end hW key
  have := lcp_ne (tX T (tSe T key).1) (key.drop (tL T (tSe T key).1)) (by rw [← e2]; exact h1) (by rw [← e2, List.length_drop]; omega)
  rw [← e2, getD_drop, ← e1] at this
  exact this
theorem tSe_sk (hW : tWF T) (key : List Nat) : skOk T key (tSe T key).1 (tSe T key).2.1 (tSe T key).2.2 := by
  obtain ⟨h1, h2, h3⟩ := tSe_ok hW key
  exact ⟨h1, h2, h3, (tSe_end hW key).2.1, fun a b => tSe_nb hW a b, fun a b => tSe_ne hW a b⟩
/-- without keys there is only an empty root -/
theorem tKy0 (hW : tWF T) (hI : tInv T) (h : ∀ n, tU T n = true → tV T n = none) : tC T (tO T) = [] ∧ tX T (tO T) = [] ∧ tF T (tO T) = 1 := by
  have key : ∀ (k n : Nat), tU T n = true → 12 ≤ k + tL T n → n ≠ tO T → False := by
    intro k
    induction k with
    | zero =>
      intro n hn hk hne
      rcases hI.2.1 n hn with h1 | h1 | h1
      · rw [h n hn] at h1; cases h1
      · match hc : tC T n, h1 with
        | c :: r, _ =>
          have hcm : c ∈ tC T n := by rw [hc]; exact List.mem_cons_self
          have h2 := hW.2.2.2.2.1 n c hn hcm
          have h3 := (hW.2.2.2.1 c n h2.1 h2.2).2.2
          have h4 := (hW.2.1 c h2.1).2.2.2
          omega
      · exact hne h1.1
    | succ k ih =>
      intro n hn hk hne
      rcases hI.2.1 n hn with h1 | h1 | h1
      · rw [h n hn] at h1; cases h1
      · match hc : tC T n, h1 with
        | c :: r, _ =>
          have hcm : c ∈ tC T n := by rw [hc]; exact List.mem_cons_self
          have h2 := hW.2.2.2.2.1 n c hn hcm
          have h3 := (hW.2.2.2.1 c n h2.1 h2.2).2.2
          exact ih c h2.1 (by omega) (fun z => by rw [z, hW.1.2.1] at h2; cases h2.2)
      · exact hne h1.1
  rcases hI.2.1 _ hW.1.1 with h1 | h1 | h1
  · rw [h _ hW.1.1] at h1; cases h1
  · exfalso
    match hc : tC T (tO T), h1 with
    | c :: r, _ =>
      have h2 := hW.2.2.2.2.1 (tO T) c hW.1.1 (by rw [hc]; exact List.mem_cons_self)
      exact key 12 c h2.1 (by omega) (fun z => by rw [z, hW.1.2.1] at h2; cases h2.2)
  · exact h1.2
theorem root_alone (hW : tWF T) (hc : tC T (tO T) = []) : ∀ n, tU T n = true → n = tO T := by
  intro n hn
  have h := (tEs_mem hW).mpr hn
  unfold tEs at h
  rw [show (13 : Nat) = 12 + 1 from rfl] at h
  simp only [tE, hc, List.flatMap_nil, List.mem_singleton] at h
  exact h
theorem cnt0_iff (p : Nat → Bool) : (List.range 220).countP (fun n => tU T n && p n) = 0 ↔ ∀ n, n < 220 → tU T n = true → p n = false := by
  rw [List.countP_eq_zero]
  constructor
  · intro h n hn hu
    have := h n (List.mem_range.mpr hn)
    rw [hu] at this
    simpa using this
  · intro h n hn
    have hn2 := List.mem_range.mp hn
    cases hu : tU T n with
    | false => simp
    | true => rw [h n hn2 hu]; simp
end TP
