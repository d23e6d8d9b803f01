/-! How many keys begin with a row, come before it. -/
def tWn (T : TT) (key : List Nat) : Nat := (tEs T).countP (fun n => (tV T n).isSome && kbg (tKey T n) key)
def tAn (T : TT) (key : List Nat) : Nat := (tEs T).countP (fun n => (tV T n).isSome && kbf (tKey T n) key)
section WA
variable {T : TT} {key : List Nat}
theorem lto_split {a b : List Nat} (h : (a ++ b).Nodup) : lto (a ++ b) b.head? = a := by
  unfold lto
  have h3 := (List.nodup_append.mp h).2.2
  have hp : ∀ x ∈ a, decide (some x ≠ b.head?) = true := fun x hx => by
    cases b with
    | nil => simp
    | cons y r =>
      have : x ≠ y := fun z => h3 x hx y List.mem_cons_self z
      simpa using this
  rw [List.takeWhile_append_of_pos hp]
  cases b with
  | nil => simp
  | cons y r => rw [List.takeWhile_cons_of_neg (by simp), List.append_nil]
theorem cnt_eq0 {l : List Nat} {p q : Nat → Bool} (h : ∀ x ∈ l, q x = false) : l.countP (fun n => p n && q n) = 0 := by
  rw [List.countP_eq_zero]
  intro x hx
  rw [h x hx]; simp
theorem cnt_eq1 {l : List Nat} {p q : Nat → Bool} (h : ∀ x ∈ l, q x = true) : l.countP (fun n => p n && q n) = l.countP p := by
  refine List.countP_congr (fun x hx => ?_)
  rw [h x hx]; simp
theorem tPth_root (hW : tWF T) : tPth T (tO T) = [] := by simp [tPth, hW.1.2.1]
theorem tWn_0 (hW : tWF T) (h : (tSe T key).2.2 < key.length) : tWn T key = 0 :=
  cnt_eq0 ((with_split (key := key) hW 12 13 (tO T) 0 hW.1.1 (by omega) (by omega) (Nat.zero_le _) (by rw [tPth_root hW]; simp)).1 h)
theorem tWn_1 (hW : tWF T) (h : (tSe T key).2.2 = key.length) : ∃ l1 l2 l3, tEs T = l1 ++ (l2 ++ l3) ∧ (l2 ++ l3).head? = some (tSe T key).1 ∧ lto (l2 ++ l3) (tH T 13 (tSe T key).1) = l2 ∧ (∀ x, tH T 13 (tSe T key).1 = some x → tU T x = true) ∧ l2.countP (fun n => (tV T n).isSome) = tWn T key := by
  obtain ⟨l1, l3, f3, e1, e2, e3, e4, e5⟩ := (with_split (key := key) hW 12 13 (tO T) 0 hW.1.1 (by omega) (by omega) (Nat.zero_le _) (by rw [tPth_root hW]; simp)).2 h
  have hnd := tEs_nodup hW
  have hes : tEs T = l1 ++ (tE T f3 (tSe T key).1 ++ l3) := e1
  have e6 : tH T 13 (tSe T key).1 = l3.head? := by
    have : (l3.head?).or (tH T 13 (tO T)) = tH T 13 (tSe T key).1 := e5
    rw [← this, tH_root 13 hW.1.2.1]
    cases l3.head? <;> rfl
  refine ⟨l1, _, l3, hes, ?_, ?_, fun x hx => ?_, ?_⟩
  · rw [List.head?_append, tE_head]; rfl
  · rw [e6]
    rw [hes] at hnd
    exact lto_split (List.nodup_append.mp hnd).2.1
  · rw [e6] at hx
    have : x ∈ tEs T := by rw [hes]; exact List.mem_append_right _ (List.mem_append_right _ (List.mem_of_head? hx))
    exact (tEs_mem hW).mp this
  · have e4b : ∀ x ∈ tE T f3 (tSe T key).1, kbg (tKey T x) key = true := e4
    unfold tWn
    rw [hes, List.countP_append, List.countP_append, cnt_eq0 (fun x hx => e3 x (Or.inl hx)), cnt_eq0 (fun x hx => e3 x (Or.inr hx)), cnt_eq1 e4b]
    omega
theorem tAn_1 (hW : tWF T) : ∃ l1 l2, tEs T = l1 ++ l2 ∧ lto (l1 ++ l2) (tFa T key (tSe T key).1 (tSe T key).2.1 (tSe T key).2.2) = l1 ∧ (∀ x, tFa T key (tSe T key).1 (tSe T key).2.1 (tSe T key).2.2 = some x → tU T x = true) ∧ l1.countP (fun n => (tV T n).isSome) = tAn T key := by
  obtain ⟨l1, l2, e1, e2, e3, e4⟩ := ahead_split (key := key) hW 12 13 (tO T) 0 hW.1.1 (by omega) (by omega) (Nat.zero_le _) (by rw [tPth_root hW]; simp)
  have hnd := tEs_nodup hW
  have hes : tEs T = l1 ++ l2 := e1
  have e6 : tFa T key (tSe T key).1 (tSe T key).2.1 (tSe T key).2.2 = l2.head? := by
    have : tFa T key (tSe T key).1 (tSe T key).2.1 (tSe T key).2.2 = (l2.head?).or (tH T 13 (tO T)) := e4
    rw [this, tH_root 13 hW.1.2.1]
    cases l2.head? <;> rfl
  refine ⟨l1, l2, hes, ?_, fun x hx => ?_, ?_⟩
  · rw [e6]
    rw [hes] at hnd
    exact lto_split hnd
  · rw [e6] at hx
    exact (tEs_mem hW).mp (by rw [hes]; exact List.mem_append_right _ (List.mem_of_head? hx))
  · unfold tAn
    rw [hes, List.countP_append, cnt_eq1 (fun x hx => e2 x hx), cnt_eq0 (fun x hx => e3 x hx)]
    omega
end WA
