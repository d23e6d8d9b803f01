/-! The nodes met one behind the other are all nodes, each once. -/
theorem tE_self (T : TT) (f n : Nat) : n ∈ tE T f n := by cases f <;> simp [tE]
theorem tE_child {T : TT} (hW : tWF T) : ∀ (f r : Nat), tU T r = true → 12 ≤ f + tL T r → ∀ p ∈ tE T f r, ∀ c ∈ tC T p, c ∈ tE T f r
  | 0, r, hr, hf, p, hp, c, hc => by
    simp only [tE, List.mem_singleton] at hp
    subst hp
    have h1 := hW.2.2.2.2.1 p c hr hc
    have h2 := (hW.2.2.2.1 c p h1.1 h1.2).2.2
    have h3 := (hW.2.1 c h1.1).2.2.2
    omega
  | f + 1, r, hr, hf, p, hp, c, hc => by
    simp only [tE, List.mem_cons, List.mem_flatMap] at hp ⊢
    rcases hp with rfl | ⟨d, hd, hp⟩
    · exact Or.inr ⟨c, hc, tE_self T f c⟩
    · have h1 := hW.2.2.2.2.1 r d hr hd
      have h2 := (hW.2.2.2.1 d r h1.1 h1.2).2.2
      exact Or.inr ⟨d, hd, tE_child hW f d h1.1 (by omega) p hp c hc⟩
theorem tEs_all {T : TT} (hW : tWF T) : ∀ (k n : Nat), tU T n = true → tL T n ≤ k → n ∈ tEs T
  | k, n, hn, hk => by
    by_cases hno : n = tO T
    · rw [hno]; exact tE_self T 13 _
    · obtain ⟨p, hp, hm⟩ := hW.2.2.1 n hn hno
      obtain ⟨h1, h2, h3⟩ := hW.2.2.2.1 n p hn hp
      match k, hk with
      | 0, hk => omega
      | k + 1, hk => exact tE_child hW 13 (tO T) hW.1.1 (by omega) p (tEs_all hW k p h1 (by omega)) n h2
theorem tEs_mem {T : TT} (hW : tWF T) {n : Nat} : n ∈ tEs T ↔ tU T n = true :=
  ⟨fun h => tE_used hW 13 (tO T) hW.1.1 n h, fun h => tEs_all hW _ n h (Nat.le_refl _)⟩
/-- so many up -/
def tUp (T : TT) : Nat → Nat → Option Nat
  | 0, x => some x
  | k + 1, x => match tUp T k x with | none => none | some y => tP T y
theorem tUp_used {T : TT} (hW : tWF T) {x : Nat} (hx : tU T x = true) : ∀ {k y : Nat}, tUp T k x = some y → tU T y = true ∧ tL T y + k ≤ tL T x
  | 0, y, h => by simp only [tUp, Option.some.injEq] at h; subst h; exact ⟨hx, by omega⟩
  | k + 1, y, h => by
    simp only [tUp] at h
    cases hz : tUp T k x with
    | none => rw [hz] at h; cases h
    | some z =>
      rw [hz] at h
      obtain ⟨h1, h2⟩ := tUp_used hW hx hz
      obtain ⟨h3, -, h4⟩ := hW.2.2.2.1 z y h1 h
      exact ⟨h3, by omega⟩
theorem tUp_lt {T : TT} (hW : tWF T) {x : Nat} (hx : tU T x = true) {k : Nat} : ∀ {j a b : Nat}, tUp T k x = some a → tUp T (k + j + 1) x = some b → tL T b < tL T a
  | 0, a, b, ha, hb => by
    simp only [Nat.add_zero, tUp, ha] at hb
    have := (hW.2.2.2.1 a b (tUp_used hW hx ha).1 hb).2.2
    omega
  | j + 1, a, b, ha, hb => by
    have hb2 : (match tUp T (k + j + 1) x with | none => none | some y => tP T y) = some b := hb
    cases hz : tUp T (k + j + 1) x with
    | none => rw [hz] at hb2; cases hb2
    | some z =>
      rw [hz] at hb2
      have h1 := tUp_lt hW hx ha hz
      have h2 := (hW.2.2.2.1 z b (tUp_used hW hx hz).1 hb2).2.2
      omega
theorem tUp_same {T : TT} (hW : tWF T) {x : Nat} (hx : tU T x = true) {k j a b : Nat} (ha : tUp T k x = some a) (hb : tUp T j x = some b) (hl : tL T a = tL T b) : a = b := by
  rcases Nat.lt_trichotomy k j with h | h | h
  · obtain ⟨d, rfl⟩ : ∃ d, j = k + d + 1 := ⟨j - k - 1, by omega⟩
    have := tUp_lt hW hx ha hb
    omega
  · subst h; rw [ha] at hb; exact Option.some.inj hb
  · obtain ⟨d, rfl⟩ : ∃ d, k = j + d + 1 := ⟨k - j - 1, by omega⟩
    have := tUp_lt hW hx hb ha
    omega
theorem tE_up {T : TT} (hW : tWF T) : ∀ (f c : Nat), tU T c = true → ∀ x ∈ tE T f c, ∃ k, tUp T k x = some c
  | 0, c, _, x, hx => by
    simp only [tE, List.mem_singleton] at hx
    exact ⟨0, by rw [hx]; rfl⟩
  | f + 1, c, hc, x, hx => by
    simp only [tE, List.mem_cons, List.mem_flatMap] at hx
    rcases hx with rfl | ⟨d, hd, hx⟩
    · exact ⟨0, rfl⟩
    · obtain ⟨h1, h2⟩ := hW.2.2.2.2.1 c d hc hd
      obtain ⟨k, hk⟩ := tE_up hW f d h1 x hx
      exact ⟨k + 1, by simp only [tUp, hk]; exact h2⟩
theorem tE_nodup {T : TT} (hW : tWF T) : ∀ (f n : Nat), tU T n = true → (tE T f n).Nodup
  | 0, n, _ => by simp [tE]
  | f + 1, n, hn => by
    simp only [tE, List.nodup_cons]
    have hch : ∀ c ∈ tC T n, tU T c = true ∧ tL T c = tL T n + (tX T n).length + 1 := fun c hc => by
      obtain ⟨h1, h2⟩ := hW.2.2.2.2.1 n c hn hc
      exact ⟨h1, (hW.2.2.2.1 c n h1 h2).2.2⟩
    refine ⟨fun h => ?_, ?_⟩
    · obtain ⟨c, hc, hx⟩ := List.mem_flatMap.mp h
      obtain ⟨k, hk⟩ := tE_up hW f c (hch c hc).1 n hx
      have h1 := (tUp_used hW hn hk).2
      have h2 := (hch c hc).2
      omega
    · have hd := tC_nodup hW hn
      rw [List.nodup_iff_pairwise_ne] at *
      rw [List.pairwise_flatMap]
      refine ⟨fun c hc => List.nodup_iff_pairwise_ne.mp (tE_nodup hW f c (hch c hc).1), ?_⟩
      refine hd.imp_of_mem (fun {a b} ha hb hne x hx y hy hxy => ?_)
      subst hxy
      obtain ⟨k, hk⟩ := tE_up hW f a (hch a ha).1 x hx
      obtain ⟨j, hj⟩ := tE_up hW f b (hch b hb).1 x hy
      have hxu := tE_used hW f a (hch a ha).1 x hx
      exact hne (tUp_same hW hxu hk hj (by rw [(hch a ha).2, (hch b hb).2]))
theorem tEs_nodup {T : TT} (hW : tWF T) : (tEs T).Nodup := tE_nodup hW 13 (tO T) hW.1.1
/-- lists without doubles and with the same members count alike -/
theorem cnt_same (p : Nat → Bool) : ∀ (s1 s2 : List Nat), s1.Nodup → s2.Nodup → (∀ x, p x = true → (x ∈ s1 ↔ x ∈ s2)) → s1.countP p = s2.countP p
  | [], s2, _, _, h => by
    symm
    rw [List.countP_nil, List.countP_eq_zero]
    intro x hx hp
    exact absurd ((h x hp).mpr hx) (by simp)
  | a :: s1, s2, h1, h2, h => by
    obtain ⟨n1, n2⟩ := List.nodup_cons.mp h1
    by_cases hp : p a = true
    · have ha : a ∈ s2 := (h a hp).mp List.mem_cons_self
      have hperm := List.perm_cons_erase ha
      have hnd : (a :: s2.erase a).Nodup := hperm.nodup_iff.mp h2
      have ih := cnt_same p s1 (s2.erase a) n2 (List.nodup_cons.mp hnd).2 (fun x hx => by
        constructor
        · intro hm
          have hne : x ≠ a := fun z => n1 (z ▸ hm)
          exact (List.mem_erase_of_ne hne).mpr ((h x hx).mp (List.mem_cons_of_mem _ hm))
        · intro hm
          have hne : x ≠ a := fun z => (List.nodup_cons.mp hnd).1 (z ▸ hm)
          rcases List.mem_cons.mp ((h x hx).mpr (List.mem_of_mem_erase hm)) with z | z
          · exact absurd z hne
          · exact z)
      rw [List.countP_cons_of_pos hp, ih, hperm.countP_eq, List.countP_cons_of_pos hp]
    · rw [List.countP_cons_of_neg hp]
      refine cnt_same p s1 s2 n2 h2 (fun x hx => ?_)
      rw [← h x hx, List.mem_cons]
      exact ⟨Or.inr, fun z => z.resolve_left (fun w => hp (w ▸ hx))⟩
/-- counting along the tree is counting the ids -/
theorem tEs_cnt {T : TT} (hW : tWF T) (p : Nat → Bool) : (tEs T).countP p = (List.range 220).countP (fun n => tU T n && p n) := by
  have h1 : (tEs T).countP p = (tEs T).countP (fun n => tU T n && p n) := List.countP_congr (fun x hx => by rw [(tEs_mem hW).mp hx]; simp)
  rw [h1]
  refine cnt_same _ _ _ (tEs_nodup hW) List.nodup_range (fun x hx => ?_)
  have hu : tU T x = true := by
    cases h : tU T x with
    | true => rfl
    | false => rw [h] at hx; simp at hx
  rw [tEs_mem hW, List.mem_range]
  exact ⟨fun h => (hW.2.1 x h).1, fun _ => hu⟩
theorem tEs_len {T : TT} (hW : tWF T) : (tEs T).length = (List.range 220).countP (tU T) := by
  have h := tEs_cnt hW (fun _ => true)
  rw [List.countP_true] at h
  rw [h]; simp
