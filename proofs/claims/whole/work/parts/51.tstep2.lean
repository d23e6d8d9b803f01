/-! Cut, leaf gone, put together: the tree stays well formed. -/
theorem lRep_mem {s a y : Nat} {l : List Nat} : y ∈ lRep s a l ↔ (y = a ∧ s ∈ l) ∨ (y ∈ l ∧ y ≠ s) := by
  unfold lRep
  rw [List.mem_map]
  constructor
  · rintro ⟨x, hx, rfl⟩
    by_cases h : x = s
    · rw [if_pos h]; exact Or.inl ⟨rfl, h ▸ hx⟩
    · rw [if_neg h]; exact Or.inr ⟨hx, h⟩
  · rintro (⟨rfl, h⟩ | ⟨h, hne⟩)
    · exact ⟨s, h, by rw [if_pos rfl]⟩
    · exact ⟨y, h, by rw [if_neg hne]⟩
theorem lRep_len (s a : Nat) (l : List Nat) : (lRep s a l).length = l.length := by simp [lRep]
theorem lRep_sorted {e e1 : Nat → Nat} {s a : Nat} {l : List Nat} (hs : l.Pairwise (fun x y => e x < e y)) (ha : e1 a = e s) (he : ∀ x ∈ l, x ≠ s → e1 x = e x) : (lRep s a l).Pairwise (fun x y => e1 x < e1 y) := by
  unfold lRep
  rw [List.pairwise_map]
  refine hs.imp_of_mem (fun {x y} hx hy h => ?_)
  have key : ∀ z ∈ l, e1 (if z = s then a else z) = e z := fun z hz => by
    by_cases h : z = s
    · rw [if_pos h, h, ha]
    · rw [if_neg h, he z hz h]
  rw [key x hx, key y hy]; exact h
theorem tCut_wf {T : TT} (hW : tWF T) {s m a : Nat} (hs : tU T s = true) (ha : tU T a = false) (ha220 : a < 220) (hm : m < (tX T s).length) : tWF (tCut T s m a) := by
  have hW0 := hW
  obtain ⟨w1, w2, w3, w4, w5, w6⟩ := hW
  obtain ⟨s1, s2, s3, s4⟩ := w2 s hs
  have hua : ∀ x, tU T x = true → x ≠ a := fun x hx q => by rw [q, ha] at hx; cases hx
  have hsa : s ≠ a := hua s hs
  have has : a ≠ s := Ne.symm hsa
  have eU : ∀ x, tU (tCut T s m a) x = if x = a then true else tU T x := fun x => rfl
  have eP : ∀ x, tP (tCut T s m a) x = if x = s then some a else if x = a then tP T s else tP T x := fun x => rfl
  have eB : ∀ x, tB (tCut T s m a) x = if x = s then (tX T s).getD m 0 else if x = a then tB T s else tB T x := fun x => rfl
  have eX : ∀ x, tX (tCut T s m a) x = if x = s then (tX T s).drop (m + 1) else if x = a then (tX T s).take m else tX T x := fun x => rfl
  have eC : ∀ x, tC (tCut T s m a) x = if x = a then [s] else if tP T s = some x then lRep s a (tC T x) else tC T x := fun x => rfl
  have eL : ∀ x, tL (tCut T s m a) x = if x = s then tL T s + m + 1 else if x = a then tL T s else tL T x := fun x => rfl
  have eO : tO (tCut T s m a) = if s = tO T then a else tO T := rfl
  have hold : ∀ x, x ≠ a → tU (tCut T s m a) x = true → tU T x = true := fun x hx h => by rw [eU, if_neg hx] at h; exact h
  have hpar : ∀ q, tP T s = some q → q ≠ s ∧ q ≠ a := fun q hq => by
    obtain ⟨h1, h2, h3⟩ := w4 s q hs hq
    exact ⟨fun z => by rw [z] at h3; omega, hua q h1⟩
  have hkeep : ∀ q x, tU T q = true → x ∈ tC T q → x ≠ s → x ∈ tC (tCut T s m a) q := fun q x hq hx hne => by
    rw [eC, if_neg (hua q hq)]
    by_cases h : tP T s = some q
    · rw [if_pos h]; exact lRep_mem.mpr (Or.inr ⟨hx, hne⟩)
    · rw [if_neg h]; exact hx
  refine ⟨?_, fun n hn => ?_, fun n hn hne => ?_, fun n q hn hq => ?_, fun q x hq hx => ?_, fun q hq => ?_⟩
  · rw [eO]
    by_cases h : s = tO T
    · rw [if_pos h, eU, eP, eL, if_pos rfl, if_neg has, if_pos rfl, if_neg has, if_pos rfl, h]
      exact ⟨rfl, w1.2.1, w1.2.2⟩
    · have h1 : tO T ≠ a := hua _ w1.1
      rw [if_neg h, eU, eP, eL, if_neg h1, if_neg (Ne.symm h), if_neg h1, if_neg (Ne.symm h), if_neg h1]
      exact w1
  · rw [eB, eX, eL]
    by_cases h1 : n = s
    · rw [if_pos h1, if_pos h1, if_pos h1, h1]
      refine ⟨s1, getD_lt s3, fun b hb => s3 b (List.mem_of_mem_drop hb), ?_⟩
      rw [List.length_drop]; omega
    · rw [if_neg h1, if_neg h1, if_neg h1]
      by_cases h2 : n = a
      · rw [if_pos h2, if_pos h2, if_pos h2, h2]
        refine ⟨ha220, s2, fun b hb => s3 b (List.mem_of_mem_take hb), ?_⟩
        rw [List.length_take]; omega
      · rw [if_neg h2, if_neg h2, if_neg h2]
        exact w2 n (hold n h2 hn)
  · by_cases h1 : n = s
    · exact ⟨a, by rw [eP, if_pos h1], by rw [eC, if_pos rfl, h1]; exact List.mem_singleton.mpr rfl⟩
    · by_cases h2 : n = a
      · have hso : s ≠ tO T := fun z => hne (by rw [eO, if_pos z]; exact h2)
        obtain ⟨p, p1, p2⟩ := w3 s hs hso
        refine ⟨p, by rw [eP, if_neg h1, if_pos h2]; exact p1, ?_⟩
        rw [eC, if_neg (hpar p p1).2, if_pos p1, h2]
        exact lRep_mem.mpr (Or.inl ⟨rfl, p2⟩)
      · have hnu := hold n h2 hn
        have hno : n ≠ tO T := fun z => by
          by_cases h : s = tO T
          · exact h1 (z.trans h.symm)
          · exact hne (by rw [eO, if_neg h]; exact z)
        obtain ⟨p, p1, p2⟩ := w3 n hnu hno
        exact ⟨p, by rw [eP, if_neg h1, if_neg h2]; exact p1, hkeep p n (w4 n p hnu p1).1 p2 h1⟩
  · by_cases h1 : n = s
    · subst h1
      rw [eP, if_pos rfl] at hq
      cases hq
      refine ⟨by rw [eU, if_pos rfl], by rw [eC, if_pos rfl]; exact List.mem_singleton.mpr rfl, ?_⟩
      rw [eL, eL, eX, if_pos rfl, if_neg has, if_pos rfl, if_neg has, if_pos rfl, List.length_take]
      omega
    · by_cases h2 : n = a
      · subst h2
        rw [eP, if_neg h1, if_pos rfl] at hq
        obtain ⟨q1, q2, q3⟩ := w4 s q hs hq
        obtain ⟨q4, q5⟩ := hpar q hq
        refine ⟨by rw [eU, if_neg q5]; exact q1, ?_, ?_⟩
        · rw [eC, if_neg q5, if_pos hq]; exact lRep_mem.mpr (Or.inl ⟨rfl, q2⟩)
        · rw [eL, eL, eX, if_neg h1, if_pos rfl, if_neg q4, if_neg q5, if_neg q4, if_neg q5]; exact q3
      · have hnu := hold n h2 hn
        rw [eP, if_neg h1, if_neg h2] at hq
        obtain ⟨q1, q2, q3⟩ := w4 n q hnu hq
        have q5 := hua q q1
        refine ⟨by rw [eU, if_neg q5]; exact q1, hkeep q n q1 q2 h1, ?_⟩
        rw [eL, eL, eX, if_neg h1, if_neg h2]
        by_cases hqs : q = s
        · rw [if_pos hqs, if_pos hqs, List.length_drop, q3, hqs]; omega
        · rw [if_neg hqs, if_neg hqs, if_neg q5, if_neg q5]; exact q3
  · rw [eC] at hx
    by_cases h1 : q = a
    · rw [if_pos h1] at hx
      have hxs : x = s := List.mem_singleton.mp hx
      subst hxs
      exact ⟨by rw [eU, if_neg hsa]; exact hs, by rw [eP, if_pos rfl, h1]⟩
    · rw [if_neg h1] at hx
      have hqu := hold q h1 hq
      by_cases h2 : tP T s = some q
      · rw [if_pos h2] at hx
        rcases lRep_mem.mp hx with ⟨rfl, h3⟩ | ⟨h3, h4⟩
        · exact ⟨by rw [eU, if_pos rfl], by rw [eP, if_neg has, if_pos rfl]; exact h2⟩
        · obtain ⟨k1, k2⟩ := w5 q x hqu h3
          exact ⟨by rw [eU, if_neg (hua x k1)]; exact k1, by rw [eP, if_neg h4, if_neg (hua x k1)]; exact k2⟩
      · rw [if_neg h2] at hx
        obtain ⟨k1, k2⟩ := w5 q x hqu hx
        have h4 : x ≠ s := fun z => h2 (by rw [← z]; exact k2)
        exact ⟨by rw [eU, if_neg (hua x k1)]; exact k1, by rw [eP, if_neg h4, if_neg (hua x k1)]; exact k2⟩
  · rw [eC]
    by_cases h1 : q = a
    · rw [if_pos h1]; exact List.pairwise_singleton _ _
    · rw [if_neg h1]
      have hqu := hold q h1 hq
      by_cases h2 : tP T s = some q
      · rw [if_pos h2]
        exact lRep_sorted (w6 q hqu) (by rw [eB, if_neg has, if_pos rfl]) (fun x hx hne => by rw [eB, if_neg hne, if_neg (hua x (w5 q x hqu hx).1)])
      · rw [if_neg h2]
        refine (w6 q hqu).imp_of_mem (fun {x y} hx hy h => ?_)
        have k : ∀ z ∈ tC T q, tB (tCut T s m a) z = tB T z := fun z hz => by
          obtain ⟨k1, k2⟩ := w5 q z hqu hz
          rw [eB, if_neg (fun w => h2 (by rw [← w]; exact k2)), if_neg (hua z k1)]
        rw [k x hx, k y hy]; exact h
theorem tDel_wf {T : TT} (hW : tWF T) {n p : Nat} (hn : tU T n = true) (hp : tP T n = some p) (hc : tC T n = []) : tWF (tDel T n p) := by
  obtain ⟨w1, w2, w3, w4, w5, w6⟩ := hW
  obtain ⟨p1, p2, p3⟩ := w4 n p hn hp
  have hno : tO T ≠ n := fun z => by rw [← z, w1.2.1] at hp; cases hp
  have eU : ∀ x, tU (tDel T n p) x = if x = n then false else tU T x := fun x => rfl
  have eC : ∀ x, tC (tDel T n p) x = if x = p then (tC T p).filter (fun x => decide (x ≠ n)) else tC T x := fun x => rfl
  have hold : ∀ x, tU (tDel T n p) x = true → x ≠ n ∧ tU T x = true := fun x h => by
    rw [eU] at h
    by_cases hx : x = n
    · rw [if_pos hx] at h; cases h
    · rw [if_neg hx] at h; exact ⟨hx, h⟩
  have hkeep : ∀ q x, x ∈ tC T q → x ≠ n → x ∈ tC (tDel T n p) q := fun q x hx hne => by
    rw [eC]
    by_cases h : q = p
    · rw [if_pos h]; exact List.mem_filter.mpr ⟨h ▸ hx, by simpa using hne⟩
    · rw [if_neg h]; exact hx
  have hqn : ∀ q x, x ∈ tC T q → q ≠ n := fun q x hx z => by rw [z, hc] at hx; cases hx
  refine ⟨⟨by show tU (tDel T n p) (tO T) = true; rw [eU, if_neg hno]; exact w1.1, w1.2⟩, fun x hx => w2 x (hold x hx).2, fun x hx hne => ?_, fun x q hx hq => ?_, fun q x hq hx => ?_, fun q hq => ?_⟩
  · obtain ⟨h1, h2⟩ := hold x hx
    obtain ⟨q, q1, q2⟩ := w3 x h2 hne
    exact ⟨q, q1, hkeep q x q2 h1⟩
  · obtain ⟨h1, h2⟩ := hold x hx
    obtain ⟨q1, q2, q3⟩ := w4 x q h2 hq
    exact ⟨by rw [eU, if_neg (hqn q x q2)]; exact q1, hkeep q x q2 h1, q3⟩
  · obtain ⟨h1, h2⟩ := hold q hq
    rw [eC] at hx
    by_cases h : q = p
    · subst h
      rw [if_pos rfl] at hx
      obtain ⟨k1, k2⟩ := List.mem_filter.mp hx
      obtain ⟨k3, k4⟩ := w5 q x h2 k1
      exact ⟨by rw [eU, if_neg (by simpa using k2)]; exact k3, k4⟩
    · rw [if_neg h] at hx
      obtain ⟨k3, k4⟩ := w5 q x h2 hx
      have : x ≠ n := fun z => h (by rw [z, hp] at k4; exact (Option.some.inj k4).symm)
      exact ⟨by rw [eU, if_neg this]; exact k3, k4⟩
  · obtain ⟨h1, h2⟩ := hold q hq
    rw [eC]
    by_cases h : q = p
    · rw [if_pos h]; exact (w6 p p1).filter _
    · rw [if_neg h]; exact w6 q h2
theorem tJn_wf {T : TT} (hW : tWF T) {u c : Nat} (hu : tU T u = true) (hc : tC T u = [c]) : tWF (tJn T u c) := by
  obtain ⟨w1, w2, w3, w4, w5, w6⟩ := hW
  obtain ⟨c1, c2⟩ := w5 u c hu (by rw [hc]; exact List.mem_singleton.mpr rfl)
  obtain ⟨-, -, c3⟩ := w4 c u c1 c2
  obtain ⟨u1, u2, u3, u4⟩ := w2 u hu
  obtain ⟨d1, d2, d3, d4⟩ := w2 c c1
  have hcu : c ≠ u := fun z => by rw [z] at c3; omega
  have hco : c ≠ tO T := fun z => by rw [z, w1.2.1] at c2; cases c2
  have eU : ∀ x, tU (tJn T u c) x = if x = u then false else tU T x := fun x => rfl
  have eP : ∀ x, tP (tJn T u c) x = if x = c then tP T u else tP T x := fun x => rfl
  have eB : ∀ x, tB (tJn T u c) x = if x = c then tB T u else tB T x := fun x => rfl
  have eX : ∀ x, tX (tJn T u c) x = if x = c then tX T u ++ tB T c :: tX T c else tX T x := fun x => rfl
  have eC : ∀ x, tC (tJn T u c) x = if tP T u = some x then lRep u c (tC T x) else tC T x := fun x => rfl
  have eL : ∀ x, tL (tJn T u c) x = if x = c then tL T u else tL T x := fun x => rfl
  have eO : tO (tJn T u c) = if u = tO T then c else tO T := rfl
  have hold : ∀ x, tU (tJn T u c) x = true → x ≠ u ∧ tU T x = true := fun x h => by
    rw [eU] at h
    by_cases hx : x = u
    · rw [if_pos hx] at h; cases h
    · rw [if_neg hx] at h; exact ⟨hx, h⟩
  have hkeep : ∀ q x, x ∈ tC T q → x ≠ u → x ∈ tC (tJn T u c) q := fun q x hx hne => by
    rw [eC]
    by_cases h : tP T u = some q
    · rw [if_pos h]; exact lRep_mem.mpr (Or.inr ⟨hx, hne⟩)
    · rw [if_neg h]; exact hx
  have hqu : ∀ q x, x ∈ tC T q → x ≠ c → q ≠ u := fun q x hx hne z => by
    rw [z, hc] at hx; exact hne (List.mem_singleton.mp hx)
  have hxc : ∀ q x, tU T q = true → x ∈ tC T q → q ≠ u → x ≠ c := fun q x hq hx hne z => by
    have := (w5 q x hq hx).2
    rw [z, c2] at this
    exact hne (Option.some.inj this).symm
  refine ⟨?_, fun x hx => ?_, fun x hx hne => ?_, fun x q hx hq => ?_, fun q x hq hx => ?_, fun q hq => ?_⟩
  · rw [eO]
    by_cases h : u = tO T
    · rw [if_pos h, eU, eP, eL, if_neg hcu, if_pos rfl, if_pos rfl, h]
      exact ⟨c1, w1.2.1, w1.2.2⟩
    · rw [if_neg h, eU, eP, eL, if_neg (Ne.symm h), if_neg (Ne.symm hco), if_neg (Ne.symm hco)]
      exact w1
  · obtain ⟨h1, h2⟩ := hold x hx
    rw [eB, eX, eL]
    by_cases h : x = c
    · rw [if_pos h, if_pos h, if_pos h, h]
      refine ⟨d1, u2, fun b hb => ?_, ?_⟩
      · rcases List.mem_append.mp hb with hb | hb
        · exact u3 b hb
        · rcases List.mem_cons.mp hb with rfl | hb
          · exact d2
          · exact d3 b hb
      · rw [List.length_append, List.length_cons]; omega
    · rw [if_neg h, if_neg h, if_neg h]; exact w2 x h2
  · obtain ⟨h1, h2⟩ := hold x hx
    by_cases h : x = c
    · have huo : u ≠ tO T := fun z => hne (by rw [eO, if_pos z]; exact h)
      obtain ⟨p, p1, p2⟩ := w3 u hu huo
      refine ⟨p, by rw [eP, if_pos h]; exact p1, ?_⟩
      rw [eC, if_pos p1, h]; exact lRep_mem.mpr (Or.inl ⟨rfl, p2⟩)
    · have hxo : x ≠ tO T := fun z => by
        by_cases h3 : u = tO T
        · exact h1 (z.trans h3.symm)
        · exact hne (by rw [eO, if_neg h3]; exact z)
      obtain ⟨p, p1, p2⟩ := w3 x h2 hxo
      exact ⟨p, by rw [eP, if_neg h]; exact p1, hkeep p x p2 h1⟩
  · obtain ⟨h1, h2⟩ := hold x hx
    rw [eP] at hq
    by_cases h : x = c
    · rw [if_pos h] at hq
      obtain ⟨q1, q2, q3⟩ := w4 u q hu hq
      have q4 : q ≠ u := fun z => by rw [z] at q3; omega
      have q5 : q ≠ c := fun z => by rw [z] at q3; omega
      refine ⟨by rw [eU, if_neg q4]; exact q1, ?_, ?_⟩
      · rw [eC, if_pos hq, h]; exact lRep_mem.mpr (Or.inl ⟨rfl, q2⟩)
      · rw [eL, eL, eX, if_pos h, if_neg q5, if_neg q5]; exact q3
    · rw [if_neg h] at hq
      obtain ⟨q1, q2, q3⟩ := w4 x q h2 hq
      refine ⟨by rw [eU, if_neg (hqu q x q2 h)]; exact q1, hkeep q x q2 h1, ?_⟩
      rw [eL, eL, eX, if_neg h]
      by_cases h3 : q = c
      · rw [if_pos h3, if_pos h3, List.length_append, List.length_cons, q3, h3]; omega
      · rw [if_neg h3, if_neg h3]; exact q3
  · obtain ⟨h1, h2⟩ := hold q hq
    rw [eC] at hx
    by_cases h : tP T u = some q
    · rw [if_pos h] at hx
      rcases lRep_mem.mp hx with ⟨rfl, h3⟩ | ⟨h3, h4⟩
      · exact ⟨by rw [eU, if_neg hcu]; exact c1, by rw [eP, if_pos rfl]; exact h⟩
      · obtain ⟨k1, k2⟩ := w5 q x h2 h3
        exact ⟨by rw [eU, if_neg h4]; exact k1, by rw [eP, if_neg (hxc q x h2 h3 h1)]; exact k2⟩
    · rw [if_neg h] at hx
      obtain ⟨k1, k2⟩ := w5 q x h2 hx
      have h4 : x ≠ u := fun z => h (by rw [← z]; exact k2)
      exact ⟨by rw [eU, if_neg h4]; exact k1, by rw [eP, if_neg (hxc q x h2 hx h1)]; exact k2⟩
  · obtain ⟨h1, h2⟩ := hold q hq
    rw [eC]
    by_cases h : tP T u = some q
    · rw [if_pos h]
      exact lRep_sorted (w6 q h2) (by rw [eB, if_pos rfl]) (fun x hx hne => by rw [eB, if_neg (hxc q x h2 hx h1)])
    · rw [if_neg h]
      refine (w6 q h2).imp_of_mem (fun {x y} hx hy hlt => ?_)
      rw [eB, eB, if_neg (hxc q x h2 hx h1), if_neg (hxc q y h2 hy h1)]; exact hlt
