/-! READING A TREE, on the abstract side. -/
/-- a node that isn't read yet -/
def unR (T : TT) (n : Nat) : Prop := tC T n = [] ∧ tX T n = [] ∧ tV T n = none ∧ tF T n = 1 ∧ tR T n = false ∧ 2 ≤ tG T n ∧ tG T n < 256
/-- the node's page is right, and its children are not too deep -/
def okL (f : Nat → Nat) (L nd : Nat) (tk : Nat → Bool) (par : Bool) : Prop := okP f L nd tk par ∧ (pgC f ≠ [] → L + f 10 + 1 ≤ 12)
/-- the page of a node -/
def pgF (D : Nat → Nat) (p : Nat) : Nat → Nat := fun i => D (512 * p + i)
def ld1 (T : TT) (n : Nat) (f : Nat → Nat) : TT := tLd T n (f 0) (pgV f) (pgX f) (frI (tU T) (pgC f).length) (pgC f)
noncomputable def ldAll (D : Nat → Nat) : Nat → TT → (Nat → Bool) → Nat → Option TT
  | 0, _, _, _ => none
  | k + 1, T, tk, n => @ite _ (okL (pgF D (tG T n)) (tL T n) (tCnt T) tk (tP T n).isSome) (Classical.propDecidable _)
      (match tN (ld1 T n (pgF D (tG T n))) n with
        | none => some (ld1 T n (pgF D (tG T n)))
        | some m => ldAll D k (ld1 T n (pgF D (tG T n))) ((acc (tCnt T) tk none (pgC (pgF D (tG T n)))).getD tk) m)
      none
/-- the tree that a head leads to -/
noncomputable def ldTree (D : Nat → Nat) (p : Nat) : Option TT := match ldAll D 200 (tGs tNil 0 (D (512 * p + 9))) (va_up (fun _ => false) (D (512 * p + 9)) true) 0 with
  | none => none
  | some T => if tKy T = D (512 * p + 10) * 256 + D (512 * p + 11) then some T else none
section LA
variable {T : TT} {n F : Nat} {v : Option Int64} {X cids : List Nat} {cs : List (Nat × Nat)} {D : Nat → Nat} {tk : Nat → Bool}
theorem tE_ld (hW : tWF T) (h : ldH T n X cids cs) : ∀ (f x : Nat), tU T x = true → 12 ≤ f + tL T x → tE (tLd T n F v X cids cs) f x = (tE T f x).flatMap (fun y => if y = n then n :: cids else [y]) := by
  obtain ⟨⟨hn, hC⟩, ⟨hL, hXb⟩, ⟨hnd, hids, hlen⟩, ⟨hsort, hb⟩, h12⟩ := h
  have huc : ∀ x, tU T x = true → x ∉ cids := fun x hx2 z => by rw [(hids x z).1] at hx2; cases hx2
  have hleaf : ∀ (f : Nat), ∀ c ∈ cids, tE (tLd T n F v X cids cs) f c = [c] := fun f c hc => by
    have hcn : c ≠ n := fun z => huc n hn (z ▸ hc)
    have eC : tC (tLd T n F v X cids cs) c = [] := by
      show (if c = n then cids else if c ∈ cids then [] else tC T c) = []
      rw [if_neg hcn, if_pos hc]
    cases f with
    | zero => rfl
    | succ f => simp only [tE, eC, List.flatMap_nil]
  have hfl : ∀ (f : Nat) (l : List Nat), (∀ c ∈ l, c ∈ cids) → l.flatMap (tE (tLd T n F v X cids cs) f) = l := fun f l => by
    induction l with
    | nil => intro _; rfl
    | cons c r ih =>
      intro hl
      rw [List.flatMap_cons, hleaf f c (hl c List.mem_cons_self), ih (fun y hy => hl y (List.mem_cons_of_mem _ hy))]
      rfl
  intro f
  induction f with
  | zero =>
    intro x hx hf
    show [x] = ([x] : List Nat).flatMap _
    by_cases hxn : x = n
    · have hce : cids = [] := by
        cases hc : cids with
        | nil => rfl
        | cons a s =>
          have := h12 (by rw [hc]; simp)
          rw [hxn] at hf
          omega
      rw [List.flatMap_cons, List.flatMap_nil, if_pos hxn, hce, hxn]; rfl
    · rw [List.flatMap_cons, List.flatMap_nil, if_neg hxn]; rfl
  | succ f ih =>
    intro x hx hf
    simp only [tE]
    by_cases hxn : x = n
    · have e1 : tC (tLd T n F v X cids cs) x = cids := by rw [hxn]; exact if_pos rfl
      have e2 : tC T x = [] := by rw [hxn]; exact hC
      rw [e1, e2, hfl f cids (fun c hc => hc), List.flatMap_nil, List.flatMap_cons, List.flatMap_nil, if_pos hxn, List.append_nil, hxn]
    · have e1 : tC (tLd T n F v X cids cs) x = tC T x := by
        show (if x = n then cids else if x ∈ cids then [] else tC T x) = _
        rw [if_neg hxn, if_neg (huc x hx)]
      rw [e1, List.flatMap_cons, if_neg hxn]
      show x :: _ = [x] ++ _
      rw [List.singleton_append]
      congr 1
      rw [List.flatMap_assoc]
      have : ∀ (l : List Nat), (∀ c ∈ l, c ∈ tC T x) → l.flatMap (tE (tLd T n F v X cids cs) f) = l.flatMap (fun c => (tE T f c).flatMap (fun y => if y = n then n :: cids else [y])) := fun l => by
        induction l with
        | nil => intro _; rfl
        | cons c r ihr =>
          intro hl
          have hcm := hl c List.mem_cons_self
          have h2 := hW.2.2.2.2.1 x c hx hcm
          have h3 := (hW.2.2.2.1 c x h2.1 h2.2).2.2
          rw [List.flatMap_cons, List.flatMap_cons, ih c h2.1 (by omega), ihr (fun y hy => hl y (List.mem_cons_of_mem _ hy))]
      exact this (tC T x) (fun c hc => hc)
theorem fm_id {n : Nat} {g : Nat → List Nat} : ∀ (l : List Nat), (∀ y ∈ l, g y = [y]) → l.flatMap g = l
  | [], _ => rfl
  | a :: r, h => by
    rw [List.flatMap_cons, h a List.mem_cons_self, fm_id (n := n) r (fun y hy => h y (List.mem_cons_of_mem _ hy))]; rfl
theorem tEs_ld (hW : tWF T) (h : ldH T n X cids cs) {l1 r : List Nat} (hl : tEs T = l1 ++ n :: r) : tEs (tLd T n F v X cids cs) = (l1 ++ [n]) ++ (cids ++ r) := by
  have hnd := tEs_nodup hW
  rw [hl] at hnd
  obtain ⟨d1, d2, d3⟩ := List.nodup_append.mp hnd
  obtain ⟨d4, d5⟩ := List.nodup_cons.mp d2
  have e : tEs (tLd T n F v X cids cs) = (tEs T).flatMap (fun y => if y = n then n :: cids else [y]) := tE_ld hW h 13 (tO T) hW.1.1 (by omega)
  rw [e, hl, List.flatMap_append, List.flatMap_cons, if_pos rfl, fm_id (n := n) l1 (fun y hy => if_neg (fun z => d3 y hy n List.mem_cons_self z)), fm_id (n := n) r (fun y hy => if_neg (fun z : y = n => d4 (by rw [← z]; exact hy)))]
  simp
/-- what holds while a tree is read: some nodes are, the others wait -/
def ldI (T : TT) (l1 l2 : List Nat) : Prop := tWF T ∧ tEs T = l1 ++ l2 ∧ (∀ x ∈ l2, unR T x) ∧ tCnt T ≤ 200 ∧ (∀ x, tU T x = true → tR T x = false ∧ tG T x < 256)
theorem pgC_lt {f : Nat → Nat} (hf : ∀ i, f i < 256) : ∀ c ∈ pgC f, c.1 < 256 ∧ c.2 < 256 := by
  have hm : ∀ (d e k : Nat), e + d ≤ 256 → ∀ c ∈ pgMg f d e k, c.1 < 256 ∧ c.2 < 256 := by
    intro d
    induction d with
    | zero => intro e k _ c hc; cases hc
    | succ d ih =>
      intro e k he c hc
      unfold pgMg at hc
      by_cases h0 : f (24 + e) = 0
      · rw [if_pos h0] at hc; exact ih (e + 1) k (by omega) c hc
      · rw [if_neg h0] at hc
        rcases List.mem_cons.mp hc with rfl | hc
        · refine ⟨by show e < 256; omega, ?_⟩
          show (if f 0 = 4 then f (24 + e) else f (280 + k)) < 256
          split <;> exact hf _
        · exact ih (e + 1) (k + 1) (by omega) c hc
  intro c hc
  unfold pgC at hc
  by_cases h3 : f 0 < 3
  · rw [if_pos h3] at hc
    obtain ⟨k, _, e⟩ := List.mem_map.mp hc
    rw [← e]; exact ⟨hf _, hf _⟩
  · rw [if_neg h3] at hc; exact hm 256 0 0 (by omega) c hc
theorem ld1_H (hW : tWF T) (h200 : tCnt T ≤ 200) (hn : tU T n = true) (hu : unR T n) {f : Nat → Nat} (hf : ∀ i, f i < 256) (ok : okL f (tL T n) (tCnt T) tk (tP T n).isSome) : ldH T n (pgX f) (frI (tU T) (pgC f).length) (pgC f) ∧ (pgC f).length + tCnt T ≤ 200 := by
  obtain ⟨⟨o1, o2, o3, ⟨tk1, o4⟩, o5, o6, o7⟩, o8⟩ := ok
  obtain ⟨s1, s2, s3⟩ := acc_sorted _ _ _ _ _ o4
  have hXl : (pgX f).length = f 10 := by unfold pgX; rw [List.length_map, List.length_range]
  have hc200 : (pgC f).length + tCnt T ≤ 200 := by
    by_cases hz : pgC f = []
    · rw [hz]; simp; exact h200
    · exact acc_len _ _ _ _ _ o4 hz
  obtain ⟨i1, i2, i3⟩ := frI_ok (pgC f).length (tU T) (by unfold tCnt at hc200; omega)
  refine ⟨⟨⟨hn, hu.1⟩, ⟨by rw [hXl]; exact o3, fun b hb => ?_⟩, ⟨i2, i3, i1.symm⟩, ⟨s1, fun c hc => (pgC_lt hf c hc).1⟩, fun hne => ?_⟩, hc200⟩
  · obtain ⟨i, _, e⟩ := List.mem_map.mp hb
    rw [← e]; exact hf _
  · rw [hXl]
    refine o8 (fun z => hne ?_)
    rw [z]; rfl
theorem cnt_ld : ∀ (cids : List Nat) (U : Nat → Bool), cids.Nodup → (∀ c ∈ cids, U c = false ∧ c < 220) → (List.range 220).countP (fun x => decide (x ∈ cids) || U x) = (List.range 220).countP U + cids.length
  | [], U, _, _ => by
    have : (List.range 220).countP (fun x => decide (x ∈ ([] : List Nat)) || U x) = (List.range 220).countP U := List.countP_congr (fun x _ => by simp)
    rw [this]; rfl
  | a :: r, U, hd, h => by
    obtain ⟨d1, d2⟩ := List.nodup_cons.mp hd
    have ih := cnt_ld r U d2 (fun c hc => h c (List.mem_cons_of_mem _ hc))
    obtain ⟨h1, h2⟩ := h a List.mem_cons_self
    have := cnt_up220 (p := fun x => decide (x ∈ r) || U x) (q := fun x => decide (x ∈ a :: r) || U x) h2 (by simp [d1, h1]) (by simp) (fun x hx => by simp [hx])
    rw [this, ih, List.length_cons]; omega
theorem ld1_I {l1 r : List Nat} (h : ldI T l1 (n :: r)) {f : Nat → Nat} (hf : ∀ i, f i < 256) (ok : okL f (tL T n) (tCnt T) tk (tP T n).isSome) : ldI (ld1 T n f) (l1 ++ [n]) (frI (tU T) (pgC f).length ++ r) ∧ tCnt (ld1 T n f) = tCnt T + (pgC f).length ∧ tKy (ld1 T n f) = tKy T + (if (pgV f).isSome = true then 1 else 0) := by
  obtain ⟨hW, hl, hun, h200, hR⟩ := h
  obtain ⟨hn, hN⟩ := tEs_at hW hl
  have hu := hun n List.mem_cons_self
  obtain ⟨hH, hc200⟩ := ld1_H hW h200 hn hu hf ok
  obtain ⟨s1, s2, s3⟩ := acc_sorted _ _ _ _ _ ok.1.2.2.2.1.choose_spec
  have hH2 := hH
  obtain ⟨⟨-, hC⟩, ⟨hL, hXb⟩, ⟨hnd, hids, hlen⟩, ⟨hsort, hb⟩, h12⟩ := hH2
  have hnd2 := tEs_nodup hW
  rw [hl] at hnd2
  have hnr : n ∉ r := (List.nodup_cons.mp (List.nodup_append.mp hnd2).2.1).1
  have huc : ∀ x, tU T x = true → x ∉ frI (tU T) (pgC f).length := fun x hx2 z => by rw [(hids x z).1] at hx2; cases hx2
  have hcm : ∀ x ∈ frI (tU T) (pgC f).length, cAt (frI (tU T) (pgC f).length) (pgC f) x ∈ pgC f := fun x hx => by
    have := List.mem_map_of_mem (f := cAt (frI (tU T) (pgC f).length) (pgC f)) hx
    rw [map_cAt _ _ hnd hlen] at this; exact this
  have hcnt : tCnt (ld1 T n f) = tCnt T + (pgC f).length := by
    rw [hlen]
    exact cnt_ld _ _ hnd hids
  refine ⟨⟨tLd_wf hW hH, tEs_ld hW hH hl, fun x hx => ?_, by rw [hcnt]; omega, fun x hx => ?_⟩, hcnt, ?_⟩
  · rcases List.mem_append.mp hx with hx | hx
    · have hxn : x ≠ n := fun z => huc n hn (z ▸ hx)
      have hp := hcm x hx
      refine ⟨?_, ?_, ?_, ?_, ?_, ?_, ?_⟩
      · show (if x = n then _ else if x ∈ _ then [] else tC T x) = []
        rw [if_neg hxn, if_pos hx]
      · show (if x = n then _ else if x ∈ _ then [] else tX T x) = []
        rw [if_neg hxn, if_pos hx]
      · show (if x = n then _ else if x ∈ _ then none else tV T x) = none
        rw [if_neg hxn, if_pos hx]
      · show (if x = n then _ else if x ∈ _ then 1 else tF T x) = 1
        rw [if_neg hxn, if_pos hx]
      · exact if_pos hx
      · show 2 ≤ if x ∈ _ then _ else tG T x
        rw [if_pos hx]; exact s3 _ hp
      · show (if x ∈ _ then _ else tG T x) < 256
        rw [if_pos hx]; exact (pgC_lt hf _ hp).2
    · have hxn : x ≠ n := fun z => hnr (z ▸ hx)
      have hxu : tU T x = true := (tEs_mem hW).mp (by rw [hl]; exact List.mem_append_right _ (List.mem_cons_of_mem _ hx))
      have hxc := huc x hxu
      obtain ⟨u1, u2, u3, u4, u5, u6, u7⟩ := hun x (List.mem_cons_of_mem _ hx)
      refine ⟨?_, ?_, ?_, ?_, ?_, ?_, ?_⟩
      · show (if x = n then _ else if x ∈ _ then [] else tC T x) = []
        rw [if_neg hxn, if_neg hxc]; exact u1
      · show (if x = n then _ else if x ∈ _ then [] else tX T x) = []
        rw [if_neg hxn, if_neg hxc]; exact u2
      · show (if x = n then _ else if x ∈ _ then none else tV T x) = none
        rw [if_neg hxn, if_neg hxc]; exact u3
      · show (if x = n then _ else if x ∈ _ then 1 else tF T x) = 1
        rw [if_neg hxn, if_neg hxc]; exact u4
      · exact (if_neg hxc).trans u5
      · show 2 ≤ if x ∈ _ then _ else tG T x
        rw [if_neg hxc]; exact u6
      · show (if x ∈ _ then _ else tG T x) < 256
        rw [if_neg hxc]; exact u7
  · rcases tLd_u.mp hx with hx | hx
    · have hp := hcm x hx
      refine ⟨if_pos hx, ?_⟩
      show (if x ∈ _ then _ else tG T x) < 256
      rw [if_pos hx]; exact (pgC_lt hf _ hp).2
    · have hxc := huc x hx
      refine ⟨(if_neg hxc).trans (hR x hx).1, ?_⟩
      show (if x ∈ _ then _ else tG T x) < 256
      rw [if_neg hxc]; exact (hR x hx).2
  · have hn220 := (hW.2.1 n hn).1
    have ev : ∀ x, tV (ld1 T n f) x = if x = n then pgV f else if x ∈ frI (tU T) (pgC f).length then none else tV T x := fun x => rfl
    have eu : ∀ x, tU (ld1 T n f) x = (decide (x ∈ frI (tU T) (pgC f).length) || tU T x) := fun x => rfl
    by_cases hv : (pgV f).isSome = true
    · rw [if_pos hv]
      refine cnt_up220 hn220 ?_ ?_ (fun x hx => ?_)
      · rw [hu.2.2.1]; simp
      · rw [eu, ev, if_pos rfl, hv, hn]; simp
      · rw [eu, ev, if_neg hx]
        by_cases hxc : x ∈ frI (tU T) (pgC f).length
        · rw [if_pos hxc, (hids x hxc).1]; simp
        · rw [if_neg hxc]; simp [hxc]
    · rw [if_neg hv, Nat.add_zero]
      refine List.countP_congr (fun x _ => ?_)
      rw [eu, ev]
      by_cases hx : x = n
      · rw [if_pos hx, hx, hu.2.2.1]
        have : (pgV f).isSome = false := by
          cases hz : (pgV f).isSome with
          | false => rfl
          | true => exact absurd hz hv
        rw [this]; simp
      · rw [if_neg hx]
        by_cases hxc : x ∈ frI (tU T) (pgC f).length
        · rw [if_pos hxc, (hids x hxc).1]; simp
        · rw [if_neg hxc]; simp [hxc]
end LA
