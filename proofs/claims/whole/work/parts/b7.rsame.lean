/-! What the reference and the class ask of a page is the same. -/
theorem okP_iff {f : Nat → Nat} (hf : ∀ x, f x < 256) {L nd : Nat} {tk : Nat → Bool} {par : Bool} {rt : Prop} (hrt : rt ↔ par = false) : okP f L nd tk par ↔ (okR f nd tk rt ∧ L + f 10 ≤ 12) := by
  constructor
  · rintro ⟨o1, o2, o3, ⟨tk1, o4⟩, o5, o6, o7⟩
    obtain ⟨p1, p2, p3, p4⟩ := (pg_iff hf o1 o2 (by omega)).mp o7
    have h23 : (pgC f).length = f 23 := by
      have := o7 23 (by omega)
      rw [ndF_23] at this
      exact this.symm
    refine ⟨⟨⟨p1, o1, p2.1.1, p2.1.2⟩, ⟨fun z => ?_, by omega, o2⟩, p2.2, ⟨?_, p3⟩, pgC f, tk1, p4, o4⟩, o3⟩
    · by_cases e : f 1 = 1
      · refine o5 ?_
        unfold pgV
        rw [if_pos e, z]
      · have h0 := p2.1.1
        have := p2.1.2 (by omega)
        rw [this] at z
        exact absurd z (by decide)
    · rcases o6 with w | w | w
      · unfold pgV at w
        by_cases e : f 1 = 1
        · exact Or.inl e
        · rw [if_neg e] at w; cases w
      · exact Or.inr (Or.inl (by omega))
      · exact Or.inr (Or.inr ⟨hrt.mpr w.1, by rw [← h23, w.2.1]; rfl, w.2.2⟩)
  · rintro ⟨⟨⟨p1, o1, q1, q2⟩, ⟨q3, q4, q5⟩, q6, ⟨q7, q8⟩, cs, tk1, q9, q10⟩, o3⟩
    have ecs := rdL_pgC o1 q5 q9
    subst ecs
    have o7 := (pg_iff hf o1 q5 q4).mpr ⟨p1, ⟨⟨q1, q2⟩, q6⟩, q8, q9⟩
    have h23 : (pgC f).length = f 23 := by
      have := o7 23 (by omega)
      rw [ndF_23] at this
      exact this.symm
    refine ⟨o1, q5, o3, ⟨tk1, q10⟩, fun z => ?_, ?_, o7⟩
    · unfold pgV at z
      by_cases e : f 1 = 1
      · rw [if_pos e] at z
        injection z with z
        exact q3 z
      · rw [if_neg e] at z; cases z
    · rcases q7 with w | w | w
      · refine Or.inl ?_
        unfold pgV
        rw [if_pos w]; rfl
      · exact Or.inr (Or.inl (by omega))
      · exact Or.inr (Or.inr ⟨hrt.mp w.1, List.length_eq_zero_iff.mp (by rw [h23]; exact w.2.1), w.2.2⟩)
/-- the fields of a tree with children that were found -/
theorem adCs_f : ∀ (cs : List (Nat × Nat)) (S : TT) (n : Nat), tCnt S + cs.length ≤ 220 →
    (∀ x, tU (adCs S n cs) x = (decide (x ∈ frI (tU S) cs.length) || tU S x)) ∧ (∀ x, x ∈ frI (tU S) cs.length → tP (adCs S n cs) x = some n ∧ tB (adCs S n cs) x = (cAt (frI (tU S) cs.length) cs x).1 ∧ tX (adCs S n cs) x = [] ∧ tV (adCs S n cs) x = none ∧ tF (adCs S n cs) x = 1 ∧ tG (adCs S n cs) x = (cAt (frI (tU S) cs.length) cs x).2 ∧ tR (adCs S n cs) x = true) ∧ (∀ x, x ∉ frI (tU S) cs.length → tSm S (adCs S n cs) x)
  | [], S, n, _ => by
    refine ⟨fun x => ?_, fun x hx => ?_, fun x _ => ⟨rfl, rfl, rfl, rfl, rfl, rfl, rfl⟩⟩
    · show tU S x = (decide (x ∈ ([] : List Nat)) || tU S x)
      simp
    · cases hx
  | (b, p) :: r, S, n, h => by
    rw [List.length_cons] at h
    have hcn : tCnt (adC S n b p) = tCnt S + 1 := adC_cnt (by omega)
    obtain ⟨i1, i2, i3⟩ := adCs_f r (adC S n b p) n (by omega)
    obtain ⟨f1, f2⟩ := tFree_ok (T := S) (by omega)
    have efr : frI (tU S) (r.length + 1) = tFree S :: frI (tU (adC S n b p)) r.length := rfl
    obtain ⟨j1, j2, j3⟩ := frI_ok r.length (tU (adC S n b p)) (by have := hcn; unfold tCnt at this; unfold tCnt at h; omega)
    have hU : ∀ x, tU (adC S n b p) x = if x = tFree S then true else tU S x := fun x => by
      show va_up (tU S) (tFree S) true x = _
      by_cases e : x = tFree S
      · rw [if_pos e, e, va_up_self]
      · rw [if_neg e, va_up_ne _ _ e]
    have hnc : tFree S ∉ frI (tU (adC S n b p)) r.length := fun z => by
      have := (j3 _ z).1
      rw [hU, if_pos rfl] at this
      cases this
    have hadS : ∀ x, x ≠ tFree S → tSm S (adC S n b p) x := fun x hx => ⟨va_up_ne _ _ hx, va_up_ne _ _ hx, va_up_ne _ _ hx, va_up_ne _ _ hx, va_up_ne _ _ hx, va_up_ne _ _ hx, va_up_ne _ _ hx⟩
    have e0 : adCs S n ((b, p) :: r) = adCs (adC S n b p) n r := rfl
    rw [e0, List.length_cons, efr]
    refine ⟨fun x => ?_, fun x hx => ?_, fun x hx => ?_⟩
    · rw [i1, hU]
      by_cases e : x = tFree S
      · rw [if_pos e, Bool.or_true, decide_eq_true (by rw [e]; exact List.mem_cons_self), Bool.true_or]
      · rw [if_neg e]
        by_cases w : x ∈ frI (tU (adC S n b p)) r.length
        · rw [decide_eq_true w, decide_eq_true (List.mem_cons_of_mem _ w)]
        · rw [decide_eq_false w, decide_eq_false (fun q => (List.mem_cons.mp q).elim e w)]
    · by_cases e : x = tFree S
      · have ec : cAt (tFree S :: frI (tU (adC S n b p)) r.length) ((b, p) :: r) x = (b, p) := by
          unfold cAt
          rw [e, List.idxOf_cons_self]; rfl
        rw [ec]
        obtain ⟨s1, s2, s3, s4, s5, s6, s7⟩ := i3 x (by rw [e]; exact hnc)
        rw [s1, s2, s3, s4, s5, s6, s7, e]
        exact ⟨va_up_self _ _ _, va_up_self _ _ _, va_up_self _ _ _, va_up_self _ _ _, va_up_self _ _ _, va_up_self _ _ _, va_up_self _ _ _⟩
      · have w : x ∈ frI (tU (adC S n b p)) r.length := (List.mem_cons.mp hx).resolve_left e
        have ec : cAt (tFree S :: frI (tU (adC S n b p)) r.length) ((b, p) :: r) x = cAt (frI (tU (adC S n b p)) r.length) r x := by
          unfold cAt
          rw [List.idxOf_cons, show (tFree S == x) = false from by simpa using fun q => e q.symm]; rfl
        rw [ec]
        exact i2 x w
    · have e : x ≠ tFree S := fun q => hx (by rw [q]; exact List.mem_cons_self)
      obtain ⟨s1, s2, s3, s4, s5, s6, s7⟩ := i3 x (fun q => hx (List.mem_cons_of_mem _ q))
      obtain ⟨t1, t2, t3, t4, t5, t6, t7⟩ := hadS x e
      exact ⟨s1.trans t1, s2.trans t2, s3.trans t3, s4.trans t4, s5.trans t5, s6.trans t6, s7.trans t7⟩
/-- who waits is new -/
def tRl (T : TT) (l : List Nat) : TT := (tU T, tP T, tB T, tX T, tV T, tF T, tG T, (fun x => decide (x ∈ l)), tC T, tL T, tO T)
section RLD
variable {M M1 : xM} {y n : Nat} {ad : Nat → Nat} {T A B : TT} {f : Nat → Nat} {r : List Nat}
theorem rC_sm (h : rC M ad 0 A n) (hs : tSm A B n) : rC M ad 0 B n := by
  obtain ⟨s1, s2, s3, s4, s5, s6, s7⟩ := hs
  rw [rC0] at h ⊢
  unfold rD at h ⊢
  rw [s1, s2, s3, s4, s5, s6, s7]
  exact h
theorem rT_congr (h : rT M ad 0 A) (hU : ∀ x, x < 220 → tU B x = tU A x) (hs : ∀ x, tU B x = true → tSm A B x) : rT M ad 0 B := fun x hx => by
  obtain ⟨h1, h2⟩ := h x hx
  refine ⟨by rw [hU x hx]; exact h1, fun hu => rC_sm (h2 (by rw [← hU x hx]; exact hu)) (hs x hu)⟩
/-- a node and its children, read -/
theorem rd_ld (h : rT M ad 0 (adCs (rdT (tRl T (n :: r)) n f) n (pgC f))) (hn : tU T n = true) (hnr : n ∉ r) (hcnt : tCnt T + (pgC f).length ≤ 220) : rT M ad 0 (tRl (ld1 T n f) (frI (tU T) (pgC f).length ++ r)) := by
  have hc : tCnt (rdT (tRl T (n :: r)) n f) = tCnt T := rfl
  obtain ⟨i1, i2, i3⟩ := adCs_f (pgC f) (rdT (tRl T (n :: r)) n f) n (by rw [hc]; exact hcnt)
  have eU : tU (rdT (tRl T (n :: r)) n f) = tU T := rfl
  rw [eU] at i1 i2 i3
  obtain ⟨j1, j2, j3⟩ := frI_ok (pgC f).length (tU T) (by unfold tCnt at hcnt; omega)
  have hnc : n ∉ frI (tU T) (pgC f).length := fun z => by rw [(j3 n z).1] at hn; cases hn
  refine rT_congr h (fun x _ => (i1 x).symm) (fun x hx => ?_)
  generalize hcd : frI (tU T) (pgC f).length = cids at *
  have eP : tP (tRl (ld1 T n f) (cids ++ r)) x = if x ∈ cids then some n else tP T x := by rw [← hcd]; rfl
  have eB : tB (tRl (ld1 T n f) (cids ++ r)) x = if x ∈ cids then (cAt cids (pgC f) x).1 else tB T x := by rw [← hcd]; rfl
  have eX : tX (tRl (ld1 T n f) (cids ++ r)) x = if x = n then pgX f else if x ∈ cids then [] else tX T x := by rw [← hcd]; rfl
  have eV : tV (tRl (ld1 T n f) (cids ++ r)) x = if x = n then pgV f else if x ∈ cids then none else tV T x := by rw [← hcd]; rfl
  have eF : tF (tRl (ld1 T n f) (cids ++ r)) x = if x = n then f 0 else if x ∈ cids then 1 else tF T x := by rw [← hcd]; rfl
  have eG : tG (tRl (ld1 T n f) (cids ++ r)) x = if x ∈ cids then (cAt cids (pgC f) x).2 else tG T x := by rw [← hcd]; rfl
  have eR : tR (tRl (ld1 T n f) (cids ++ r)) x = decide (x ∈ cids ++ r) := rfl
  unfold tSm
  rw [eP, eB, eX, eV, eF, eG, eR]
  by_cases hxc : x ∈ cids
  · have hxn : x ≠ n := fun z => hnc (z ▸ hxc)
    obtain ⟨k1, k2, k3, k4, k5, k6, k7⟩ := i2 x hxc
    rw [if_pos hxc, if_pos hxc, if_neg hxn, if_pos hxc, if_neg hxn, if_pos hxc, if_neg hxn, if_pos hxc, if_pos hxc, k1, k2, k3, k4, k5, k6, k7]
    exact ⟨rfl, rfl, rfl, rfl, rfl, rfl, decide_eq_true (List.mem_append_left _ hxc)⟩
  · obtain ⟨k1, k2, k3, k4, k5, k6, k7⟩ := i3 x hxc
    rw [if_neg hxc, if_neg hxc, if_neg hxc, if_neg hxc, if_neg hxc, if_neg hxc, k1, k2, k3, k4, k5, k6, k7]
    by_cases hxn : x = n
    · rw [if_pos hxn, if_pos hxn, if_pos hxn, hxn]
      refine ⟨rfl, rfl, (va_up_self _ _ _).symm, (va_up_self _ _ _).symm, (va_up_self _ _ _).symm, rfl, ?_⟩
      show decide (n ∈ cids ++ r) = va_up _ n false n
      rw [va_up_self, decide_eq_false (fun q => (List.mem_append.mp q).elim hnc hnr)]
    · rw [if_neg hxn, if_neg hxn, if_neg hxn]
      refine ⟨rfl, rfl, (va_up_ne _ _ hxn).symm, (va_up_ne _ _ hxn).symm, (va_up_ne _ _ hxn).symm, rfl, ?_⟩
      show decide (x ∈ cids ++ r) = va_up _ n false x
      rw [va_up_ne _ _ hxn]
      show decide (x ∈ cids ++ r) = decide (x ∈ n :: r)
      rw [decide_eq_decide, List.mem_append, List.mem_cons]
      exact ⟨fun q => Or.inr (q.resolve_left hxc), fun q => Or.inr (q.resolve_left hxn)⟩
end RLD
