/-! What remove does to the abstract tree. -/
/-- a node without a value and with one child becomes one with that child -/
def tJoin (T : TT) (u : Nat) : TT := match tC T u with
  | [c] => if tV T u = none then tFr (tJn T u c) c else T
  | _ => T
def tRemG (T : TT) (n : Nat) : TT :=
  if tC T n = [] then
    match tP T n with
    | none => tXf (tFr (tSv T n none) n) n [] 1
    | some p => tJoin (tDel (tFr (tSv T n none) n) n p) p
  else tJoin (tFr (tSv T n none) n) n
def tRem (T : TT) (key : List Nat) : Int32 × TT := match tFd T key with
  | none => (0, T)
  | some n => (1, tRemG T n)
section TR
variable {T : TT}
theorem tJoin_one {u c : Nat} (hc : tC T u = [c]) (hv : tV T u = none) : tJoin T u = tFr (tJn T u c) c := by
  unfold tJoin; rw [hc]; dsimp only; rw [if_pos hv]
theorem tJoin_val {u : Nat} (hv : (tV T u).isSome = true) : tJoin T u = T := by
  unfold tJoin
  split
  · rw [if_neg (fun z => by rw [z] at hv; cases hv)]
  · rfl
theorem tJoin_len {u : Nat} (hc : (tC T u).length ≠ 1) : tJoin T u = T := by
  unfold tJoin
  split
  · next c h => rw [h] at hc; exact absurd rfl hc
  · rfl
theorem tJoin_ok (hW : tWF T) (h1 : tI1 T) (h2 : tCnt T ≤ 200) {u : Nat} (hu : tU T u = true) (hx : ∀ x, tU T x = true → x ≠ u → (tV T x).isSome = true ∨ 2 ≤ (tC T x).length) (hv : (tV T u).isSome = true ∨ tC T u ≠ []) : tWF (tJoin T u) ∧ tInv (tJoin T u) := by
  by_cases hvu : (tV T u).isSome = true
  · rw [tJoin_val hvu]
    refine ⟨hW, h1, fun n hn => ?_, h2⟩
    by_cases hnu : n = u
    · rw [hnu]; exact Or.inl hvu
    · rcases hx n hn hnu with h | h
      · exact Or.inl h
      · exact Or.inr (Or.inl h)
  have hvn : tV T u = none := by
    cases h : tV T u with
    | none => rfl
    | some x => rw [h] at hvu; exact absurd rfl hvu
  by_cases hl : (tC T u).length = 1
  · obtain ⟨c, hc⟩ := List.length_eq_one_iff.mp hl
    rw [tJoin_one hc hvn]
    have hW1 := tJn_wf hW hu hc
    refine ⟨tFr_wf hW1 _, tInv_fr ⟨tJn_i1 h1, fun n hn => ?_, ?_⟩ _⟩
    · have hn1 : va_up (tU T) u false n = true := hn
      have hnu : n ≠ u := fun z => by rw [z, va_up_self] at hn1; cases hn1
      have e : (tC (tJn T u c) n).length = (tC T n).length := by
        show (if tP T u = some n then lRep u c (tC T n) else tC T n).length = _
        split
        · rw [lRep_len]
        · rfl
      have e2 : tV (tJn T u c) n = tV T n := rfl
      rw [e, e2]
      rcases hx n (used_ne hn1 hnu) hnu with h | h
      · exact Or.inl h
      · exact Or.inr (Or.inl h)
    · have := (cnt_jn (c := c) hu (hW.2.1 u hu).1 hvn).1
      omega
  · rw [tJoin_len hl]
    refine ⟨hW, h1, fun n hn => ?_, h2⟩
    by_cases hnu : n = u
    · rw [hnu]
      rcases hv with h | h
      · exact Or.inl h
      · refine Or.inr (Or.inl ?_)
        have : (tC T u).length ≠ 0 := fun z => h (List.length_eq_zero_iff.mp z)
        omega
    · rcases hx n hn hnu with h | h
      · exact Or.inl h
      · exact Or.inr (Or.inl h)
theorem tRemG_ok (hW : tWF T) (hI : tInv T) {n : Nat} (hn : tU T n = true) : tWF (tRemG T n) ∧ tInv (tRemG T n) := by
  have hW1 : tWF (tFr (tSv T n none) n) := tFr_wf (tSv_wf hW _ _) _
  have h1 : tI1 (tFr (tSv T n none) n) := tFr_i1 (T := tSv T n none) hI.1 n
  have h2 : tCnt (tFr (tSv T n none) n) ≤ 200 := hI.2.2
  have hV : ∀ x, x ≠ n → tV (tFr (tSv T n none) n) x = tV T x := fun x hx => va_up_ne _ _ hx
  have hVn : tV (tFr (tSv T n none) n) n = none := va_up_self _ _ _
  have hC : tC (tFr (tSv T n none) n) = tC T := rfl
  have hU : tU (tFr (tSv T n none) n) = tU T := rfl
  have hP : tP (tFr (tSv T n none) n) = tP T := rfl
  have hO : tO (tFr (tSv T n none) n) = tO T := rfl
  have hX : tX (tFr (tSv T n none) n) = tX T := rfl
  have hF : tF (tFr (tSv T n none) n) = tF T := rfl
  have hG : ∀ x, tU T x = true → tG (tFr (tSv T n none) n) x < 256 := fun x hx => (h1 x hx).2.2.1
  unfold tRemG
  generalize tFr (tSv T n none) n = S at *
  by_cases c1 : tC T n = []
  · rw [if_pos c1]
    cases hp : tP T n with
    | none =>
      dsimp only
      have hno : n = tO T := by
        apply Classical.byContradiction
        intro z
        obtain ⟨p, hp2, -⟩ := hW.2.2.1 n hn z
        rw [hp] at hp2; cases hp2
      have hS : tC S (tO T) = [] := by rw [hC, ← hno]; exact c1
      refine ⟨tXf_wf hW1 (hno.trans hO.symm) (by rw [hC]; exact c1) (fun _ h => by cases h) (by simp) 1, fun x hx => ?_, fun x hx => ?_, h2⟩
      · have hx1 : tU S x = true := hx
        have hxo := root_alone hW1 (by rw [hO]; exact hS) x hx1
        rw [hO, ← hno] at hxo
        subst hxo
        show 1 ≤ va_up (tF S) x 1 x ∧ va_up (tF S) x 1 x ≤ 4 ∧ tG S x < 256 ∧ (tC S x).length ≤ fRoom (va_up (tF S) x 1 x)
        rw [va_up_self, hC, c1]
        exact ⟨by omega, by omega, hG x hn, by simp⟩
      · have hx1 : tU S x = true := hx
        have hxo := root_alone hW1 (by rw [hO]; exact hS) x hx1
        rw [hO, ← hno] at hxo
        subst hxo
        refine Or.inr (Or.inr ⟨?_, ?_, ?_, ?_⟩)
        · show x = tO S
          rw [hO]; exact hno
        · show tC S x = []
          rw [hC]; exact c1
        · exact va_up_self _ _ _
        · exact va_up_self _ _ _
    | some p =>
      dsimp only
      obtain ⟨p1, p2, p3⟩ := hW.2.2.2.1 n p hn hp
      have hpn : p ≠ n := fun z => by rw [z] at p3; omega
      have hnO : tC T (tO T) ≠ [] := fun z => by
        have := root_alone hW z n hn
        rw [this, hW.1.2.1] at hp; cases hp
      have hW2 := tDel_wf hW1 (n := n) (p := p) (by rw [hU]; exact hn) (by rw [hP]; exact hp) (by rw [hC]; exact c1)
      have hI2 := tDel_i1 hW1 h1 (n := n) (p := p) (by rw [hU]; exact p1) (by rw [hC]; exact p2)
      have hK := (cnt_del (T := S) (n := n) (p := p) (by rw [hU]; exact hn) (hW.2.1 n hn).1 hVn).1
      have hL := tDel_len hW p1 p2
      refine tJoin_ok hW2 hI2 (by omega) (u := p) ?_ (fun x hx hxp => ?_) ?_
      · show va_up (tU S) n false p = true
        rw [va_up_ne _ _ hpn, hU]; exact p1
      · have hx1 : va_up (tU S) n false x = true := hx
        have hxn : x ≠ n := fun z => by rw [z, va_up_self] at hx1; cases hx1
        have hxu : tU T x = true := by rw [← hU]; exact used_ne hx1 hxn
        have e1 : tV (tDel S n p) x = tV T x := hV x hxn
        have e2 : tC (tDel S n p) x = tC T x := by
          show va_up (tC S) p _ x = _
          rw [va_up_ne _ _ hxp, hC]
        rw [e1, e2]
        rcases hI.2.1 x hxu with h | h | h
        · exact Or.inl h
        · exact Or.inr h
        · exact absurd (h.1 ▸ h.2.1) hnO
      · have e1 : tV (tDel S n p) p = tV T p := hV p hpn
        have e2 : (tC (tDel S n p) p).length = (tC T p).length - 1 := by
          show (va_up (tC S) p ((tC S p).filter (fun x => decide (x ≠ n))) p).length = _
          rw [va_up_self, hC]; exact hL.1
        rw [e1]
        rcases hI.2.1 p p1 with h | h | h
        · exact Or.inl h
        · refine Or.inr (fun z => ?_)
          rw [z, List.length_nil] at e2; omega
        · exact absurd (h.1 ▸ h.2.1) hnO
  · rw [if_neg c1]
    have hnO : tC T (tO T) ≠ [] := fun z => c1 (by rw [root_alone hW z n hn]; exact z)
    refine tJoin_ok hW1 h1 h2 (by rw [hU]; exact hn) (fun x hx hxn => ?_) (Or.inr (by rw [hC]; exact c1))
    rw [hV x hxn, hC]
    rw [hU] at hx
    rcases hI.2.1 x hx with h | h | h
    · exact Or.inl h
    · exact Or.inr h
    · exact absurd (h.1 ▸ h.2.1) hnO
theorem tFd_some {key : List Nat} {n : Nat} (h : tFd T key = some n) : n = (tSe T key).1 ∧ (tSe T key).2.2 = key.length ∧ (tSe T key).2.1 = (tX T (tSe T key).1).length ∧ (tV T (tSe T key).1).isSome = true := by
  unfold tFd at h
  split at h
  · next hc => cases h; exact ⟨rfl, hc⟩
  · cases h
theorem tRem_ok (hW : tWF T) (hI : tInv T) (key : List Nat) : tWF (tRem T key).2 ∧ tInv (tRem T key).2 := by
  unfold tRem
  cases h : tFd T key with
  | none => exact ⟨hW, hI⟩
  | some n => exact tRemG_ok hW hI (by rw [(tFd_some h).1]; exact (tSe_ok hW key).1)
end TR
