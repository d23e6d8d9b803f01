/-! LOADING, on the abstract side. -/
/-- what stands at a node that was read -/
def inv1 (T : TT) (x : Nat) : Prop := 1 ≤ tF T x ∧ tF T x ≤ 4 ∧ (tC T x).length ≤ fRoom (tF T x) ∧ ((tV T x).isSome = true ∨ 2 ≤ (tC T x).length ∨ (x = tO T ∧ tC T x = [] ∧ tX T x = [] ∧ tF T x = 1))
theorem tab_23 (F : Nat) : ∀ (cs : List (Nat × Nat)) (k : Nat) (f : Nat → Nat), tabF F cs k f 23 = f 23
  | [], _, _ => rfl
  | (e, p) :: r, k, f => by
    show tabF F r (k + 1) (tab1 F k e p f) 23 = f 23
    rw [tab_23 F r (k + 1)]
    unfold tab1
    split
    · rw [va_up_ne _ _ (by omega)]
    · split
      · rw [va_up_ne _ _ (by omega), va_up_ne _ _ (by omega)]
      · rw [va_up_ne _ _ (by omega), va_up_ne _ _ (by omega)]
theorem ndF_23 (F : Nat) (v : Option Int64) (X : List Nat) (cs : List (Nat × Nat)) : ndF F v X cs 23 = cs.length := by
  have h : ∀ (f : Nat → Nat) (j : Int64), setL f 504 j 23 = f 23 := fun f j => by
    unfold setL
    rw [if_neg (by omega)]
  unfold ndF sealF
  rw [h, tab_23, va_up_self]
section LO
variable {T : TT} {n : Nat} {D : Nat → Nat} {tk : Nat → Bool}
theorem ld1_J {l1 r : List Nat} (h : ldI T l1 (n :: r)) (hj : ∀ x ∈ l1, inv1 T x) {f : Nat → Nat} (hf : ∀ i, f i < 256) (ok : okL f (tL T n) (tCnt T) tk (tP T n).isSome) : ∀ x ∈ l1 ++ [n], inv1 (ld1 T n f) x := by
  obtain ⟨hW, hl, hun, h200, hR⟩ := id h
  obtain ⟨hn, hN⟩ := tEs_at hW hl
  have hu := hun n List.mem_cons_self
  obtain ⟨hH, hc200⟩ := ld1_H hW h200 hn hu hf ok
  obtain ⟨⟨-, hC⟩, ⟨hL, hXb⟩, ⟨hnd, hids, hlen⟩, ⟨hsort, hb⟩, h12⟩ := id hH
  have hnd2 := tEs_nodup hW
  rw [hl] at hnd2
  have hnl : n ∉ l1 := fun z => (List.nodup_append.mp hnd2).2.2 n z n List.mem_cons_self rfl
  have huc : ∀ x, tU T x = true → x ∉ frI (tU T) (pgC f).length := fun x hx2 z => by rw [(hids x z).1] at hx2; cases hx2
  have hXl : (pgX f).length = f 10 := by unfold pgX; rw [List.length_map, List.length_range]
  have eC : ∀ x, tC (ld1 T n f) x = if x = n then frI (tU T) (pgC f).length else if x ∈ frI (tU T) (pgC f).length then [] else tC T x := fun x => rfl
  have eF : ∀ x, tF (ld1 T n f) x = if x = n then f 0 else if x ∈ frI (tU T) (pgC f).length then 1 else tF T x := fun x => rfl
  have eV : ∀ x, tV (ld1 T n f) x = if x = n then pgV f else if x ∈ frI (tU T) (pgC f).length then none else tV T x := fun x => rfl
  have eX : ∀ x, tX (ld1 T n f) x = if x = n then pgX f else if x ∈ frI (tU T) (pgC f).length then [] else tX T x := fun x => rfl
  have eO : tO (ld1 T n f) = tO T := rfl
  intro x hx
  rcases List.mem_append.mp hx with hx | hx
  · have hxn : x ≠ n := fun z => hnl (z ▸ hx)
    have hxu : tU T x = true := (tEs_mem hW).mp (by rw [hl]; exact List.mem_append_left _ hx)
    have hxc := huc x hxu
    unfold inv1
    rw [eC, eF, eV, eX, eO, if_neg hxn, if_neg hxc, if_neg hxn, if_neg hxc, if_neg hxn, if_neg hxc, if_neg hxn, if_neg hxc]
    exact hj x hx
  · have hxn : x = n := List.mem_singleton.mp hx
    obtain ⟨⟨o1, o2, o3, o4, o5, o6, o7⟩, o8⟩ := ok
    have h23 : (pgC f).length = f 23 := by
      have := o7 23 (by omega)
      rw [ndF_23] at this
      exact this.symm
    unfold inv1
    rw [eC, eF, eV, eX, eO, hxn, if_pos rfl, if_pos rfl, if_pos rfl, if_pos rfl]
    refine ⟨o1.1, o1.2, by rw [← hlen, h23]; exact o2, ?_⟩
    rcases o6 with w | w | w
    · exact Or.inl w
    · exact Or.inr (Or.inl (by rw [← hlen]; exact w))
    · refine Or.inr (Or.inr ⟨?_, ?_, ?_, w.2.2.2⟩)
      · apply Classical.byContradiction
        intro z
        obtain ⟨p, hp, -⟩ := hW.2.2.1 n hn z
        rw [hp] at w
        cases w.1
      · exact List.length_eq_zero_iff.mp (by rw [← hlen, w.2.1]; rfl)
      · exact List.length_eq_zero_iff.mp (by rw [hXl]; exact w.2.2.1)
theorem ldAll_ok (hD : ∀ k, D k < 256) : ∀ (k : Nat) (T : TT) (l1 r : List Nat) (n : Nat) (tk : Nat → Bool) (T' : TT), ldI T l1 (n :: r) → (∀ x ∈ l1, inv1 T x) → ldAll D k T tk n = some T' → ldI T' (tEs T') [] ∧ ∀ x, tU T' x = true → inv1 T' x
  | 0, T, l1, r, n, tk, T', hI, hj, h => by cases h
  | k + 1, T, l1, r, n, tk, T', hI, hj, h => by
    have hf : ∀ i, pgF D (tG T n) i < 256 := fun i => hD _
    unfold ldAll at h
    by_cases ok : okL (pgF D (tG T n)) (tL T n) (tCnt T) tk (tP T n).isSome
    · rw [if_pos ok] at h
      obtain ⟨hI2, hcn, hkn⟩ := ld1_I hI hf ok
      have hj2 := ld1_J hI hj hf ok
      have hl2 : tEs (ld1 T n (pgF D (tG T n))) = l1 ++ n :: (frI (tU T) (pgC (pgF D (tG T n))).length ++ r) := by rw [hI2.2.1]; simp
      have hN2 := (tEs_at hI2.1 hl2).2
      rw [hN2] at h
      cases hrest : frI (tU T) (pgC (pgF D (tG T n))).length ++ r with
      | nil =>
        rw [hrest] at h hI2
        have e : ld1 T n (pgF D (tG T n)) = T' := Option.some.inj h
        rw [← e]
        have hes : tEs (ld1 T n (pgF D (tG T n))) = l1 ++ [n] := by rw [hI2.2.1]; simp
        refine ⟨⟨hI2.1, (List.append_nil _).symm, fun x hx => (by cases hx), hI2.2.2.2⟩, fun x hx => hj2 x ?_⟩
        rw [← hes]; exact (tEs_mem hI2.1).mpr hx
      | cons m rest =>
        rw [hrest] at h hI2
        exact ldAll_ok hD k _ (l1 ++ [n]) rest m _ T' hI2 hj2 h
    · rw [if_neg ok] at h; cases h
theorem ld0_I {p : Nat} (h2 : 2 ≤ p) (h256 : p < 256) : ldI (tGs tNil 0 p) [] [0] ∧ tCnt (tGs tNil 0 p) = 1 ∧ tKy (tGs tNil 0 p) = 0 := by
  have e1 : tCnt (tGs tNil 0 p) = 1 := by
    have : tCnt (tGs tNil 0 p) = tCnt tNil := by unfold tCnt; rw [show tU (tGs tNil 0 p) = tU tNil from rfl]
    rw [this]; exact tNil_cnt.1
  have e2 : tKy (tGs tNil 0 p) = 0 := by
    have : tKy (tGs tNil 0 p) = tKy tNil := by unfold tKy; rw [show tU (tGs tNil 0 p) = tU tNil from rfl, show tV (tGs tNil 0 p) = tV tNil from rfl]
    rw [this]; exact tNil_cnt.2
  have eG : ∀ x, tU tNil x = true → tG (tGs tNil 0 p) x = p := fun x hx => by
    show va_up (tG tNil) 0 p x = p
    rw [tNil_u hx, va_up_self]
  refine ⟨⟨tGs_wf tNil_wf 0 p, ?_, fun x hx => ?_, by rw [e1]; omega, fun x hx => ⟨rfl, by rw [eG x hx]; exact h256⟩⟩, e1, e2⟩
  · rw [tEs_congr (S := tGs tNil 0 p) (T := tNil) rfl rfl]
    unfold tEs
    rw [show (13 : Nat) = 12 + 1 from rfl]
    have eC : tC tNil (tO tNil) = [] := rfl
    simp only [tE, eC, List.flatMap_nil]
    rfl
  · rw [List.mem_singleton.mp hx]
    refine ⟨rfl, rfl, rfl, rfl, rfl, ?_, ?_⟩
    · rw [eG 0 rfl]; exact h2
    · rw [eG 0 rfl]; exact h256
theorem ldTree_ok (hD : ∀ k, D k < 256) {p : Nat} (h2 : 2 ≤ D (512 * p + 9)) {T : TT} (h : ldTree D p = some T) : tWF T ∧ tInv T ∧ ∀ x, tU T x = true → tR T x = false := by
  unfold ldTree at h
  cases hr : ldAll D 200 (tGs tNil 0 (D (512 * p + 9))) (va_up (fun _ => false) (D (512 * p + 9)) true) 0 with
  | none => rw [hr] at h; cases h
  | some T1 =>
    rw [hr] at h
    dsimp only at h
    by_cases hk : tKy T1 = D (512 * p + 10) * 256 + D (512 * p + 11)
    · rw [if_pos hk] at h
      have e : T1 = T := Option.some.inj h
      subst e
      obtain ⟨hI, hj⟩ := ldAll_ok hD 200 _ [] [] 0 _ T1 (ld0_I h2 (hD _)).1 (fun x hx => by cases hx) hr
      refine ⟨hI.1, ⟨fun x hx => ⟨(hj x hx).1, (hj x hx).2.1, (hI.2.2.2.2 x hx).2, (hj x hx).2.2.1⟩, fun x hx => (hj x hx).2.2.2, hI.2.2.2.1⟩, fun x hx => (hI.2.2.2.2 x hx).1⟩
    · rw [if_neg hk] at h; cases h
end LO
/-- a head is right -/
def hdOk (f : Nat → Nat) (p : Nat) : Prop := ¬ lNm f 1 8 < 1 ∧ ¬ 1000000000 < lNm f 1 8 ∧ lNm f 1 8 - lNm f 1 8 / 2 * 2 = (nI p).toInt64 ∧ 2 ≤ f 9 ∧ ∀ i, i < 512 → f i = hdF (lNm f 1 8) (f 9) (f 10 * 256 + f 11) i
/-- the sequence of a head, 0 when it isn't right -/
noncomputable def hdN (D : Nat → Nat) (p : Nat) : Nat := @ite _ (hdOk (pgF D p) p) (Classical.propDecidable _) (lNm (pgF D p) 1 8).toNatClampNeg 0
noncomputable def tLoad (D : Nat → Nat) : Nat × TT :=
  if 0 < Nat.max (hdN D 0) (hdN D 1) then
    match ldTree D (if hdN D 1 < hdN D 0 then 0 else 1) with
    | some T => (Nat.max (hdN D 0) (hdN D 1), T)
    | none => if 0 < Nat.min (hdN D 0) (hdN D 1) then
        match ldTree D (if hdN D 1 < hdN D 0 then 1 else 0) with
        | some T => (Nat.min (hdN D 0) (hdN D 1), T)
        | none => (0, tNil)
      else (0, tNil)
  else (0, tNil)
