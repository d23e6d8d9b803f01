/-! What holds at the law's entry, out of the tables and the premises. -/
section WKS
variable {args : Array Value} {s : State} {A : Nat → Prop}
theorem wk_arr {ty : FieldType} (h : (Cond.arrayClass ty).before args s = true) (hn : ∀ C, ty ≠ .object C) : ∃ cA, ArrOfT s cA ty ∧ va_RA s cA ty := by
  obtain ⟨cA, kA, comp, h1, h2, h3⟩ := Cond.arrayClass_spec h
  refine ⟨cA, fun n z => ⟨fun k h => (by cases h), kA, h2, comp, h3⟩, ?_⟩
  cases ty <;> first | exact h1 | exact absurd rfl (hn _)
theorem wk_arrO {C : String} (h : (Cond.arrayOver (.object C)).before args s = true) : ∃ cA, ArrOfT s cA (.object C) ∧ va_RA s cA (.object C) := by
  obtain ⟨comp, cA, kA, h1, -, h3, h4, h5⟩ := Cond.arrayOver_spec h
  exact ⟨cA, fun n z => ⟨fun k h => (by cases h), kA, h3, comp, h4⟩, kA, comp, h3, h4, h1, h5⟩
theorem wk_K (hts : ∀ w ∈ lw_tbl, w.before args s = true) : ∃ (G : va_G) (F : Nat → ClassId), ∀ a b, va_K G vwCl (xTy (G, F, a, b)) s := by
  have hg : ∀ w ∈ gl, w.before args s = true := fun w hw => hts w (List.mem_filter.mp hw).1
  obtain ⟨c0, i0, k0⟩ := u_known (C := RX0) (T := TX0) (N := 3) (n := 3) hg lays0 (hts (.instantiable RX0 3) (by decide +kernel))
  obtain ⟨c1, i1, k1⟩ := u_known (C := RX3) (T := TX3) (N := 13) (n := 13) hg lays3 (hts (.instantiable RX3 13) (by decide +kernel))
  obtain ⟨c2, i2, k2⟩ := u_known (C := RX5) (T := TX5) (N := 1) (n := 1) hg lays5 (hts (.instantiable RX5 1) (by decide +kernel))
  obtain ⟨c3, i3, k3⟩ := u_known (C := RX6) (T := TX6) (N := 4) (n := 4) hg lays6 (hts (.instantiable RX6 4) (by decide +kernel))
  obtain ⟨c4, i4, k4⟩ := u_known (C := RX7) (T := TX7) (N := 2) (n := 2) hg lays7 (hts (.instantiable RX7 2) (by decide +kernel))
  obtain ⟨c5, i5, k5⟩ := u_known (C := RX8) (T := TX8) (N := 8) (n := 8) hg lays8 (hts (.instantiable RX8 8) (by decide +kernel))
  obtain ⟨c6, i6, k6⟩ := u_known (C := RX9) (T := TX9) (N := 6) (n := 6) hg lays9 (hts (.instantiable RX9 6) (by decide +kernel))
  obtain ⟨c7, i7, k7⟩ := u_known (C := RX10) (T := TX10) (N := 27) (n := 27) hg lays10 (hts (.instantiable RX10 27) (by decide +kernel))
  obtain ⟨a0, b0⟩ := wk_arr (ty := .byte) (hg _ arr_byte) (fun C z => by cases z)
  obtain ⟨a1, b1⟩ := wk_arr (ty := .int) (hg _ arr_int) (fun C z => by cases z)
  obtain ⟨a2, b2⟩ := wk_arr (ty := .long) (hg _ arr_long) (fun C z => by cases z)
  obtain ⟨a3, b3⟩ := wk_arr (ty := .boolean) (hg _ arr_boolean) (fun C z => by cases z)
  obtain ⟨a4, b4⟩ := wk_arrO (C := "RadixPages$Node") (hts (.arrayOver (.object "RadixPages$Node")) (by decide +kernel))
  refine ⟨((fun k => match k with | 0 => c0 | 1 => c1 | 2 => c2 | 3 => c3 | 4 => c4 | 5 => c5 | 6 => c6 | _ => c7), (fun k => match k with | 0 => i0 | 1 => i1 | 2 => i2 | 3 => i3 | 4 => i4 | 5 => i5 | 6 => i6 | _ => i7)), (fun k => match k with | 8 => a0 | 9 => a1 | 10 => a2 | 11 => a3 | _ => a4), fun a b => ⟨fun k q hq => ?_, fun k q hq => ?_⟩⟩
  · match k, hq with
    | 0, hq => cases hq; exact k0
    | 1, hq => cases hq; exact k1
    | 2, hq => cases hq; exact k2
    | 3, hq => cases hq; exact k3
    | 4, hq => cases hq; exact k4
    | 5, hq => cases hq; exact k5
    | 6, hq => cases hq; exact k6
    | 7, hq => cases hq; exact k7
    | k + 8, hq => simp [vwCl] at hq
  · match k, hq with
    | 0, hq => cases hq; exact b0
    | 1, hq => cases hq; exact b1
    | 2, hq => cases hq; exact b2
    | 3, hq => cases hq; exact b3
    | 4, hq => cases hq; exact b4
    | k + 5, hq => simp [xTy] at hq
theorem wk_St (hts : ∀ w ∈ lw_tbl, w.before args s = true) (hgv : (Jvm.Cond.and given_1 narrow_1).before args s = true) (hA : ∀ a : Nat, a < s.heap.size → ¬ A a) : ∃ a b, ∀ G F, xSt (G, F, a, b) A s s.heap := by
  have hs := flat_of_before _ hgv
  obtain ⟨t1, e1, T1⟩ := va_Tof (tm := .static "RadixPages$Format" "MOST_CHILDREN" "[I") (ty := .int) (N := 5) (f := fun j => .int (xmc j)) (A := A) (by decide) (hs _ (by decide +kernel)) (va_eqt (hs _ (by decide +kernel))) (fun j hj => by
    rcases (show j = 0 ∨ j = 1 ∨ j = 2 ∨ j = 3 ∨ j = 4 by omega) with rfl | rfl | rfl | rfl | rfl
    · exact va_eqt (z := 0) (hs _ (by decide +kernel))
    · exact va_eqt (z := 4) (hs _ (by decide +kernel))
    · exact va_eqt (z := 16) (hs _ (by decide +kernel))
    · exact va_eqt (z := 48) (hs _ (by decide +kernel))
    · exact va_eqt (z := 256) (hs _ (by decide +kernel))) hA
  obtain ⟨t2, e2, T2⟩ := va_Tof (tm := .static "RadixPages$Format" "SHRINKS_AT" "[I") (ty := .int) (N := 5) (f := fun j => .int (xsh j)) (A := A) (by decide) (hs _ (by decide +kernel)) (va_eqt (hs _ (by decide +kernel))) (fun j hj => by
    rcases (show j = 0 ∨ j = 1 ∨ j = 2 ∨ j = 3 ∨ j = 4 by omega) with rfl | rfl | rfl | rfl | rfl
    · exact va_eqt (z := 0) (hs _ (by decide +kernel))
    · exact va_eqt (z := 0) (hs _ (by decide +kernel))
    · exact va_eqt (z := 3) (hs _ (by decide +kernel))
    · exact va_eqt (z := 12) (hs _ (by decide +kernel))
    · exact va_eqt (z := 40) (hs _ (by decide +kernel))) hA
  refine ⟨t1, t2, fun G F => ⟨va_Zof (hts _ (by decide +kernel)) (hts _ (by decide +kernel)) e1 hA, T1, va_Zof (hts _ (by decide +kernel)) (hts _ (by decide +kernel)) e2 hA, T2, fun w hw => ?_, va_Nw.of rfl (hts _ (by decide +kernel)), va_AO.of (hts _ (by decide +kernel))⟩⟩
  exact va_Nw.of (xNs_tab hw) (hts w ((by decide +kernel : ∀ w ∈ xNs, w ∈ lw_tbl) w hw))
theorem wk_str {k : Nat} {tx : String} (h1 : (Cond.stringRef RX9 k tx).before args s = true) (h2 : (Cond.exactly (.string RX9 k) "java/lang/String").before args s = true) : ∃ a, vk_R RX9 k tx a s := by
  obtain ⟨a, c, cA, kA, q1, -⟩ := Cond.exactly_spec (args := args) (first := s) (o := none) (s := s) (idx := []) h2
  exact ⟨a, vk_R.of h1 q1⟩
theorem wk_Th (hts : ∀ w ∈ lw_tbl, w.before args s = true) (hgv : (Jvm.Cond.and given_1 narrow_1).before args s = true) (hA : ∀ a : Nat, a < s.heap.size → ¬ A a) : xTh A s s.heap := by
  have hs := flat_of_before _ hgv
  refine ⟨⟨vx_Zqof (hts _ (by decide +kernel)) (hts _ (by decide +kernel)) (hs _ (by decide +kernel)) hA, vx_Zqof (hts _ (by decide +kernel)) (hts _ (by decide +kernel)) (hs _ (by decide +kernel)) hA⟩, wk_str (hts _ (by decide +kernel)) (hs _ (by decide +kernel)), wk_str (hts _ (by decide +kernel)) (hs _ (by decide +kernel)), wk_str (hts _ (by decide +kernel)) (hs _ (by decide +kernel)), wk_str (hts _ (by decide +kernel)) (hs _ (by decide +kernel)), fun w hw => ?_, va_Nc.of (hs _ (by decide +kernel))⟩
  exact va_Nw.of (xThW_tab hw) (hts w ((by decide +kernel : ∀ w ∈ xThW, w ∈ lw_tbl) w hw))
end WKS
