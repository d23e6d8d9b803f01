/-! The law's walk. -/
def xScr (K : xKt) (b L : Nat) (xs : Nat → Int32) : Prop := ∀ {p : Program} {e : Env} {R : Room} {s : State} {m : MethodId} {args : Array Value} {below : List Frame} {meth : Method} {c : Code} {A : Nat → Prop} {Z : State → Prop}, K p e R s m args below meth c A Z → va_X b L xs s s.heap ∧ b < s.heap.size ∧ ¬ A b ∧ L ≤ 2048
def xThK (K : xKt) : Prop := ∀ {p : Program} {e : Env} {R : Room} {s : State} {m : MethodId} {args : Array Value} {below : List Frame} {meth : Method} {c : Code} {A : Nat → Prop} {Z : State → Prop}, K p e R s m args below meth c A Z → xTh A s s.heap
section KSC
variable {l : Launch} {g : xG} {md : xMd} {mc ms pc : Nat} {L : List (Nat × Value)} {st : List Value} {cs : Nat × Nat} {M : xM} {K : xKt} {b0 Ls : Nat} {xs : Nat → Int32}
theorem kr_scr {i : Int32} (j : Nat) (d : decode md.2.1 pc = .ok (.iaload, 1)) (hscr : xScr K b0 Ls xs) (hi : i = nI j) (hj : j < Ls) (h : xWg l g md mc ms (pc + 1) L (.int (xs j) :: st) cs M K) : xWg l g md mc ms pc L (.int i :: va_rf (some b0) :: st) cs M K := fun p e R s m args below meth c A H locs Z ls hF hE hP hS hl => by
  obtain ⟨h1, h2, h3, h4⟩ := hscr hE
  subst hi
  have k := h p e R s m args below meth c A H locs Z ls hF hE hP hS hl
  refine va_sld hF.1 hF.2.1 h1 h2 h3 hS (vp_in_nI hj (by omega)) d ?_
  rw [nI_clamp (by omega)]
  exact k
theorem kr_scl (d : decode md.2.1 pc = .ok (.arraylength, 1)) (hscr : xScr K b0 Ls xs) (h : xWg l g md mc ms (pc + 1) L (.int (nI Ls) :: st) cs M K) : xWg l g md mc ms pc L (va_rf (some b0) :: st) cs M K := fun p e R s m args below meth c A H locs Z ls hF hE hP hS hl => by
  obtain ⟨h1, h2, h3, h4⟩ := hscr hE
  exact va_slen hF.1 hF.2.1 h1 h2 h3 hS d (h p e R s m args below meth c A H locs Z ls hF hE hP hS hl)
end KSC
set_option maxRecDepth 100000 in
set_option maxHeartbeats 4000000 in
theorem bL_law_739 {l : Launch} {g : xG} {K : xKt} {Ls : Nat} {xs : Nat → Int32} {b0 : Nat} {mc ms : Nat} {c1 c2 : Nat} (r1 : Option Nat) (r2 : Option Nat) (r3 : Option Nat) (x4 : Int32) (w5 : Value) (w6 : Value) {M : xM} (hscr : xScr K b0 Ls xs) (hth : xThK K) (h : xWg l g hL_law mc ms 23 [(1, va_rf (some b0)), (1, va_rf r1), (1, va_rf r2), (1, va_rf r3), (1, .int (x4 + 4)), (0, w5), (0, w6)] [] (c1, c2) M K) : xWg l g hL_law mc ms 739 [(1, va_rf (some b0)), (1, va_rf r1), (1, va_rf r2), (1, va_rf r3), (1, .int x4), (0, w5), (0, w6)] [] (c1, c2) M K := by
  refine kziinc (x4 + 4) dL_law_739 rfl rfl (L1 := [(1, va_rf (some b0)), (1, va_rf r1), (1, va_rf r2), (1, va_rf r3), (1, .int (x4 + 4)), (0, w5), (0, w6)]) (by decide) rfl ?_
  refine kr_goto 23 dL_law_742 (by decide) ?_
  exact h
set_option maxRecDepth 100000 in
set_option maxHeartbeats 4000000 in
theorem bL_law_659 {l : Launch} {g : xG} {K : xKt} {Ls : Nat} {xs : Nat → Int32} {b0 : Nat} {mc ms : Nat} {c1 c2 : Nat} (r1 : Option Nat) (r2 : Option Nat) (r3 : Option Nat) (x4 : Int32) (w5 : Value) (w6 : Value) {M : xM} (hscr : xScr K b0 Ls xs) (hth : xThK K) (h : (∃ i1, (x4 + 1) = nI i1 ∧ i1 < Ls ∧ (∃ i4, (x4 + 2) = nI i4 ∧ i4 < Ls ∧ (∃ i7, (x4 + 3) = nI i7 ∧ i7 < Ls ∧ ((c1 + 1 ≤ mc ∧ c2 + 6 ≤ ms) ∧ xSpH l g hL_poke hhL_poke [va_rf r1, .int (xs i1), .int (xs i4), .int (xs i7), va_rf r3] M (fun ρ12 M11 => ∃ v10 : Int32, ρ12 = some (.int v10) ∧ (∃ i14, (x4 + 1) = nI i14 ∧ i14 < Ls ∧ (∃ i17, (x4 + 2) = nI i17 ∧ i17 < Ls ∧ (∃ i20, (x4 + 3) = nI i20 ∧ i20 < Ls ∧ (∃ a27, r2 = some a27 ∧ xat M11 a27 7 ∧ ((c1 + 1) ≤ mc ∧ (c2 + 6) ≤ ms) ∧ xSp l g mX10_poke 0 0 [va_rf r2, .int (xs i14), .int (xs i17), .int (xs i20)] M11 (fun ρ25 M24 => ∃ v23 : Int32, ρ25 = some (.int v23) ∧ (xat M24 a27 7 ∧ ((c1 + 1) ≤ mc ∧ (c2 + 6) ≤ ms) ∧ xSp l g mX10_thrown 0 0 [va_rf r2] M24 (fun ρ32 M31 => ∃ v30 : Int32, ρ32 = some (.int v30) ∧ ((v30 = v10 → ((¬ v10 = 0 → xWg l g hL_law mc ms 739 [(1, va_rf (some b0)), (1, va_rf r1), (1, va_rf r2), (1, va_rf r3), (1, .int x4), (1, .int v10), (1, .int v23)] [] ((c1 + 1), (c2 + 6)) M31 K) ∧ (v10 = 0 → (∃ a35, r3 = some a35 ∧ ∃ i37, xai M31 a35 10 (0 : Int32) i37 ∧ (((lg_cmp (xJ M31 a35 i37) v23.toInt64) = 0 → xWg l g hL_law mc ms 739 [(1, va_rf (some b0)), (1, va_rf r1), (1, va_rf r2), (1, va_rf r3), (1, .int x4), (1, .int v10), (1, .int v23)] [] ((c1 + 1), (c2 + 6)) M31 K) ∧ (¬ (lg_cmp (xJ M31 a35 i37) v23.toInt64) = 0 → xWg l g hL_law mc ms 735 [(1, va_rf (some b0)), (1, va_rf r1), (1, va_rf r2), (1, va_rf r3), (1, .int x4), (1, .int v10), (1, .int v23)] [.int 0] ((c1 + 1), (c2 + 6)) M31 K)))))) ∧ (¬ v30 = v10 → xWg l g hL_law mc ms 718 [(1, va_rf (some b0)), (1, va_rf r1), (1, va_rf r2), (1, va_rf r3), (1, .int x4), (1, .int v10), (1, .int v23)] [.int 0] ((c1 + 1), (c2 + 6)) M31 K))))))))))))))) : xWg l g hL_law mc ms 659 [(1, va_rf (some b0)), (1, va_rf r1), (1, va_rf r2), (1, va_rf r3), (1, .int x4), (0, w5), (0, w6)] [] (c1, c2) M K := by
  refine kr_aload_n 1 dL_law_659 rfl rfl ?_
  refine kr_aload_n 0 dL_law_660 rfl rfl ?_
  refine kr_iload dL_law_661 rfl ?_
  refine kr_iconst 1 dL_law_663 (by decide) ?_
  refine kr_iadd dL_law_664 ?_
  obtain ⟨i1, e2, b3, h⟩ := h
  refine kr_scr i1 dL_law_665 hscr e2 b3 ?_
  refine kr_aload_n 0 dL_law_666 rfl rfl ?_
  refine kr_iload dL_law_667 rfl ?_
  refine kr_iconst 2 dL_law_669 (by decide) ?_
  refine kr_iadd dL_law_670 ?_
  obtain ⟨i4, e5, b6, h⟩ := h
  refine kr_scr i4 dL_law_671 hscr e5 b6 ?_
  refine kr_aload_n 0 dL_law_672 rfl rfl ?_
  refine kr_iload dL_law_673 rfl ?_
  refine kr_iconst 3 dL_law_675 (by decide) ?_
  refine kr_iadd dL_law_676 ?_
  obtain ⟨i7, e8, b9, h⟩ := h
  refine kr_scr i7 dL_law_677 hscr e8 b9 ?_
  refine kr_aload_n 3 dL_law_678 rfl rfl ?_
  obtain ⟨hm13, h⟩ := h
  refine kr_callH [va_rf r1, .int (xs i1), .int (xs i4), .int (xs i7), va_rf r3] dL_law_679 chL_law_113 rfl (Nat.le_trans wt_0 (by decide)) hm13 hth (xSpH.mono h ?_)
  clear h
  intro ρ12 M11 h
  obtain ⟨v10, rfl, h⟩ := h
  refine kzistore dL_law_682 (L1 := [(1, va_rf (some b0)), (1, va_rf r1), (1, va_rf r2), (1, va_rf r3), (1, .int x4), (1, .int v10), (0, w6)]) (by decide) rfl ?_
  refine kr_aload_n 2 dL_law_684 rfl rfl ?_
  refine kr_aload_n 0 dL_law_685 rfl rfl ?_
  refine kr_iload dL_law_686 rfl ?_
  refine kr_iconst 1 dL_law_688 (by decide) ?_
  refine kr_iadd dL_law_689 ?_
  obtain ⟨i14, e15, b16, h⟩ := h
  refine kr_scr i14 dL_law_690 hscr e15 b16 ?_
  refine kr_aload_n 0 dL_law_691 rfl rfl ?_
  refine kr_iload dL_law_692 rfl ?_
  refine kr_iconst 2 dL_law_694 (by decide) ?_
  refine kr_iadd dL_law_695 ?_
  obtain ⟨i17, e18, b19, h⟩ := h
  refine kr_scr i17 dL_law_696 hscr e18 b19 ?_
  refine kr_aload_n 0 dL_law_697 rfl rfl ?_
  refine kr_iload dL_law_698 rfl ?_
  refine kr_iconst 3 dL_law_700 (by decide) ?_
  refine kr_iadd dL_law_701 ?_
  obtain ⟨i20, e21, b22, h⟩ := h
  refine kr_scr i20 dL_law_702 hscr e21 b22 ?_
  obtain ⟨a27, e28, h⟩ := h
  obtain ⟨t29, h⟩ := h
  obtain ⟨hm43, h⟩ := h
  refine ky_callV (r := r2) [.int (xs i14), .int (xs i17), .int (xs i20)] dL_law_703 cvL_law_116 e28 t29 rfl (Nat.le_trans wt_0 (by decide)) hm43 (xSp.mono h ?_)
  clear h
  intro ρ25 M24 h
  obtain ⟨v23, rfl, h⟩ := h
  refine kzistore dL_law_706 (L1 := [(1, va_rf (some b0)), (1, va_rf r1), (1, va_rf r2), (1, va_rf r3), (1, .int x4), (1, .int v10), (1, .int v23)]) (by decide) rfl ?_
  refine kr_aload_n 2 dL_law_708 rfl rfl ?_
  obtain ⟨t34, h⟩ := h
  obtain ⟨hm42, h⟩ := h
  refine ky_callV (r := r2) [] dL_law_709 cvL_law_43 e28 t34 rfl (Nat.le_trans wt_0 (by decide)) hm42 (xSp.mono h ?_)
  clear h
  intro ρ32 M31 h
  obtain ⟨v30, rfl, h⟩ := h
  refine kr_iload dL_law_712 rfl ?_
  obtain ⟨ht, hf⟩ := h
  refine kr_icmp_eq 719 dL_law_714 (by decide) (fun c41 => ?_) (fun c41 => ?_)
  · replace h := ht c41
    clear ht hf
    refine kr_iload dL_law_719 rfl ?_
    obtain ⟨ht, hf⟩ := h
    refine kr_if_ne 736 dL_law_721 (by decide) (fun c40 => ?_) (fun c40 => ?_)
    · replace h := ht c40
      clear ht hf
      refine kr_goto 739 dL_law_736 (by decide) ?_
      exact h
    · replace h := hf c40
      clear ht hf
      refine kr_aload_n 3 dL_law_724 rfl rfl ?_
      refine kr_iconst 0 dL_law_725 (by decide) ?_
      obtain ⟨a35, e36, h⟩ := h
      obtain ⟨i37, t38, h⟩ := h
      refine ky_lald dL_law_726 e36 t38 ?_
      refine kr_iload dL_law_727 rfl ?_
      refine kr_i2l dL_law_729 ?_
      refine kr_lcmp dL_law_730 ?_
      obtain ⟨ht, hf⟩ := h
      refine kr_if_eq 736 dL_law_731 (by decide) (fun c39 => ?_) (fun c39 => ?_)
      · replace h := ht c39
        clear ht hf
        refine kr_goto 739 dL_law_736 (by decide) ?_
        exact h
      · replace h := hf c39
        clear ht hf
        refine kr_iconst 0 dL_law_734 (by decide) ?_
        exact h
  · replace h := hf c41
    clear ht hf
    refine kr_iconst 0 dL_law_717 (by decide) ?_
    exact h
set_option maxRecDepth 100000 in
set_option maxHeartbeats 4000000 in
theorem bL_law_591 {l : Launch} {g : xG} {K : xKt} {Ls : Nat} {xs : Nat → Int32} {b0 : Nat} {mc ms : Nat} {c1 c2 : Nat} (r1 : Option Nat) (r2 : Option Nat) (r3 : Option Nat) (x4 : Int32) (w5 : Value) (w6 : Value) {M : xM} (hscr : xScr K b0 Ls xs) (hth : xThK K) (h : (∃ i1, (x4 + 1) = nI i1 ∧ i1 < Ls ∧ (∃ i4, (x4 + 2) = nI i4 ∧ i4 < Ls ∧ ((c1 + 1 ≤ mc ∧ c2 + 6 ≤ ms) ∧ xSpH l g hL_octet hhL_octet [va_rf r1, .int (xs i1), .int (xs i4), va_rf r3] M (fun ρ9 M8 => ∃ v7 : Int32, ρ9 = some (.int v7) ∧ (∃ i11, (x4 + 1) = nI i11 ∧ i11 < Ls ∧ (∃ i14, (x4 + 2) = nI i14 ∧ i14 < Ls ∧ (∃ a21, r2 = some a21 ∧ xat M8 a21 7 ∧ ((c1 + 1) ≤ mc ∧ (c2 + 6) ≤ ms) ∧ xSp l g mX10_octet 0 0 [va_rf r2, .int (xs i11), .int (xs i14)] M8 (fun ρ19 M18 => ∃ v17 : Int32, ρ19 = some (.int v17) ∧ (xat M18 a21 7 ∧ ((c1 + 1) ≤ mc ∧ (c2 + 6) ≤ ms) ∧ xSp l g mX10_thrown 0 0 [va_rf r2] M18 (fun ρ26 M25 => ∃ v24 : Int32, ρ26 = some (.int v24) ∧ ((v24 = v7 → ((¬ v7 = 0 → xWg l g hL_law mc ms 739 [(1, va_rf (some b0)), (1, va_rf r1), (1, va_rf r2), (1, va_rf r3), (1, .int x4), (1, .int v7), (1, .int v17)] [] ((c1 + 1), (c2 + 6)) M25 K) ∧ (v7 = 0 → (∃ a29, r3 = some a29 ∧ ∃ i31, xai M25 a29 10 (0 : Int32) i31 ∧ (((lg_cmp (xJ M25 a29 i31) v17.toInt64) = 0 → xWg l g hL_law mc ms 739 [(1, va_rf (some b0)), (1, va_rf r1), (1, va_rf r2), (1, va_rf r3), (1, .int x4), (1, .int v7), (1, .int v17)] [] ((c1 + 1), (c2 + 6)) M25 K) ∧ (¬ (lg_cmp (xJ M25 a29 i31) v17.toInt64) = 0 → xWg l g hL_law mc ms 655 [(1, va_rf (some b0)), (1, va_rf r1), (1, va_rf r2), (1, va_rf r3), (1, .int x4), (1, .int v7), (1, .int v17)] [.int 0] ((c1 + 1), (c2 + 6)) M25 K)))))) ∧ (¬ v24 = v7 → xWg l g hL_law mc ms 638 [(1, va_rf (some b0)), (1, va_rf r1), (1, va_rf r2), (1, va_rf r3), (1, .int x4), (1, .int v7), (1, .int v17)] [.int 0] ((c1 + 1), (c2 + 6)) M25 K))))))))))))) : xWg l g hL_law mc ms 591 [(1, va_rf (some b0)), (1, va_rf r1), (1, va_rf r2), (1, va_rf r3), (1, .int x4), (0, w5), (0, w6)] [] (c1, c2) M K := by
  refine kr_aload_n 1 dL_law_591 rfl rfl ?_
  refine kr_aload_n 0 dL_law_592 rfl rfl ?_
  refine kr_iload dL_law_593 rfl ?_
  refine kr_iconst 1 dL_law_595 (by decide) ?_
  refine kr_iadd dL_law_596 ?_
  obtain ⟨i1, e2, b3, h⟩ := h
  refine kr_scr i1 dL_law_597 hscr e2 b3 ?_
  refine kr_aload_n 0 dL_law_598 rfl rfl ?_
  refine kr_iload dL_law_599 rfl ?_
  refine kr_iconst 2 dL_law_601 (by decide) ?_
  refine kr_iadd dL_law_602 ?_
  obtain ⟨i4, e5, b6, h⟩ := h
  refine kr_scr i4 dL_law_603 hscr e5 b6 ?_
  refine kr_aload_n 3 dL_law_604 rfl rfl ?_
  obtain ⟨hm10, h⟩ := h
  refine kr_callH [va_rf r1, .int (xs i1), .int (xs i4), va_rf r3] dL_law_605 chL_law_109 rfl (Nat.le_trans wt_0 (by decide)) hm10 hth (xSpH.mono h ?_)
  clear h
  intro ρ9 M8 h
  obtain ⟨v7, rfl, h⟩ := h
  refine kzistore dL_law_608 (L1 := [(1, va_rf (some b0)), (1, va_rf r1), (1, va_rf r2), (1, va_rf r3), (1, .int x4), (1, .int v7), (0, w6)]) (by decide) rfl ?_
  refine kr_aload_n 2 dL_law_610 rfl rfl ?_
  refine kr_aload_n 0 dL_law_611 rfl rfl ?_
  refine kr_iload dL_law_612 rfl ?_
  refine kr_iconst 1 dL_law_614 (by decide) ?_
  refine kr_iadd dL_law_615 ?_
  obtain ⟨i11, e12, b13, h⟩ := h
  refine kr_scr i11 dL_law_616 hscr e12 b13 ?_
  refine kr_aload_n 0 dL_law_617 rfl rfl ?_
  refine kr_iload dL_law_618 rfl ?_
  refine kr_iconst 2 dL_law_620 (by decide) ?_
  refine kr_iadd dL_law_621 ?_
  obtain ⟨i14, e15, b16, h⟩ := h
  refine kr_scr i14 dL_law_622 hscr e15 b16 ?_
  obtain ⟨a21, e22, h⟩ := h
  obtain ⟨t23, h⟩ := h
  obtain ⟨hm37, h⟩ := h
  refine ky_callV (r := r2) [.int (xs i11), .int (xs i14)] dL_law_623 cvL_law_112 e22 t23 rfl (Nat.le_trans wt_0 (by decide)) hm37 (xSp.mono h ?_)
  clear h
  intro ρ19 M18 h
  obtain ⟨v17, rfl, h⟩ := h
  refine kzistore dL_law_626 (L1 := [(1, va_rf (some b0)), (1, va_rf r1), (1, va_rf r2), (1, va_rf r3), (1, .int x4), (1, .int v7), (1, .int v17)]) (by decide) rfl ?_
  refine kr_aload_n 2 dL_law_628 rfl rfl ?_
  obtain ⟨t28, h⟩ := h
  obtain ⟨hm36, h⟩ := h
  refine ky_callV (r := r2) [] dL_law_629 cvL_law_43 e22 t28 rfl (Nat.le_trans wt_0 (by decide)) hm36 (xSp.mono h ?_)
  clear h
  intro ρ26 M25 h
  obtain ⟨v24, rfl, h⟩ := h
  refine kr_iload dL_law_632 rfl ?_
  obtain ⟨ht, hf⟩ := h
  refine kr_icmp_eq 639 dL_law_634 (by decide) (fun c35 => ?_) (fun c35 => ?_)
  · replace h := ht c35
    clear ht hf
    refine kr_iload dL_law_639 rfl ?_
    obtain ⟨ht, hf⟩ := h
    refine kr_if_ne 656 dL_law_641 (by decide) (fun c34 => ?_) (fun c34 => ?_)
    · replace h := ht c34
      clear ht hf
      refine kr_goto 739 dL_law_656 (by decide) ?_
      exact h
    · replace h := hf c34
      clear ht hf
      refine kr_aload_n 3 dL_law_644 rfl rfl ?_
      refine kr_iconst 0 dL_law_645 (by decide) ?_
      obtain ⟨a29, e30, h⟩ := h
      obtain ⟨i31, t32, h⟩ := h
      refine ky_lald dL_law_646 e30 t32 ?_
      refine kr_iload dL_law_647 rfl ?_
      refine kr_i2l dL_law_649 ?_
      refine kr_lcmp dL_law_650 ?_
      obtain ⟨ht, hf⟩ := h
      refine kr_if_eq 656 dL_law_651 (by decide) (fun c33 => ?_) (fun c33 => ?_)
      · replace h := ht c33
        clear ht hf
        refine kr_goto 739 dL_law_656 (by decide) ?_
        exact h
      · replace h := hf c33
        clear ht hf
        refine kr_iconst 0 dL_law_654 (by decide) ?_
        exact h
  · replace h := hf c35
    clear ht hf
    refine kr_iconst 0 dL_law_637 (by decide) ?_
    exact h
set_option maxRecDepth 100000 in
set_option maxHeartbeats 4000000 in
theorem bL_law_578 {l : Launch} {g : xG} {K : xKt} {Ls : Nat} {xs : Nat → Int32} {b0 : Nat} {mc ms : Nat} {c1 c2 : Nat} (r1 : Option Nat) (r2 : Option Nat) (r3 : Option Nat) (x4 : Int32) (w5 : Value) (w6 : Value) {M : xM} (hscr : xScr K b0 Ls xs) (hth : xThK K) (h : (∃ a5, r1 = some a5 ∧ xat M a5 6 ∧ (c1 ≤ mc ∧ c2 ≤ ms) ∧ xSp l g mX9_halt 0 0 [va_rf r1] M (fun ρ3 M2 => ∃ v1 : Int32, ρ3 = some (.int v1) ∧ (∃ a12, r2 = some a12 ∧ xat M2 a12 7 ∧ (c1 ≤ mc ∧ c2 ≤ ms) ∧ xSp l g mX10_halt 0 0 [va_rf r2] M2 (fun ρ10 M9 => ∃ v8 : Int32, ρ10 = some (.int v8) ∧ ((v1 = v8 → xWg l g hL_law mc ms 739 [(1, va_rf (some b0)), (1, va_rf r1), (1, va_rf r2), (1, va_rf r3), (1, .int x4), (0, w5), (0, w6)] [] (c1, c2) M9 K) ∧ (¬ v1 = v8 → xWg l g hL_law mc ms 590 [(1, va_rf (some b0)), (1, va_rf r1), (1, va_rf r2), (1, va_rf r3), (1, .int x4), (0, w5), (0, w6)] [.int 0] (c1, c2) M9 K))))))) : xWg l g hL_law mc ms 578 [(1, va_rf (some b0)), (1, va_rf r1), (1, va_rf r2), (1, va_rf r3), (1, .int x4), (0, w5), (0, w6)] [] (c1, c2) M K := by
  refine kr_aload_n 1 dL_law_578 rfl rfl ?_
  obtain ⟨a5, e6, h⟩ := h
  obtain ⟨t7, h⟩ := h
  obtain ⟨hm17, h⟩ := h
  refine ky_callV (r := r1) [] dL_law_579 cvL_law_105 e6 t7 rfl (Nat.le_trans wt_0 (by decide)) hm17 (xSp.mono h ?_)
  clear h
  intro ρ3 M2 h
  obtain ⟨v1, rfl, h⟩ := h
  refine kr_aload_n 2 dL_law_582 rfl rfl ?_
  obtain ⟨a12, e13, h⟩ := h
  obtain ⟨t14, h⟩ := h
  obtain ⟨hm16, h⟩ := h
  refine ky_callV (r := r2) [] dL_law_583 cvL_law_108 e13 t14 rfl (Nat.le_trans (wt_i wt_0) (by decide)) hm16 (xSp.mono h ?_)
  clear h
  intro ρ10 M9 h
  obtain ⟨v8, rfl, h⟩ := h
  obtain ⟨ht, hf⟩ := h
  refine kr_icmp_eq 739 dL_law_586 (by decide) (fun c15 => ?_) (fun c15 => ?_)
  · replace h := ht c15
    clear ht hf
    exact h
  · replace h := hf c15
    clear ht hf
    refine kr_iconst 0 dL_law_589 (by decide) ?_
    exact h
set_option maxRecDepth 100000 in
set_option maxHeartbeats 4000000 in
theorem bL_law_565 {l : Launch} {g : xG} {K : xKt} {Ls : Nat} {xs : Nat → Int32} {b0 : Nat} {mc ms : Nat} {c1 c2 : Nat} (r1 : Option Nat) (r2 : Option Nat) (r3 : Option Nat) (x4 : Int32) (w5 : Value) (w6 : Value) {M : xM} (hscr : xScr K b0 Ls xs) (hth : xThK K) (h : (∃ a5, r1 = some a5 ∧ xat M a5 6 ∧ (c1 ≤ mc ∧ c2 ≤ ms) ∧ xSp l g mX9_start 0 0 [va_rf r1] M (fun ρ3 M2 => ∃ v1 : Int32, ρ3 = some (.int v1) ∧ (∃ a12, r2 = some a12 ∧ xat M2 a12 7 ∧ (c1 ≤ mc ∧ c2 ≤ ms) ∧ xSp l g mX10_start 0 0 [va_rf r2] M2 (fun ρ10 M9 => ∃ v8 : Int32, ρ10 = some (.int v8) ∧ ((v1 = v8 → xWg l g hL_law mc ms 739 [(1, va_rf (some b0)), (1, va_rf r1), (1, va_rf r2), (1, va_rf r3), (1, .int x4), (0, w5), (0, w6)] [] (c1, c2) M9 K) ∧ (¬ v1 = v8 → xWg l g hL_law mc ms 577 [(1, va_rf (some b0)), (1, va_rf r1), (1, va_rf r2), (1, va_rf r3), (1, .int x4), (0, w5), (0, w6)] [.int 0] (c1, c2) M9 K))))))) : xWg l g hL_law mc ms 565 [(1, va_rf (some b0)), (1, va_rf r1), (1, va_rf r2), (1, va_rf r3), (1, .int x4), (0, w5), (0, w6)] [] (c1, c2) M K := by
  refine kr_aload_n 1 dL_law_565 rfl rfl ?_
  obtain ⟨a5, e6, h⟩ := h
  obtain ⟨t7, h⟩ := h
  obtain ⟨hm17, h⟩ := h
  refine ky_callV (r := r1) [] dL_law_566 cvL_law_101 e6 t7 rfl (Nat.le_trans wt_0 (by decide)) hm17 (xSp.mono h ?_)
  clear h
  intro ρ3 M2 h
  obtain ⟨v1, rfl, h⟩ := h
  refine kr_aload_n 2 dL_law_569 rfl rfl ?_
  obtain ⟨a12, e13, h⟩ := h
  obtain ⟨t14, h⟩ := h
  obtain ⟨hm16, h⟩ := h
  refine ky_callV (r := r2) [] dL_law_570 cvL_law_104 e13 t14 rfl (Nat.le_trans (wt_i wt_0) (by decide)) hm16 (xSp.mono h ?_)
  clear h
  intro ρ10 M9 h
  obtain ⟨v8, rfl, h⟩ := h
  obtain ⟨ht, hf⟩ := h
  refine kr_icmp_eq 739 dL_law_573 (by decide) (fun c15 => ?_) (fun c15 => ?_)
  · replace h := ht c15
    clear ht hf
    exact h
  · replace h := hf c15
    clear ht hf
    refine kr_iconst 0 dL_law_576 (by decide) ?_
    exact h
set_option maxRecDepth 100000 in
set_option maxHeartbeats 4000000 in
theorem bL_law_528 {l : Launch} {g : xG} {K : xKt} {Ls : Nat} {xs : Nat → Int32} {b0 : Nat} {mc ms : Nat} {c1 c2 : Nat} (r1 : Option Nat) (r2 : Option Nat) (r3 : Option Nat) (x4 : Int32) (w5 : Value) (w6 : Value) {M : xM} (hscr : xScr K b0 Ls xs) (hth : xThK K) (h : (∃ i1, (x4 + 1) = nI i1 ∧ i1 < Ls ∧ (∃ i4, (x4 + 2) = nI i4 ∧ i4 < Ls ∧ (∃ a11, r1 = some a11 ∧ xat M a11 6 ∧ (c1 ≤ mc ∧ c2 ≤ ms) ∧ xSp l g mX9_power 0 0 [va_rf r1, .int (xs i1), .int (xs i4)] M (fun ρ9 M8 => ∃ v7 : Int32, ρ9 = some (.int v7) ∧ (∃ i14, (x4 + 1) = nI i14 ∧ i14 < Ls ∧ (∃ i17, (x4 + 2) = nI i17 ∧ i17 < Ls ∧ (∃ a24, r2 = some a24 ∧ xat M8 a24 7 ∧ (c1 ≤ mc ∧ c2 ≤ ms) ∧ xSp l g mX10_power 0 0 [va_rf r2, .int (xs i14), .int (xs i17)] M8 (fun ρ22 M21 => ∃ v20 : Int32, ρ22 = some (.int v20) ∧ ((v7 = v20 → xWg l g hL_law mc ms 739 [(1, va_rf (some b0)), (1, va_rf r1), (1, va_rf r2), (1, va_rf r3), (1, .int x4), (0, w5), (0, w6)] [] (c1, c2) M21 K) ∧ (¬ v7 = v20 → xWg l g hL_law mc ms 564 [(1, va_rf (some b0)), (1, va_rf r1), (1, va_rf r2), (1, va_rf r3), (1, .int x4), (0, w5), (0, w6)] [.int 0] (c1, c2) M21 K))))))))))) : xWg l g hL_law mc ms 528 [(1, va_rf (some b0)), (1, va_rf r1), (1, va_rf r2), (1, va_rf r3), (1, .int x4), (0, w5), (0, w6)] [] (c1, c2) M K := by
  refine kr_aload_n 1 dL_law_528 rfl rfl ?_
  refine kr_aload_n 0 dL_law_529 rfl rfl ?_
  refine kr_iload dL_law_530 rfl ?_
  refine kr_iconst 1 dL_law_532 (by decide) ?_
  refine kr_iadd dL_law_533 ?_
  obtain ⟨i1, e2, b3, h⟩ := h
  refine kr_scr i1 dL_law_534 hscr e2 b3 ?_
  refine kr_aload_n 0 dL_law_535 rfl rfl ?_
  refine kr_iload dL_law_536 rfl ?_
  refine kr_iconst 2 dL_law_538 (by decide) ?_
  refine kr_iadd dL_law_539 ?_
  obtain ⟨i4, e5, b6, h⟩ := h
  refine kr_scr i4 dL_law_540 hscr e5 b6 ?_
  obtain ⟨a11, e12, h⟩ := h
  obtain ⟨t13, h⟩ := h
  obtain ⟨hm29, h⟩ := h
  refine ky_callV (r := r1) [.int (xs i1), .int (xs i4)] dL_law_541 cvL_law_97 e12 t13 rfl (Nat.le_trans wt_0 (by decide)) hm29 (xSp.mono h ?_)
  clear h
  intro ρ9 M8 h
  obtain ⟨v7, rfl, h⟩ := h
  refine kr_aload_n 2 dL_law_544 rfl rfl ?_
  refine kr_aload_n 0 dL_law_545 rfl rfl ?_
  refine kr_iload dL_law_546 rfl ?_
  refine kr_iconst 1 dL_law_548 (by decide) ?_
  refine kr_iadd dL_law_549 ?_
  obtain ⟨i14, e15, b16, h⟩ := h
  refine kr_scr i14 dL_law_550 hscr e15 b16 ?_
  refine kr_aload_n 0 dL_law_551 rfl rfl ?_
  refine kr_iload dL_law_552 rfl ?_
  refine kr_iconst 2 dL_law_554 (by decide) ?_
  refine kr_iadd dL_law_555 ?_
  obtain ⟨i17, e18, b19, h⟩ := h
  refine kr_scr i17 dL_law_556 hscr e18 b19 ?_
  obtain ⟨a24, e25, h⟩ := h
  obtain ⟨t26, h⟩ := h
  obtain ⟨hm28, h⟩ := h
  refine ky_callV (r := r2) [.int (xs i14), .int (xs i17)] dL_law_557 cvL_law_100 e25 t26 rfl (Nat.le_trans (wt_i wt_0) (by decide)) hm28 (xSp.mono h ?_)
  clear h
  intro ρ22 M21 h
  obtain ⟨v20, rfl, h⟩ := h
  obtain ⟨ht, hf⟩ := h
  refine kr_icmp_eq 739 dL_law_560 (by decide) (fun c27 => ?_) (fun c27 => ?_)
  · replace h := ht c27
    clear ht hf
    exact h
  · replace h := hf c27
    clear ht hf
    refine kr_iconst 0 dL_law_563 (by decide) ?_
    exact h
set_option maxRecDepth 100000 in
set_option maxHeartbeats 4000000 in
theorem bL_law_491 {l : Launch} {g : xG} {K : xKt} {Ls : Nat} {xs : Nat → Int32} {b0 : Nat} {mc ms : Nat} {c1 c2 : Nat} (r1 : Option Nat) (r2 : Option Nat) (r3 : Option Nat) (x4 : Int32) (w5 : Value) (w6 : Value) {M : xM} (hscr : xScr K b0 Ls xs) (hth : xThK K) (h : (∃ i1, (x4 + 1) = nI i1 ∧ i1 < Ls ∧ (∃ i4, (x4 + 2) = nI i4 ∧ i4 < Ls ∧ (∃ a11, r1 = some a11 ∧ xat M a11 6 ∧ (c1 ≤ mc ∧ c2 ≤ ms) ∧ xSp l g mX9_node 0 0 [va_rf r1, .int (xs i1), .int (xs i4)] M (fun ρ9 M8 => ∃ v7 : Int32, ρ9 = some (.int v7) ∧ (∃ i14, (x4 + 1) = nI i14 ∧ i14 < Ls ∧ (∃ i17, (x4 + 2) = nI i17 ∧ i17 < Ls ∧ (∃ a24, r2 = some a24 ∧ xat M8 a24 7 ∧ (c1 ≤ mc ∧ c2 ≤ ms) ∧ xSp l g mX10_node 0 0 [va_rf r2, .int (xs i14), .int (xs i17)] M8 (fun ρ22 M21 => ∃ v20 : Int32, ρ22 = some (.int v20) ∧ ((v7 = v20 → xWg l g hL_law mc ms 739 [(1, va_rf (some b0)), (1, va_rf r1), (1, va_rf r2), (1, va_rf r3), (1, .int x4), (0, w5), (0, w6)] [] (c1, c2) M21 K) ∧ (¬ v7 = v20 → xWg l g hL_law mc ms 527 [(1, va_rf (some b0)), (1, va_rf r1), (1, va_rf r2), (1, va_rf r3), (1, .int x4), (0, w5), (0, w6)] [.int 0] (c1, c2) M21 K))))))))))) : xWg l g hL_law mc ms 491 [(1, va_rf (some b0)), (1, va_rf r1), (1, va_rf r2), (1, va_rf r3), (1, .int x4), (0, w5), (0, w6)] [] (c1, c2) M K := by
  refine kr_aload_n 1 dL_law_491 rfl rfl ?_
  refine kr_aload_n 0 dL_law_492 rfl rfl ?_
  refine kr_iload dL_law_493 rfl ?_
  refine kr_iconst 1 dL_law_495 (by decide) ?_
  refine kr_iadd dL_law_496 ?_
  obtain ⟨i1, e2, b3, h⟩ := h
  refine kr_scr i1 dL_law_497 hscr e2 b3 ?_
  refine kr_aload_n 0 dL_law_498 rfl rfl ?_
  refine kr_iload dL_law_499 rfl ?_
  refine kr_iconst 2 dL_law_501 (by decide) ?_
  refine kr_iadd dL_law_502 ?_
  obtain ⟨i4, e5, b6, h⟩ := h
  refine kr_scr i4 dL_law_503 hscr e5 b6 ?_
  obtain ⟨a11, e12, h⟩ := h
  obtain ⟨t13, h⟩ := h
  obtain ⟨hm29, h⟩ := h
  refine ky_callV (r := r1) [.int (xs i1), .int (xs i4)] dL_law_504 cvL_law_93 e12 t13 rfl (Nat.le_trans wt_0 (by decide)) hm29 (xSp.mono h ?_)
  clear h
  intro ρ9 M8 h
  obtain ⟨v7, rfl, h⟩ := h
  refine kr_aload_n 2 dL_law_507 rfl rfl ?_
  refine kr_aload_n 0 dL_law_508 rfl rfl ?_
  refine kr_iload dL_law_509 rfl ?_
  refine kr_iconst 1 dL_law_511 (by decide) ?_
  refine kr_iadd dL_law_512 ?_
  obtain ⟨i14, e15, b16, h⟩ := h
  refine kr_scr i14 dL_law_513 hscr e15 b16 ?_
  refine kr_aload_n 0 dL_law_514 rfl rfl ?_
  refine kr_iload dL_law_515 rfl ?_
  refine kr_iconst 2 dL_law_517 (by decide) ?_
  refine kr_iadd dL_law_518 ?_
  obtain ⟨i17, e18, b19, h⟩ := h
  refine kr_scr i17 dL_law_519 hscr e18 b19 ?_
  obtain ⟨a24, e25, h⟩ := h
  obtain ⟨t26, h⟩ := h
  obtain ⟨hm28, h⟩ := h
  refine ky_callV (r := r2) [.int (xs i14), .int (xs i17)] dL_law_520 cvL_law_96 e25 t26 rfl (Nat.le_trans (wt_i wt_0) (by decide)) hm28 (xSp.mono h ?_)
  clear h
  intro ρ22 M21 h
  obtain ⟨v20, rfl, h⟩ := h
  obtain ⟨ht, hf⟩ := h
  refine kr_icmp_eq 739 dL_law_523 (by decide) (fun c27 => ?_) (fun c27 => ?_)
  · replace h := ht c27
    clear ht hf
    exact h
  · replace h := hf c27
    clear ht hf
    refine kr_iconst 0 dL_law_526 (by decide) ?_
    exact h
set_option maxRecDepth 100000 in
set_option maxHeartbeats 4000000 in
theorem bL_law_466 {l : Launch} {g : xG} {K : xKt} {Ls : Nat} {xs : Nat → Int32} {b0 : Nat} {mc ms : Nat} {c1 c2 : Nat} (r1 : Option Nat) (r2 : Option Nat) (r3 : Option Nat) (x4 : Int32) (w5 : Value) (w6 : Value) {M : xM} (hscr : xScr K b0 Ls xs) (hth : xThK K) (h : (∃ i1, (x4 + 1) = nI i1 ∧ i1 < Ls ∧ (∃ a8, r1 = some a8 ∧ xat M a8 6 ∧ (c1 ≤ mc ∧ c2 ≤ ms) ∧ xSp l g mX9_count 0 0 [va_rf r1, .int (xs i1)] M (fun ρ6 M5 => ∃ v4 : Int32, ρ6 = some (.int v4) ∧ (∃ i11, (x4 + 1) = nI i11 ∧ i11 < Ls ∧ (∃ a18, r2 = some a18 ∧ xat M5 a18 7 ∧ (c1 ≤ mc ∧ c2 ≤ ms) ∧ xSp l g mX10_count 0 0 [va_rf r2, .int (xs i11)] M5 (fun ρ16 M15 => ∃ v14 : Int32, ρ16 = some (.int v14) ∧ ((v4 = v14 → xWg l g hL_law mc ms 739 [(1, va_rf (some b0)), (1, va_rf r1), (1, va_rf r2), (1, va_rf r3), (1, .int x4), (0, w5), (0, w6)] [] (c1, c2) M15 K) ∧ (¬ v4 = v14 → xWg l g hL_law mc ms 490 [(1, va_rf (some b0)), (1, va_rf r1), (1, va_rf r2), (1, va_rf r3), (1, .int x4), (0, w5), (0, w6)] [.int 0] (c1, c2) M15 K))))))))) : xWg l g hL_law mc ms 466 [(1, va_rf (some b0)), (1, va_rf r1), (1, va_rf r2), (1, va_rf r3), (1, .int x4), (0, w5), (0, w6)] [] (c1, c2) M K := by
  refine kr_aload_n 1 dL_law_466 rfl rfl ?_
  refine kr_aload_n 0 dL_law_467 rfl rfl ?_
  refine kr_iload dL_law_468 rfl ?_
  refine kr_iconst 1 dL_law_470 (by decide) ?_
  refine kr_iadd dL_law_471 ?_
  obtain ⟨i1, e2, b3, h⟩ := h
  refine kr_scr i1 dL_law_472 hscr e2 b3 ?_
  obtain ⟨a8, e9, h⟩ := h
  obtain ⟨t10, h⟩ := h
  obtain ⟨hm23, h⟩ := h
  refine ky_callV (r := r1) [.int (xs i1)] dL_law_473 cvL_law_89 e9 t10 rfl (Nat.le_trans wt_0 (by decide)) hm23 (xSp.mono h ?_)
  clear h
  intro ρ6 M5 h
  obtain ⟨v4, rfl, h⟩ := h
  refine kr_aload_n 2 dL_law_476 rfl rfl ?_
  refine kr_aload_n 0 dL_law_477 rfl rfl ?_
  refine kr_iload dL_law_478 rfl ?_
  refine kr_iconst 1 dL_law_480 (by decide) ?_
  refine kr_iadd dL_law_481 ?_
  obtain ⟨i11, e12, b13, h⟩ := h
  refine kr_scr i11 dL_law_482 hscr e12 b13 ?_
  obtain ⟨a18, e19, h⟩ := h
  obtain ⟨t20, h⟩ := h
  obtain ⟨hm22, h⟩ := h
  refine ky_callV (r := r2) [.int (xs i11)] dL_law_483 cvL_law_92 e19 t20 rfl (Nat.le_trans (wt_i wt_0) (by decide)) hm22 (xSp.mono h ?_)
  clear h
  intro ρ16 M15 h
  obtain ⟨v14, rfl, h⟩ := h
  obtain ⟨ht, hf⟩ := h
  refine kr_icmp_eq 739 dL_law_486 (by decide) (fun c21 => ?_) (fun c21 => ?_)
  · replace h := ht c21
    clear ht hf
    exact h
  · replace h := hf c21
    clear ht hf
    refine kr_iconst 0 dL_law_489 (by decide) ?_
    exact h
set_option maxRecDepth 100000 in
set_option maxHeartbeats 4000000 in
theorem bL_law_453 {l : Launch} {g : xG} {K : xKt} {Ls : Nat} {xs : Nat → Int32} {b0 : Nat} {mc ms : Nat} {c1 c2 : Nat} (r1 : Option Nat) (r2 : Option Nat) (r3 : Option Nat) (x4 : Int32) (w5 : Value) (w6 : Value) {M : xM} (hscr : xScr K b0 Ls xs) (hth : xThK K) (h : (∃ a5, r1 = some a5 ∧ xat M a5 6 ∧ (c1 ≤ mc ∧ c2 ≤ ms) ∧ xSp l g mX9_back 0 0 [va_rf r1] M (fun ρ3 M2 => ∃ v1 : Int32, ρ3 = some (.int v1) ∧ (∃ a12, r2 = some a12 ∧ xat M2 a12 7 ∧ (c1 ≤ mc ∧ c2 ≤ ms) ∧ xSp l g mX10_back 0 0 [va_rf r2] M2 (fun ρ10 M9 => ∃ v8 : Int32, ρ10 = some (.int v8) ∧ ((v1 = v8 → xWg l g hL_law mc ms 739 [(1, va_rf (some b0)), (1, va_rf r1), (1, va_rf r2), (1, va_rf r3), (1, .int x4), (0, w5), (0, w6)] [] (c1, c2) M9 K) ∧ (¬ v1 = v8 → xWg l g hL_law mc ms 465 [(1, va_rf (some b0)), (1, va_rf r1), (1, va_rf r2), (1, va_rf r3), (1, .int x4), (0, w5), (0, w6)] [.int 0] (c1, c2) M9 K))))))) : xWg l g hL_law mc ms 453 [(1, va_rf (some b0)), (1, va_rf r1), (1, va_rf r2), (1, va_rf r3), (1, .int x4), (0, w5), (0, w6)] [] (c1, c2) M K := by
  refine kr_aload_n 1 dL_law_453 rfl rfl ?_
  obtain ⟨a5, e6, h⟩ := h
  obtain ⟨t7, h⟩ := h
  obtain ⟨hm17, h⟩ := h
  refine ky_callV (r := r1) [] dL_law_454 cvL_law_85 e6 t7 rfl (Nat.le_trans wt_0 (by decide)) hm17 (xSp.mono h ?_)
  clear h
  intro ρ3 M2 h
  obtain ⟨v1, rfl, h⟩ := h
  refine kr_aload_n 2 dL_law_457 rfl rfl ?_
  obtain ⟨a12, e13, h⟩ := h
  obtain ⟨t14, h⟩ := h
  obtain ⟨hm16, h⟩ := h
  refine ky_callV (r := r2) [] dL_law_458 cvL_law_88 e13 t14 rfl (Nat.le_trans (wt_i wt_0) (by decide)) hm16 (xSp.mono h ?_)
  clear h
  intro ρ10 M9 h
  obtain ⟨v8, rfl, h⟩ := h
  obtain ⟨ht, hf⟩ := h
  refine kr_icmp_eq 739 dL_law_461 (by decide) (fun c15 => ?_) (fun c15 => ?_)
  · replace h := ht c15
    clear ht hf
    exact h
  · replace h := hf c15
    clear ht hf
    refine kr_iconst 0 dL_law_464 (by decide) ?_
    exact h
set_option maxRecDepth 100000 in
set_option maxHeartbeats 4000000 in
theorem bL_law_440 {l : Launch} {g : xG} {K : xKt} {Ls : Nat} {xs : Nat → Int32} {b0 : Nat} {mc ms : Nat} {c1 c2 : Nat} (r1 : Option Nat) (r2 : Option Nat) (r3 : Option Nat) (x4 : Int32) (w5 : Value) (w6 : Value) {M : xM} (hscr : xScr K b0 Ls xs) (hth : xThK K) (h : (∃ a5, r1 = some a5 ∧ xat M a5 6 ∧ (c1 ≤ mc ∧ c2 ≤ ms) ∧ xSp l g mX9_commit 0 0 [va_rf r1] M (fun ρ3 M2 => ∃ v1 : Int32, ρ3 = some (.int v1) ∧ (∃ a12, r2 = some a12 ∧ xat M2 a12 7 ∧ (c1 ≤ mc ∧ c2 ≤ ms) ∧ xSp l g mX10_commit 0 0 [va_rf r2] M2 (fun ρ10 M9 => ∃ v8 : Int32, ρ10 = some (.int v8) ∧ ((v1 = v8 → xWg l g hL_law mc ms 739 [(1, va_rf (some b0)), (1, va_rf r1), (1, va_rf r2), (1, va_rf r3), (1, .int x4), (0, w5), (0, w6)] [] (c1, c2) M9 K) ∧ (¬ v1 = v8 → xWg l g hL_law mc ms 452 [(1, va_rf (some b0)), (1, va_rf r1), (1, va_rf r2), (1, va_rf r3), (1, .int x4), (0, w5), (0, w6)] [.int 0] (c1, c2) M9 K))))))) : xWg l g hL_law mc ms 440 [(1, va_rf (some b0)), (1, va_rf r1), (1, va_rf r2), (1, va_rf r3), (1, .int x4), (0, w5), (0, w6)] [] (c1, c2) M K := by
  refine kr_aload_n 1 dL_law_440 rfl rfl ?_
  obtain ⟨a5, e6, h⟩ := h
  obtain ⟨t7, h⟩ := h
  obtain ⟨hm17, h⟩ := h
  refine ky_callV (r := r1) [] dL_law_441 cvL_law_81 e6 t7 rfl (Nat.le_trans wt_0 (by decide)) hm17 (xSp.mono h ?_)
  clear h
  intro ρ3 M2 h
  obtain ⟨v1, rfl, h⟩ := h
  refine kr_aload_n 2 dL_law_444 rfl rfl ?_
  obtain ⟨a12, e13, h⟩ := h
  obtain ⟨t14, h⟩ := h
  obtain ⟨hm16, h⟩ := h
  refine ky_callV (r := r2) [] dL_law_445 cvL_law_84 e13 t14 rfl (Nat.le_trans (wt_i wt_0) (by decide)) hm16 (xSp.mono h ?_)
  clear h
  intro ρ10 M9 h
  obtain ⟨v8, rfl, h⟩ := h
  obtain ⟨ht, hf⟩ := h
  refine kr_icmp_eq 739 dL_law_448 (by decide) (fun c15 => ?_) (fun c15 => ?_)
  · replace h := ht c15
    clear ht hf
    exact h
  · replace h := hf c15
    clear ht hf
    refine kr_iconst 0 dL_law_451 (by decide) ?_
    exact h
set_option maxRecDepth 100000 in
set_option maxHeartbeats 4000000 in
theorem bL_law_415 {l : Launch} {g : xG} {K : xKt} {Ls : Nat} {xs : Nat → Int32} {b0 : Nat} {mc ms : Nat} {c1 c2 : Nat} (r1 : Option Nat) (r2 : Option Nat) (r3 : Option Nat) (x4 : Int32) (w5 : Value) (w6 : Value) {M : xM} (hscr : xScr K b0 Ls xs) (hth : xThK K) (h : (∃ i1, (x4 + 1) = nI i1 ∧ i1 < Ls ∧ (∃ a8, r1 = some a8 ∧ xat M a8 6 ∧ (c1 ≤ mc ∧ c2 ≤ ms) ∧ xSp l g mX9_nth 0 0 [va_rf r1, .int (xs i1)] M (fun ρ6 M5 => ∃ v4 : Int32, ρ6 = some (.int v4) ∧ (∃ i11, (x4 + 1) = nI i11 ∧ i11 < Ls ∧ (∃ a18, r2 = some a18 ∧ xat M5 a18 7 ∧ (c1 ≤ mc ∧ c2 ≤ ms) ∧ xSp l g mX10_nth 0 0 [va_rf r2, .int (xs i11)] M5 (fun ρ16 M15 => ∃ v14 : Int32, ρ16 = some (.int v14) ∧ ((v4 = v14 → xWg l g hL_law mc ms 739 [(1, va_rf (some b0)), (1, va_rf r1), (1, va_rf r2), (1, va_rf r3), (1, .int x4), (0, w5), (0, w6)] [] (c1, c2) M15 K) ∧ (¬ v4 = v14 → xWg l g hL_law mc ms 439 [(1, va_rf (some b0)), (1, va_rf r1), (1, va_rf r2), (1, va_rf r3), (1, .int x4), (0, w5), (0, w6)] [.int 0] (c1, c2) M15 K))))))))) : xWg l g hL_law mc ms 415 [(1, va_rf (some b0)), (1, va_rf r1), (1, va_rf r2), (1, va_rf r3), (1, .int x4), (0, w5), (0, w6)] [] (c1, c2) M K := by
  refine kr_aload_n 1 dL_law_415 rfl rfl ?_
  refine kr_aload_n 0 dL_law_416 rfl rfl ?_
  refine kr_iload dL_law_417 rfl ?_
  refine kr_iconst 1 dL_law_419 (by decide) ?_
  refine kr_iadd dL_law_420 ?_
  obtain ⟨i1, e2, b3, h⟩ := h
  refine kr_scr i1 dL_law_421 hscr e2 b3 ?_
  obtain ⟨a8, e9, h⟩ := h
  obtain ⟨t10, h⟩ := h
  obtain ⟨hm23, h⟩ := h
  refine ky_callV (r := r1) [.int (xs i1)] dL_law_422 cvL_law_77 e9 t10 rfl (Nat.le_trans wt_0 (by decide)) hm23 (xSp.mono h ?_)
  clear h
  intro ρ6 M5 h
  obtain ⟨v4, rfl, h⟩ := h
  refine kr_aload_n 2 dL_law_425 rfl rfl ?_
  refine kr_aload_n 0 dL_law_426 rfl rfl ?_
  refine kr_iload dL_law_427 rfl ?_
  refine kr_iconst 1 dL_law_429 (by decide) ?_
  refine kr_iadd dL_law_430 ?_
  obtain ⟨i11, e12, b13, h⟩ := h
  refine kr_scr i11 dL_law_431 hscr e12 b13 ?_
  obtain ⟨a18, e19, h⟩ := h
  obtain ⟨t20, h⟩ := h
  obtain ⟨hm22, h⟩ := h
  refine ky_callV (r := r2) [.int (xs i11)] dL_law_432 cvL_law_80 e19 t20 rfl (Nat.le_trans (wt_i wt_0) (by decide)) hm22 (xSp.mono h ?_)
  clear h
  intro ρ16 M15 h
  obtain ⟨v14, rfl, h⟩ := h
  obtain ⟨ht, hf⟩ := h
  refine kr_icmp_eq 739 dL_law_435 (by decide) (fun c21 => ?_) (fun c21 => ?_)
  · replace h := ht c21
    clear ht hf
    exact h
  · replace h := hf c21
    clear ht hf
    refine kr_iconst 0 dL_law_438 (by decide) ?_
    exact h
set_option maxRecDepth 100000 in
set_option maxHeartbeats 4000000 in
theorem bL_law_402 {l : Launch} {g : xG} {K : xKt} {Ls : Nat} {xs : Nat → Int32} {b0 : Nat} {mc ms : Nat} {c1 c2 : Nat} (r1 : Option Nat) (r2 : Option Nat) (r3 : Option Nat) (x4 : Int32) (w5 : Value) (w6 : Value) {M : xM} (hscr : xScr K b0 Ls xs) (hth : xThK K) (h : (∃ a5, r1 = some a5 ∧ xat M a5 6 ∧ (c1 ≤ mc ∧ c2 ≤ ms) ∧ xSp l g mX9_before 0 0 [va_rf r1] M (fun ρ3 M2 => ∃ v1 : Int32, ρ3 = some (.int v1) ∧ (∃ a12, r2 = some a12 ∧ xat M2 a12 7 ∧ (c1 ≤ mc ∧ c2 ≤ ms) ∧ xSp l g mX10_before 0 0 [va_rf r2] M2 (fun ρ10 M9 => ∃ v8 : Int32, ρ10 = some (.int v8) ∧ ((v1 = v8 → xWg l g hL_law mc ms 739 [(1, va_rf (some b0)), (1, va_rf r1), (1, va_rf r2), (1, va_rf r3), (1, .int x4), (0, w5), (0, w6)] [] (c1, c2) M9 K) ∧ (¬ v1 = v8 → xWg l g hL_law mc ms 414 [(1, va_rf (some b0)), (1, va_rf r1), (1, va_rf r2), (1, va_rf r3), (1, .int x4), (0, w5), (0, w6)] [.int 0] (c1, c2) M9 K))))))) : xWg l g hL_law mc ms 402 [(1, va_rf (some b0)), (1, va_rf r1), (1, va_rf r2), (1, va_rf r3), (1, .int x4), (0, w5), (0, w6)] [] (c1, c2) M K := by
  refine kr_aload_n 1 dL_law_402 rfl rfl ?_
  obtain ⟨a5, e6, h⟩ := h
  obtain ⟨t7, h⟩ := h
  obtain ⟨hm17, h⟩ := h
  refine ky_callV (r := r1) [] dL_law_403 cvL_law_73 e6 t7 rfl (Nat.le_trans wt_0 (by decide)) hm17 (xSp.mono h ?_)
  clear h
  intro ρ3 M2 h
  obtain ⟨v1, rfl, h⟩ := h
  refine kr_aload_n 2 dL_law_406 rfl rfl ?_
  obtain ⟨a12, e13, h⟩ := h
  obtain ⟨t14, h⟩ := h
  obtain ⟨hm16, h⟩ := h
  refine ky_callV (r := r2) [] dL_law_407 cvL_law_76 e13 t14 rfl (Nat.le_trans (wt_i wt_0) (by decide)) hm16 (xSp.mono h ?_)
  clear h
  intro ρ10 M9 h
  obtain ⟨v8, rfl, h⟩ := h
  obtain ⟨ht, hf⟩ := h
  refine kr_icmp_eq 739 dL_law_410 (by decide) (fun c15 => ?_) (fun c15 => ?_)
  · replace h := ht c15
    clear ht hf
    exact h
  · replace h := hf c15
    clear ht hf
    refine kr_iconst 0 dL_law_413 (by decide) ?_
    exact h
set_option maxRecDepth 100000 in
set_option maxHeartbeats 4000000 in
theorem bL_law_389 {l : Launch} {g : xG} {K : xKt} {Ls : Nat} {xs : Nat → Int32} {b0 : Nat} {mc ms : Nat} {c1 c2 : Nat} (r1 : Option Nat) (r2 : Option Nat) (r3 : Option Nat) (x4 : Int32) (w5 : Value) (w6 : Value) {M : xM} (hscr : xScr K b0 Ls xs) (hth : xThK K) (h : (∃ a5, r1 = some a5 ∧ xat M a5 6 ∧ (c1 ≤ mc ∧ c2 ≤ ms) ∧ xSp l g mX9_with 0 0 [va_rf r1] M (fun ρ3 M2 => ∃ v1 : Int32, ρ3 = some (.int v1) ∧ (∃ a12, r2 = some a12 ∧ xat M2 a12 7 ∧ (c1 ≤ mc ∧ c2 ≤ ms) ∧ xSp l g mX10_with 0 0 [va_rf r2] M2 (fun ρ10 M9 => ∃ v8 : Int32, ρ10 = some (.int v8) ∧ ((v1 = v8 → xWg l g hL_law mc ms 739 [(1, va_rf (some b0)), (1, va_rf r1), (1, va_rf r2), (1, va_rf r3), (1, .int x4), (0, w5), (0, w6)] [] (c1, c2) M9 K) ∧ (¬ v1 = v8 → xWg l g hL_law mc ms 401 [(1, va_rf (some b0)), (1, va_rf r1), (1, va_rf r2), (1, va_rf r3), (1, .int x4), (0, w5), (0, w6)] [.int 0] (c1, c2) M9 K))))))) : xWg l g hL_law mc ms 389 [(1, va_rf (some b0)), (1, va_rf r1), (1, va_rf r2), (1, va_rf r3), (1, .int x4), (0, w5), (0, w6)] [] (c1, c2) M K := by
  refine kr_aload_n 1 dL_law_389 rfl rfl ?_
  obtain ⟨a5, e6, h⟩ := h
  obtain ⟨t7, h⟩ := h
  obtain ⟨hm17, h⟩ := h
  refine ky_callV (r := r1) [] dL_law_390 cvL_law_69 e6 t7 rfl (Nat.le_trans wt_0 (by decide)) hm17 (xSp.mono h ?_)
  clear h
  intro ρ3 M2 h
  obtain ⟨v1, rfl, h⟩ := h
  refine kr_aload_n 2 dL_law_393 rfl rfl ?_
  obtain ⟨a12, e13, h⟩ := h
  obtain ⟨t14, h⟩ := h
  obtain ⟨hm16, h⟩ := h
  refine ky_callV (r := r2) [] dL_law_394 cvL_law_72 e13 t14 rfl (Nat.le_trans (wt_i wt_0) (by decide)) hm16 (xSp.mono h ?_)
  clear h
  intro ρ10 M9 h
  obtain ⟨v8, rfl, h⟩ := h
  obtain ⟨ht, hf⟩ := h
  refine kr_icmp_eq 739 dL_law_397 (by decide) (fun c15 => ?_) (fun c15 => ?_)
  · replace h := ht c15
    clear ht hf
    exact h
  · replace h := hf c15
    clear ht hf
    refine kr_iconst 0 dL_law_400 (by decide) ?_
    exact h
set_option maxRecDepth 100000 in
set_option maxHeartbeats 4000000 in
theorem bL_law_375 {l : Launch} {g : xG} {K : xKt} {Ls : Nat} {xs : Nat → Int32} {b0 : Nat} {mc ms : Nat} {c1 c2 : Nat} (r1 : Option Nat) (r2 : Option Nat) (r3 : Option Nat) (x4 : Int32) (w5 : Value) (w6 : Value) {M : xM} (hscr : xScr K b0 Ls xs) (hth : xThK K) (h : (∃ a5, r1 = some a5 ∧ xat M a5 6 ∧ (c1 ≤ mc ∧ c2 ≤ ms) ∧ xSp l g mX9_get 0 0 [va_rf r1] M (fun ρ3 M2 => ∃ v1 : Int64, ρ3 = some (.long v1) ∧ (∃ a12, r2 = some a12 ∧ xat M2 a12 7 ∧ (c1 ≤ mc ∧ c2 ≤ ms) ∧ xSp l g mX10_get 0 0 [va_rf r2] M2 (fun ρ10 M9 => ∃ v8 : Int64, ρ10 = some (.long v8) ∧ (((lg_cmp v1 v8) = 0 → xWg l g hL_law mc ms 739 [(1, va_rf (some b0)), (1, va_rf r1), (1, va_rf r2), (1, va_rf r3), (1, .int x4), (0, w5), (0, w6)] [] (c1, c2) M9 K) ∧ (¬ (lg_cmp v1 v8) = 0 → xWg l g hL_law mc ms 388 [(1, va_rf (some b0)), (1, va_rf r1), (1, va_rf r2), (1, va_rf r3), (1, .int x4), (0, w5), (0, w6)] [.int 0] (c1, c2) M9 K))))))) : xWg l g hL_law mc ms 375 [(1, va_rf (some b0)), (1, va_rf r1), (1, va_rf r2), (1, va_rf r3), (1, .int x4), (0, w5), (0, w6)] [] (c1, c2) M K := by
  refine kr_aload_n 1 dL_law_375 rfl rfl ?_
  obtain ⟨a5, e6, h⟩ := h
  obtain ⟨t7, h⟩ := h
  obtain ⟨hm17, h⟩ := h
  refine ky_callV (r := r1) [] dL_law_376 cvL_law_64 e6 t7 rfl (Nat.le_trans wt_0 (by decide)) hm17 (xSp.mono h ?_)
  clear h
  intro ρ3 M2 h
  obtain ⟨v1, rfl, h⟩ := h
  refine kr_aload_n 2 dL_law_379 rfl rfl ?_
  obtain ⟨a12, e13, h⟩ := h
  obtain ⟨t14, h⟩ := h
  obtain ⟨hm16, h⟩ := h
  refine ky_callV (r := r2) [] dL_law_380 cvL_law_68 e13 t14 rfl (Nat.le_trans (wt_j wt_0) (by decide)) hm16 (xSp.mono h ?_)
  clear h
  intro ρ10 M9 h
  obtain ⟨v8, rfl, h⟩ := h
  refine kr_lcmp dL_law_383 ?_
  obtain ⟨ht, hf⟩ := h
  refine kr_if_eq 739 dL_law_384 (by decide) (fun c15 => ?_) (fun c15 => ?_)
  · replace h := ht c15
    clear ht hf
    exact h
  · replace h := hf c15
    clear ht hf
    refine kr_iconst 0 dL_law_387 (by decide) ?_
    exact h
set_option maxRecDepth 100000 in
set_option maxHeartbeats 4000000 in
theorem bL_law_362 {l : Launch} {g : xG} {K : xKt} {Ls : Nat} {xs : Nat → Int32} {b0 : Nat} {mc ms : Nat} {c1 c2 : Nat} (r1 : Option Nat) (r2 : Option Nat) (r3 : Option Nat) (x4 : Int32) (w5 : Value) (w6 : Value) {M : xM} (hscr : xScr K b0 Ls xs) (hth : xThK K) (h : (∃ a5, r1 = some a5 ∧ xat M a5 6 ∧ (c1 ≤ mc ∧ c2 ≤ ms) ∧ xSp l g mX9_remove 0 0 [va_rf r1] M (fun ρ3 M2 => ∃ v1 : Int32, ρ3 = some (.int v1) ∧ (∃ a12, r2 = some a12 ∧ xat M2 a12 7 ∧ (c1 ≤ mc ∧ c2 ≤ ms) ∧ xSp l g mX10_remove 0 0 [va_rf r2] M2 (fun ρ10 M9 => ∃ v8 : Int32, ρ10 = some (.int v8) ∧ ((v1 = v8 → xWg l g hL_law mc ms 739 [(1, va_rf (some b0)), (1, va_rf r1), (1, va_rf r2), (1, va_rf r3), (1, .int x4), (0, w5), (0, w6)] [] (c1, c2) M9 K) ∧ (¬ v1 = v8 → xWg l g hL_law mc ms 374 [(1, va_rf (some b0)), (1, va_rf r1), (1, va_rf r2), (1, va_rf r3), (1, .int x4), (0, w5), (0, w6)] [.int 0] (c1, c2) M9 K))))))) : xWg l g hL_law mc ms 362 [(1, va_rf (some b0)), (1, va_rf r1), (1, va_rf r2), (1, va_rf r3), (1, .int x4), (0, w5), (0, w6)] [] (c1, c2) M K := by
  refine kr_aload_n 1 dL_law_362 rfl rfl ?_
  obtain ⟨a5, e6, h⟩ := h
  obtain ⟨t7, h⟩ := h
  obtain ⟨hm17, h⟩ := h
  refine ky_callV (r := r1) [] dL_law_363 cvL_law_60 e6 t7 rfl (Nat.le_trans wt_0 (by decide)) hm17 (xSp.mono h ?_)
  clear h
  intro ρ3 M2 h
  obtain ⟨v1, rfl, h⟩ := h
  refine kr_aload_n 2 dL_law_366 rfl rfl ?_
  obtain ⟨a12, e13, h⟩ := h
  obtain ⟨t14, h⟩ := h
  obtain ⟨hm16, h⟩ := h
  refine ky_callV (r := r2) [] dL_law_367 cvL_law_63 e13 t14 rfl (Nat.le_trans (wt_i wt_0) (by decide)) hm16 (xSp.mono h ?_)
  clear h
  intro ρ10 M9 h
  obtain ⟨v8, rfl, h⟩ := h
  obtain ⟨ht, hf⟩ := h
  refine kr_icmp_eq 739 dL_law_370 (by decide) (fun c15 => ?_) (fun c15 => ?_)
  · replace h := ht c15
    clear ht hf
    exact h
  · replace h := hf c15
    clear ht hf
    refine kr_iconst 0 dL_law_373 (by decide) ?_
    exact h
set_option maxRecDepth 100000 in
set_option maxHeartbeats 4000000 in
theorem bL_law_305 {l : Launch} {g : xG} {K : xKt} {Ls : Nat} {xs : Nat → Int32} {b0 : Nat} {mc ms : Nat} {c1 c2 : Nat} (r1 : Option Nat) (r2 : Option Nat) (r3 : Option Nat) (x4 : Int32) (w5 : Value) (w6 : Value) {M : xM} (hscr : xScr K b0 Ls xs) (hth : xThK K) (h : (∃ i1, (x4 + 1) = nI i1 ∧ i1 < Ls ∧ (∃ i4, (x4 + 2) = nI i4 ∧ i4 < Ls ∧ (∃ a11, r1 = some a11 ∧ xat M a11 6 ∧ (c1 ≤ mc ∧ c2 ≤ ms) ∧ xSp l g mX9_put 0 0 [va_rf r1, .long (((xs i1).toInt64 <<< ((32 : Int32).toInt64 &&& 63)) ||| ((xs i4).toInt64 &&& 4294967295))] M (fun ρ9 M8 => ∃ v7 : Int32, ρ9 = some (.int v7) ∧ (∃ i14, (x4 + 1) = nI i14 ∧ i14 < Ls ∧ (∃ i17, (x4 + 2) = nI i17 ∧ i17 < Ls ∧ (∃ a24, r2 = some a24 ∧ xat M8 a24 7 ∧ (c1 ≤ mc ∧ c2 ≤ ms) ∧ xSp l g mX10_put 0 0 [va_rf r2, .long (((xs i14).toInt64 <<< ((32 : Int32).toInt64 &&& 63)) ||| ((xs i17).toInt64 &&& 4294967295))] M8 (fun ρ22 M21 => ∃ v20 : Int32, ρ22 = some (.int v20) ∧ ((v7 = v20 → xWg l g hL_law mc ms 739 [(1, va_rf (some b0)), (1, va_rf r1), (1, va_rf r2), (1, va_rf r3), (1, .int x4), (0, w5), (0, w6)] [] (c1, c2) M21 K) ∧ (¬ v7 = v20 → xWg l g hL_law mc ms 361 [(1, va_rf (some b0)), (1, va_rf r1), (1, va_rf r2), (1, va_rf r3), (1, .int x4), (0, w5), (0, w6)] [.int 0] (c1, c2) M21 K))))))))))) : xWg l g hL_law mc ms 305 [(1, va_rf (some b0)), (1, va_rf r1), (1, va_rf r2), (1, va_rf r3), (1, .int x4), (0, w5), (0, w6)] [] (c1, c2) M K := by
  refine kr_aload_n 1 dL_law_305 rfl rfl ?_
  refine kr_aload_n 0 dL_law_306 rfl rfl ?_
  refine kr_iload dL_law_307 rfl ?_
  refine kr_iconst 1 dL_law_309 (by decide) ?_
  refine kr_iadd dL_law_310 ?_
  obtain ⟨i1, e2, b3, h⟩ := h
  refine kr_scr i1 dL_law_311 hscr e2 b3 ?_
  refine kr_i2l dL_law_312 ?_
  refine kr_bipush 32 dL_law_313 (by decide) ?_
  refine kr_lshl dL_law_315 ?_
  refine kr_aload_n 0 dL_law_316 rfl rfl ?_
  refine kr_iload dL_law_317 rfl ?_
  refine kr_iconst 2 dL_law_319 (by decide) ?_
  refine kr_iadd dL_law_320 ?_
  obtain ⟨i4, e5, b6, h⟩ := h
  refine kr_scr i4 dL_law_321 hscr e5 b6 ?_
  refine kr_i2l dL_law_322 ?_
  refine kr_ldc2 4294967295 dL_law_323 ct_RL_35 ?_
  refine kr_land dL_law_326 ?_
  refine kr_lor dL_law_327 ?_
  obtain ⟨a11, e12, h⟩ := h
  obtain ⟨t13, h⟩ := h
  obtain ⟨hm29, h⟩ := h
  refine ky_callV (r := r1) [.long (((xs i1).toInt64 <<< ((32 : Int32).toInt64 &&& 63)) ||| ((xs i4).toInt64 &&& 4294967295))] dL_law_328 cvL_law_55 e12 t13 rfl (Nat.le_trans wt_0 (by decide)) hm29 (xSp.mono h ?_)
  clear h
  intro ρ9 M8 h
  obtain ⟨v7, rfl, h⟩ := h
  refine kr_aload_n 2 dL_law_331 rfl rfl ?_
  refine kr_aload_n 0 dL_law_332 rfl rfl ?_
  refine kr_iload dL_law_333 rfl ?_
  refine kr_iconst 1 dL_law_335 (by decide) ?_
  refine kr_iadd dL_law_336 ?_
  obtain ⟨i14, e15, b16, h⟩ := h
  refine kr_scr i14 dL_law_337 hscr e15 b16 ?_
  refine kr_i2l dL_law_338 ?_
  refine kr_bipush 32 dL_law_339 (by decide) ?_
  refine kr_lshl dL_law_341 ?_
  refine kr_aload_n 0 dL_law_342 rfl rfl ?_
  refine kr_iload dL_law_343 rfl ?_
  refine kr_iconst 2 dL_law_345 (by decide) ?_
  refine kr_iadd dL_law_346 ?_
  obtain ⟨i17, e18, b19, h⟩ := h
  refine kr_scr i17 dL_law_347 hscr e18 b19 ?_
  refine kr_i2l dL_law_348 ?_
  refine kr_ldc2 4294967295 dL_law_349 ct_RL_35 ?_
  refine kr_land dL_law_352 ?_
  refine kr_lor dL_law_353 ?_
  obtain ⟨a24, e25, h⟩ := h
  obtain ⟨t26, h⟩ := h
  obtain ⟨hm28, h⟩ := h
  refine ky_callV (r := r2) [.long (((xs i14).toInt64 <<< ((32 : Int32).toInt64 &&& 63)) ||| ((xs i17).toInt64 &&& 4294967295))] dL_law_354 cvL_law_59 e25 t26 rfl (Nat.le_trans (wt_i wt_0) (by decide)) hm28 (xSp.mono h ?_)
  clear h
  intro ρ22 M21 h
  obtain ⟨v20, rfl, h⟩ := h
  obtain ⟨ht, hf⟩ := h
  refine kr_icmp_eq 739 dL_law_357 (by decide) (fun c27 => ?_) (fun c27 => ?_)
  · replace h := ht c27
    clear ht hf
    exact h
  · replace h := hf c27
    clear ht hf
    refine kr_iconst 0 dL_law_360 (by decide) ?_
    exact h
set_option maxRecDepth 100000 in
set_option maxHeartbeats 4000000 in
theorem bL_law_280 {l : Launch} {g : xG} {K : xKt} {Ls : Nat} {xs : Nat → Int32} {b0 : Nat} {mc ms : Nat} {c1 c2 : Nat} (r1 : Option Nat) (r2 : Option Nat) (r3 : Option Nat) (x4 : Int32) (w5 : Value) (w6 : Value) {M : xM} (hscr : xScr K b0 Ls xs) (hth : xThK K) (h : (∃ i1, (x4 + 1) = nI i1 ∧ i1 < Ls ∧ (∃ a8, r1 = some a8 ∧ xat M a8 6 ∧ (c1 ≤ mc ∧ c2 ≤ ms) ∧ xSp l g mX9_tapeAt 0 0 [va_rf r1, .int (xs i1)] M (fun ρ6 M5 => ∃ v4 : Int32, ρ6 = some (.int v4) ∧ (∃ i11, (x4 + 1) = nI i11 ∧ i11 < Ls ∧ (∃ a18, r2 = some a18 ∧ xat M5 a18 7 ∧ (c1 ≤ mc ∧ c2 ≤ ms) ∧ xSp l g mX10_tapeAt 0 0 [va_rf r2, .int (xs i11)] M5 (fun ρ16 M15 => ∃ v14 : Int32, ρ16 = some (.int v14) ∧ ((v4 = v14 → xWg l g hL_law mc ms 739 [(1, va_rf (some b0)), (1, va_rf r1), (1, va_rf r2), (1, va_rf r3), (1, .int x4), (0, w5), (0, w6)] [] (c1, c2) M15 K) ∧ (¬ v4 = v14 → xWg l g hL_law mc ms 304 [(1, va_rf (some b0)), (1, va_rf r1), (1, va_rf r2), (1, va_rf r3), (1, .int x4), (0, w5), (0, w6)] [.int 0] (c1, c2) M15 K))))))))) : xWg l g hL_law mc ms 280 [(1, va_rf (some b0)), (1, va_rf r1), (1, va_rf r2), (1, va_rf r3), (1, .int x4), (0, w5), (0, w6)] [] (c1, c2) M K := by
  refine kr_aload_n 1 dL_law_280 rfl rfl ?_
  refine kr_aload_n 0 dL_law_281 rfl rfl ?_
  refine kr_iload dL_law_282 rfl ?_
  refine kr_iconst 1 dL_law_284 (by decide) ?_
  refine kr_iadd dL_law_285 ?_
  obtain ⟨i1, e2, b3, h⟩ := h
  refine kr_scr i1 dL_law_286 hscr e2 b3 ?_
  obtain ⟨a8, e9, h⟩ := h
  obtain ⟨t10, h⟩ := h
  obtain ⟨hm23, h⟩ := h
  refine ky_callV (r := r1) [.int (xs i1)] dL_law_287 cvL_law_51 e9 t10 rfl (Nat.le_trans wt_0 (by decide)) hm23 (xSp.mono h ?_)
  clear h
  intro ρ6 M5 h
  obtain ⟨v4, rfl, h⟩ := h
  refine kr_aload_n 2 dL_law_290 rfl rfl ?_
  refine kr_aload_n 0 dL_law_291 rfl rfl ?_
  refine kr_iload dL_law_292 rfl ?_
  refine kr_iconst 1 dL_law_294 (by decide) ?_
  refine kr_iadd dL_law_295 ?_
  obtain ⟨i11, e12, b13, h⟩ := h
  refine kr_scr i11 dL_law_296 hscr e12 b13 ?_
  obtain ⟨a18, e19, h⟩ := h
  obtain ⟨t20, h⟩ := h
  obtain ⟨hm22, h⟩ := h
  refine ky_callV (r := r2) [.int (xs i11)] dL_law_297 cvL_law_54 e19 t20 rfl (Nat.le_trans (wt_i wt_0) (by decide)) hm22 (xSp.mono h ?_)
  clear h
  intro ρ16 M15 h
  obtain ⟨v14, rfl, h⟩ := h
  obtain ⟨ht, hf⟩ := h
  refine kr_icmp_eq 739 dL_law_300 (by decide) (fun c21 => ?_) (fun c21 => ?_)
  · replace h := ht c21
    clear ht hf
    exact h
  · replace h := hf c21
    clear ht hf
    refine kr_iconst 0 dL_law_303 (by decide) ?_
    exact h
set_option maxRecDepth 100000 in
set_option maxHeartbeats 4000000 in
theorem bL_law_224 {l : Launch} {g : xG} {K : xKt} {Ls : Nat} {xs : Nat → Int32} {b0 : Nat} {mc ms : Nat} {c1 c2 : Nat} (r1 : Option Nat) (r2 : Option Nat) (r3 : Option Nat) (x4 : Int32) (w5 : Value) (w6 : Value) {M : xM} (hscr : xScr K b0 Ls xs) (hth : xThK K) (h : (∃ i1, (x4 + 1) = nI i1 ∧ i1 < Ls ∧ ((c1 + 1 ≤ mc ∧ c2 + 6 ≤ ms) ∧ xSpH l g hL_cut hhL_cut [va_rf r1, .int (xs i1), va_rf r3] M (fun ρ6 M5 => ∃ v4 : Int32, ρ6 = some (.int v4) ∧ (∃ i8, (x4 + 1) = nI i8 ∧ i8 < Ls ∧ (∃ a15, r2 = some a15 ∧ xat M5 a15 7 ∧ ((c1 + 1) ≤ mc ∧ (c2 + 6) ≤ ms) ∧ xSp l g mX10_cut 0 0 [va_rf r2, .int (xs i8)] M5 (fun ρ13 M12 => ∃ v11 : Int32, ρ13 = some (.int v11) ∧ (xat M12 a15 7 ∧ ((c1 + 1) ≤ mc ∧ (c2 + 6) ≤ ms) ∧ xSp l g mX10_thrown 0 0 [va_rf r2] M12 (fun ρ20 M19 => ∃ v18 : Int32, ρ20 = some (.int v18) ∧ ((v18 = v4 → ((¬ v4 = 0 → xWg l g hL_law mc ms 739 [(1, va_rf (some b0)), (1, va_rf r1), (1, va_rf r2), (1, va_rf r3), (1, .int x4), (1, .int v4), (1, .int v11)] [] ((c1 + 1), (c2 + 6)) M19 K) ∧ (v4 = 0 → (∃ a23, r3 = some a23 ∧ ∃ i25, xai M19 a23 10 (0 : Int32) i25 ∧ (((lg_cmp (xJ M19 a23 i25) v11.toInt64) = 0 → xWg l g hL_law mc ms 739 [(1, va_rf (some b0)), (1, va_rf r1), (1, va_rf r2), (1, va_rf r3), (1, .int x4), (1, .int v4), (1, .int v11)] [] ((c1 + 1), (c2 + 6)) M19 K) ∧ (¬ (lg_cmp (xJ M19 a23 i25) v11.toInt64) = 0 → xWg l g hL_law mc ms 276 [(1, va_rf (some b0)), (1, va_rf r1), (1, va_rf r2), (1, va_rf r3), (1, .int x4), (1, .int v4), (1, .int v11)] [.int 0] ((c1 + 1), (c2 + 6)) M19 K)))))) ∧ (¬ v18 = v4 → xWg l g hL_law mc ms 259 [(1, va_rf (some b0)), (1, va_rf r1), (1, va_rf r2), (1, va_rf r3), (1, .int x4), (1, .int v4), (1, .int v11)] [.int 0] ((c1 + 1), (c2 + 6)) M19 K))))))))))) : xWg l g hL_law mc ms 224 [(1, va_rf (some b0)), (1, va_rf r1), (1, va_rf r2), (1, va_rf r3), (1, .int x4), (0, w5), (0, w6)] [] (c1, c2) M K := by
  refine kr_aload_n 1 dL_law_224 rfl rfl ?_
  refine kr_aload_n 0 dL_law_225 rfl rfl ?_
  refine kr_iload dL_law_226 rfl ?_
  refine kr_iconst 1 dL_law_228 (by decide) ?_
  refine kr_iadd dL_law_229 ?_
  obtain ⟨i1, e2, b3, h⟩ := h
  refine kr_scr i1 dL_law_230 hscr e2 b3 ?_
  refine kr_aload_n 3 dL_law_231 rfl rfl ?_
  obtain ⟨hm7, h⟩ := h
  refine kr_callH [va_rf r1, .int (xs i1), va_rf r3] dL_law_232 chL_law_47 rfl (Nat.le_trans wt_0 (by decide)) hm7 hth (xSpH.mono h ?_)
  clear h
  intro ρ6 M5 h
  obtain ⟨v4, rfl, h⟩ := h
  refine kzistore dL_law_235 (L1 := [(1, va_rf (some b0)), (1, va_rf r1), (1, va_rf r2), (1, va_rf r3), (1, .int x4), (1, .int v4), (0, w6)]) (by decide) rfl ?_
  refine kr_aload_n 2 dL_law_237 rfl rfl ?_
  refine kr_aload_n 0 dL_law_238 rfl rfl ?_
  refine kr_iload dL_law_239 rfl ?_
  refine kr_iconst 1 dL_law_241 (by decide) ?_
  refine kr_iadd dL_law_242 ?_
  obtain ⟨i8, e9, b10, h⟩ := h
  refine kr_scr i8 dL_law_243 hscr e9 b10 ?_
  obtain ⟨a15, e16, h⟩ := h
  obtain ⟨t17, h⟩ := h
  obtain ⟨hm31, h⟩ := h
  refine ky_callV (r := r2) [.int (xs i8)] dL_law_244 cvL_law_50 e16 t17 rfl (Nat.le_trans wt_0 (by decide)) hm31 (xSp.mono h ?_)
  clear h
  intro ρ13 M12 h
  obtain ⟨v11, rfl, h⟩ := h
  refine kzistore dL_law_247 (L1 := [(1, va_rf (some b0)), (1, va_rf r1), (1, va_rf r2), (1, va_rf r3), (1, .int x4), (1, .int v4), (1, .int v11)]) (by decide) rfl ?_
  refine kr_aload_n 2 dL_law_249 rfl rfl ?_
  obtain ⟨t22, h⟩ := h
  obtain ⟨hm30, h⟩ := h
  refine ky_callV (r := r2) [] dL_law_250 cvL_law_43 e16 t22 rfl (Nat.le_trans wt_0 (by decide)) hm30 (xSp.mono h ?_)
  clear h
  intro ρ20 M19 h
  obtain ⟨v18, rfl, h⟩ := h
  refine kr_iload dL_law_253 rfl ?_
  obtain ⟨ht, hf⟩ := h
  refine kr_icmp_eq 260 dL_law_255 (by decide) (fun c29 => ?_) (fun c29 => ?_)
  · replace h := ht c29
    clear ht hf
    refine kr_iload dL_law_260 rfl ?_
    obtain ⟨ht, hf⟩ := h
    refine kr_if_ne 277 dL_law_262 (by decide) (fun c28 => ?_) (fun c28 => ?_)
    · replace h := ht c28
      clear ht hf
      refine kr_goto 739 dL_law_277 (by decide) ?_
      exact h
    · replace h := hf c28
      clear ht hf
      refine kr_aload_n 3 dL_law_265 rfl rfl ?_
      refine kr_iconst 0 dL_law_266 (by decide) ?_
      obtain ⟨a23, e24, h⟩ := h
      obtain ⟨i25, t26, h⟩ := h
      refine ky_lald dL_law_267 e24 t26 ?_
      refine kr_iload dL_law_268 rfl ?_
      refine kr_i2l dL_law_270 ?_
      refine kr_lcmp dL_law_271 ?_
      obtain ⟨ht, hf⟩ := h
      refine kr_if_eq 277 dL_law_272 (by decide) (fun c27 => ?_) (fun c27 => ?_)
      · replace h := ht c27
        clear ht hf
        refine kr_goto 739 dL_law_277 (by decide) ?_
        exact h
      · replace h := hf c27
        clear ht hf
        refine kr_iconst 0 dL_law_275 (by decide) ?_
        exact h
  · replace h := hf c29
    clear ht hf
    refine kr_iconst 0 dL_law_258 (by decide) ?_
    exact h
set_option maxRecDepth 100000 in
set_option maxHeartbeats 4000000 in
theorem bL_law_124 {l : Launch} {g : xG} {K : xKt} {Ls : Nat} {xs : Nat → Int32} {b0 : Nat} {mc ms : Nat} {c1 c2 : Nat} (r1 : Option Nat) (r2 : Option Nat) (r3 : Option Nat) (x4 : Int32) (w5 : Value) (w6 : Value) {M : xM} (hscr : xScr K b0 Ls xs) (hth : xThK K) (h : (∃ i1, (x4 + 1) = nI i1 ∧ i1 < Ls ∧ (∃ i4, (x4 + 2) = nI i4 ∧ i4 < Ls ∧ (∃ i7, (x4 + 3) = nI i7 ∧ i7 < Ls ∧ ((c1 + 1 ≤ mc ∧ c2 + 6 ≤ ms) ∧ xSpH l g hL_type hhL_type [va_rf r1, .long (((xs i1).toInt64 <<< ((32 : Int32).toInt64 &&& 63)) ||| ((xs i4).toInt64 &&& 4294967295)), .int (xs i7), va_rf r3] M (fun ρ12 M11 => ∃ v10 : Int32, ρ12 = some (.int v10) ∧ (∃ i14, (x4 + 1) = nI i14 ∧ i14 < Ls ∧ (∃ i17, (x4 + 2) = nI i17 ∧ i17 < Ls ∧ (∃ i20, (x4 + 3) = nI i20 ∧ i20 < Ls ∧ (∃ a27, r2 = some a27 ∧ xat M11 a27 7 ∧ ((c1 + 1) ≤ mc ∧ (c2 + 6) ≤ ms) ∧ xSp l g mX10_type 0 0 [va_rf r2, .long (((xs i14).toInt64 <<< ((32 : Int32).toInt64 &&& 63)) ||| ((xs i17).toInt64 &&& 4294967295)), .int (xs i20)] M11 (fun ρ25 M24 => ∃ v23 : Int32, ρ25 = some (.int v23) ∧ (xat M24 a27 7 ∧ ((c1 + 1) ≤ mc ∧ (c2 + 6) ≤ ms) ∧ xSp l g mX10_thrown 0 0 [va_rf r2] M24 (fun ρ32 M31 => ∃ v30 : Int32, ρ32 = some (.int v30) ∧ ((v30 = v10 → ((¬ v10 = 0 → xWg l g hL_law mc ms 739 [(1, va_rf (some b0)), (1, va_rf r1), (1, va_rf r2), (1, va_rf r3), (1, .int x4), (1, .int v10), (1, .int v23)] [] ((c1 + 1), (c2 + 6)) M31 K) ∧ (v10 = 0 → (∃ a35, r3 = some a35 ∧ ∃ i37, xai M31 a35 10 (0 : Int32) i37 ∧ (((lg_cmp (xJ M31 a35 i37) v23.toInt64) = 0 → xWg l g hL_law mc ms 739 [(1, va_rf (some b0)), (1, va_rf r1), (1, va_rf r2), (1, va_rf r3), (1, .int x4), (1, .int v10), (1, .int v23)] [] ((c1 + 1), (c2 + 6)) M31 K) ∧ (¬ (lg_cmp (xJ M31 a35 i37) v23.toInt64) = 0 → xWg l g hL_law mc ms 220 [(1, va_rf (some b0)), (1, va_rf r1), (1, va_rf r2), (1, va_rf r3), (1, .int x4), (1, .int v10), (1, .int v23)] [.int 0] ((c1 + 1), (c2 + 6)) M31 K)))))) ∧ (¬ v30 = v10 → xWg l g hL_law mc ms 203 [(1, va_rf (some b0)), (1, va_rf r1), (1, va_rf r2), (1, va_rf r3), (1, .int x4), (1, .int v10), (1, .int v23)] [.int 0] ((c1 + 1), (c2 + 6)) M31 K))))))))))))))) : xWg l g hL_law mc ms 124 [(1, va_rf (some b0)), (1, va_rf r1), (1, va_rf r2), (1, va_rf r3), (1, .int x4), (0, w5), (0, w6)] [] (c1, c2) M K := by
  refine kr_aload_n 1 dL_law_124 rfl rfl ?_
  refine kr_aload_n 0 dL_law_125 rfl rfl ?_
  refine kr_iload dL_law_126 rfl ?_
  refine kr_iconst 1 dL_law_128 (by decide) ?_
  refine kr_iadd dL_law_129 ?_
  obtain ⟨i1, e2, b3, h⟩ := h
  refine kr_scr i1 dL_law_130 hscr e2 b3 ?_
  refine kr_i2l dL_law_131 ?_
  refine kr_bipush 32 dL_law_132 (by decide) ?_
  refine kr_lshl dL_law_134 ?_
  refine kr_aload_n 0 dL_law_135 rfl rfl ?_
  refine kr_iload dL_law_136 rfl ?_
  refine kr_iconst 2 dL_law_138 (by decide) ?_
  refine kr_iadd dL_law_139 ?_
  obtain ⟨i4, e5, b6, h⟩ := h
  refine kr_scr i4 dL_law_140 hscr e5 b6 ?_
  refine kr_i2l dL_law_141 ?_
  refine kr_ldc2 4294967295 dL_law_142 ct_RL_35 ?_
  refine kr_land dL_law_145 ?_
  refine kr_lor dL_law_146 ?_
  refine kr_aload_n 0 dL_law_147 rfl rfl ?_
  refine kr_iload dL_law_148 rfl ?_
  refine kr_iconst 3 dL_law_150 (by decide) ?_
  refine kr_iadd dL_law_151 ?_
  obtain ⟨i7, e8, b9, h⟩ := h
  refine kr_scr i7 dL_law_152 hscr e8 b9 ?_
  refine kr_aload_n 3 dL_law_153 rfl rfl ?_
  obtain ⟨hm13, h⟩ := h
  refine kr_callH [va_rf r1, .long (((xs i1).toInt64 <<< ((32 : Int32).toInt64 &&& 63)) ||| ((xs i4).toInt64 &&& 4294967295)), .int (xs i7), va_rf r3] dL_law_154 chL_law_37 rfl (Nat.le_trans wt_0 (by decide)) hm13 hth (xSpH.mono h ?_)
  clear h
  intro ρ12 M11 h
  obtain ⟨v10, rfl, h⟩ := h
  refine kzistore dL_law_157 (L1 := [(1, va_rf (some b0)), (1, va_rf r1), (1, va_rf r2), (1, va_rf r3), (1, .int x4), (1, .int v10), (0, w6)]) (by decide) rfl ?_
  refine kr_aload_n 2 dL_law_159 rfl rfl ?_
  refine kr_aload_n 0 dL_law_160 rfl rfl ?_
  refine kr_iload dL_law_161 rfl ?_
  refine kr_iconst 1 dL_law_163 (by decide) ?_
  refine kr_iadd dL_law_164 ?_
  obtain ⟨i14, e15, b16, h⟩ := h
  refine kr_scr i14 dL_law_165 hscr e15 b16 ?_
  refine kr_i2l dL_law_166 ?_
  refine kr_bipush 32 dL_law_167 (by decide) ?_
  refine kr_lshl dL_law_169 ?_
  refine kr_aload_n 0 dL_law_170 rfl rfl ?_
  refine kr_iload dL_law_171 rfl ?_
  refine kr_iconst 2 dL_law_173 (by decide) ?_
  refine kr_iadd dL_law_174 ?_
  obtain ⟨i17, e18, b19, h⟩ := h
  refine kr_scr i17 dL_law_175 hscr e18 b19 ?_
  refine kr_i2l dL_law_176 ?_
  refine kr_ldc2 4294967295 dL_law_177 ct_RL_35 ?_
  refine kr_land dL_law_180 ?_
  refine kr_lor dL_law_181 ?_
  refine kr_aload_n 0 dL_law_182 rfl rfl ?_
  refine kr_iload dL_law_183 rfl ?_
  refine kr_iconst 3 dL_law_185 (by decide) ?_
  refine kr_iadd dL_law_186 ?_
  obtain ⟨i20, e21, b22, h⟩ := h
  refine kr_scr i20 dL_law_187 hscr e21 b22 ?_
  obtain ⟨a27, e28, h⟩ := h
  obtain ⟨t29, h⟩ := h
  obtain ⟨hm43, h⟩ := h
  refine ky_callV (r := r2) [.long (((xs i14).toInt64 <<< ((32 : Int32).toInt64 &&& 63)) ||| ((xs i17).toInt64 &&& 4294967295)), .int (xs i20)] dL_law_188 cvL_law_42 e28 t29 rfl (Nat.le_trans wt_0 (by decide)) hm43 (xSp.mono h ?_)
  clear h
  intro ρ25 M24 h
  obtain ⟨v23, rfl, h⟩ := h
  refine kzistore dL_law_191 (L1 := [(1, va_rf (some b0)), (1, va_rf r1), (1, va_rf r2), (1, va_rf r3), (1, .int x4), (1, .int v10), (1, .int v23)]) (by decide) rfl ?_
  refine kr_aload_n 2 dL_law_193 rfl rfl ?_
  obtain ⟨t34, h⟩ := h
  obtain ⟨hm42, h⟩ := h
  refine ky_callV (r := r2) [] dL_law_194 cvL_law_43 e28 t34 rfl (Nat.le_trans wt_0 (by decide)) hm42 (xSp.mono h ?_)
  clear h
  intro ρ32 M31 h
  obtain ⟨v30, rfl, h⟩ := h
  refine kr_iload dL_law_197 rfl ?_
  obtain ⟨ht, hf⟩ := h
  refine kr_icmp_eq 204 dL_law_199 (by decide) (fun c41 => ?_) (fun c41 => ?_)
  · replace h := ht c41
    clear ht hf
    refine kr_iload dL_law_204 rfl ?_
    obtain ⟨ht, hf⟩ := h
    refine kr_if_ne 221 dL_law_206 (by decide) (fun c40 => ?_) (fun c40 => ?_)
    · replace h := ht c40
      clear ht hf
      refine kr_goto 739 dL_law_221 (by decide) ?_
      exact h
    · replace h := hf c40
      clear ht hf
      refine kr_aload_n 3 dL_law_209 rfl rfl ?_
      refine kr_iconst 0 dL_law_210 (by decide) ?_
      obtain ⟨a35, e36, h⟩ := h
      obtain ⟨i37, t38, h⟩ := h
      refine ky_lald dL_law_211 e36 t38 ?_
      refine kr_iload dL_law_212 rfl ?_
      refine kr_i2l dL_law_214 ?_
      refine kr_lcmp dL_law_215 ?_
      obtain ⟨ht, hf⟩ := h
      refine kr_if_eq 221 dL_law_216 (by decide) (fun c39 => ?_) (fun c39 => ?_)
      · replace h := ht c39
        clear ht hf
        refine kr_goto 739 dL_law_221 (by decide) ?_
        exact h
      · replace h := hf c39
        clear ht hf
        refine kr_iconst 0 dL_law_219 (by decide) ?_
        exact h
  · replace h := hf c41
    clear ht hf
    refine kr_iconst 0 dL_law_202 (by decide) ?_
    exact h
set_option maxRecDepth 100000 in
set_option maxHeartbeats 4000000 in
theorem bL_law_23 {l : Launch} {g : xG} {K : xKt} {Ls : Nat} {xs : Nat → Int32} {b0 : Nat} {mc ms : Nat} {c1 c2 : Nat} (r1 : Option Nat) (r2 : Option Nat) (r3 : Option Nat) (x4 : Int32) (w5 : Value) (w6 : Value) {M : xM} (hscr : xScr K b0 Ls xs) (hth : xThK K) (h : ((((nI Ls) - 4) < x4 → xWg l g hL_law mc ms 746 [(1, va_rf (some b0)), (1, va_rf r1), (1, va_rf r2), (1, va_rf r3), (1, .int x4), (0, w5), (0, w6)] [.int 1] (c1, c2) M K) ∧ (¬ ((nI Ls) - 4) < x4 → (∃ i1, x4 = nI i1 ∧ i1 < Ls ∧ ((((xs i1) &&& 31) = 0 → xWg l g hL_law mc ms 124 [(1, va_rf (some b0)), (1, va_rf r1), (1, va_rf r2), (1, va_rf r3), (1, .int x4), (0, w5), (0, w6)] [] (c1, c2) M K) ∧ (((xs i1) &&& 31) = 1 → xWg l g hL_law mc ms 224 [(1, va_rf (some b0)), (1, va_rf r1), (1, va_rf r2), (1, va_rf r3), (1, .int x4), (0, w5), (0, w6)] [] (c1, c2) M K) ∧ (((xs i1) &&& 31) = 2 → xWg l g hL_law mc ms 280 [(1, va_rf (some b0)), (1, va_rf r1), (1, va_rf r2), (1, va_rf r3), (1, .int x4), (0, w5), (0, w6)] [] (c1, c2) M K) ∧ (((xs i1) &&& 31) = 3 → xWg l g hL_law mc ms 305 [(1, va_rf (some b0)), (1, va_rf r1), (1, va_rf r2), (1, va_rf r3), (1, .int x4), (0, w5), (0, w6)] [] (c1, c2) M K) ∧ (((xs i1) &&& 31) = 4 → xWg l g hL_law mc ms 362 [(1, va_rf (some b0)), (1, va_rf r1), (1, va_rf r2), (1, va_rf r3), (1, .int x4), (0, w5), (0, w6)] [] (c1, c2) M K) ∧ (((xs i1) &&& 31) = 5 → xWg l g hL_law mc ms 375 [(1, va_rf (some b0)), (1, va_rf r1), (1, va_rf r2), (1, va_rf r3), (1, .int x4), (0, w5), (0, w6)] [] (c1, c2) M K) ∧ (((xs i1) &&& 31) = 6 → xWg l g hL_law mc ms 389 [(1, va_rf (some b0)), (1, va_rf r1), (1, va_rf r2), (1, va_rf r3), (1, .int x4), (0, w5), (0, w6)] [] (c1, c2) M K) ∧ (((xs i1) &&& 31) = 7 → xWg l g hL_law mc ms 402 [(1, va_rf (some b0)), (1, va_rf r1), (1, va_rf r2), (1, va_rf r3), (1, .int x4), (0, w5), (0, w6)] [] (c1, c2) M K) ∧ (((xs i1) &&& 31) = 8 → xWg l g hL_law mc ms 415 [(1, va_rf (some b0)), (1, va_rf r1), (1, va_rf r2), (1, va_rf r3), (1, .int x4), (0, w5), (0, w6)] [] (c1, c2) M K) ∧ (((xs i1) &&& 31) = 9 → xWg l g hL_law mc ms 440 [(1, va_rf (some b0)), (1, va_rf r1), (1, va_rf r2), (1, va_rf r3), (1, .int x4), (0, w5), (0, w6)] [] (c1, c2) M K) ∧ (((xs i1) &&& 31) = 10 → xWg l g hL_law mc ms 453 [(1, va_rf (some b0)), (1, va_rf r1), (1, va_rf r2), (1, va_rf r3), (1, .int x4), (0, w5), (0, w6)] [] (c1, c2) M K) ∧ (((xs i1) &&& 31) = 11 → xWg l g hL_law mc ms 466 [(1, va_rf (some b0)), (1, va_rf r1), (1, va_rf r2), (1, va_rf r3), (1, .int x4), (0, w5), (0, w6)] [] (c1, c2) M K) ∧ (((xs i1) &&& 31) = 12 → xWg l g hL_law mc ms 491 [(1, va_rf (some b0)), (1, va_rf r1), (1, va_rf r2), (1, va_rf r3), (1, .int x4), (0, w5), (0, w6)] [] (c1, c2) M K) ∧ (((xs i1) &&& 31) = 13 → xWg l g hL_law mc ms 528 [(1, va_rf (some b0)), (1, va_rf r1), (1, va_rf r2), (1, va_rf r3), (1, .int x4), (0, w5), (0, w6)] [] (c1, c2) M K) ∧ (((xs i1) &&& 31) = 14 → xWg l g hL_law mc ms 565 [(1, va_rf (some b0)), (1, va_rf r1), (1, va_rf r2), (1, va_rf r3), (1, .int x4), (0, w5), (0, w6)] [] (c1, c2) M K) ∧ (((xs i1) &&& 31) = 15 → xWg l g hL_law mc ms 578 [(1, va_rf (some b0)), (1, va_rf r1), (1, va_rf r2), (1, va_rf r3), (1, .int x4), (0, w5), (0, w6)] [] (c1, c2) M K) ∧ (((xs i1) &&& 31) = 16 → xWg l g hL_law mc ms 591 [(1, va_rf (some b0)), (1, va_rf r1), (1, va_rf r2), (1, va_rf r3), (1, .int x4), (0, w5), (0, w6)] [] (c1, c2) M K) ∧ (((xs i1) &&& 31) = 17 → xWg l g hL_law mc ms 659 [(1, va_rf (some b0)), (1, va_rf r1), (1, va_rf r2), (1, va_rf r3), (1, .int x4), (0, w5), (0, w6)] [] (c1, c2) M K) ∧ ((∀ k : Nat, k ≤ 17 → ¬ ((xs i1) &&& 31) = nI k) → xWg l g hL_law mc ms 739 [(1, va_rf (some b0)), (1, va_rf r1), (1, va_rf r2), (1, va_rf r3), (1, .int x4), (0, w5), (0, w6)] [] (c1, c2) M K)))))) : xWg l g hL_law mc ms 23 [(1, va_rf (some b0)), (1, va_rf r1), (1, va_rf r2), (1, va_rf r3), (1, .int x4), (0, w5), (0, w6)] [] (c1, c2) M K := by
  refine kr_iload dL_law_23 rfl ?_
  refine kr_aload_n 0 dL_law_25 rfl rfl ?_
  refine kr_scl dL_law_26 hscr ?_
  refine kr_iconst 4 dL_law_27 (by decide) ?_
  refine kr_isub dL_law_28 ?_
  obtain ⟨ht, hf⟩ := h
  refine kr_icmp_gt 745 dL_law_29 (by decide) (fun c22 => ?_) (fun c22 => ?_)
  · replace h := ht c22
    clear ht hf
    refine kr_iconst 1 dL_law_745 (by decide) ?_
    exact h
  · replace h := hf c22
    clear ht hf
    refine kr_aload_n 0 dL_law_32 rfl rfl ?_
    refine kr_iload dL_law_33 rfl ?_
    obtain ⟨i1, e2, b3, h⟩ := h
    refine kr_scr i1 dL_law_35 hscr e2 b3 ?_
    refine kr_bipush 31 dL_law_36 (by decide) ?_
    refine kr_iand dL_law_38 ?_
    obtain ⟨h0_, h1_, h2_, h3_, h4_, h5_, h6_, h7_, h8_, h9_, h10_, h11_, h12_, h13_, h14_, h15_, h16_, h17_, h18_⟩ := h
    by_cases c4 : ((xs i1) &&& 31) = 0
    · replace h := h0_ c4
      refine kr_tableIn 124 dL_law_39 (by rw [c4]; decide) (by rw [c4]; decide) (by rw [c4]; rfl) (by decide) ?_
      exact h
    by_cases c5 : ((xs i1) &&& 31) = 1
    · replace h := h1_ c5
      refine kr_tableIn 224 dL_law_39 (by rw [c5]; decide) (by rw [c5]; decide) (by rw [c5]; rfl) (by decide) ?_
      exact h
    by_cases c6 : ((xs i1) &&& 31) = 2
    · replace h := h2_ c6
      refine kr_tableIn 280 dL_law_39 (by rw [c6]; decide) (by rw [c6]; decide) (by rw [c6]; rfl) (by decide) ?_
      exact h
    by_cases c7 : ((xs i1) &&& 31) = 3
    · replace h := h3_ c7
      refine kr_tableIn 305 dL_law_39 (by rw [c7]; decide) (by rw [c7]; decide) (by rw [c7]; rfl) (by decide) ?_
      exact h
    by_cases c8 : ((xs i1) &&& 31) = 4
    · replace h := h4_ c8
      refine kr_tableIn 362 dL_law_39 (by rw [c8]; decide) (by rw [c8]; decide) (by rw [c8]; rfl) (by decide) ?_
      exact h
    by_cases c9 : ((xs i1) &&& 31) = 5
    · replace h := h5_ c9
      refine kr_tableIn 375 dL_law_39 (by rw [c9]; decide) (by rw [c9]; decide) (by rw [c9]; rfl) (by decide) ?_
      exact h
    by_cases c10 : ((xs i1) &&& 31) = 6
    · replace h := h6_ c10
      refine kr_tableIn 389 dL_law_39 (by rw [c10]; decide) (by rw [c10]; decide) (by rw [c10]; rfl) (by decide) ?_
      exact h
    by_cases c11 : ((xs i1) &&& 31) = 7
    · replace h := h7_ c11
      refine kr_tableIn 402 dL_law_39 (by rw [c11]; decide) (by rw [c11]; decide) (by rw [c11]; rfl) (by decide) ?_
      exact h
    by_cases c12 : ((xs i1) &&& 31) = 8
    · replace h := h8_ c12
      refine kr_tableIn 415 dL_law_39 (by rw [c12]; decide) (by rw [c12]; decide) (by rw [c12]; rfl) (by decide) ?_
      exact h
    by_cases c13 : ((xs i1) &&& 31) = 9
    · replace h := h9_ c13
      refine kr_tableIn 440 dL_law_39 (by rw [c13]; decide) (by rw [c13]; decide) (by rw [c13]; rfl) (by decide) ?_
      exact h
    by_cases c14 : ((xs i1) &&& 31) = 10
    · replace h := h10_ c14
      refine kr_tableIn 453 dL_law_39 (by rw [c14]; decide) (by rw [c14]; decide) (by rw [c14]; rfl) (by decide) ?_
      exact h
    by_cases c15 : ((xs i1) &&& 31) = 11
    · replace h := h11_ c15
      refine kr_tableIn 466 dL_law_39 (by rw [c15]; decide) (by rw [c15]; decide) (by rw [c15]; rfl) (by decide) ?_
      exact h
    by_cases c16 : ((xs i1) &&& 31) = 12
    · replace h := h12_ c16
      refine kr_tableIn 491 dL_law_39 (by rw [c16]; decide) (by rw [c16]; decide) (by rw [c16]; rfl) (by decide) ?_
      exact h
    by_cases c17 : ((xs i1) &&& 31) = 13
    · replace h := h13_ c17
      refine kr_tableIn 528 dL_law_39 (by rw [c17]; decide) (by rw [c17]; decide) (by rw [c17]; rfl) (by decide) ?_
      exact h
    by_cases c18 : ((xs i1) &&& 31) = 14
    · replace h := h14_ c18
      refine kr_tableIn 565 dL_law_39 (by rw [c18]; decide) (by rw [c18]; decide) (by rw [c18]; rfl) (by decide) ?_
      exact h
    by_cases c19 : ((xs i1) &&& 31) = 15
    · replace h := h15_ c19
      refine kr_tableIn 578 dL_law_39 (by rw [c19]; decide) (by rw [c19]; decide) (by rw [c19]; rfl) (by decide) ?_
      exact h
    by_cases c20 : ((xs i1) &&& 31) = 16
    · replace h := h16_ c20
      refine kr_tableIn 591 dL_law_39 (by rw [c20]; decide) (by rw [c20]; decide) (by rw [c20]; rfl) (by decide) ?_
      exact h
    by_cases c21 : ((xs i1) &&& 31) = 17
    · replace h := h17_ c21
      refine kr_tableIn 659 dL_law_39 (by rw [c21]; decide) (by rw [c21]; decide) (by rw [c21]; rfl) (by decide) ?_
      exact h
    have hout : ∀ k : Nat, k ≤ 17 → ¬ ((xs i1) &&& 31) = nI k := fun k hk => by
      rcases (show k = 0 ∨ k = 1 ∨ k = 2 ∨ k = 3 ∨ k = 4 ∨ k = 5 ∨ k = 6 ∨ k = 7 ∨ k = 8 ∨ k = 9 ∨ k = 10 ∨ k = 11 ∨ k = 12 ∨ k = 13 ∨ k = 14 ∨ k = 15 ∨ k = 16 ∨ k = 17 by omega) with rfl | rfl | rfl | rfl | rfl | rfl | rfl | rfl | rfl | rfl | rfl | rfl | rfl | rfl | rfl | rfl | rfl | rfl
      · exact c4
      · exact c5
      · exact c6
      · exact c7
      · exact c8
      · exact c9
      · exact c10
      · exact c11
      · exact c12
      · exact c13
      · exact c14
      · exact c15
      · exact c16
      · exact c17
      · exact c18
      · exact c19
      · exact c20
      · exact c21
    replace h := h18_ hout
    refine kr_tableOut 739 dL_law_39 (sw_out 17 (by decide) hout) (by decide) ?_
    exact h
set_option maxRecDepth 100000 in
set_option maxHeartbeats 4000000 in
theorem bL_law_0 {l : Launch} {g : xG} {K : xKt} {Ls : Nat} {xs : Nat → Int32} {b0 : Nat} {mc ms : Nat} {M : xM} (hscr : xScr K b0 Ls xs) (hth : xThK K) (h : ((0 + 1 ≤ mc ∧ 0 + 6 ≤ ms) ∧ ∀ q1, q1 ∉ xL M → (∃ mc8 ms9, ((0 + 1) + mc8 ≤ mc ∧ (0 + 6) + ms9 ≤ ms) ∧ xSp l g mX9_init mc8 ms9 [va_rf (some q1)] (xnew M q1 6 0) (fun ρ6 M5 => ρ6 = none ∧ ((((0 + 1) + mc8) + 1 ≤ mc ∧ ((0 + 6) + ms9) + 27 ≤ ms) ∧ ∀ q10, q10 ∉ xL M5 → (∃ mc17 ms18, ((((0 + 1) + mc8) + 1) + mc17 ≤ mc ∧ (((0 + 6) + ms9) + 27) + ms18 ≤ ms) ∧ xSp l g mX10_init mc17 ms18 [va_rf (some q10)] (xnew M5 q10 7 0) (fun ρ15 M14 => ρ15 = none ∧ ((((((0 + 1) + mc8) + 1) + mc17) + 1 ≤ mc ∧ ((((0 + 6) + ms9) + 27) + ms18) + 1 ≤ ms) ∧ ∀ q22, q22 ∉ xL M14 → xWg l g hL_law mc ms 23 [(1, va_rf (some b0)), (1, va_rf (some q1)), (1, va_rf (some q10)), (1, va_rf (some q22)), (1, .int 0), (0, .null), (0, .null)] [] ((((((0 + 1) + mc8) + 1) + mc17) + 1), (((((0 + 6) + ms9) + 27) + ms18) + 1)) (xnew M14 q22 10 1) K)))))))) : xWg l g hL_law mc ms 0 [(1, va_rf (some b0)), (0, .null), (0, .null), (0, .null), (0, .null), (0, .null), (0, .null)] [] (0, 0) M K := by
  obtain ⟨hm3, h⟩ := h
  refine kr_new dL_law_0 cn_RL_8 hm3 (fun q1 hq2 => ?_)
  replace h := h q1 hq2
  refine kr_dup dL_law_3 (va_rf_cat _) ?_
  obtain ⟨mc8, ms9, hm26, h⟩ := h
  refine kr_callI (a := q1) [] dL_law_4 ciL_law_31 rfl (Nat.le_trans (wt_r wt_0) (by decide)) hm26 (xSp.mono h ?_)
  clear h
  intro ρ6 M5 h
  obtain ⟨rfl, h⟩ := h
  refine kzastore_n 1 dL_law_7 rfl (L1 := [(1, va_rf (some b0)), (1, va_rf (some q1)), (0, .null), (0, .null), (0, .null), (0, .null), (0, .null)]) (by decide) rfl ?_
  obtain ⟨hm12, h⟩ := h
  refine kr_new dL_law_8 cn_RL_32 hm12 (fun q10 hq11 => ?_)
  replace h := h q10 hq11
  refine kr_dup dL_law_11 (va_rf_cat _) ?_
  obtain ⟨mc17, ms18, hm25, h⟩ := h
  refine kr_callI (a := q10) [] dL_law_12 ciL_law_34 rfl (Nat.le_trans (wt_r wt_0) (by decide)) hm25 (xSp.mono h ?_)
  clear h
  intro ρ15 M14 h
  obtain ⟨rfl, h⟩ := h
  refine kzastore_n 2 dL_law_15 rfl (L1 := [(1, va_rf (some b0)), (1, va_rf (some q1)), (1, va_rf (some q10)), (0, .null), (0, .null), (0, .null), (0, .null)]) (by decide) rfl ?_
  refine kr_iconst 1 dL_law_16 (by decide) ?_
  obtain ⟨hm24, h⟩ := h
  refine kr_newa (kd := 10) (t := 2) (n := 1) dL_law_17 rfl arr_long (fun _ => rfl) (by decide) (by decide) rfl (by decide) (by decide) (by decide) hm24 (fun q22 hq23 => ?_)
  replace h := h q22 hq23
  refine kzastore_n 3 dL_law_19 rfl (L1 := [(1, va_rf (some b0)), (1, va_rf (some q1)), (1, va_rf (some q10)), (1, va_rf (some q22)), (0, .null), (0, .null), (0, .null)]) (by decide) rfl ?_
  refine kr_iconst 0 dL_law_20 (by decide) ?_
  refine kzistore dL_law_21 (L1 := [(1, va_rf (some b0)), (1, va_rf (some q1)), (1, va_rf (some q10)), (1, va_rf (some q22)), (1, .int 0), (0, .null), (0, .null)]) (by decide) rfl ?_
  exact h
