/-! Decode rows and blocks: 20.bMb -/
theorem dX10_setPrefix_0 : decode cX10_setPrefix 0 = .ok (.aload_n 0, 1) := by decide +kernel
theorem dX10_setPrefix_1 : decode cX10_setPrefix 1 = .ok (.getfield 26, 3) := by decide +kernel
theorem dX10_setPrefix_4 : decode cX10_setPrefix 4 = .ok (.iload_n 1, 1) := by decide +kernel
theorem dX10_setPrefix_5 : decode cX10_setPrefix 5 = .ok (.aload_n 0, 1) := by decide +kernel
theorem dX10_setPrefix_6 : decode cX10_setPrefix 6 = .ok (.getfield 91, 3) := by decide +kernel
theorem dX10_setPrefix_9 : decode cX10_setPrefix 9 = .ok (.iload_n 2, 1) := by decide +kernel
theorem dX10_setPrefix_10 : decode cX10_setPrefix 10 = .ok (.isub, 1) := by decide +kernel
theorem dX10_setPrefix_11 : decode cX10_setPrefix 11 = .ok (.iastore, 1) := by decide +kernel
theorem dX10_setPrefix_12 : decode cX10_setPrefix 12 = .ok (.iload_n 2, 1) := by decide +kernel
theorem dX10_setPrefix_13 : decode cX10_setPrefix 13 = .ok (.istore_n 3, 1) := by decide +kernel
theorem dX10_setPrefix_14 : decode cX10_setPrefix 14 = .ok (.iload_n 3, 1) := by decide +kernel
theorem dX10_setPrefix_15 : decode cX10_setPrefix 15 = .ok (.aload_n 0, 1) := by decide +kernel
theorem dX10_setPrefix_16 : decode cX10_setPrefix 16 = .ok (.getfield 91, 3) := by decide +kernel
theorem dX10_setPrefix_19 : decode cX10_setPrefix 19 = .ok (.if_icmp .ge 28, 3) := by decide +kernel
theorem dX10_setPrefix_22 : decode cX10_setPrefix 22 = .ok (.aload_n 0, 1) := by decide +kernel
theorem dX10_setPrefix_23 : decode cX10_setPrefix 23 = .ok (.getfield 23, 3) := by decide +kernel
theorem dX10_setPrefix_26 : decode cX10_setPrefix 26 = .ok (.bipush 12, 2) := by decide +kernel
theorem dX10_setPrefix_28 : decode cX10_setPrefix 28 = .ok (.iload_n 1, 1) := by decide +kernel
theorem dX10_setPrefix_29 : decode cX10_setPrefix 29 = .ok (.imul, 1) := by decide +kernel
theorem dX10_setPrefix_30 : decode cX10_setPrefix 30 = .ok (.iload_n 3, 1) := by decide +kernel
theorem dX10_setPrefix_31 : decode cX10_setPrefix 31 = .ok (.iadd, 1) := by decide +kernel
theorem dX10_setPrefix_32 : decode cX10_setPrefix 32 = .ok (.iload_n 2, 1) := by decide +kernel
theorem dX10_setPrefix_33 : decode cX10_setPrefix 33 = .ok (.isub, 1) := by decide +kernel
theorem dX10_setPrefix_34 : decode cX10_setPrefix 34 = .ok (.aload_n 0, 1) := by decide +kernel
theorem dX10_setPrefix_35 : decode cX10_setPrefix 35 = .ok (.getfield 7, 3) := by decide +kernel
theorem dX10_setPrefix_38 : decode cX10_setPrefix 38 = .ok (.iload_n 3, 1) := by decide +kernel
theorem dX10_setPrefix_39 : decode cX10_setPrefix 39 = .ok (.iaload, 1) := by decide +kernel
theorem dX10_setPrefix_40 : decode cX10_setPrefix 40 = .ok (.iastore, 1) := by decide +kernel
theorem dX10_setPrefix_41 : decode cX10_setPrefix 41 = .ok (.iinc 3 1, 3) := by decide +kernel
theorem dX10_setPrefix_44 : decode cX10_setPrefix 44 = .ok (.goto (-30), 3) := by decide +kernel
theorem dX10_setPrefix_47 : decode cX10_setPrefix 47 = .ok (.return_, 1) := by decide +kernel
set_option maxRecDepth 100000 in
set_option maxHeartbeats 4000000 in
theorem bX10_setPrefix_14 {l : Launch} {g : xG} (a0 : Nat) (x1 : Int32) (x2 : Int32) (x3 : Int32) {M : xM} {Q : Option Value → xM → Prop} (h : (xat M a0 7 ∧ (((xI M a0 2) ≤ x3 → (Q none M)) ∧ (¬ (xI M a0 2) ≤ x3 → (∃ a2, (xR M a0 1) = some a2 ∧ ∃ i4, xai M a2 9 x3 i4 ∧ (∃ a6, (xR M a0 7) = some a6 ∧ ∃ i8, xai M a6 9 (((12 * x1) + x3) - x2) i8 ∧ xWp l g mX10_setPrefix 0 0 14 [(1, va_rf (some a0)), (1, .int x1), (1, .int x2), (1, .int (x3 + 1))] [] (0, 0) (xsI M a6 i8 (xI M a2 i4)) Q)))))) : xWp l g mX10_setPrefix 0 0 14 [(1, va_rf (some a0)), (1, .int x1), (1, .int x2), (1, .int x3)] [] (0, 0) M Q := by
  refine xr_iload_n 3 dX10_setPrefix_14 rfl rfl ?_
  refine xr_aload_n 0 dX10_setPrefix_15 rfl rfl ?_
  obtain ⟨t1, h⟩ := h
  refine yr_getI dX10_setPrefix_16 fl_RX10_91 rfl t1 ?_
  obtain ⟨ht, hf⟩ := h
  refine xr_icmp_ge 47 dX10_setPrefix_19 (by decide) (fun c10 => ?_) (fun c10 => ?_)
  · replace h := ht c10
    clear ht hf
    exact xr_ret (by decide) (xRv rfl dX10_setPrefix_47) h
  · replace h := hf c10
    clear ht hf
    refine xr_aload_n 0 dX10_setPrefix_22 rfl rfl ?_
    refine yr_getR dX10_setPrefix_23 fl_RX10_23 rfl t1 ?_
    refine xr_bipush 12 dX10_setPrefix_26 (by decide) ?_
    refine xr_iload_n 1 dX10_setPrefix_28 rfl rfl ?_
    refine xr_imul dX10_setPrefix_29 ?_
    refine xr_iload_n 3 dX10_setPrefix_30 rfl rfl ?_
    refine xr_iadd dX10_setPrefix_31 ?_
    refine xr_iload_n 2 dX10_setPrefix_32 rfl rfl ?_
    refine xr_isub dX10_setPrefix_33 ?_
    refine xr_aload_n 0 dX10_setPrefix_34 rfl rfl ?_
    refine yr_getR dX10_setPrefix_35 fl_RX10_7 rfl t1 ?_
    refine xr_iload_n 3 dX10_setPrefix_38 rfl rfl ?_
    obtain ⟨a2, e3, h⟩ := h
    obtain ⟨i4, t5, h⟩ := h
    refine yr_iald dX10_setPrefix_39 e3 t5 ?_
    obtain ⟨a6, e7, h⟩ := h
    obtain ⟨i8, t9, h⟩ := h
    refine yr_iast dX10_setPrefix_40 e7 t9 ?_
    refine ziinc (x3 + 1) dX10_setPrefix_41 rfl rfl (L1 := [(1, va_rf (some a0)), (1, .int x1), (1, .int x2), (1, .int (x3 + 1))]) (by decide) rfl ?_
    refine xr_goto 14 dX10_setPrefix_44 (by decide) ?_
    exact h
set_option maxRecDepth 100000 in
set_option maxHeartbeats 4000000 in
theorem bX10_setPrefix_0 {l : Launch} {g : xG} (a0 : Nat) (x1 : Int32) (x2 : Int32) {M : xM} {Q : Option Value → xM → Prop} (h : (xat M a0 7 ∧ (∃ a2, (xR M a0 8) = some a2 ∧ ∃ i4, xai M a2 9 x1 i4 ∧ xWp l g mX10_setPrefix 0 0 14 [(1, va_rf (some a0)), (1, .int x1), (1, .int x2), (1, .int x2)] [] (0, 0) (xsI M a2 i4 ((xI M a0 2) - x2)) Q))) : xWp l g mX10_setPrefix 0 0 0 [(1, va_rf (some a0)), (1, .int x1), (1, .int x2), (0, .null)] [] (0, 0) M Q := by
  refine xr_aload_n 0 dX10_setPrefix_0 rfl rfl ?_
  obtain ⟨t1, h⟩ := h
  refine yr_getR dX10_setPrefix_1 fl_RX10_26 rfl t1 ?_
  refine xr_iload_n 1 dX10_setPrefix_4 rfl rfl ?_
  refine xr_aload_n 0 dX10_setPrefix_5 rfl rfl ?_
  refine yr_getI dX10_setPrefix_6 fl_RX10_91 rfl t1 ?_
  refine xr_iload_n 2 dX10_setPrefix_9 rfl rfl ?_
  refine xr_isub dX10_setPrefix_10 ?_
  obtain ⟨a2, e3, h⟩ := h
  obtain ⟨i4, t5, h⟩ := h
  refine yr_iast dX10_setPrefix_11 e3 t5 ?_
  refine xr_iload_n 2 dX10_setPrefix_12 rfl rfl ?_
  refine zistore_n 3 dX10_setPrefix_13 rfl (L1 := [(1, va_rf (some a0)), (1, .int x1), (1, .int x2), (1, .int x2)]) (by decide) rfl ?_
  exact h
theorem dX10_give_0 : decode cX10_give 0 = .ok (.aload_n 0, 1) := by decide +kernel
theorem dX10_give_1 : decode cX10_give 1 = .ok (.getfield 29, 3) := by decide +kernel
theorem dX10_give_4 : decode cX10_give 4 = .ok (.iload_n 1, 1) := by decide +kernel
theorem dX10_give_5 : decode cX10_give 5 = .ok (.iconst 1, 1) := by decide +kernel
theorem dX10_give_6 : decode cX10_give 6 = .ok (.bastore, 1) := by decide +kernel
theorem dX10_give_7 : decode cX10_give 7 = .ok (.aload_n 0, 1) := by decide +kernel
theorem dX10_give_8 : decode cX10_give 8 = .ok (.getfield 32, 3) := by decide +kernel
theorem dX10_give_11 : decode cX10_give 11 = .ok (.iload_n 1, 1) := by decide +kernel
theorem dX10_give_12 : decode cX10_give 12 = .ok (.lload_n 2, 1) := by decide +kernel
theorem dX10_give_13 : decode cX10_give 13 = .ok (.lastore, 1) := by decide +kernel
theorem dX10_give_14 : decode cX10_give 14 = .ok (.return_, 1) := by decide +kernel
set_option maxRecDepth 100000 in
set_option maxHeartbeats 4000000 in
theorem bX10_give_0 {l : Launch} {g : xG} (a0 : Nat) (x1 : Int32) (j2 : Int64) {M : xM} {Q : Option Value → xM → Prop} (h : (xat M a0 7 ∧ (∃ a2, (xR M a0 9) = some a2 ∧ ∃ i4, xai M a2 11 x1 i4 ∧ (∃ a6, (xR (xsI M a2 i4 ((1 : Int32) &&& 1)) a0 10) = some a6 ∧ ∃ i8, xai (xsI M a2 i4 ((1 : Int32) &&& 1)) a6 10 x1 i8 ∧ (Q none (xsJ (xsI M a2 i4 ((1 : Int32) &&& 1)) a6 i8 j2)))))) : xWp l g mX10_give 0 0 0 [(1, va_rf (some a0)), (1, .int x1), (2, .long j2), (0, .null)] [] (0, 0) M Q := by
  refine xr_aload_n 0 dX10_give_0 rfl rfl ?_
  obtain ⟨t1, h⟩ := h
  refine yr_getR dX10_give_1 fl_RX10_29 rfl t1 ?_
  refine xr_iload_n 1 dX10_give_4 rfl rfl ?_
  refine xr_iconst 1 dX10_give_5 (by decide) ?_
  obtain ⟨a2, e3, h⟩ := h
  obtain ⟨i4, t5, h⟩ := h
  refine yr_zast dX10_give_6 e3 t5 ?_
  refine xr_aload_n 0 dX10_give_7 rfl rfl ?_
  refine yr_getR dX10_give_8 fl_RX10_32 rfl t1 ?_
  refine xr_iload_n 1 dX10_give_11 rfl rfl ?_
  refine xr_lload_n 2 dX10_give_12 rfl rfl ?_
  obtain ⟨a6, e7, h⟩ := h
  obtain ⟨i8, t9, h⟩ := h
  refine yr_last dX10_give_13 e7 t9 ?_
  exact xr_ret (by decide) (xRv rfl dX10_give_14) h
theorem dX10_isKey_0 : decode cX10_isKey 0 = .ok (.aload_n 0, 1) := by decide +kernel
theorem dX10_isKey_1 : decode cX10_isKey 1 = .ok (.getfield 91, 3) := by decide +kernel
theorem dX10_isKey_4 : decode cX10_isKey 4 = .ok (.bipush 12, 2) := by decide +kernel
theorem dX10_isKey_6 : decode cX10_isKey 6 = .ok (.if_icmp .gt 7, 3) := by decide +kernel
theorem dX10_isKey_9 : decode cX10_isKey 9 = .ok (.iconst 1, 1) := by decide +kernel
theorem dX10_isKey_10 : decode cX10_isKey 10 = .ok (.goto 4, 3) := by decide +kernel
theorem dX10_isKey_13 : decode cX10_isKey 13 = .ok (.iconst 0, 1) := by decide +kernel
theorem dX10_isKey_14 : decode cX10_isKey 14 = .ok (.ireturn, 1) := by decide +kernel
set_option maxRecDepth 100000 in
set_option maxHeartbeats 4000000 in
theorem bX10_isKey_0 {l : Launch} {g : xG} (a0 : Nat) {M : xM} {Q : Option Value → xM → Prop} (h : (xat M a0 7 ∧ ((12 < (xI M a0 2) → (Q (some (.int 0)) M)) ∧ (¬ 12 < (xI M a0 2) → (Q (some (.int 1)) M))))) : xWp l g mX10_isKey 0 0 0 [(1, va_rf (some a0))] [] (0, 0) M Q := by
  refine xr_aload_n 0 dX10_isKey_0 rfl rfl ?_
  obtain ⟨t1, h⟩ := h
  refine yr_getI dX10_isKey_1 fl_RX10_91 rfl t1 ?_
  refine xr_bipush 12 dX10_isKey_4 (by decide) ?_
  obtain ⟨ht, hf⟩ := h
  refine xr_icmp_gt 13 dX10_isKey_6 (by decide) (fun c2 => ?_) (fun c2 => ?_)
  · replace h := ht c2
    clear ht hf
    refine xr_iconst 0 dX10_isKey_13 (by decide) ?_
    exact xr_retv (by decide) (xRi rfl rfl dX10_isKey_14) h
  · replace h := hf c2
    clear ht hf
    refine xr_iconst 1 dX10_isKey_9 (by decide) ?_
    refine xr_goto 14 dX10_isKey_10 (by decide) ?_
    exact xr_retv (by decide) (xRi rfl rfl dX10_isKey_14) h
theorem dX10_put_0 : decode cX10_put 0 = .ok (.aload_n 0, 1) := by decide +kernel
theorem dX10_put_1 : decode cX10_put 1 = .ok (.iconst 0, 1) := by decide +kernel
theorem dX10_put_2 : decode cX10_put 2 = .ok (.putfield 68, 3) := by decide +kernel
theorem dX10_put_5 : decode cX10_put 5 = .ok (.aload_n 0, 1) := by decide +kernel
theorem dX10_put_6 : decode cX10_put 6 = .ok (.getfield 114, 3) := by decide +kernel
theorem dX10_put_9 : decode cX10_put 9 = .ok (.ifCond .eq 6, 3) := by decide +kernel
theorem dX10_put_12 : decode cX10_put 12 = .ok (.bipush (-4), 2) := by decide +kernel
theorem dX10_put_14 : decode cX10_put 14 = .ok (.ireturn, 1) := by decide +kernel
theorem dX10_put_15 : decode cX10_put 15 = .ok (.aload_n 0, 1) := by decide +kernel
theorem dX10_put_16 : decode cX10_put 16 = .ok (.invokevirtual 118, 3) := by decide +kernel
theorem dX10_put_19 : decode cX10_put 19 = .ok (.ifCond .eq 11, 3) := by decide +kernel
theorem dX10_put_22 : decode cX10_put 22 = .ok (.lload_n 1, 1) := by decide +kernel
theorem dX10_put_23 : decode cX10_put 23 = .ok (.ldc2_w 122, 3) := by decide +kernel
theorem dX10_put_26 : decode cX10_put 26 = .ok (.lcmp, 1) := by decide +kernel
theorem dX10_put_27 : decode cX10_put 27 = .ok (.ifCond .ne 5, 3) := by decide +kernel
theorem dX10_put_30 : decode cX10_put 30 = .ok (.iconst (-1), 1) := by decide +kernel
theorem dX10_put_31 : decode cX10_put 31 = .ok (.ireturn, 1) := by decide +kernel
theorem dX10_put_32 : decode cX10_put 32 = .ok (.aload_n 0, 1) := by decide +kernel
theorem dX10_put_33 : decode cX10_put 33 = .ok (.invokevirtual 124, 3) := by decide +kernel
theorem dX10_put_36 : decode cX10_put 36 = .ok (.ifCond .eq 37, 3) := by decide +kernel
theorem dX10_put_39 : decode cX10_put 39 = .ok (.aload_n 0, 1) := by decide +kernel
theorem dX10_put_40 : decode cX10_put 40 = .ok (.getfield 32, 3) := by decide +kernel
theorem dX10_put_43 : decode cX10_put 43 = .ok (.aload_n 0, 1) := by decide +kernel
theorem dX10_put_44 : decode cX10_put 44 = .ok (.getfield 99, 3) := by decide +kernel
theorem dX10_put_47 : decode cX10_put 47 = .ok (.laload, 1) := by decide +kernel
theorem dX10_put_48 : decode cX10_put 48 = .ok (.lload_n 1, 1) := by decide +kernel
theorem dX10_put_49 : decode cX10_put 49 = .ok (.lcmp, 1) := by decide +kernel
theorem dX10_put_50 : decode cX10_put 50 = .ok (.ifCond .eq 11, 3) := by decide +kernel
theorem dX10_put_53 : decode cX10_put 53 = .ok (.aload_n 0, 1) := by decide +kernel
theorem dX10_put_54 : decode cX10_put 54 = .ok (.aload_n 0, 1) := by decide +kernel
theorem dX10_put_55 : decode cX10_put 55 = .ok (.getfield 99, 3) := by decide +kernel
theorem dX10_put_58 : decode cX10_put 58 = .ok (.invokevirtual 127, 3) := by decide +kernel
theorem dX10_put_61 : decode cX10_put 61 = .ok (.aload_n 0, 1) := by decide +kernel
theorem dX10_put_62 : decode cX10_put 62 = .ok (.getfield 32, 3) := by decide +kernel
theorem dX10_put_65 : decode cX10_put 65 = .ok (.aload_n 0, 1) := by decide +kernel
theorem dX10_put_66 : decode cX10_put 66 = .ok (.getfield 99, 3) := by decide +kernel
theorem dX10_put_69 : decode cX10_put 69 = .ok (.lload_n 1, 1) := by decide +kernel
theorem dX10_put_70 : decode cX10_put 70 = .ok (.lastore, 1) := by decide +kernel
theorem dX10_put_71 : decode cX10_put 71 = .ok (.iconst 0, 1) := by decide +kernel
theorem dX10_put_72 : decode cX10_put 72 = .ok (.ireturn, 1) := by decide +kernel
theorem dX10_put_73 : decode cX10_put 73 = .ok (.aload_n 0, 1) := by decide +kernel
theorem dX10_put_74 : decode cX10_put 74 = .ok (.getfield 29, 3) := by decide +kernel
theorem dX10_put_77 : decode cX10_put 77 = .ok (.aload_n 0, 1) := by decide +kernel
theorem dX10_put_78 : decode cX10_put 78 = .ok (.getfield 75, 3) := by decide +kernel
theorem dX10_put_81 : decode cX10_put 81 = .ok (.baload, 1) := by decide +kernel
theorem dX10_put_82 : decode cX10_put 82 = .ok (.ifCond .ne 42, 3) := by decide +kernel
theorem dX10_put_85 : decode cX10_put 85 = .ok (.aload_n 0, 1) := by decide +kernel
theorem dX10_put_86 : decode cX10_put 86 = .ok (.aload_n 0, 1) := by decide +kernel
theorem dX10_put_87 : decode cX10_put 87 = .ok (.getfield 75, 3) := by decide +kernel
theorem dX10_put_90 : decode cX10_put 90 = .ok (.invokevirtual 131, 3) := by decide +kernel
theorem dX10_put_93 : decode cX10_put 93 = .ok (.ifCond .ne 31, 3) := by decide +kernel
theorem dX10_put_96 : decode cX10_put 96 = .ok (.aload_n 0, 1) := by decide +kernel
theorem dX10_put_97 : decode cX10_put 97 = .ok (.aload_n 0, 1) := by decide +kernel
theorem dX10_put_98 : decode cX10_put 98 = .ok (.getfield 75, 3) := by decide +kernel
theorem dX10_put_101 : decode cX10_put 101 = .ok (.iconst 0, 1) := by decide +kernel
theorem dX10_put_102 : decode cX10_put 102 = .ok (.invokevirtual 135, 3) := by decide +kernel
theorem dX10_put_105 : decode cX10_put 105 = .ok (.aload_n 0, 1) := by decide +kernel
theorem dX10_put_106 : decode cX10_put 106 = .ok (.aload_n 0, 1) := by decide +kernel
theorem dX10_put_107 : decode cX10_put 107 = .ok (.getfield 75, 3) := by decide +kernel
theorem dX10_put_110 : decode cX10_put 110 = .ok (.lload_n 1, 1) := by decide +kernel
theorem dX10_put_111 : decode cX10_put 111 = .ok (.invokevirtual 138, 3) := by decide +kernel
theorem dX10_put_114 : decode cX10_put 114 = .ok (.aload_n 0, 1) := by decide +kernel
theorem dX10_put_115 : decode cX10_put 115 = .ok (.aload_n 0, 1) := by decide +kernel
theorem dX10_put_116 : decode cX10_put 116 = .ok (.getfield 75, 3) := by decide +kernel
theorem dX10_put_119 : decode cX10_put 119 = .ok (.invokevirtual 127, 3) := by decide +kernel
theorem dX10_put_122 : decode cX10_put 122 = .ok (.iconst 1, 1) := by decide +kernel
theorem dX10_put_123 : decode cX10_put 123 = .ok (.ireturn, 1) := by decide +kernel
theorem dX10_put_124 : decode cX10_put 124 = .ok (.aload_n 0, 1) := by decide +kernel
theorem dX10_put_125 : decode cX10_put 125 = .ok (.getfield 105, 3) := by decide +kernel
theorem dX10_put_128 : decode cX10_put 128 = .ok (.aload_n 0, 1) := by decide +kernel
theorem dX10_put_129 : decode cX10_put 129 = .ok (.getfield 26, 3) := by decide +kernel
theorem dX10_put_132 : decode cX10_put 132 = .ok (.aload_n 0, 1) := by decide +kernel
theorem dX10_put_133 : decode cX10_put 133 = .ok (.getfield 99, 3) := by decide +kernel
theorem dX10_put_136 : decode cX10_put 136 = .ok (.iaload, 1) := by decide +kernel
theorem dX10_put_137 : decode cX10_put 137 = .ok (.if_icmp .ge 7, 3) := by decide +kernel
theorem dX10_put_140 : decode cX10_put 140 = .ok (.iconst 1, 1) := by decide +kernel
theorem dX10_put_141 : decode cX10_put 141 = .ok (.goto 4, 3) := by decide +kernel
theorem dX10_put_144 : decode cX10_put 144 = .ok (.iconst 0, 1) := by decide +kernel
theorem dX10_put_145 : decode cX10_put 145 = .ok (.istore_n 3, 1) := by decide +kernel
theorem dX10_put_146 : decode cX10_put 146 = .ok (.aload_n 0, 1) := by decide +kernel
theorem dX10_put_147 : decode cX10_put 147 = .ok (.getfield 102, 3) := by decide +kernel
theorem dX10_put_150 : decode cX10_put 150 = .ok (.aload_n 0, 1) := by decide +kernel
theorem dX10_put_151 : decode cX10_put 151 = .ok (.getfield 91, 3) := by decide +kernel
theorem dX10_put_154 : decode cX10_put 154 = .ok (.if_icmp .ge 7, 3) := by decide +kernel
theorem dX10_put_157 : decode cX10_put 157 = .ok (.iconst 1, 1) := by decide +kernel
theorem dX10_put_158 : decode cX10_put 158 = .ok (.goto 4, 3) := by decide +kernel
theorem dX10_put_161 : decode cX10_put 161 = .ok (.iconst 0, 1) := by decide +kernel
theorem dX10_put_162 : decode cX10_put 162 = .ok (.istore 4, 2) := by decide +kernel
theorem dX10_put_164 : decode cX10_put 164 = .ok (.aload_n 0, 1) := by decide +kernel
theorem dX10_put_165 : decode cX10_put 165 = .ok (.invokevirtual 142, 3) := by decide +kernel
theorem dX10_put_168 : decode cX10_put 168 = .ok (.iload_n 3, 1) := by decide +kernel
theorem dX10_put_169 : decode cX10_put 169 = .ok (.ifCond .eq 7, 3) := by decide +kernel
theorem dX10_put_172 : decode cX10_put 172 = .ok (.iconst 1, 1) := by decide +kernel
theorem dX10_put_173 : decode cX10_put 173 = .ok (.goto 4, 3) := by decide +kernel
theorem dX10_put_176 : decode cX10_put 176 = .ok (.iconst 0, 1) := by decide +kernel
theorem dX10_put_177 : decode cX10_put 177 = .ok (.iadd, 1) := by decide +kernel
theorem dX10_put_178 : decode cX10_put 178 = .ok (.iload 4, 2) := by decide +kernel
theorem dX10_put_180 : decode cX10_put 180 = .ok (.ifCond .eq 7, 3) := by decide +kernel
theorem dX10_put_183 : decode cX10_put 183 = .ok (.iconst 1, 1) := by decide +kernel
theorem dX10_put_184 : decode cX10_put 184 = .ok (.goto 4, 3) := by decide +kernel
theorem dX10_put_187 : decode cX10_put 187 = .ok (.iconst 0, 1) := by decide +kernel
theorem dX10_put_188 : decode cX10_put 188 = .ok (.iadd, 1) := by decide +kernel
theorem dX10_put_189 : decode cX10_put 189 = .ok (.sipush 200, 3) := by decide +kernel
theorem dX10_put_192 : decode cX10_put 192 = .ok (.if_icmp .le 6, 3) := by decide +kernel
theorem dX10_put_195 : decode cX10_put 195 = .ok (.bipush (-2), 2) := by decide +kernel
theorem dX10_put_197 : decode cX10_put 197 = .ok (.ireturn, 1) := by decide +kernel
theorem dX10_put_198 : decode cX10_put 198 = .ok (.iload_n 3, 1) := by decide +kernel
theorem dX10_put_199 : decode cX10_put 199 = .ok (.ifCond .eq 7, 3) := by decide +kernel
theorem dX10_put_202 : decode cX10_put 202 = .ok (.aload_n 0, 1) := by decide +kernel
theorem dX10_put_203 : decode cX10_put 203 = .ok (.invokevirtual 146, 3) := by decide +kernel
theorem dX10_put_206 : decode cX10_put 206 = .ok (.iload 4, 2) := by decide +kernel
theorem dX10_put_208 : decode cX10_put 208 = .ok (.ifCond .eq 86, 3) := by decide +kernel
theorem dX10_put_211 : decode cX10_put 211 = .ok (.aload_n 0, 1) := by decide +kernel
theorem dX10_put_212 : decode cX10_put 212 = .ok (.aload_n 0, 1) := by decide +kernel
theorem dX10_put_213 : decode cX10_put 213 = .ok (.getfield 99, 3) := by decide +kernel
theorem dX10_put_216 : decode cX10_put 216 = .ok (.aload_n 0, 1) := by decide +kernel
theorem dX10_put_217 : decode cX10_put 217 = .ok (.getfield 7, 3) := by decide +kernel
theorem dX10_put_220 : decode cX10_put 220 = .ok (.aload_n 0, 1) := by decide +kernel
theorem dX10_put_221 : decode cX10_put 221 = .ok (.getfield 102, 3) := by decide +kernel
theorem dX10_put_224 : decode cX10_put 224 = .ok (.iaload, 1) := by decide +kernel
theorem dX10_put_225 : decode cX10_put 225 = .ok (.invokevirtual 71, 3) := by decide +kernel
theorem dX10_put_228 : decode cX10_put 228 = .ok (.istore 5, 2) := by decide +kernel
theorem dX10_put_230 : decode cX10_put 230 = .ok (.aload_n 0, 1) := by decide +kernel
theorem dX10_put_231 : decode cX10_put 231 = .ok (.iload 5, 2) := by decide +kernel
theorem dX10_put_233 : decode cX10_put 233 = .ok (.aload_n 0, 1) := by decide +kernel
theorem dX10_put_234 : decode cX10_put 234 = .ok (.getfield 102, 3) := by decide +kernel
theorem dX10_put_237 : decode cX10_put 237 = .ok (.iconst 1, 1) := by decide +kernel
theorem dX10_put_238 : decode cX10_put 238 = .ok (.iadd, 1) := by decide +kernel
theorem dX10_put_239 : decode cX10_put 239 = .ok (.invokevirtual 135, 3) := by decide +kernel
theorem dX10_put_242 : decode cX10_put 242 = .ok (.aload_n 0, 1) := by decide +kernel
theorem dX10_put_243 : decode cX10_put 243 = .ok (.iload 5, 2) := by decide +kernel
theorem dX10_put_245 : decode cX10_put 245 = .ok (.lload_n 1, 1) := by decide +kernel
theorem dX10_put_246 : decode cX10_put 246 = .ok (.invokevirtual 138, 3) := by decide +kernel
theorem dX10_put_249 : decode cX10_put 249 = .ok (.aload_n 0, 1) := by decide +kernel
theorem dX10_put_250 : decode cX10_put 250 = .ok (.aload_n 0, 1) := by decide +kernel
theorem dX10_put_251 : decode cX10_put 251 = .ok (.getfield 99, 3) := by decide +kernel
theorem dX10_put_254 : decode cX10_put 254 = .ok (.invokevirtual 131, 3) := by decide +kernel
theorem dX10_put_257 : decode cX10_put 257 = .ok (.aload_n 0, 1) := by decide +kernel
theorem dX10_put_258 : decode cX10_put 258 = .ok (.getfield 36, 3) := by decide +kernel
theorem dX10_put_261 : decode cX10_put 261 = .ok (.aload_n 0, 1) := by decide +kernel
theorem dX10_put_262 : decode cX10_put 262 = .ok (.getfield 99, 3) := by decide +kernel
theorem dX10_put_265 : decode cX10_put 265 = .ok (.iaload, 1) := by decide +kernel
theorem dX10_put_266 : decode cX10_put 266 = .ok (.invokestatic 149, 3) := by decide +kernel
theorem dX10_put_269 : decode cX10_put 269 = .ok (.if_icmp .le 16, 3) := by decide +kernel
theorem dX10_put_272 : decode cX10_put 272 = .ok (.aload_n 0, 1) := by decide +kernel
theorem dX10_put_273 : decode cX10_put 273 = .ok (.getfield 36, 3) := by decide +kernel
theorem dX10_put_276 : decode cX10_put 276 = .ok (.aload_n 0, 1) := by decide +kernel
theorem dX10_put_277 : decode cX10_put 277 = .ok (.getfield 99, 3) := by decide +kernel
theorem dX10_put_280 : decode cX10_put 280 = .ok (.dup2, 1) := by decide +kernel
theorem dX10_put_281 : decode cX10_put 281 = .ok (.iaload, 1) := by decide +kernel
theorem dX10_put_282 : decode cX10_put 282 = .ok (.iconst 1, 1) := by decide +kernel
theorem dX10_put_283 : decode cX10_put 283 = .ok (.iadd, 1) := by decide +kernel
theorem dX10_put_284 : decode cX10_put 284 = .ok (.iastore, 1) := by decide +kernel
theorem dX10_put_285 : decode cX10_put 285 = .ok (.aload_n 0, 1) := by decide +kernel
theorem dX10_put_286 : decode cX10_put 286 = .ok (.iload 5, 2) := by decide +kernel
theorem dX10_put_288 : decode cX10_put 288 = .ok (.invokevirtual 127, 3) := by decide +kernel
theorem dX10_put_291 : decode cX10_put 291 = .ok (.goto 20, 3) := by decide +kernel
theorem dX10_put_294 : decode cX10_put 294 = .ok (.aload_n 0, 1) := by decide +kernel
theorem dX10_put_295 : decode cX10_put 295 = .ok (.aload_n 0, 1) := by decide +kernel
theorem dX10_put_296 : decode cX10_put 296 = .ok (.getfield 99, 3) := by decide +kernel
theorem dX10_put_299 : decode cX10_put 299 = .ok (.lload_n 1, 1) := by decide +kernel
theorem dX10_put_300 : decode cX10_put 300 = .ok (.invokevirtual 138, 3) := by decide +kernel
theorem dX10_put_303 : decode cX10_put 303 = .ok (.aload_n 0, 1) := by decide +kernel
theorem dX10_put_304 : decode cX10_put 304 = .ok (.aload_n 0, 1) := by decide +kernel
theorem dX10_put_305 : decode cX10_put 305 = .ok (.getfield 99, 3) := by decide +kernel
theorem dX10_put_308 : decode cX10_put 308 = .ok (.invokevirtual 127, 3) := by decide +kernel
theorem dX10_put_311 : decode cX10_put 311 = .ok (.iconst 1, 1) := by decide +kernel
theorem dX10_put_312 : decode cX10_put 312 = .ok (.ireturn, 1) := by decide +kernel
set_option maxRecDepth 100000 in
set_option maxHeartbeats 4000000 in
theorem bX10_put_206 {l : Launch} {g : xG} (a0 : Nat) (j1 : Int64) (w2 : Value) (x3 : Int32) (x4 : Int32) (w5 : Value) {M : xM} {Q : Option Value → xM → Prop} (h : ((x4 = 0 → (xat M a0 7 ∧ (xSp l g mX10_give 0 0 [va_rf (some a0), .int (xI M a0 20), .long j1] M (fun ρ4 M3 => ρ4 = none ∧ (xat M3 a0 7 ∧ (xSp l g mX10_freshen 0 0 [va_rf (some a0), .int (xI M3 a0 20)] M3 (fun ρ9 M8 => ρ9 = none ∧ (Q (some (.int 1)) M8)))))))) ∧ (¬ x4 = 0 → (xat M a0 7 ∧ (∃ a12, (xR M a0 1) = some a12 ∧ ∃ i14, xai M a12 9 (xI M a0 22) i14 ∧ (xSp l g mX10_newNode 0 0 [va_rf (some a0), .int (xI M a0 20), .int (xI M a12 i14)] M (fun ρ18 M17 => ∃ v16 : Int32, ρ18 = some (.int v16) ∧ (xat M17 a0 7 ∧ (xSp l g mX10_setPrefix 0 0 [va_rf (some a0), .int v16, .int ((xI M17 a0 22) + 1)] M17 (fun ρ23 M22 => ρ23 = none ∧ (xat M22 a0 7 ∧ xSp l g mX10_give 0 0 [va_rf (some a0), .int v16, .long j1] M22 (fun ρ27 M26 => ρ27 = none ∧ (xat M26 a0 7 ∧ (xSp l g mX10_children 0 0 [va_rf (some a0), .int (xI M26 a0 20)] M26 (fun ρ33 M32 => ∃ v31 : Int32, ρ33 = some (.int v31) ∧ (xat M32 a0 7 ∧ (∃ a36, (xR M32 a0 11) = some a36 ∧ ∃ i38, xai M32 a36 9 (xI M32 a0 20) i38 ∧ (xSp l g mX10_room 0 0 [.int (xI M32 a36 i38)] M32 (fun ρ42 M41 => ∃ v40 : Int32, ρ42 = some (.int v40) ∧ ((v31 ≤ v40 → (xat M41 a0 7 ∧ xSp l g mX10_freshen 0 0 [va_rf (some a0), .int v16] M41 (fun ρ46 M45 => ρ46 = none ∧ (Q (some (.int 1)) M45)))) ∧ (¬ v31 ≤ v40 → (xat M41 a0 7 ∧ (∃ a50, (xR M41 a0 11) = some a50 ∧ ∃ i52, xai M41 a50 9 (xI M41 a0 20) i52 ∧ (∃ i54, xai M41 a50 9 (xI M41 a0 20) i54 ∧ (xSp l g mX10_freshen 0 0 [va_rf (some a0), .int v16] (xsI M41 a50 i54 ((xI M41 a50 i52) + 1)) (fun ρ58 M57 => ρ58 = none ∧ (Q (some (.int 1)) M57))))))))))))))))))))))))))) : xWp l g mX10_put 0 0 206 [(1, va_rf (some a0)), (2, .long j1), (0, w2), (1, .int x3), (1, .int x4), (0, w5)] [] (0, 0) M Q := by
  refine xr_iload dX10_put_206 rfl ?_
  obtain ⟨ht, hf⟩ := h
  refine xr_if_eq 294 dX10_put_208 (by decide) (fun c61 => ?_) (fun c61 => ?_)
  · replace h := ht c61
    clear ht hf
    refine xr_aload_n 0 dX10_put_294 rfl rfl ?_
    refine xr_aload_n 0 dX10_put_295 rfl rfl ?_
    obtain ⟨t1, h⟩ := h
    refine yr_getI dX10_put_296 fl_RX10_99 rfl t1 ?_
    refine xr_lload_n 1 dX10_put_299 rfl rfl ?_
    refine yr_callV (r := (some a0)) [.int (xI M a0 20), .long j1] dX10_put_300 cv_X10_put_138 rfl t1 rfl (Nat.le_trans wt_0 (by decide)) (by decide) (xSp.mono h ?_)
    clear h
    intro ρ4 M3 h
    obtain ⟨rfl, h⟩ := h
    refine xr_aload_n 0 dX10_put_303 rfl rfl ?_
    refine xr_aload_n 0 dX10_put_304 rfl rfl ?_
    obtain ⟨t6, h⟩ := h
    refine yr_getI dX10_put_305 fl_RX10_99 rfl t6 ?_
    refine yr_callV (r := (some a0)) [.int (xI M3 a0 20)] dX10_put_308 cv_X10_put_127 rfl t6 rfl (Nat.le_trans wt_0 (by decide)) (by decide) (xSp.mono h ?_)
    clear h
    intro ρ9 M8 h
    obtain ⟨rfl, h⟩ := h
    refine xr_iconst 1 dX10_put_311 (by decide) ?_
    exact xr_retv (by decide) (xRi rfl rfl dX10_put_312) h
  · replace h := hf c61
    clear ht hf
    refine xr_aload_n 0 dX10_put_211 rfl rfl ?_
    refine xr_aload_n 0 dX10_put_212 rfl rfl ?_
    obtain ⟨t11, h⟩ := h
    refine yr_getI dX10_put_213 fl_RX10_99 rfl t11 ?_
    refine xr_aload_n 0 dX10_put_216 rfl rfl ?_
    refine yr_getR dX10_put_217 fl_RX10_7 rfl t11 ?_
    refine xr_aload_n 0 dX10_put_220 rfl rfl ?_
    refine yr_getI dX10_put_221 fl_RX10_102 rfl t11 ?_
    obtain ⟨a12, e13, h⟩ := h
    obtain ⟨i14, t15, h⟩ := h
    refine yr_iald dX10_put_224 e13 t15 ?_
    refine yr_callV (r := (some a0)) [.int (xI M a0 20), .int (xI M a12 i14)] dX10_put_225 cv_X10_put_71 rfl t11 rfl (Nat.le_trans wt_0 (by decide)) (by decide) (xSp.mono h ?_)
    clear h
    intro ρ18 M17 h
    obtain ⟨v16, rfl, h⟩ := h
    refine zistore dX10_put_228 (L1 := [(1, va_rf (some a0)), (2, .long j1), (0, w2), (1, .int x3), (1, .int x4), (1, .int v16)]) (by decide) rfl ?_
    refine xr_aload_n 0 dX10_put_230 rfl rfl ?_
    refine xr_iload dX10_put_231 rfl ?_
    refine xr_aload_n 0 dX10_put_233 rfl rfl ?_
    obtain ⟨t20, h⟩ := h
    refine yr_getI dX10_put_234 fl_RX10_102 rfl t20 ?_
    refine xr_iconst 1 dX10_put_237 (by decide) ?_
    refine xr_iadd dX10_put_238 ?_
    refine yr_callV (r := (some a0)) [.int v16, .int ((xI M17 a0 22) + 1)] dX10_put_239 cv_X10_put_135 rfl t20 rfl (Nat.le_trans wt_0 (by decide)) (by decide) (xSp.mono h ?_)
    clear h
    intro ρ23 M22 h
    obtain ⟨rfl, h⟩ := h
    refine xr_aload_n 0 dX10_put_242 rfl rfl ?_
    refine xr_iload dX10_put_243 rfl ?_
    refine xr_lload_n 1 dX10_put_245 rfl rfl ?_
    obtain ⟨t29, h⟩ := h
    refine yr_callV (r := (some a0)) [.int v16, .long j1] dX10_put_246 cv_X10_put_138 rfl t29 rfl (Nat.le_trans wt_0 (by decide)) (by decide) (xSp.mono h ?_)
    clear h
    intro ρ27 M26 h
    obtain ⟨rfl, h⟩ := h
    refine xr_aload_n 0 dX10_put_249 rfl rfl ?_
    refine xr_aload_n 0 dX10_put_250 rfl rfl ?_
    obtain ⟨t30, h⟩ := h
    refine yr_getI dX10_put_251 fl_RX10_99 rfl t30 ?_
    refine yr_callV (r := (some a0)) [.int (xI M26 a0 20)] dX10_put_254 cv_X10_put_131 rfl t30 rfl (Nat.le_trans wt_0 (by decide)) (by decide) (xSp.mono h ?_)
    clear h
    intro ρ33 M32 h
    obtain ⟨v31, rfl, h⟩ := h
    refine xr_aload_n 0 dX10_put_257 rfl rfl ?_
    obtain ⟨t35, h⟩ := h
    refine yr_getR dX10_put_258 fl_RX10_36 rfl t35 ?_
    refine xr_aload_n 0 dX10_put_261 rfl rfl ?_
    refine yr_getI dX10_put_262 fl_RX10_99 rfl t35 ?_
    obtain ⟨a36, e37, h⟩ := h
    obtain ⟨i38, t39, h⟩ := h
    refine yr_iald dX10_put_265 e37 t39 ?_
    refine xr_callS [.int (xI M32 a36 i38)] dX10_put_266 cs_X10_put_149 rfl (Nat.le_trans (wt_i wt_0) (by decide)) (by decide) (xSp.mono h ?_)
    clear h
    intro ρ42 M41 h
    obtain ⟨v40, rfl, h⟩ := h
    obtain ⟨ht, hf⟩ := h
    refine xr_icmp_le 285 dX10_put_269 (by decide) (fun c60 => ?_) (fun c60 => ?_)
    · replace h := ht c60
      clear ht hf
      refine xr_aload_n 0 dX10_put_285 rfl rfl ?_
      refine xr_iload dX10_put_286 rfl ?_
      obtain ⟨t48, h⟩ := h
      refine yr_callV (r := (some a0)) [.int v16] dX10_put_288 cv_X10_put_127 rfl t48 rfl (Nat.le_trans wt_0 (by decide)) (by decide) (xSp.mono h ?_)
      clear h
      intro ρ46 M45 h
      obtain ⟨rfl, h⟩ := h
      refine xr_goto 311 dX10_put_291 (by decide) ?_
      refine xr_iconst 1 dX10_put_311 (by decide) ?_
      exact xr_retv (by decide) (xRi rfl rfl dX10_put_312) h
    · replace h := hf c60
      clear ht hf
      refine xr_aload_n 0 dX10_put_272 rfl rfl ?_
      obtain ⟨t49, h⟩ := h
      refine yr_getR dX10_put_273 fl_RX10_36 rfl t49 ?_
      refine xr_aload_n 0 dX10_put_276 rfl rfl ?_
      refine yr_getI dX10_put_277 fl_RX10_99 rfl t49 ?_
      refine xr_dup2 dX10_put_280 rfl (va_rf_cat _) ?_
      obtain ⟨a50, e51, h⟩ := h
      obtain ⟨i52, t53, h⟩ := h
      refine yr_iald dX10_put_281 e51 t53 ?_
      refine xr_iconst 1 dX10_put_282 (by decide) ?_
      refine xr_iadd dX10_put_283 ?_
      obtain ⟨i54, t55, h⟩ := h
      refine yr_iast dX10_put_284 e51 t55 ?_
      refine xr_aload_n 0 dX10_put_285 rfl rfl ?_
      refine xr_iload dX10_put_286 rfl ?_
      refine yr_callV (r := (some a0)) [.int v16] dX10_put_288 cv_X10_put_127 rfl t49 rfl (Nat.le_trans wt_0 (by decide)) (by decide) (xSp.mono h ?_)
      clear h
      intro ρ58 M57 h
      obtain ⟨rfl, h⟩ := h
      refine xr_goto 311 dX10_put_291 (by decide) ?_
      refine xr_iconst 1 dX10_put_311 (by decide) ?_
      exact xr_retv (by decide) (xRi rfl rfl dX10_put_312) h
set_option maxRecDepth 100000 in
set_option maxHeartbeats 4000000 in
theorem bX10_put_177 {l : Launch} {g : xG} (a0 : Nat) (j1 : Int64) (w2 : Value) (x3 : Int32) (x4 : Int32) (w5 : Value) (sx0 : Int32) (sx1 : Int32) {M : xM} {Q : Option Value → xM → Prop} (h : ((x4 = 0 → ((((sx1 + sx0) + 0) ≤ 200 → ((x3 = 0 → xWp l g mX10_put 0 0 206 [(1, va_rf (some a0)), (2, .long j1), (0, w2), (1, .int x3), (1, .int x4), (0, w5)] [] (0, 0) M Q) ∧ (¬ x3 = 0 → (xat M a0 7 ∧ xSp l g mX10_cutInTwo 0 0 [va_rf (some a0)] M (fun ρ3 M2 => ρ3 = none ∧ xWp l g mX10_put 0 0 206 [(1, va_rf (some a0)), (2, .long j1), (0, w2), (1, .int x3), (1, .int x4), (0, w5)] [] (0, 0) M2 Q))))) ∧ (¬ ((sx1 + sx0) + 0) ≤ 200 → (Q (some (.int (-2))) M)))) ∧ (¬ x4 = 0 → ((((sx1 + sx0) + 1) ≤ 200 → ((x3 = 0 → xWp l g mX10_put 0 0 206 [(1, va_rf (some a0)), (2, .long j1), (0, w2), (1, .int x3), (1, .int x4), (0, w5)] [] (0, 0) M Q) ∧ (¬ x3 = 0 → (xat M a0 7 ∧ xSp l g mX10_cutInTwo 0 0 [va_rf (some a0)] M (fun ρ10 M9 => ρ10 = none ∧ xWp l g mX10_put 0 0 206 [(1, va_rf (some a0)), (2, .long j1), (0, w2), (1, .int x3), (1, .int x4), (0, w5)] [] (0, 0) M9 Q))))) ∧ (¬ ((sx1 + sx0) + 1) ≤ 200 → (Q (some (.int (-2))) M)))))) : xWp l g mX10_put 0 0 177 [(1, va_rf (some a0)), (2, .long j1), (0, w2), (1, .int x3), (1, .int x4), (0, w5)] [.int sx0, .int sx1] (0, 0) M Q := by
  refine xr_iadd dX10_put_177 ?_
  refine xr_iload dX10_put_178 rfl ?_
  obtain ⟨ht, hf⟩ := h
  refine xr_if_eq 187 dX10_put_180 (by decide) (fun c15 => ?_) (fun c15 => ?_)
  · replace h := ht c15
    clear ht hf
    refine xr_iconst 0 dX10_put_187 (by decide) ?_
    refine xr_iadd dX10_put_188 ?_
    refine xr_sipush 200 dX10_put_189 (by decide) ?_
    obtain ⟨ht, hf⟩ := h
    refine xr_icmp_le 198 dX10_put_192 (by decide) (fun c7 => ?_) (fun c7 => ?_)
    · replace h := ht c7
      clear ht hf
      refine xr_iload_n 3 dX10_put_198 rfl rfl ?_
      obtain ⟨ht, hf⟩ := h
      refine xr_if_eq 206 dX10_put_199 (by decide) (fun c6 => ?_) (fun c6 => ?_)
      · replace h := ht c6
        clear ht hf
        exact h
      · replace h := hf c6
        clear ht hf
        refine xr_aload_n 0 dX10_put_202 rfl rfl ?_
        obtain ⟨t5, h⟩ := h
        refine yr_callV (r := (some a0)) [] dX10_put_203 cv_X10_put_146 rfl t5 rfl (Nat.le_trans wt_0 (by decide)) (by decide) (xSp.mono h ?_)
        clear h
        intro ρ3 M2 h
        obtain ⟨rfl, h⟩ := h
        exact h
    · replace h := hf c7
      clear ht hf
      refine xr_bipush (-2) dX10_put_195 (by decide) ?_
      exact xr_retv (by decide) (xRi rfl rfl dX10_put_197) h
  · replace h := hf c15
    clear ht hf
    refine xr_iconst 1 dX10_put_183 (by decide) ?_
    refine xr_goto 188 dX10_put_184 (by decide) ?_
    refine xr_iadd dX10_put_188 ?_
    refine xr_sipush 200 dX10_put_189 (by decide) ?_
    obtain ⟨ht, hf⟩ := h
    refine xr_icmp_le 198 dX10_put_192 (by decide) (fun c14 => ?_) (fun c14 => ?_)
    · replace h := ht c14
      clear ht hf
      refine xr_iload_n 3 dX10_put_198 rfl rfl ?_
      obtain ⟨ht, hf⟩ := h
      refine xr_if_eq 206 dX10_put_199 (by decide) (fun c13 => ?_) (fun c13 => ?_)
      · replace h := ht c13
        clear ht hf
        exact h
      · replace h := hf c13
        clear ht hf
        refine xr_aload_n 0 dX10_put_202 rfl rfl ?_
        obtain ⟨t12, h⟩ := h
        refine yr_callV (r := (some a0)) [] dX10_put_203 cv_X10_put_146 rfl t12 rfl (Nat.le_trans wt_0 (by decide)) (by decide) (xSp.mono h ?_)
        clear h
        intro ρ10 M9 h
        obtain ⟨rfl, h⟩ := h
        exact h
    · replace h := hf c14
      clear ht hf
      refine xr_bipush (-2) dX10_put_195 (by decide) ?_
      exact xr_retv (by decide) (xRi rfl rfl dX10_put_197) h
set_option maxRecDepth 100000 in
set_option maxHeartbeats 4000000 in
theorem bX10_put_145 {l : Launch} {g : xG} (a0 : Nat) (j1 : Int64) (w2 : Value) (w3 : Value) (w4 : Value) (w5 : Value) (sx0 : Int32) {M : xM} {Q : Option Value → xM → Prop} (h : (xat M a0 7 ∧ (((xI M a0 2) ≤ (xI M a0 22) → (xSp l g mX10_nodes 0 0 [va_rf (some a0)] M (fun ρ4 M3 => ∃ v2 : Int32, ρ4 = some (.int v2) ∧ ((sx0 = 0 → xWp l g mX10_put 0 0 177 [(1, va_rf (some a0)), (2, .long j1), (0, w2), (1, .int sx0), (1, .int 0), (0, w5)] [.int 0, .int v2] (0, 0) M3 Q) ∧ (¬ sx0 = 0 → xWp l g mX10_put 0 0 177 [(1, va_rf (some a0)), (2, .long j1), (0, w2), (1, .int sx0), (1, .int 0), (0, w5)] [.int 1, .int v2] (0, 0) M3 Q))))) ∧ (¬ (xI M a0 2) ≤ (xI M a0 22) → (xSp l g mX10_nodes 0 0 [va_rf (some a0)] M (fun ρ9 M8 => ∃ v7 : Int32, ρ9 = some (.int v7) ∧ ((sx0 = 0 → xWp l g mX10_put 0 0 177 [(1, va_rf (some a0)), (2, .long j1), (0, w2), (1, .int sx0), (1, .int 1), (0, w5)] [.int 0, .int v7] (0, 0) M8 Q) ∧ (¬ sx0 = 0 → xWp l g mX10_put 0 0 177 [(1, va_rf (some a0)), (2, .long j1), (0, w2), (1, .int sx0), (1, .int 1), (0, w5)] [.int 1, .int v7] (0, 0) M8 Q)))))))) : xWp l g mX10_put 0 0 145 [(1, va_rf (some a0)), (2, .long j1), (0, w2), (0, w3), (0, w4), (0, w5)] [.int sx0] (0, 0) M Q := by
  refine zistore_n 3 dX10_put_145 rfl (L1 := [(1, va_rf (some a0)), (2, .long j1), (0, w2), (1, .int sx0), (0, w4), (0, w5)]) (by decide) rfl ?_
  refine xr_aload_n 0 dX10_put_146 rfl rfl ?_
  obtain ⟨t1, h⟩ := h
  refine yr_getI dX10_put_147 fl_RX10_102 rfl t1 ?_
  refine xr_aload_n 0 dX10_put_150 rfl rfl ?_
  refine yr_getI dX10_put_151 fl_RX10_91 rfl t1 ?_
  obtain ⟨ht, hf⟩ := h
  refine xr_icmp_ge 161 dX10_put_154 (by decide) (fun c12 => ?_) (fun c12 => ?_)
  · replace h := ht c12
    clear ht hf
    refine xr_iconst 0 dX10_put_161 (by decide) ?_
    refine zistore dX10_put_162 (L1 := [(1, va_rf (some a0)), (2, .long j1), (0, w2), (1, .int sx0), (1, .int 0), (0, w5)]) (by decide) rfl ?_
    refine xr_aload_n 0 dX10_put_164 rfl rfl ?_
    refine yr_callV (r := (some a0)) [] dX10_put_165 cv_X10_put_142 rfl t1 rfl (Nat.le_trans wt_0 (by decide)) (by decide) (xSp.mono h ?_)
    clear h
    intro ρ4 M3 h
    obtain ⟨v2, rfl, h⟩ := h
    refine xr_iload_n 3 dX10_put_168 rfl rfl ?_
    obtain ⟨ht, hf⟩ := h
    refine xr_if_eq 176 dX10_put_169 (by decide) (fun c6 => ?_) (fun c6 => ?_)
    · replace h := ht c6
      clear ht hf
      refine xr_iconst 0 dX10_put_176 (by decide) ?_
      exact h
    · replace h := hf c6
      clear ht hf
      refine xr_iconst 1 dX10_put_172 (by decide) ?_
      refine xr_goto 177 dX10_put_173 (by decide) ?_
      exact h
  · replace h := hf c12
    clear ht hf
    refine xr_iconst 1 dX10_put_157 (by decide) ?_
    refine xr_goto 162 dX10_put_158 (by decide) ?_
    refine zistore dX10_put_162 (L1 := [(1, va_rf (some a0)), (2, .long j1), (0, w2), (1, .int sx0), (1, .int 1), (0, w5)]) (by decide) rfl ?_
    refine xr_aload_n 0 dX10_put_164 rfl rfl ?_
    refine yr_callV (r := (some a0)) [] dX10_put_165 cv_X10_put_142 rfl t1 rfl (Nat.le_trans wt_0 (by decide)) (by decide) (xSp.mono h ?_)
    clear h
    intro ρ9 M8 h
    obtain ⟨v7, rfl, h⟩ := h
    refine xr_iload_n 3 dX10_put_168 rfl rfl ?_
    obtain ⟨ht, hf⟩ := h
    refine xr_if_eq 176 dX10_put_169 (by decide) (fun c11 => ?_) (fun c11 => ?_)
    · replace h := ht c11
      clear ht hf
      refine xr_iconst 0 dX10_put_176 (by decide) ?_
      exact h
    · replace h := hf c11
      clear ht hf
      refine xr_iconst 1 dX10_put_172 (by decide) ?_
      refine xr_goto 177 dX10_put_173 (by decide) ?_
      exact h
set_option maxRecDepth 100000 in
set_option maxHeartbeats 4000000 in
theorem bX10_put_0 {l : Launch} {g : xG} (a0 : Nat) (j1 : Int64) {M : xM} {Q : Option Value → xM → Prop} (h : (xat M a0 7 ∧ (((xI (xsI M a0 0 0) a0 3) = 0 → (xSp l g mX10_isKey 0 0 [va_rf (some a0)] (xsI M a0 0 0) (fun ρ4 M3 => ∃ v2 : Int32, ρ4 = some (.int v2) ∧ ((v2 = 0 → (Q (some (.int (-1))) M3)) ∧ (¬ v2 = 0 → ((¬ (lg_cmp j1 (-9223372036854775808)) = 0 → (xat M3 a0 7 ∧ xSp l g mX10_isFound 0 0 [va_rf (some a0)] M3 (fun ρ8 M7 => ∃ v6 : Int32, ρ8 = some (.int v6) ∧ ((v6 = 0 → (xat M7 a0 7 ∧ (∃ a12, (xR M7 a0 9) = some a12 ∧ ∃ i14, xai M7 a12 11 (xI M7 a0 14) i14 ∧ ((¬ (xI M7 a12 i14) = 0 → (∃ a16, (xR M7 a0 8) = some a16 ∧ ∃ i18, xai M7 a16 9 (xI M7 a0 20) i18 ∧ (((xI M7 a16 i18) ≤ (xI M7 a0 21) → xWp l g mX10_put 0 0 145 [(1, va_rf (some a0)), (2, .long j1), (0, .null), (0, .null), (0, .null), (0, .null)] [.int 0] (0, 0) M7 Q) ∧ (¬ (xI M7 a16 i18) ≤ (xI M7 a0 21) → xWp l g mX10_put 0 0 145 [(1, va_rf (some a0)), (2, .long j1), (0, .null), (0, .null), (0, .null), (0, .null)] [.int 1] (0, 0) M7 Q)))) ∧ ((xI M7 a12 i14) = 0 → (xSp l g mX10_children 0 0 [va_rf (some a0), .int (xI M7 a0 14)] M7 (fun ρ23 M22 => ∃ v21 : Int32, ρ23 = some (.int v21) ∧ ((¬ v21 = 0 → (xat M22 a0 7 ∧ (∃ a26, (xR M22 a0 8) = some a26 ∧ ∃ i28, xai M22 a26 9 (xI M22 a0 20) i28 ∧ (((xI M22 a26 i28) ≤ (xI M22 a0 21) → xWp l g mX10_put 0 0 145 [(1, va_rf (some a0)), (2, .long j1), (0, .null), (0, .null), (0, .null), (0, .null)] [.int 0] (0, 0) M22 Q) ∧ (¬ (xI M22 a26 i28) ≤ (xI M22 a0 21) → xWp l g mX10_put 0 0 145 [(1, va_rf (some a0)), (2, .long j1), (0, .null), (0, .null), (0, .null), (0, .null)] [.int 1] (0, 0) M22 Q))))) ∧ (v21 = 0 → (xat M22 a0 7 ∧ (xSp l g mX10_setPrefix 0 0 [va_rf (some a0), .int (xI M22 a0 14), .int 0] M22 (fun ρ34 M33 => ρ34 = none ∧ (xat M33 a0 7 ∧ (xSp l g mX10_give 0 0 [va_rf (some a0), .int (xI M33 a0 14), .long j1] M33 (fun ρ39 M38 => ρ39 = none ∧ (xat M38 a0 7 ∧ (xSp l g mX10_freshen 0 0 [va_rf (some a0), .int (xI M38 a0 14)] M38 (fun ρ44 M43 => ρ44 = none ∧ (Q (some (.int 1)) M43))))))))))))))))))) ∧ (¬ v6 = 0 → (xat M7 a0 7 ∧ (∃ a49, (xR M7 a0 10) = some a49 ∧ ∃ i51, xai M7 a49 10 (xI M7 a0 20) i51 ∧ (((lg_cmp (xJ M7 a49 i51) j1) = 0 → (∃ i53, xai M7 a49 10 (xI M7 a0 20) i53 ∧ (Q (some (.int 0)) (xsJ M7 a49 i53 j1)))) ∧ (¬ (lg_cmp (xJ M7 a49 i51) j1) = 0 → (xSp l g mX10_freshen 0 0 [va_rf (some a0), .int (xI M7 a0 20)] M7 (fun ρ57 M56 => ρ57 = none ∧ (xat M56 a0 7 ∧ (∃ a60, (xR M56 a0 10) = some a60 ∧ ∃ i62, xai M56 a60 10 (xI M56 a0 20) i62 ∧ (Q (some (.int 0)) (xsJ M56 a60 i62 j1))))))))))))))) ∧ ((lg_cmp j1 (-9223372036854775808)) = 0 → (Q (some (.int (-1))) M3)))))))) ∧ (¬ (xI (xsI M a0 0 0) a0 3) = 0 → (Q (some (.int (-4))) (xsI M a0 0 0)))))) : xWp l g mX10_put 0 0 0 [(1, va_rf (some a0)), (2, .long j1), (0, .null), (0, .null), (0, .null), (0, .null)] [] (0, 0) M Q := by
  refine xr_aload_n 0 dX10_put_0 rfl rfl ?_
  refine xr_iconst 0 dX10_put_1 (by decide) ?_
  obtain ⟨t1, h⟩ := h
  refine yr_putI dX10_put_2 fp_RX10_68 rfl t1 ?_
  refine xr_aload_n 0 dX10_put_5 rfl rfl ?_
  refine yr_getZ dX10_put_6 fl_RX10_114 rfl t1 ?_
  obtain ⟨ht, hf⟩ := h
  refine xr_if_eq 15 dX10_put_9 (by decide) (fun c68 => ?_) (fun c68 => ?_)
  · replace h := ht c68
    clear ht hf
    refine xr_aload_n 0 dX10_put_15 rfl rfl ?_
    refine yr_callV (r := (some a0)) [] dX10_put_16 cv_X10_put_118 rfl t1 rfl (Nat.le_trans wt_0 (by decide)) (by decide) (xSp.mono h ?_)
    clear h
    intro ρ4 M3 h
    obtain ⟨v2, rfl, h⟩ := h
    obtain ⟨ht, hf⟩ := h
    refine xr_if_eq 30 dX10_put_19 (by decide) (fun c67 => ?_) (fun c67 => ?_)
    · replace h := ht c67
      clear ht hf
      refine xr_iconst (-1) dX10_put_30 (by decide) ?_
      exact xr_retv (by decide) (xRi rfl rfl dX10_put_31) h
    · replace h := hf c67
      clear ht hf
      refine xr_lload_n 1 dX10_put_22 rfl rfl ?_
      refine xr_ldc2 (-9223372036854775808) dX10_put_23 ct_RX10_122 ?_
      refine xr_lcmp dX10_put_26 ?_
      obtain ⟨ht, hf⟩ := h
      refine xr_if_ne 32 dX10_put_27 (by decide) (fun c66 => ?_) (fun c66 => ?_)
      · replace h := ht c66
        clear ht hf
        refine xr_aload_n 0 dX10_put_32 rfl rfl ?_
        obtain ⟨t10, h⟩ := h
        refine yr_callV (r := (some a0)) [] dX10_put_33 cv_X10_put_124 rfl t10 rfl (Nat.le_trans wt_0 (by decide)) (by decide) (xSp.mono h ?_)
        clear h
        intro ρ8 M7 h
        obtain ⟨v6, rfl, h⟩ := h
        obtain ⟨ht, hf⟩ := h
        refine xr_if_eq 73 dX10_put_36 (by decide) (fun c65 => ?_) (fun c65 => ?_)
        · replace h := ht c65
          clear ht hf
          refine xr_aload_n 0 dX10_put_73 rfl rfl ?_
          obtain ⟨t11, h⟩ := h
          refine yr_getR dX10_put_74 fl_RX10_29 rfl t11 ?_
          refine xr_aload_n 0 dX10_put_77 rfl rfl ?_
          refine yr_getI dX10_put_78 fl_RX10_75 rfl t11 ?_
          obtain ⟨a12, e13, h⟩ := h
          obtain ⟨i14, t15, h⟩ := h
          refine yr_zald dX10_put_81 e13 t15 ?_
          obtain ⟨ht, hf⟩ := h
          refine xr_if_ne 124 dX10_put_82 (by decide) (fun c47 => ?_) (fun c47 => ?_)
          · replace h := ht c47
            clear ht hf
            refine xr_aload_n 0 dX10_put_124 rfl rfl ?_
            refine yr_getI dX10_put_125 fl_RX10_105 rfl t11 ?_
            refine xr_aload_n 0 dX10_put_128 rfl rfl ?_
            refine yr_getR dX10_put_129 fl_RX10_26 rfl t11 ?_
            refine xr_aload_n 0 dX10_put_132 rfl rfl ?_
            refine yr_getI dX10_put_133 fl_RX10_99 rfl t11 ?_
            obtain ⟨a16, e17, h⟩ := h
            obtain ⟨i18, t19, h⟩ := h
            refine yr_iald dX10_put_136 e17 t19 ?_
            obtain ⟨ht, hf⟩ := h
            refine xr_icmp_ge 144 dX10_put_137 (by decide) (fun c20 => ?_) (fun c20 => ?_)
            · replace h := ht c20
              clear ht hf
              refine xr_iconst 0 dX10_put_144 (by decide) ?_
              exact h
            · replace h := hf c20
              clear ht hf
              refine xr_iconst 1 dX10_put_140 (by decide) ?_
              refine xr_goto 145 dX10_put_141 (by decide) ?_
              exact h
          · replace h := hf c47
            clear ht hf
            refine xr_aload_n 0 dX10_put_85 rfl rfl ?_
            refine xr_aload_n 0 dX10_put_86 rfl rfl ?_
            refine yr_getI dX10_put_87 fl_RX10_75 rfl t11 ?_
            refine yr_callV (r := (some a0)) [.int (xI M7 a0 14)] dX10_put_90 cv_X10_put_131 rfl t11 rfl (Nat.le_trans wt_0 (by decide)) (by decide) (xSp.mono h ?_)
            clear h
            intro ρ23 M22 h
            obtain ⟨v21, rfl, h⟩ := h
            obtain ⟨ht, hf⟩ := h
            refine xr_if_ne 124 dX10_put_93 (by decide) (fun c46 => ?_) (fun c46 => ?_)
            · replace h := ht c46
              clear ht hf
              refine xr_aload_n 0 dX10_put_124 rfl rfl ?_
              obtain ⟨t25, h⟩ := h
              refine yr_getI dX10_put_125 fl_RX10_105 rfl t25 ?_
              refine xr_aload_n 0 dX10_put_128 rfl rfl ?_
              refine yr_getR dX10_put_129 fl_RX10_26 rfl t25 ?_
              refine xr_aload_n 0 dX10_put_132 rfl rfl ?_
              refine yr_getI dX10_put_133 fl_RX10_99 rfl t25 ?_
              obtain ⟨a26, e27, h⟩ := h
              obtain ⟨i28, t29, h⟩ := h
              refine yr_iald dX10_put_136 e27 t29 ?_
              obtain ⟨ht, hf⟩ := h
              refine xr_icmp_ge 144 dX10_put_137 (by decide) (fun c30 => ?_) (fun c30 => ?_)
              · replace h := ht c30
                clear ht hf
                refine xr_iconst 0 dX10_put_144 (by decide) ?_
                exact h
              · replace h := hf c30
                clear ht hf
                refine xr_iconst 1 dX10_put_140 (by decide) ?_
                refine xr_goto 145 dX10_put_141 (by decide) ?_
                exact h
            · replace h := hf c46
              clear ht hf
              refine xr_aload_n 0 dX10_put_96 rfl rfl ?_
              refine xr_aload_n 0 dX10_put_97 rfl rfl ?_
              obtain ⟨t31, h⟩ := h
              refine yr_getI dX10_put_98 fl_RX10_75 rfl t31 ?_
              refine xr_iconst 0 dX10_put_101 (by decide) ?_
              refine yr_callV (r := (some a0)) [.int (xI M22 a0 14), .int 0] dX10_put_102 cv_X10_put_135 rfl t31 rfl (Nat.le_trans wt_0 (by decide)) (by decide) (xSp.mono h ?_)
              clear h
              intro ρ34 M33 h
              obtain ⟨rfl, h⟩ := h
              refine xr_aload_n 0 dX10_put_105 rfl rfl ?_
              refine xr_aload_n 0 dX10_put_106 rfl rfl ?_
              obtain ⟨t36, h⟩ := h
              refine yr_getI dX10_put_107 fl_RX10_75 rfl t36 ?_
              refine xr_lload_n 1 dX10_put_110 rfl rfl ?_
              refine yr_callV (r := (some a0)) [.int (xI M33 a0 14), .long j1] dX10_put_111 cv_X10_put_138 rfl t36 rfl (Nat.le_trans wt_0 (by decide)) (by decide) (xSp.mono h ?_)
              clear h
              intro ρ39 M38 h
              obtain ⟨rfl, h⟩ := h
              refine xr_aload_n 0 dX10_put_114 rfl rfl ?_
              refine xr_aload_n 0 dX10_put_115 rfl rfl ?_
              obtain ⟨t41, h⟩ := h
              refine yr_getI dX10_put_116 fl_RX10_75 rfl t41 ?_
              refine yr_callV (r := (some a0)) [.int (xI M38 a0 14)] dX10_put_119 cv_X10_put_127 rfl t41 rfl (Nat.le_trans wt_0 (by decide)) (by decide) (xSp.mono h ?_)
              clear h
              intro ρ44 M43 h
              obtain ⟨rfl, h⟩ := h
              refine xr_iconst 1 dX10_put_122 (by decide) ?_
              exact xr_retv (by decide) (xRi rfl rfl dX10_put_123) h
        · replace h := hf c65
          clear ht hf
          refine xr_aload_n 0 dX10_put_39 rfl rfl ?_
          obtain ⟨t48, h⟩ := h
          refine yr_getR dX10_put_40 fl_RX10_32 rfl t48 ?_
          refine xr_aload_n 0 dX10_put_43 rfl rfl ?_
          refine yr_getI dX10_put_44 fl_RX10_99 rfl t48 ?_
          obtain ⟨a49, e50, h⟩ := h
          obtain ⟨i51, t52, h⟩ := h
          refine yr_lald dX10_put_47 e50 t52 ?_
          refine xr_lload_n 1 dX10_put_48 rfl rfl ?_
          refine xr_lcmp dX10_put_49 ?_
          obtain ⟨ht, hf⟩ := h
          refine xr_if_eq 61 dX10_put_50 (by decide) (fun c64 => ?_) (fun c64 => ?_)
          · replace h := ht c64
            clear ht hf
            refine xr_aload_n 0 dX10_put_61 rfl rfl ?_
            refine yr_getR dX10_put_62 fl_RX10_32 rfl t48 ?_
            refine xr_aload_n 0 dX10_put_65 rfl rfl ?_
            refine yr_getI dX10_put_66 fl_RX10_99 rfl t48 ?_
            refine xr_lload_n 1 dX10_put_69 rfl rfl ?_
            obtain ⟨i53, t54, h⟩ := h
            refine yr_last dX10_put_70 e50 t54 ?_
            refine xr_iconst 0 dX10_put_71 (by decide) ?_
            exact xr_retv (by decide) (xRi rfl rfl dX10_put_72) h
          · replace h := hf c64
            clear ht hf
            refine xr_aload_n 0 dX10_put_53 rfl rfl ?_
            refine xr_aload_n 0 dX10_put_54 rfl rfl ?_
            refine yr_getI dX10_put_55 fl_RX10_99 rfl t48 ?_
            refine yr_callV (r := (some a0)) [.int (xI M7 a0 20)] dX10_put_58 cv_X10_put_127 rfl t48 rfl (Nat.le_trans wt_0 (by decide)) (by decide) (xSp.mono h ?_)
            clear h
            intro ρ57 M56 h
            obtain ⟨rfl, h⟩ := h
            refine xr_aload_n 0 dX10_put_61 rfl rfl ?_
            obtain ⟨t59, h⟩ := h
            refine yr_getR dX10_put_62 fl_RX10_32 rfl t59 ?_
            refine xr_aload_n 0 dX10_put_65 rfl rfl ?_
            refine yr_getI dX10_put_66 fl_RX10_99 rfl t59 ?_
            refine xr_lload_n 1 dX10_put_69 rfl rfl ?_
            obtain ⟨a60, e61, h⟩ := h
            obtain ⟨i62, t63, h⟩ := h
            refine yr_last dX10_put_70 e61 t63 ?_
            refine xr_iconst 0 dX10_put_71 (by decide) ?_
            exact xr_retv (by decide) (xRi rfl rfl dX10_put_72) h
      · replace h := hf c66
        clear ht hf
        refine xr_iconst (-1) dX10_put_30 (by decide) ?_
        exact xr_retv (by decide) (xRi rfl rfl dX10_put_31) h
  · replace h := hf c68
    clear ht hf
    refine xr_bipush (-4) dX10_put_12 (by decide) ?_
    exact xr_retv (by decide) (xRi rfl rfl dX10_put_14) h
theorem dX10_cutInTwo_0 : decode cX10_cutInTwo 0 = .ok (.aload_n 0, 1) := by decide +kernel
theorem dX10_cutInTwo_1 : decode cX10_cutInTwo 1 = .ok (.getfield 99, 3) := by decide +kernel
theorem dX10_cutInTwo_4 : decode cX10_cutInTwo 4 = .ok (.istore_n 1, 1) := by decide +kernel
theorem dX10_cutInTwo_5 : decode cX10_cutInTwo 5 = .ok (.aload_n 0, 1) := by decide +kernel
theorem dX10_cutInTwo_6 : decode cX10_cutInTwo 6 = .ok (.aload_n 0, 1) := by decide +kernel
theorem dX10_cutInTwo_7 : decode cX10_cutInTwo 7 = .ok (.getfield 17, 3) := by decide +kernel
theorem dX10_cutInTwo_10 : decode cX10_cutInTwo 10 = .ok (.iload_n 1, 1) := by decide +kernel
theorem dX10_cutInTwo_11 : decode cX10_cutInTwo 11 = .ok (.iaload, 1) := by decide +kernel
theorem dX10_cutInTwo_12 : decode cX10_cutInTwo 12 = .ok (.aload_n 0, 1) := by decide +kernel
theorem dX10_cutInTwo_13 : decode cX10_cutInTwo 13 = .ok (.getfield 20, 3) := by decide +kernel
theorem dX10_cutInTwo_16 : decode cX10_cutInTwo 16 = .ok (.iload_n 1, 1) := by decide +kernel
theorem dX10_cutInTwo_17 : decode cX10_cutInTwo 17 = .ok (.iaload, 1) := by decide +kernel
theorem dX10_cutInTwo_18 : decode cX10_cutInTwo 18 = .ok (.invokevirtual 71, 3) := by decide +kernel
theorem dX10_cutInTwo_21 : decode cX10_cutInTwo 21 = .ok (.istore_n 2, 1) := by decide +kernel
theorem dX10_cutInTwo_22 : decode cX10_cutInTwo 22 = .ok (.aload_n 0, 1) := by decide +kernel
theorem dX10_cutInTwo_23 : decode cX10_cutInTwo 23 = .ok (.getfield 26, 3) := by decide +kernel
theorem dX10_cutInTwo_26 : decode cX10_cutInTwo 26 = .ok (.iload_n 2, 1) := by decide +kernel
theorem dX10_cutInTwo_27 : decode cX10_cutInTwo 27 = .ok (.aload_n 0, 1) := by decide +kernel
theorem dX10_cutInTwo_28 : decode cX10_cutInTwo 28 = .ok (.getfield 105, 3) := by decide +kernel
theorem dX10_cutInTwo_31 : decode cX10_cutInTwo 31 = .ok (.iastore, 1) := by decide +kernel
theorem dX10_cutInTwo_32 : decode cX10_cutInTwo 32 = .ok (.iconst 0, 1) := by decide +kernel
theorem dX10_cutInTwo_33 : decode cX10_cutInTwo 33 = .ok (.istore_n 3, 1) := by decide +kernel
theorem dX10_cutInTwo_34 : decode cX10_cutInTwo 34 = .ok (.iload_n 3, 1) := by decide +kernel
theorem dX10_cutInTwo_35 : decode cX10_cutInTwo 35 = .ok (.aload_n 0, 1) := by decide +kernel
theorem dX10_cutInTwo_36 : decode cX10_cutInTwo 36 = .ok (.getfield 105, 3) := by decide +kernel
theorem dX10_cutInTwo_39 : decode cX10_cutInTwo 39 = .ok (.if_icmp .ge 31, 3) := by decide +kernel
theorem dX10_cutInTwo_42 : decode cX10_cutInTwo 42 = .ok (.aload_n 0, 1) := by decide +kernel
theorem dX10_cutInTwo_43 : decode cX10_cutInTwo 43 = .ok (.getfield 23, 3) := by decide +kernel
theorem dX10_cutInTwo_46 : decode cX10_cutInTwo 46 = .ok (.bipush 12, 2) := by decide +kernel
theorem dX10_cutInTwo_48 : decode cX10_cutInTwo 48 = .ok (.iload_n 2, 1) := by decide +kernel
theorem dX10_cutInTwo_49 : decode cX10_cutInTwo 49 = .ok (.imul, 1) := by decide +kernel
theorem dX10_cutInTwo_50 : decode cX10_cutInTwo 50 = .ok (.iload_n 3, 1) := by decide +kernel
theorem dX10_cutInTwo_51 : decode cX10_cutInTwo 51 = .ok (.iadd, 1) := by decide +kernel
theorem dX10_cutInTwo_52 : decode cX10_cutInTwo 52 = .ok (.aload_n 0, 1) := by decide +kernel
theorem dX10_cutInTwo_53 : decode cX10_cutInTwo 53 = .ok (.getfield 23, 3) := by decide +kernel
theorem dX10_cutInTwo_56 : decode cX10_cutInTwo 56 = .ok (.bipush 12, 2) := by decide +kernel
theorem dX10_cutInTwo_58 : decode cX10_cutInTwo 58 = .ok (.iload_n 1, 1) := by decide +kernel
theorem dX10_cutInTwo_59 : decode cX10_cutInTwo 59 = .ok (.imul, 1) := by decide +kernel
theorem dX10_cutInTwo_60 : decode cX10_cutInTwo 60 = .ok (.iload_n 3, 1) := by decide +kernel
theorem dX10_cutInTwo_61 : decode cX10_cutInTwo 61 = .ok (.iadd, 1) := by decide +kernel
theorem dX10_cutInTwo_62 : decode cX10_cutInTwo 62 = .ok (.iaload, 1) := by decide +kernel
theorem dX10_cutInTwo_63 : decode cX10_cutInTwo 63 = .ok (.iastore, 1) := by decide +kernel
theorem dX10_cutInTwo_64 : decode cX10_cutInTwo 64 = .ok (.iinc 3 1, 3) := by decide +kernel
theorem dX10_cutInTwo_67 : decode cX10_cutInTwo 67 = .ok (.goto (-33), 3) := by decide +kernel
theorem dX10_cutInTwo_70 : decode cX10_cutInTwo 70 = .ok (.aload_n 0, 1) := by decide +kernel
theorem dX10_cutInTwo_71 : decode cX10_cutInTwo 71 = .ok (.getfield 20, 3) := by decide +kernel
theorem dX10_cutInTwo_74 : decode cX10_cutInTwo 74 = .ok (.iload_n 1, 1) := by decide +kernel
theorem dX10_cutInTwo_75 : decode cX10_cutInTwo 75 = .ok (.aload_n 0, 1) := by decide +kernel
theorem dX10_cutInTwo_76 : decode cX10_cutInTwo 76 = .ok (.getfield 23, 3) := by decide +kernel
theorem dX10_cutInTwo_79 : decode cX10_cutInTwo 79 = .ok (.bipush 12, 2) := by decide +kernel
theorem dX10_cutInTwo_81 : decode cX10_cutInTwo 81 = .ok (.iload_n 1, 1) := by decide +kernel
theorem dX10_cutInTwo_82 : decode cX10_cutInTwo 82 = .ok (.imul, 1) := by decide +kernel
theorem dX10_cutInTwo_83 : decode cX10_cutInTwo 83 = .ok (.aload_n 0, 1) := by decide +kernel
theorem dX10_cutInTwo_84 : decode cX10_cutInTwo 84 = .ok (.getfield 105, 3) := by decide +kernel
theorem dX10_cutInTwo_87 : decode cX10_cutInTwo 87 = .ok (.iadd, 1) := by decide +kernel
theorem dX10_cutInTwo_88 : decode cX10_cutInTwo 88 = .ok (.iaload, 1) := by decide +kernel
theorem dX10_cutInTwo_89 : decode cX10_cutInTwo 89 = .ok (.iastore, 1) := by decide +kernel
theorem dX10_cutInTwo_90 : decode cX10_cutInTwo 90 = .ok (.aload_n 0, 1) := by decide +kernel
theorem dX10_cutInTwo_91 : decode cX10_cutInTwo 91 = .ok (.getfield 17, 3) := by decide +kernel
theorem dX10_cutInTwo_94 : decode cX10_cutInTwo 94 = .ok (.iload_n 1, 1) := by decide +kernel
theorem dX10_cutInTwo_95 : decode cX10_cutInTwo 95 = .ok (.iload_n 2, 1) := by decide +kernel
theorem dX10_cutInTwo_96 : decode cX10_cutInTwo 96 = .ok (.iastore, 1) := by decide +kernel
theorem dX10_cutInTwo_97 : decode cX10_cutInTwo 97 = .ok (.aload_n 0, 1) := by decide +kernel
theorem dX10_cutInTwo_98 : decode cX10_cutInTwo 98 = .ok (.getfield 26, 3) := by decide +kernel
theorem dX10_cutInTwo_101 : decode cX10_cutInTwo 101 = .ok (.iload_n 1, 1) := by decide +kernel
theorem dX10_cutInTwo_102 : decode cX10_cutInTwo 102 = .ok (.dup2, 1) := by decide +kernel
theorem dX10_cutInTwo_103 : decode cX10_cutInTwo 103 = .ok (.iaload, 1) := by decide +kernel
theorem dX10_cutInTwo_104 : decode cX10_cutInTwo 104 = .ok (.aload_n 0, 1) := by decide +kernel
theorem dX10_cutInTwo_105 : decode cX10_cutInTwo 105 = .ok (.getfield 105, 3) := by decide +kernel
theorem dX10_cutInTwo_108 : decode cX10_cutInTwo 108 = .ok (.iconst 1, 1) := by decide +kernel
theorem dX10_cutInTwo_109 : decode cX10_cutInTwo 109 = .ok (.iadd, 1) := by decide +kernel
theorem dX10_cutInTwo_110 : decode cX10_cutInTwo 110 = .ok (.isub, 1) := by decide +kernel
theorem dX10_cutInTwo_111 : decode cX10_cutInTwo 111 = .ok (.iastore, 1) := by decide +kernel
theorem dX10_cutInTwo_112 : decode cX10_cutInTwo 112 = .ok (.iconst 0, 1) := by decide +kernel
theorem dX10_cutInTwo_113 : decode cX10_cutInTwo 113 = .ok (.istore_n 3, 1) := by decide +kernel
theorem dX10_cutInTwo_114 : decode cX10_cutInTwo 114 = .ok (.iload_n 3, 1) := by decide +kernel
theorem dX10_cutInTwo_115 : decode cX10_cutInTwo 115 = .ok (.aload_n 0, 1) := by decide +kernel
theorem dX10_cutInTwo_116 : decode cX10_cutInTwo 116 = .ok (.getfield 26, 3) := by decide +kernel
theorem dX10_cutInTwo_119 : decode cX10_cutInTwo 119 = .ok (.iload_n 1, 1) := by decide +kernel
theorem dX10_cutInTwo_120 : decode cX10_cutInTwo 120 = .ok (.iaload, 1) := by decide +kernel
theorem dX10_cutInTwo_121 : decode cX10_cutInTwo 121 = .ok (.if_icmp .ge 38, 3) := by decide +kernel
theorem dX10_cutInTwo_124 : decode cX10_cutInTwo 124 = .ok (.aload_n 0, 1) := by decide +kernel
theorem dX10_cutInTwo_125 : decode cX10_cutInTwo 125 = .ok (.getfield 23, 3) := by decide +kernel
theorem dX10_cutInTwo_128 : decode cX10_cutInTwo 128 = .ok (.bipush 12, 2) := by decide +kernel
theorem dX10_cutInTwo_130 : decode cX10_cutInTwo 130 = .ok (.iload_n 1, 1) := by decide +kernel
theorem dX10_cutInTwo_131 : decode cX10_cutInTwo 131 = .ok (.imul, 1) := by decide +kernel
theorem dX10_cutInTwo_132 : decode cX10_cutInTwo 132 = .ok (.iload_n 3, 1) := by decide +kernel
theorem dX10_cutInTwo_133 : decode cX10_cutInTwo 133 = .ok (.iadd, 1) := by decide +kernel
theorem dX10_cutInTwo_134 : decode cX10_cutInTwo 134 = .ok (.aload_n 0, 1) := by decide +kernel
theorem dX10_cutInTwo_135 : decode cX10_cutInTwo 135 = .ok (.getfield 23, 3) := by decide +kernel
theorem dX10_cutInTwo_138 : decode cX10_cutInTwo 138 = .ok (.bipush 12, 2) := by decide +kernel
theorem dX10_cutInTwo_140 : decode cX10_cutInTwo 140 = .ok (.iload_n 1, 1) := by decide +kernel
theorem dX10_cutInTwo_141 : decode cX10_cutInTwo 141 = .ok (.imul, 1) := by decide +kernel
theorem dX10_cutInTwo_142 : decode cX10_cutInTwo 142 = .ok (.iload_n 3, 1) := by decide +kernel
theorem dX10_cutInTwo_143 : decode cX10_cutInTwo 143 = .ok (.iadd, 1) := by decide +kernel
theorem dX10_cutInTwo_144 : decode cX10_cutInTwo 144 = .ok (.aload_n 0, 1) := by decide +kernel
theorem dX10_cutInTwo_145 : decode cX10_cutInTwo 145 = .ok (.getfield 105, 3) := by decide +kernel
theorem dX10_cutInTwo_148 : decode cX10_cutInTwo 148 = .ok (.iadd, 1) := by decide +kernel
theorem dX10_cutInTwo_149 : decode cX10_cutInTwo 149 = .ok (.iconst 1, 1) := by decide +kernel
theorem dX10_cutInTwo_150 : decode cX10_cutInTwo 150 = .ok (.iadd, 1) := by decide +kernel
theorem dX10_cutInTwo_151 : decode cX10_cutInTwo 151 = .ok (.iaload, 1) := by decide +kernel
theorem dX10_cutInTwo_152 : decode cX10_cutInTwo 152 = .ok (.iastore, 1) := by decide +kernel
theorem dX10_cutInTwo_153 : decode cX10_cutInTwo 153 = .ok (.iinc 3 1, 3) := by decide +kernel
theorem dX10_cutInTwo_156 : decode cX10_cutInTwo 156 = .ok (.goto (-42), 3) := by decide +kernel
theorem dX10_cutInTwo_159 : decode cX10_cutInTwo 159 = .ok (.aload_n 0, 1) := by decide +kernel
theorem dX10_cutInTwo_160 : decode cX10_cutInTwo 160 = .ok (.getfield 75, 3) := by decide +kernel
theorem dX10_cutInTwo_163 : decode cX10_cutInTwo 163 = .ok (.iload_n 1, 1) := by decide +kernel
theorem dX10_cutInTwo_164 : decode cX10_cutInTwo 164 = .ok (.if_icmp .ne 8, 3) := by decide +kernel
theorem dX10_cutInTwo_167 : decode cX10_cutInTwo 167 = .ok (.aload_n 0, 1) := by decide +kernel
theorem dX10_cutInTwo_168 : decode cX10_cutInTwo 168 = .ok (.iload_n 2, 1) := by decide +kernel
theorem dX10_cutInTwo_169 : decode cX10_cutInTwo 169 = .ok (.putfield 75, 3) := by decide +kernel
theorem dX10_cutInTwo_172 : decode cX10_cutInTwo 172 = .ok (.aload_n 0, 1) := by decide +kernel
theorem dX10_cutInTwo_173 : decode cX10_cutInTwo 173 = .ok (.iload_n 1, 1) := by decide +kernel
theorem dX10_cutInTwo_174 : decode cX10_cutInTwo 174 = .ok (.invokevirtual 127, 3) := by decide +kernel
theorem dX10_cutInTwo_177 : decode cX10_cutInTwo 177 = .ok (.aload_n 0, 1) := by decide +kernel
theorem dX10_cutInTwo_178 : decode cX10_cutInTwo 178 = .ok (.iload_n 2, 1) := by decide +kernel
theorem dX10_cutInTwo_179 : decode cX10_cutInTwo 179 = .ok (.putfield 99, 3) := by decide +kernel
theorem dX10_cutInTwo_182 : decode cX10_cutInTwo 182 = .ok (.return_, 1) := by decide +kernel
set_option maxRecDepth 100000 in
set_option maxHeartbeats 4000000 in
theorem bX10_cutInTwo_114 {l : Launch} {g : xG} (a0 : Nat) (x1 : Int32) (x2 : Int32) (x3 : Int32) {M : xM} {Q : Option Value → xM → Prop} (h : (xat M a0 7 ∧ (∃ a2, (xR M a0 8) = some a2 ∧ ∃ i4, xai M a2 9 x1 i4 ∧ (((xI M a2 i4) ≤ x3 → ((¬ (xI M a0 14) = x1 → (xSp l g mX10_freshen 0 0 [va_rf (some a0), .int x1] M (fun ρ8 M7 => ρ8 = none ∧ (xat M7 a0 7 ∧ (Q none (xsI M7 a0 20 x2)))))) ∧ ((xI M a0 14) = x1 → (xSp l g mX10_freshen 0 0 [va_rf (some a0), .int x1] (xsI M a0 14 x2) (fun ρ13 M12 => ρ13 = none ∧ (xat M12 a0 7 ∧ (Q none (xsI M12 a0 20 x2)))))))) ∧ (¬ (xI M a2 i4) ≤ x3 → (∃ a17, (xR M a0 7) = some a17 ∧ ∃ i19, xai M a17 9 ((((12 * x1) + x3) + (xI M a0 21)) + 1) i19 ∧ (∃ i21, xai M a17 9 ((12 * x1) + x3) i21 ∧ xWp l g mX10_cutInTwo 0 0 114 [(1, va_rf (some a0)), (1, .int x1), (1, .int x2), (1, .int (x3 + 1))] [] (0, 0) (xsI M a17 i21 (xI M a17 i19)) Q))))))) : xWp l g mX10_cutInTwo 0 0 114 [(1, va_rf (some a0)), (1, .int x1), (1, .int x2), (1, .int x3)] [] (0, 0) M Q := by
  refine xr_iload_n 3 dX10_cutInTwo_114 rfl rfl ?_
  refine xr_aload_n 0 dX10_cutInTwo_115 rfl rfl ?_
  obtain ⟨t1, h⟩ := h
  refine yr_getR dX10_cutInTwo_116 fl_RX10_26 rfl t1 ?_
  refine xr_iload_n 1 dX10_cutInTwo_119 rfl rfl ?_
  obtain ⟨a2, e3, h⟩ := h
  obtain ⟨i4, t5, h⟩ := h
  refine yr_iald dX10_cutInTwo_120 e3 t5 ?_
  obtain ⟨ht, hf⟩ := h
  refine xr_icmp_ge 159 dX10_cutInTwo_121 (by decide) (fun c23 => ?_) (fun c23 => ?_)
  · replace h := ht c23
    clear ht hf
    refine xr_aload_n 0 dX10_cutInTwo_159 rfl rfl ?_
    refine yr_getI dX10_cutInTwo_160 fl_RX10_75 rfl t1 ?_
    refine xr_iload_n 1 dX10_cutInTwo_163 rfl rfl ?_
    obtain ⟨ht, hf⟩ := h
    refine xr_icmp_ne 172 dX10_cutInTwo_164 (by decide) (fun c16 => ?_) (fun c16 => ?_)
    · replace h := ht c16
      clear ht hf
      refine xr_aload_n 0 dX10_cutInTwo_172 rfl rfl ?_
      refine xr_iload_n 1 dX10_cutInTwo_173 rfl rfl ?_
      refine yr_callV (r := (some a0)) [.int x1] dX10_cutInTwo_174 cv_X10_cutInTwo_127 rfl t1 rfl (Nat.le_trans wt_0 (by decide)) (by decide) (xSp.mono h ?_)
      clear h
      intro ρ8 M7 h
      obtain ⟨rfl, h⟩ := h
      refine xr_aload_n 0 dX10_cutInTwo_177 rfl rfl ?_
      refine xr_iload_n 2 dX10_cutInTwo_178 rfl rfl ?_
      obtain ⟨t10, h⟩ := h
      refine yr_putI dX10_cutInTwo_179 fp_RX10_99 rfl t10 ?_
      exact xr_ret (by decide) (xRv rfl dX10_cutInTwo_182) h
    · replace h := hf c16
      clear ht hf
      refine xr_aload_n 0 dX10_cutInTwo_167 rfl rfl ?_
      refine xr_iload_n 2 dX10_cutInTwo_168 rfl rfl ?_
      refine yr_putI dX10_cutInTwo_169 fp_RX10_75 rfl t1 ?_
      refine xr_aload_n 0 dX10_cutInTwo_172 rfl rfl ?_
      refine xr_iload_n 1 dX10_cutInTwo_173 rfl rfl ?_
      refine yr_callV (r := (some a0)) [.int x1] dX10_cutInTwo_174 cv_X10_cutInTwo_127 rfl t1 rfl (Nat.le_trans wt_0 (by decide)) (by decide) (xSp.mono h ?_)
      clear h
      intro ρ13 M12 h
      obtain ⟨rfl, h⟩ := h
      refine xr_aload_n 0 dX10_cutInTwo_177 rfl rfl ?_
      refine xr_iload_n 2 dX10_cutInTwo_178 rfl rfl ?_
      obtain ⟨t15, h⟩ := h
      refine yr_putI dX10_cutInTwo_179 fp_RX10_99 rfl t15 ?_
      exact xr_ret (by decide) (xRv rfl dX10_cutInTwo_182) h
  · replace h := hf c23
    clear ht hf
    refine xr_aload_n 0 dX10_cutInTwo_124 rfl rfl ?_
    refine yr_getR dX10_cutInTwo_125 fl_RX10_23 rfl t1 ?_
    refine xr_bipush 12 dX10_cutInTwo_128 (by decide) ?_
    refine xr_iload_n 1 dX10_cutInTwo_130 rfl rfl ?_
    refine xr_imul dX10_cutInTwo_131 ?_
    refine xr_iload_n 3 dX10_cutInTwo_132 rfl rfl ?_
    refine xr_iadd dX10_cutInTwo_133 ?_
    refine xr_aload_n 0 dX10_cutInTwo_134 rfl rfl ?_
    refine yr_getR dX10_cutInTwo_135 fl_RX10_23 rfl t1 ?_
    refine xr_bipush 12 dX10_cutInTwo_138 (by decide) ?_
    refine xr_iload_n 1 dX10_cutInTwo_140 rfl rfl ?_
    refine xr_imul dX10_cutInTwo_141 ?_
    refine xr_iload_n 3 dX10_cutInTwo_142 rfl rfl ?_
    refine xr_iadd dX10_cutInTwo_143 ?_
    refine xr_aload_n 0 dX10_cutInTwo_144 rfl rfl ?_
    refine yr_getI dX10_cutInTwo_145 fl_RX10_105 rfl t1 ?_
    refine xr_iadd dX10_cutInTwo_148 ?_
    refine xr_iconst 1 dX10_cutInTwo_149 (by decide) ?_
    refine xr_iadd dX10_cutInTwo_150 ?_
    obtain ⟨a17, e18, h⟩ := h
    obtain ⟨i19, t20, h⟩ := h
    refine yr_iald dX10_cutInTwo_151 e18 t20 ?_
    obtain ⟨i21, t22, h⟩ := h
    refine yr_iast dX10_cutInTwo_152 e18 t22 ?_
    refine ziinc (x3 + 1) dX10_cutInTwo_153 rfl rfl (L1 := [(1, va_rf (some a0)), (1, .int x1), (1, .int x2), (1, .int (x3 + 1))]) (by decide) rfl ?_
    refine xr_goto 114 dX10_cutInTwo_156 (by decide) ?_
    exact h
set_option maxRecDepth 100000 in
set_option maxHeartbeats 4000000 in
theorem bX10_cutInTwo_34 {l : Launch} {g : xG} (a0 : Nat) (x1 : Int32) (x2 : Int32) (x3 : Int32) {M : xM} {Q : Option Value → xM → Prop} (h : (xat M a0 7 ∧ (((xI M a0 21) ≤ x3 → (∃ a2, (xR M a0 7) = some a2 ∧ ∃ i4, xai M a2 9 ((12 * x1) + (xI M a0 21)) i4 ∧ (∃ a6, (xR M a0 6) = some a6 ∧ ∃ i8, xai M a6 9 x1 i8 ∧ (∃ a10, (xR (xsI M a6 i8 (xI M a2 i4)) a0 5) = some a10 ∧ ∃ i12, xai (xsI M a6 i8 (xI M a2 i4)) a10 9 x1 i12 ∧ (∃ a14, (xR (xsI (xsI M a6 i8 (xI M a2 i4)) a10 i12 x2) a0 8) = some a14 ∧ ∃ i16, xai (xsI (xsI M a6 i8 (xI M a2 i4)) a10 i12 x2) a14 9 x1 i16 ∧ (∃ i18, xai (xsI (xsI M a6 i8 (xI M a2 i4)) a10 i12 x2) a14 9 x1 i18 ∧ xWp l g mX10_cutInTwo 0 0 114 [(1, va_rf (some a0)), (1, .int x1), (1, .int x2), (1, .int 0)] [] (0, 0) (xsI (xsI (xsI M a6 i8 (xI M a2 i4)) a10 i12 x2) a14 i18 ((xI (xsI (xsI M a6 i8 (xI M a2 i4)) a10 i12 x2) a14 i16) - ((xI (xsI (xsI M a6 i8 (xI M a2 i4)) a10 i12 x2) a0 21) + 1))) Q)))))) ∧ (¬ (xI M a0 21) ≤ x3 → (∃ a20, (xR M a0 7) = some a20 ∧ ∃ i22, xai M a20 9 ((12 * x1) + x3) i22 ∧ (∃ i24, xai M a20 9 ((12 * x2) + x3) i24 ∧ xWp l g mX10_cutInTwo 0 0 34 [(1, va_rf (some a0)), (1, .int x1), (1, .int x2), (1, .int (x3 + 1))] [] (0, 0) (xsI M a20 i24 (xI M a20 i22)) Q)))))) : xWp l g mX10_cutInTwo 0 0 34 [(1, va_rf (some a0)), (1, .int x1), (1, .int x2), (1, .int x3)] [] (0, 0) M Q := by
  refine xr_iload_n 3 dX10_cutInTwo_34 rfl rfl ?_
  refine xr_aload_n 0 dX10_cutInTwo_35 rfl rfl ?_
  obtain ⟨t1, h⟩ := h
  refine yr_getI dX10_cutInTwo_36 fl_RX10_105 rfl t1 ?_
  obtain ⟨ht, hf⟩ := h
  refine xr_icmp_ge 70 dX10_cutInTwo_39 (by decide) (fun c26 => ?_) (fun c26 => ?_)
  · replace h := ht c26
    clear ht hf
    refine xr_aload_n 0 dX10_cutInTwo_70 rfl rfl ?_
    refine yr_getR dX10_cutInTwo_71 fl_RX10_20 rfl t1 ?_
    refine xr_iload_n 1 dX10_cutInTwo_74 rfl rfl ?_
    refine xr_aload_n 0 dX10_cutInTwo_75 rfl rfl ?_
    refine yr_getR dX10_cutInTwo_76 fl_RX10_23 rfl t1 ?_
    refine xr_bipush 12 dX10_cutInTwo_79 (by decide) ?_
    refine xr_iload_n 1 dX10_cutInTwo_81 rfl rfl ?_
    refine xr_imul dX10_cutInTwo_82 ?_
    refine xr_aload_n 0 dX10_cutInTwo_83 rfl rfl ?_
    refine yr_getI dX10_cutInTwo_84 fl_RX10_105 rfl t1 ?_
    refine xr_iadd dX10_cutInTwo_87 ?_
    obtain ⟨a2, e3, h⟩ := h
    obtain ⟨i4, t5, h⟩ := h
    refine yr_iald dX10_cutInTwo_88 e3 t5 ?_
    obtain ⟨a6, e7, h⟩ := h
    obtain ⟨i8, t9, h⟩ := h
    refine yr_iast dX10_cutInTwo_89 e7 t9 ?_
    refine xr_aload_n 0 dX10_cutInTwo_90 rfl rfl ?_
    refine yr_getR dX10_cutInTwo_91 fl_RX10_17 rfl t1 ?_
    refine xr_iload_n 1 dX10_cutInTwo_94 rfl rfl ?_
    refine xr_iload_n 2 dX10_cutInTwo_95 rfl rfl ?_
    obtain ⟨a10, e11, h⟩ := h
    obtain ⟨i12, t13, h⟩ := h
    refine yr_iast dX10_cutInTwo_96 e11 t13 ?_
    refine xr_aload_n 0 dX10_cutInTwo_97 rfl rfl ?_
    refine yr_getR dX10_cutInTwo_98 fl_RX10_26 rfl t1 ?_
    refine xr_iload_n 1 dX10_cutInTwo_101 rfl rfl ?_
    refine xr_dup2 dX10_cutInTwo_102 rfl (va_rf_cat _) ?_
    obtain ⟨a14, e15, h⟩ := h
    obtain ⟨i16, t17, h⟩ := h
    refine yr_iald dX10_cutInTwo_103 e15 t17 ?_
    refine xr_aload_n 0 dX10_cutInTwo_104 rfl rfl ?_
    refine yr_getI dX10_cutInTwo_105 fl_RX10_105 rfl t1 ?_
    refine xr_iconst 1 dX10_cutInTwo_108 (by decide) ?_
    refine xr_iadd dX10_cutInTwo_109 ?_
    refine xr_isub dX10_cutInTwo_110 ?_
    obtain ⟨i18, t19, h⟩ := h
    refine yr_iast dX10_cutInTwo_111 e15 t19 ?_
    refine xr_iconst 0 dX10_cutInTwo_112 (by decide) ?_
    refine zistore_n 3 dX10_cutInTwo_113 rfl (L1 := [(1, va_rf (some a0)), (1, .int x1), (1, .int x2), (1, .int 0)]) (by decide) rfl ?_
    exact h
  · replace h := hf c26
    clear ht hf
    refine xr_aload_n 0 dX10_cutInTwo_42 rfl rfl ?_
    refine yr_getR dX10_cutInTwo_43 fl_RX10_23 rfl t1 ?_
    refine xr_bipush 12 dX10_cutInTwo_46 (by decide) ?_
    refine xr_iload_n 2 dX10_cutInTwo_48 rfl rfl ?_
    refine xr_imul dX10_cutInTwo_49 ?_
    refine xr_iload_n 3 dX10_cutInTwo_50 rfl rfl ?_
    refine xr_iadd dX10_cutInTwo_51 ?_
    refine xr_aload_n 0 dX10_cutInTwo_52 rfl rfl ?_
    refine yr_getR dX10_cutInTwo_53 fl_RX10_23 rfl t1 ?_
    refine xr_bipush 12 dX10_cutInTwo_56 (by decide) ?_
    refine xr_iload_n 1 dX10_cutInTwo_58 rfl rfl ?_
    refine xr_imul dX10_cutInTwo_59 ?_
    refine xr_iload_n 3 dX10_cutInTwo_60 rfl rfl ?_
    refine xr_iadd dX10_cutInTwo_61 ?_
    obtain ⟨a20, e21, h⟩ := h
    obtain ⟨i22, t23, h⟩ := h
    refine yr_iald dX10_cutInTwo_62 e21 t23 ?_
    obtain ⟨i24, t25, h⟩ := h
    refine yr_iast dX10_cutInTwo_63 e21 t25 ?_
    refine ziinc (x3 + 1) dX10_cutInTwo_64 rfl rfl (L1 := [(1, va_rf (some a0)), (1, .int x1), (1, .int x2), (1, .int (x3 + 1))]) (by decide) rfl ?_
    refine xr_goto 34 dX10_cutInTwo_67 (by decide) ?_
    exact h
set_option maxRecDepth 100000 in
set_option maxHeartbeats 4000000 in
theorem bX10_cutInTwo_0 {l : Launch} {g : xG} (a0 : Nat) {M : xM} {Q : Option Value → xM → Prop} (h : (xat M a0 7 ∧ (∃ a2, (xR M a0 5) = some a2 ∧ ∃ i4, xai M a2 9 (xI M a0 20) i4 ∧ (∃ a6, (xR M a0 6) = some a6 ∧ ∃ i8, xai M a6 9 (xI M a0 20) i8 ∧ (xSp l g mX10_newNode 0 0 [va_rf (some a0), .int (xI M a2 i4), .int (xI M a6 i8)] M (fun ρ12 M11 => ∃ v10 : Int32, ρ12 = some (.int v10) ∧ (xat M11 a0 7 ∧ (∃ a15, (xR M11 a0 8) = some a15 ∧ ∃ i17, xai M11 a15 9 v10 i17 ∧ xWp l g mX10_cutInTwo 0 0 34 [(1, va_rf (some a0)), (1, .int (xI M a0 20)), (1, .int v10), (1, .int 0)] [] (0, 0) (xsI M11 a15 i17 (xI M11 a0 21)) Q)))))))) : xWp l g mX10_cutInTwo 0 0 0 [(1, va_rf (some a0)), (0, .null), (0, .null), (0, .null)] [] (0, 0) M Q := by
  refine xr_aload_n 0 dX10_cutInTwo_0 rfl rfl ?_
  obtain ⟨t1, h⟩ := h
  refine yr_getI dX10_cutInTwo_1 fl_RX10_99 rfl t1 ?_
  refine zistore_n 1 dX10_cutInTwo_4 rfl (L1 := [(1, va_rf (some a0)), (1, .int (xI M a0 20)), (0, .null), (0, .null)]) (by decide) rfl ?_
  refine xr_aload_n 0 dX10_cutInTwo_5 rfl rfl ?_
  refine xr_aload_n 0 dX10_cutInTwo_6 rfl rfl ?_
  refine yr_getR dX10_cutInTwo_7 fl_RX10_17 rfl t1 ?_
  refine xr_iload_n 1 dX10_cutInTwo_10 rfl rfl ?_
  obtain ⟨a2, e3, h⟩ := h
  obtain ⟨i4, t5, h⟩ := h
  refine yr_iald dX10_cutInTwo_11 e3 t5 ?_
  refine xr_aload_n 0 dX10_cutInTwo_12 rfl rfl ?_
  refine yr_getR dX10_cutInTwo_13 fl_RX10_20 rfl t1 ?_
  refine xr_iload_n 1 dX10_cutInTwo_16 rfl rfl ?_
  obtain ⟨a6, e7, h⟩ := h
  obtain ⟨i8, t9, h⟩ := h
  refine yr_iald dX10_cutInTwo_17 e7 t9 ?_
  refine yr_callV (r := (some a0)) [.int (xI M a2 i4), .int (xI M a6 i8)] dX10_cutInTwo_18 cv_X10_cutInTwo_71 rfl t1 rfl (Nat.le_trans wt_0 (by decide)) (by decide) (xSp.mono h ?_)
  clear h
  intro ρ12 M11 h
  obtain ⟨v10, rfl, h⟩ := h
  refine zistore_n 2 dX10_cutInTwo_21 rfl (L1 := [(1, va_rf (some a0)), (1, .int (xI M a0 20)), (1, .int v10), (0, .null)]) (by decide) rfl ?_
  refine xr_aload_n 0 dX10_cutInTwo_22 rfl rfl ?_
  obtain ⟨t14, h⟩ := h
  refine yr_getR dX10_cutInTwo_23 fl_RX10_26 rfl t14 ?_
  refine xr_iload_n 2 dX10_cutInTwo_26 rfl rfl ?_
  refine xr_aload_n 0 dX10_cutInTwo_27 rfl rfl ?_
  refine yr_getI dX10_cutInTwo_28 fl_RX10_105 rfl t14 ?_
  obtain ⟨a15, e16, h⟩ := h
  obtain ⟨i17, t18, h⟩ := h
  refine yr_iast dX10_cutInTwo_31 e16 t18 ?_
  refine xr_iconst 0 dX10_cutInTwo_32 (by decide) ?_
  refine zistore_n 3 dX10_cutInTwo_33 rfl (L1 := [(1, va_rf (some a0)), (1, .int (xI M a0 20)), (1, .int v10), (1, .int 0)]) (by decide) rfl ?_
  exact h
theorem dX10_remove_0 : decode cX10_remove 0 = .ok (.aload_n 0, 1) := by decide +kernel
theorem dX10_remove_1 : decode cX10_remove 1 = .ok (.iconst 0, 1) := by decide +kernel
theorem dX10_remove_2 : decode cX10_remove 2 = .ok (.putfield 68, 3) := by decide +kernel
theorem dX10_remove_5 : decode cX10_remove 5 = .ok (.aload_n 0, 1) := by decide +kernel
theorem dX10_remove_6 : decode cX10_remove 6 = .ok (.getfield 114, 3) := by decide +kernel
theorem dX10_remove_9 : decode cX10_remove 9 = .ok (.ifCond .eq 6, 3) := by decide +kernel
theorem dX10_remove_12 : decode cX10_remove 12 = .ok (.bipush (-4), 2) := by decide +kernel
theorem dX10_remove_14 : decode cX10_remove 14 = .ok (.ireturn, 1) := by decide +kernel
theorem dX10_remove_15 : decode cX10_remove 15 = .ok (.aload_n 0, 1) := by decide +kernel
theorem dX10_remove_16 : decode cX10_remove 16 = .ok (.invokevirtual 118, 3) := by decide +kernel
theorem dX10_remove_19 : decode cX10_remove 19 = .ok (.ifCond .ne 5, 3) := by decide +kernel
theorem dX10_remove_22 : decode cX10_remove 22 = .ok (.iconst (-1), 1) := by decide +kernel
theorem dX10_remove_23 : decode cX10_remove 23 = .ok (.ireturn, 1) := by decide +kernel
theorem dX10_remove_24 : decode cX10_remove 24 = .ok (.aload_n 0, 1) := by decide +kernel
theorem dX10_remove_25 : decode cX10_remove 25 = .ok (.invokevirtual 124, 3) := by decide +kernel
theorem dX10_remove_28 : decode cX10_remove 28 = .ok (.ifCond .ne 5, 3) := by decide +kernel
theorem dX10_remove_31 : decode cX10_remove 31 = .ok (.iconst 0, 1) := by decide +kernel
theorem dX10_remove_32 : decode cX10_remove 32 = .ok (.ireturn, 1) := by decide +kernel
theorem dX10_remove_33 : decode cX10_remove 33 = .ok (.aload_n 0, 1) := by decide +kernel
theorem dX10_remove_34 : decode cX10_remove 34 = .ok (.getfield 99, 3) := by decide +kernel
theorem dX10_remove_37 : decode cX10_remove 37 = .ok (.istore_n 1, 1) := by decide +kernel
theorem dX10_remove_38 : decode cX10_remove 38 = .ok (.aload_n 0, 1) := by decide +kernel
theorem dX10_remove_39 : decode cX10_remove 39 = .ok (.getfield 29, 3) := by decide +kernel
theorem dX10_remove_42 : decode cX10_remove 42 = .ok (.iload_n 1, 1) := by decide +kernel
theorem dX10_remove_43 : decode cX10_remove 43 = .ok (.iconst 0, 1) := by decide +kernel
theorem dX10_remove_44 : decode cX10_remove 44 = .ok (.bastore, 1) := by decide +kernel
theorem dX10_remove_45 : decode cX10_remove 45 = .ok (.aload_n 0, 1) := by decide +kernel
theorem dX10_remove_46 : decode cX10_remove 46 = .ok (.getfield 32, 3) := by decide +kernel
theorem dX10_remove_49 : decode cX10_remove 49 = .ok (.iload_n 1, 1) := by decide +kernel
theorem dX10_remove_50 : decode cX10_remove 50 = .ok (.lconst 0, 1) := by decide +kernel
theorem dX10_remove_51 : decode cX10_remove 51 = .ok (.lastore, 1) := by decide +kernel
theorem dX10_remove_52 : decode cX10_remove 52 = .ok (.aload_n 0, 1) := by decide +kernel
theorem dX10_remove_53 : decode cX10_remove 53 = .ok (.iload_n 1, 1) := by decide +kernel
theorem dX10_remove_54 : decode cX10_remove 54 = .ok (.invokevirtual 127, 3) := by decide +kernel
theorem dX10_remove_57 : decode cX10_remove 57 = .ok (.aload_n 0, 1) := by decide +kernel
theorem dX10_remove_58 : decode cX10_remove 58 = .ok (.iload_n 1, 1) := by decide +kernel
theorem dX10_remove_59 : decode cX10_remove 59 = .ok (.invokevirtual 131, 3) := by decide +kernel
theorem dX10_remove_62 : decode cX10_remove 62 = .ok (.ifCond .ne 92, 3) := by decide +kernel
theorem dX10_remove_65 : decode cX10_remove 65 = .ok (.iload_n 1, 1) := by decide +kernel
theorem dX10_remove_66 : decode cX10_remove 66 = .ok (.aload_n 0, 1) := by decide +kernel
theorem dX10_remove_67 : decode cX10_remove 67 = .ok (.getfield 75, 3) := by decide +kernel
theorem dX10_remove_70 : decode cX10_remove 70 = .ok (.if_icmp .eq 84, 3) := by decide +kernel
theorem dX10_remove_73 : decode cX10_remove 73 = .ok (.aload_n 0, 1) := by decide +kernel
theorem dX10_remove_74 : decode cX10_remove 74 = .ok (.getfield 13, 3) := by decide +kernel
theorem dX10_remove_77 : decode cX10_remove 77 = .ok (.iload_n 1, 1) := by decide +kernel
theorem dX10_remove_78 : decode cX10_remove 78 = .ok (.iconst 0, 1) := by decide +kernel
theorem dX10_remove_79 : decode cX10_remove 79 = .ok (.bastore, 1) := by decide +kernel
theorem dX10_remove_80 : decode cX10_remove 80 = .ok (.aload_n 0, 1) := by decide +kernel
theorem dX10_remove_81 : decode cX10_remove 81 = .ok (.getfield 17, 3) := by decide +kernel
theorem dX10_remove_84 : decode cX10_remove 84 = .ok (.iload_n 1, 1) := by decide +kernel
theorem dX10_remove_85 : decode cX10_remove 85 = .ok (.iaload, 1) := by decide +kernel
theorem dX10_remove_86 : decode cX10_remove 86 = .ok (.istore_n 1, 1) := by decide +kernel
theorem dX10_remove_87 : decode cX10_remove 87 = .ok (.aload_n 0, 1) := by decide +kernel
theorem dX10_remove_88 : decode cX10_remove 88 = .ok (.iload_n 1, 1) := by decide +kernel
theorem dX10_remove_89 : decode cX10_remove 89 = .ok (.invokevirtual 131, 3) := by decide +kernel
theorem dX10_remove_92 : decode cX10_remove 92 = .ok (.istore_n 2, 1) := by decide +kernel
theorem dX10_remove_93 : decode cX10_remove 93 = .ok (.aload_n 0, 1) := by decide +kernel
theorem dX10_remove_94 : decode cX10_remove 94 = .ok (.getfield 36, 3) := by decide +kernel
theorem dX10_remove_97 : decode cX10_remove 97 = .ok (.iload_n 1, 1) := by decide +kernel
theorem dX10_remove_98 : decode cX10_remove 98 = .ok (.iaload, 1) := by decide +kernel
theorem dX10_remove_99 : decode cX10_remove 99 = .ok (.iconst 2, 1) := by decide +kernel
theorem dX10_remove_100 : decode cX10_remove 100 = .ok (.if_icmp .ne 7, 3) := by decide +kernel
theorem dX10_remove_103 : decode cX10_remove 103 = .ok (.iconst 3, 1) := by decide +kernel
theorem dX10_remove_104 : decode cX10_remove 104 = .ok (.goto 34, 3) := by decide +kernel
theorem dX10_remove_107 : decode cX10_remove 107 = .ok (.aload_n 0, 1) := by decide +kernel
theorem dX10_remove_108 : decode cX10_remove 108 = .ok (.getfield 36, 3) := by decide +kernel
theorem dX10_remove_111 : decode cX10_remove 111 = .ok (.iload_n 1, 1) := by decide +kernel
theorem dX10_remove_112 : decode cX10_remove 112 = .ok (.iaload, 1) := by decide +kernel
theorem dX10_remove_113 : decode cX10_remove 113 = .ok (.iconst 3, 1) := by decide +kernel
theorem dX10_remove_114 : decode cX10_remove 114 = .ok (.if_icmp .ne 8, 3) := by decide +kernel
theorem dX10_remove_117 : decode cX10_remove 117 = .ok (.bipush 12, 2) := by decide +kernel
theorem dX10_remove_119 : decode cX10_remove 119 = .ok (.goto 19, 3) := by decide +kernel
theorem dX10_remove_122 : decode cX10_remove 122 = .ok (.aload_n 0, 1) := by decide +kernel
theorem dX10_remove_123 : decode cX10_remove 123 = .ok (.getfield 36, 3) := by decide +kernel
theorem dX10_remove_126 : decode cX10_remove 126 = .ok (.iload_n 1, 1) := by decide +kernel
theorem dX10_remove_127 : decode cX10_remove 127 = .ok (.iaload, 1) := by decide +kernel
theorem dX10_remove_128 : decode cX10_remove 128 = .ok (.iconst 4, 1) := by decide +kernel
theorem dX10_remove_129 : decode cX10_remove 129 = .ok (.if_icmp .ne 8, 3) := by decide +kernel
theorem dX10_remove_132 : decode cX10_remove 132 = .ok (.bipush 40, 2) := by decide +kernel
theorem dX10_remove_134 : decode cX10_remove 134 = .ok (.goto 4, 3) := by decide +kernel
theorem dX10_remove_137 : decode cX10_remove 137 = .ok (.iconst (-1), 1) := by decide +kernel
theorem dX10_remove_138 : decode cX10_remove 138 = .ok (.istore_n 3, 1) := by decide +kernel
theorem dX10_remove_139 : decode cX10_remove 139 = .ok (.iload_n 2, 1) := by decide +kernel
theorem dX10_remove_140 : decode cX10_remove 140 = .ok (.iload_n 3, 1) := by decide +kernel
theorem dX10_remove_141 : decode cX10_remove 141 = .ok (.if_icmp .gt 13, 3) := by decide +kernel
theorem dX10_remove_144 : decode cX10_remove 144 = .ok (.aload_n 0, 1) := by decide +kernel
theorem dX10_remove_145 : decode cX10_remove 145 = .ok (.getfield 36, 3) := by decide +kernel
theorem dX10_remove_148 : decode cX10_remove 148 = .ok (.iload_n 1, 1) := by decide +kernel
theorem dX10_remove_149 : decode cX10_remove 149 = .ok (.dup2, 1) := by decide +kernel
theorem dX10_remove_150 : decode cX10_remove 150 = .ok (.iaload, 1) := by decide +kernel
theorem dX10_remove_151 : decode cX10_remove 151 = .ok (.iconst 1, 1) := by decide +kernel
theorem dX10_remove_152 : decode cX10_remove 152 = .ok (.isub, 1) := by decide +kernel
theorem dX10_remove_153 : decode cX10_remove 153 = .ok (.iastore, 1) := by decide +kernel
theorem dX10_remove_154 : decode cX10_remove 154 = .ok (.aload_n 0, 1) := by decide +kernel
theorem dX10_remove_155 : decode cX10_remove 155 = .ok (.iload_n 1, 1) := by decide +kernel
theorem dX10_remove_156 : decode cX10_remove 156 = .ok (.invokevirtual 131, 3) := by decide +kernel
theorem dX10_remove_159 : decode cX10_remove 159 = .ok (.ifCond .ne 29, 3) := by decide +kernel
theorem dX10_remove_162 : decode cX10_remove 162 = .ok (.aload_n 0, 1) := by decide +kernel
theorem dX10_remove_163 : decode cX10_remove 163 = .ok (.getfield 29, 3) := by decide +kernel
theorem dX10_remove_166 : decode cX10_remove 166 = .ok (.iload_n 1, 1) := by decide +kernel
theorem dX10_remove_167 : decode cX10_remove 167 = .ok (.baload, 1) := by decide +kernel
theorem dX10_remove_168 : decode cX10_remove 168 = .ok (.ifCond .ne 20, 3) := by decide +kernel
theorem dX10_remove_171 : decode cX10_remove 171 = .ok (.aload_n 0, 1) := by decide +kernel
theorem dX10_remove_172 : decode cX10_remove 172 = .ok (.getfield 26, 3) := by decide +kernel
theorem dX10_remove_175 : decode cX10_remove 175 = .ok (.iload_n 1, 1) := by decide +kernel
theorem dX10_remove_176 : decode cX10_remove 176 = .ok (.iconst 0, 1) := by decide +kernel
theorem dX10_remove_177 : decode cX10_remove 177 = .ok (.iastore, 1) := by decide +kernel
theorem dX10_remove_178 : decode cX10_remove 178 = .ok (.aload_n 0, 1) := by decide +kernel
theorem dX10_remove_179 : decode cX10_remove 179 = .ok (.getfield 36, 3) := by decide +kernel
theorem dX10_remove_182 : decode cX10_remove 182 = .ok (.iload_n 1, 1) := by decide +kernel
theorem dX10_remove_183 : decode cX10_remove 183 = .ok (.iconst 1, 1) := by decide +kernel
theorem dX10_remove_184 : decode cX10_remove 184 = .ok (.iastore, 1) := by decide +kernel
theorem dX10_remove_185 : decode cX10_remove 185 = .ok (.goto 26, 3) := by decide +kernel
theorem dX10_remove_188 : decode cX10_remove 188 = .ok (.aload_n 0, 1) := by decide +kernel
theorem dX10_remove_189 : decode cX10_remove 189 = .ok (.iload_n 1, 1) := by decide +kernel
theorem dX10_remove_190 : decode cX10_remove 190 = .ok (.invokevirtual 131, 3) := by decide +kernel
theorem dX10_remove_193 : decode cX10_remove 193 = .ok (.iconst 1, 1) := by decide +kernel
theorem dX10_remove_194 : decode cX10_remove 194 = .ok (.if_icmp .ne 17, 3) := by decide +kernel
theorem dX10_remove_197 : decode cX10_remove 197 = .ok (.aload_n 0, 1) := by decide +kernel
theorem dX10_remove_198 : decode cX10_remove 198 = .ok (.getfield 29, 3) := by decide +kernel
theorem dX10_remove_201 : decode cX10_remove 201 = .ok (.iload_n 1, 1) := by decide +kernel
theorem dX10_remove_202 : decode cX10_remove 202 = .ok (.baload, 1) := by decide +kernel
theorem dX10_remove_203 : decode cX10_remove 203 = .ok (.ifCond .ne 8, 3) := by decide +kernel
theorem dX10_remove_206 : decode cX10_remove 206 = .ok (.aload_n 0, 1) := by decide +kernel
theorem dX10_remove_207 : decode cX10_remove 207 = .ok (.iload_n 1, 1) := by decide +kernel
theorem dX10_remove_208 : decode cX10_remove 208 = .ok (.invokevirtual 152, 3) := by decide +kernel
theorem dX10_remove_211 : decode cX10_remove 211 = .ok (.iconst 1, 1) := by decide +kernel
theorem dX10_remove_212 : decode cX10_remove 212 = .ok (.ireturn, 1) := by decide +kernel
set_option maxRecDepth 100000 in
set_option maxHeartbeats 4000000 in
theorem bX10_remove_154 {l : Launch} {g : xG} (a0 : Nat) (x1 : Int32) (w2 : Value) (w3 : Value) {M : xM} {Q : Option Value → xM → Prop} (h : (xat M a0 7 ∧ xSp l g mX10_children 0 0 [va_rf (some a0), .int x1] M (fun ρ3 M2 => ∃ v1 : Int32, ρ3 = some (.int v1) ∧ ((¬ v1 = 0 → (xat M2 a0 7 ∧ xSp l g mX10_children 0 0 [va_rf (some a0), .int x1] M2 (fun ρ8 M7 => ∃ v6 : Int32, ρ8 = some (.int v6) ∧ ((¬ v6 = 1 → (Q (some (.int 1)) M7)) ∧ (v6 = 1 → (xat M7 a0 7 ∧ (∃ a12, (xR M7 a0 9) = some a12 ∧ ∃ i14, xai M7 a12 11 x1 i14 ∧ ((¬ (xI M7 a12 i14) = 0 → (Q (some (.int 1)) M7)) ∧ ((xI M7 a12 i14) = 0 → (xSp l g mX10_putTogether 0 0 [va_rf (some a0), .int x1] M7 (fun ρ18 M17 => ρ18 = none ∧ (Q (some (.int 1)) M17)))))))))))) ∧ (v1 = 0 → (xat M2 a0 7 ∧ (∃ a23, (xR M2 a0 9) = some a23 ∧ ∃ i25, xai M2 a23 11 x1 i25 ∧ ((¬ (xI M2 a23 i25) = 0 → (xSp l g mX10_children 0 0 [va_rf (some a0), .int x1] M2 (fun ρ29 M28 => ∃ v27 : Int32, ρ29 = some (.int v27) ∧ ((¬ v27 = 1 → (Q (some (.int 1)) M28)) ∧ (v27 = 1 → (xat M28 a0 7 ∧ (∃ a32, (xR M28 a0 9) = some a32 ∧ ∃ i34, xai M28 a32 11 x1 i34 ∧ ((¬ (xI M28 a32 i34) = 0 → (Q (some (.int 1)) M28)) ∧ ((xI M28 a32 i34) = 0 → (xSp l g mX10_putTogether 0 0 [va_rf (some a0), .int x1] M28 (fun ρ38 M37 => ρ38 = none ∧ (Q (some (.int 1)) M37)))))))))))) ∧ ((xI M2 a23 i25) = 0 → (∃ a42, (xR M2 a0 8) = some a42 ∧ ∃ i44, xai M2 a42 9 x1 i44 ∧ (∃ a46, (xR (xsI M2 a42 i44 0) a0 11) = some a46 ∧ ∃ i48, xai (xsI M2 a42 i44 0) a46 9 x1 i48 ∧ (Q (some (.int 1)) (xsI (xsI M2 a42 i44 0) a46 i48 1))))))))))))) : xWp l g mX10_remove 0 0 154 [(1, va_rf (some a0)), (1, .int x1), (0, w2), (0, w3)] [] (0, 0) M Q := by
  refine xr_aload_n 0 dX10_remove_154 rfl rfl ?_
  refine xr_iload_n 1 dX10_remove_155 rfl rfl ?_
  obtain ⟨t5, h⟩ := h
  refine yr_callV (r := (some a0)) [.int x1] dX10_remove_156 cv_X10_remove_131 rfl t5 rfl (Nat.le_trans wt_0 (by decide)) (by decide) (xSp.mono h ?_)
  clear h
  intro ρ3 M2 h
  obtain ⟨v1, rfl, h⟩ := h
  obtain ⟨ht, hf⟩ := h
  refine xr_if_ne 188 dX10_remove_159 (by decide) (fun c51 => ?_) (fun c51 => ?_)
  · replace h := ht c51
    clear ht hf
    refine xr_aload_n 0 dX10_remove_188 rfl rfl ?_
    refine xr_iload_n 1 dX10_remove_189 rfl rfl ?_
    obtain ⟨t10, h⟩ := h
    refine yr_callV (r := (some a0)) [.int x1] dX10_remove_190 cv_X10_remove_131 rfl t10 rfl (Nat.le_trans wt_0 (by decide)) (by decide) (xSp.mono h ?_)
    clear h
    intro ρ8 M7 h
    obtain ⟨v6, rfl, h⟩ := h
    refine xr_iconst 1 dX10_remove_193 (by decide) ?_
    obtain ⟨ht, hf⟩ := h
    refine xr_icmp_ne 211 dX10_remove_194 (by decide) (fun c21 => ?_) (fun c21 => ?_)
    · replace h := ht c21
      clear ht hf
      refine xr_iconst 1 dX10_remove_211 (by decide) ?_
      exact xr_retv (by decide) (xRi rfl rfl dX10_remove_212) h
    · replace h := hf c21
      clear ht hf
      refine xr_aload_n 0 dX10_remove_197 rfl rfl ?_
      obtain ⟨t11, h⟩ := h
      refine yr_getR dX10_remove_198 fl_RX10_29 rfl t11 ?_
      refine xr_iload_n 1 dX10_remove_201 rfl rfl ?_
      obtain ⟨a12, e13, h⟩ := h
      obtain ⟨i14, t15, h⟩ := h
      refine yr_zald dX10_remove_202 e13 t15 ?_
      obtain ⟨ht, hf⟩ := h
      refine xr_if_ne 211 dX10_remove_203 (by decide) (fun c20 => ?_) (fun c20 => ?_)
      · replace h := ht c20
        clear ht hf
        refine xr_iconst 1 dX10_remove_211 (by decide) ?_
        exact xr_retv (by decide) (xRi rfl rfl dX10_remove_212) h
      · replace h := hf c20
        clear ht hf
        refine xr_aload_n 0 dX10_remove_206 rfl rfl ?_
        refine xr_iload_n 1 dX10_remove_207 rfl rfl ?_
        refine yr_callV (r := (some a0)) [.int x1] dX10_remove_208 cv_X10_remove_152 rfl t11 rfl (Nat.le_trans wt_0 (by decide)) (by decide) (xSp.mono h ?_)
        clear h
        intro ρ18 M17 h
        obtain ⟨rfl, h⟩ := h
        refine xr_iconst 1 dX10_remove_211 (by decide) ?_
        exact xr_retv (by decide) (xRi rfl rfl dX10_remove_212) h
  · replace h := hf c51
    clear ht hf
    refine xr_aload_n 0 dX10_remove_162 rfl rfl ?_
    obtain ⟨t22, h⟩ := h
    refine yr_getR dX10_remove_163 fl_RX10_29 rfl t22 ?_
    refine xr_iload_n 1 dX10_remove_166 rfl rfl ?_
    obtain ⟨a23, e24, h⟩ := h
    obtain ⟨i25, t26, h⟩ := h
    refine yr_zald dX10_remove_167 e24 t26 ?_
    obtain ⟨ht, hf⟩ := h
    refine xr_if_ne 188 dX10_remove_168 (by decide) (fun c50 => ?_) (fun c50 => ?_)
    · replace h := ht c50
      clear ht hf
      refine xr_aload_n 0 dX10_remove_188 rfl rfl ?_
      refine xr_iload_n 1 dX10_remove_189 rfl rfl ?_
      refine yr_callV (r := (some a0)) [.int x1] dX10_remove_190 cv_X10_remove_131 rfl t22 rfl (Nat.le_trans wt_0 (by decide)) (by decide) (xSp.mono h ?_)
      clear h
      intro ρ29 M28 h
      obtain ⟨v27, rfl, h⟩ := h
      refine xr_iconst 1 dX10_remove_193 (by decide) ?_
      obtain ⟨ht, hf⟩ := h
      refine xr_icmp_ne 211 dX10_remove_194 (by decide) (fun c41 => ?_) (fun c41 => ?_)
      · replace h := ht c41
        clear ht hf
        refine xr_iconst 1 dX10_remove_211 (by decide) ?_
        exact xr_retv (by decide) (xRi rfl rfl dX10_remove_212) h
      · replace h := hf c41
        clear ht hf
        refine xr_aload_n 0 dX10_remove_197 rfl rfl ?_
        obtain ⟨t31, h⟩ := h
        refine yr_getR dX10_remove_198 fl_RX10_29 rfl t31 ?_
        refine xr_iload_n 1 dX10_remove_201 rfl rfl ?_
        obtain ⟨a32, e33, h⟩ := h
        obtain ⟨i34, t35, h⟩ := h
        refine yr_zald dX10_remove_202 e33 t35 ?_
        obtain ⟨ht, hf⟩ := h
        refine xr_if_ne 211 dX10_remove_203 (by decide) (fun c40 => ?_) (fun c40 => ?_)
        · replace h := ht c40
          clear ht hf
          refine xr_iconst 1 dX10_remove_211 (by decide) ?_
          exact xr_retv (by decide) (xRi rfl rfl dX10_remove_212) h
        · replace h := hf c40
          clear ht hf
          refine xr_aload_n 0 dX10_remove_206 rfl rfl ?_
          refine xr_iload_n 1 dX10_remove_207 rfl rfl ?_
          refine yr_callV (r := (some a0)) [.int x1] dX10_remove_208 cv_X10_remove_152 rfl t31 rfl (Nat.le_trans wt_0 (by decide)) (by decide) (xSp.mono h ?_)
          clear h
          intro ρ38 M37 h
          obtain ⟨rfl, h⟩ := h
          refine xr_iconst 1 dX10_remove_211 (by decide) ?_
          exact xr_retv (by decide) (xRi rfl rfl dX10_remove_212) h
    · replace h := hf c50
      clear ht hf
      refine xr_aload_n 0 dX10_remove_171 rfl rfl ?_
      refine yr_getR dX10_remove_172 fl_RX10_26 rfl t22 ?_
      refine xr_iload_n 1 dX10_remove_175 rfl rfl ?_
      refine xr_iconst 0 dX10_remove_176 (by decide) ?_
      obtain ⟨a42, e43, h⟩ := h
      obtain ⟨i44, t45, h⟩ := h
      refine yr_iast dX10_remove_177 e43 t45 ?_
      refine xr_aload_n 0 dX10_remove_178 rfl rfl ?_
      refine yr_getR dX10_remove_179 fl_RX10_36 rfl t22 ?_
      refine xr_iload_n 1 dX10_remove_182 rfl rfl ?_
      refine xr_iconst 1 dX10_remove_183 (by decide) ?_
      obtain ⟨a46, e47, h⟩ := h
      obtain ⟨i48, t49, h⟩ := h
      refine yr_iast dX10_remove_184 e47 t49 ?_
      refine xr_goto 211 dX10_remove_185 (by decide) ?_
      refine xr_iconst 1 dX10_remove_211 (by decide) ?_
      exact xr_retv (by decide) (xRi rfl rfl dX10_remove_212) h
set_option maxRecDepth 100000 in
set_option maxHeartbeats 4000000 in
theorem bX10_remove_0 {l : Launch} {g : xG} (a0 : Nat) {M : xM} {Q : Option Value → xM → Prop} (h : (xat M a0 7 ∧ (((xI (xsI M a0 0 0) a0 3) = 0 → (xSp l g mX10_isKey 0 0 [va_rf (some a0)] (xsI M a0 0 0) (fun ρ4 M3 => ∃ v2 : Int32, ρ4 = some (.int v2) ∧ ((¬ v2 = 0 → (xat M3 a0 7 ∧ xSp l g mX10_isFound 0 0 [va_rf (some a0)] M3 (fun ρ8 M7 => ∃ v6 : Int32, ρ8 = some (.int v6) ∧ ((¬ v6 = 0 → (xat M7 a0 7 ∧ (∃ a12, (xR M7 a0 9) = some a12 ∧ ∃ i14, xai M7 a12 11 (xI M7 a0 20) i14 ∧ (∃ a16, (xR (xsI M7 a12 i14 ((0 : Int32) &&& 1)) a0 10) = some a16 ∧ ∃ i18, xai (xsI M7 a12 i14 ((0 : Int32) &&& 1)) a16 10 (xI M7 a0 20) i18 ∧ (xSp l g mX10_freshen 0 0 [va_rf (some a0), .int (xI M7 a0 20)] (xsJ (xsI M7 a12 i14 ((0 : Int32) &&& 1)) a16 i18 0) (fun ρ22 M21 => ρ22 = none ∧ (xat M21 a0 7 ∧ xSp l g mX10_children 0 0 [va_rf (some a0), .int (xI M7 a0 20)] M21 (fun ρ26 M25 => ∃ v24 : Int32, ρ26 = some (.int v24) ∧ ((¬ v24 = 0 → xWp l g mX10_remove 0 0 154 [(1, va_rf (some a0)), (1, .int (xI M7 a0 20)), (0, .null), (0, .null)] [] (0, 0) M25 Q) ∧ (v24 = 0 → (xat M25 a0 7 ∧ (((xI M7 a0 20) = (xI M25 a0 14) → xWp l g mX10_remove 0 0 154 [(1, va_rf (some a0)), (1, .int (xI M7 a0 20)), (0, .null), (0, .null)] [] (0, 0) M25 Q) ∧ (¬ (xI M7 a0 20) = (xI M25 a0 14) → (∃ a30, (xR M25 a0 4) = some a30 ∧ ∃ i32, xai M25 a30 11 (xI M7 a0 20) i32 ∧ (∃ a34, (xR (xsI M25 a30 i32 ((0 : Int32) &&& 1)) a0 5) = some a34 ∧ ∃ i36, xai (xsI M25 a30 i32 ((0 : Int32) &&& 1)) a34 9 (xI M7 a0 20) i36 ∧ (xSp l g mX10_children 0 0 [va_rf (some a0), .int (xI (xsI M25 a30 i32 ((0 : Int32) &&& 1)) a34 i36)] (xsI M25 a30 i32 ((0 : Int32) &&& 1)) (fun ρ40 M39 => ∃ v38 : Int32, ρ40 = some (.int v38) ∧ (xat M39 a0 7 ∧ (∃ a43, (xR M39 a0 11) = some a43 ∧ ∃ i45, xai M39 a43 9 (xI (xsI M25 a30 i32 ((0 : Int32) &&& 1)) a34 i36) i45 ∧ ((¬ (xI M39 a43 i45) = 2 → (∃ i47, xai M39 a43 9 (xI (xsI M25 a30 i32 ((0 : Int32) &&& 1)) a34 i36) i47 ∧ ((¬ (xI M39 a43 i47) = 3 → (∃ i49, xai M39 a43 9 (xI (xsI M25 a30 i32 ((0 : Int32) &&& 1)) a34 i36) i49 ∧ ((¬ (xI M39 a43 i49) = 4 → (((-1) < v38 → xWp l g mX10_remove 0 0 154 [(1, va_rf (some a0)), (1, .int (xI (xsI M25 a30 i32 ((0 : Int32) &&& 1)) a34 i36)), (1, .int v38), (1, .int (-1))] [] (0, 0) M39 Q) ∧ (¬ (-1) < v38 → (∃ i51, xai M39 a43 9 (xI (xsI M25 a30 i32 ((0 : Int32) &&& 1)) a34 i36) i51 ∧ (∃ i53, xai M39 a43 9 (xI (xsI M25 a30 i32 ((0 : Int32) &&& 1)) a34 i36) i53 ∧ xWp l g mX10_remove 0 0 154 [(1, va_rf (some a0)), (1, .int (xI (xsI M25 a30 i32 ((0 : Int32) &&& 1)) a34 i36)), (1, .int v38), (1, .int (-1))] [] (0, 0) (xsI M39 a43 i53 ((xI M39 a43 i51) - 1)) Q))))) ∧ ((xI M39 a43 i49) = 4 → ((40 < v38 → xWp l g mX10_remove 0 0 154 [(1, va_rf (some a0)), (1, .int (xI (xsI M25 a30 i32 ((0 : Int32) &&& 1)) a34 i36)), (1, .int v38), (1, .int 40)] [] (0, 0) M39 Q) ∧ (¬ 40 < v38 → (∃ i56, xai M39 a43 9 (xI (xsI M25 a30 i32 ((0 : Int32) &&& 1)) a34 i36) i56 ∧ (∃ i58, xai M39 a43 9 (xI (xsI M25 a30 i32 ((0 : Int32) &&& 1)) a34 i36) i58 ∧ xWp l g mX10_remove 0 0 154 [(1, va_rf (some a0)), (1, .int (xI (xsI M25 a30 i32 ((0 : Int32) &&& 1)) a34 i36)), (1, .int v38), (1, .int 40)] [] (0, 0) (xsI M39 a43 i58 ((xI M39 a43 i56) - 1)) Q)))))))) ∧ ((xI M39 a43 i47) = 3 → ((12 < v38 → xWp l g mX10_remove 0 0 154 [(1, va_rf (some a0)), (1, .int (xI (xsI M25 a30 i32 ((0 : Int32) &&& 1)) a34 i36)), (1, .int v38), (1, .int 12)] [] (0, 0) M39 Q) ∧ (¬ 12 < v38 → (∃ i62, xai M39 a43 9 (xI (xsI M25 a30 i32 ((0 : Int32) &&& 1)) a34 i36) i62 ∧ (∃ i64, xai M39 a43 9 (xI (xsI M25 a30 i32 ((0 : Int32) &&& 1)) a34 i36) i64 ∧ xWp l g mX10_remove 0 0 154 [(1, va_rf (some a0)), (1, .int (xI (xsI M25 a30 i32 ((0 : Int32) &&& 1)) a34 i36)), (1, .int v38), (1, .int 12)] [] (0, 0) (xsI M39 a43 i64 ((xI M39 a43 i62) - 1)) Q)))))))) ∧ ((xI M39 a43 i45) = 2 → ((3 < v38 → xWp l g mX10_remove 0 0 154 [(1, va_rf (some a0)), (1, .int (xI (xsI M25 a30 i32 ((0 : Int32) &&& 1)) a34 i36)), (1, .int v38), (1, .int 3)] [] (0, 0) M39 Q) ∧ (¬ 3 < v38 → (∃ i68, xai M39 a43 9 (xI (xsI M25 a30 i32 ((0 : Int32) &&& 1)) a34 i36) i68 ∧ (∃ i70, xai M39 a43 9 (xI (xsI M25 a30 i32 ((0 : Int32) &&& 1)) a34 i36) i70 ∧ xWp l g mX10_remove 0 0 154 [(1, va_rf (some a0)), (1, .int (xI (xsI M25 a30 i32 ((0 : Int32) &&& 1)) a34 i36)), (1, .int v38), (1, .int 3)] [] (0, 0) (xsI M39 a43 i70 ((xI M39 a43 i68) - 1)) Q))))))))))))))))))))))))) ∧ (v6 = 0 → (Q (some (.int 0)) M7)))))) ∧ (v2 = 0 → (Q (some (.int (-1))) M3)))))) ∧ (¬ (xI (xsI M a0 0 0) a0 3) = 0 → (Q (some (.int (-4))) (xsI M a0 0 0)))))) : xWp l g mX10_remove 0 0 0 [(1, va_rf (some a0)), (0, .null), (0, .null), (0, .null)] [] (0, 0) M Q := by
  refine xr_aload_n 0 dX10_remove_0 rfl rfl ?_
  refine xr_iconst 0 dX10_remove_1 (by decide) ?_
  obtain ⟨t1, h⟩ := h
  refine yr_putI dX10_remove_2 fp_RX10_68 rfl t1 ?_
  refine xr_aload_n 0 dX10_remove_5 rfl rfl ?_
  refine yr_getZ dX10_remove_6 fl_RX10_114 rfl t1 ?_
  obtain ⟨ht, hf⟩ := h
  refine xr_if_eq 15 dX10_remove_9 (by decide) (fun c78 => ?_) (fun c78 => ?_)
  · replace h := ht c78
    clear ht hf
    refine xr_aload_n 0 dX10_remove_15 rfl rfl ?_
    refine yr_callV (r := (some a0)) [] dX10_remove_16 cv_X10_remove_118 rfl t1 rfl (Nat.le_trans wt_0 (by decide)) (by decide) (xSp.mono h ?_)
    clear h
    intro ρ4 M3 h
    obtain ⟨v2, rfl, h⟩ := h
    obtain ⟨ht, hf⟩ := h
    refine xr_if_ne 24 dX10_remove_19 (by decide) (fun c77 => ?_) (fun c77 => ?_)
    · replace h := ht c77
      clear ht hf
      refine xr_aload_n 0 dX10_remove_24 rfl rfl ?_
      obtain ⟨t10, h⟩ := h
      refine yr_callV (r := (some a0)) [] dX10_remove_25 cv_X10_remove_124 rfl t10 rfl (Nat.le_trans wt_0 (by decide)) (by decide) (xSp.mono h ?_)
      clear h
      intro ρ8 M7 h
      obtain ⟨v6, rfl, h⟩ := h
      obtain ⟨ht, hf⟩ := h
      refine xr_if_ne 33 dX10_remove_28 (by decide) (fun c76 => ?_) (fun c76 => ?_)
      · replace h := ht c76
        clear ht hf
        refine xr_aload_n 0 dX10_remove_33 rfl rfl ?_
        obtain ⟨t11, h⟩ := h
        refine yr_getI dX10_remove_34 fl_RX10_99 rfl t11 ?_
        refine zistore_n 1 dX10_remove_37 rfl (L1 := [(1, va_rf (some a0)), (1, .int (xI M7 a0 20)), (0, .null), (0, .null)]) (by decide) rfl ?_
        refine xr_aload_n 0 dX10_remove_38 rfl rfl ?_
        refine yr_getR dX10_remove_39 fl_RX10_29 rfl t11 ?_
        refine xr_iload_n 1 dX10_remove_42 rfl rfl ?_
        refine xr_iconst 0 dX10_remove_43 (by decide) ?_
        obtain ⟨a12, e13, h⟩ := h
        obtain ⟨i14, t15, h⟩ := h
        refine yr_zast dX10_remove_44 e13 t15 ?_
        refine xr_aload_n 0 dX10_remove_45 rfl rfl ?_
        refine yr_getR dX10_remove_46 fl_RX10_32 rfl t11 ?_
        refine xr_iload_n 1 dX10_remove_49 rfl rfl ?_
        refine xr_lconst 0 dX10_remove_50 (by decide) ?_
        obtain ⟨a16, e17, h⟩ := h
        obtain ⟨i18, t19, h⟩ := h
        refine yr_last dX10_remove_51 e17 t19 ?_
        refine xr_aload_n 0 dX10_remove_52 rfl rfl ?_
        refine xr_iload_n 1 dX10_remove_53 rfl rfl ?_
        refine yr_callV (r := (some a0)) [.int (xI M7 a0 20)] dX10_remove_54 cv_X10_remove_127 rfl t11 rfl (Nat.le_trans wt_0 (by decide)) (by decide) (xSp.mono h ?_)
        clear h
        intro ρ22 M21 h
        obtain ⟨rfl, h⟩ := h
        refine xr_aload_n 0 dX10_remove_57 rfl rfl ?_
        refine xr_iload_n 1 dX10_remove_58 rfl rfl ?_
        obtain ⟨t28, h⟩ := h
        refine yr_callV (r := (some a0)) [.int (xI M7 a0 20)] dX10_remove_59 cv_X10_remove_131 rfl t28 rfl (Nat.le_trans wt_0 (by decide)) (by decide) (xSp.mono h ?_)
        clear h
        intro ρ26 M25 h
        obtain ⟨v24, rfl, h⟩ := h
        obtain ⟨ht, hf⟩ := h
        refine xr_if_ne 154 dX10_remove_62 (by decide) (fun c75 => ?_) (fun c75 => ?_)
        · replace h := ht c75
          clear ht hf
          exact h
        · replace h := hf c75
          clear ht hf
          refine xr_iload_n 1 dX10_remove_65 rfl rfl ?_
          refine xr_aload_n 0 dX10_remove_66 rfl rfl ?_
          obtain ⟨t29, h⟩ := h
          refine yr_getI dX10_remove_67 fl_RX10_75 rfl t29 ?_
          obtain ⟨ht, hf⟩ := h
          refine xr_icmp_eq 154 dX10_remove_70 (by decide) (fun c74 => ?_) (fun c74 => ?_)
          · replace h := ht c74
            clear ht hf
            exact h
          · replace h := hf c74
            clear ht hf
            refine xr_aload_n 0 dX10_remove_73 rfl rfl ?_
            refine yr_getR dX10_remove_74 fl_RX10_13 rfl t29 ?_
            refine xr_iload_n 1 dX10_remove_77 rfl rfl ?_
            refine xr_iconst 0 dX10_remove_78 (by decide) ?_
            obtain ⟨a30, e31, h⟩ := h
            obtain ⟨i32, t33, h⟩ := h
            refine yr_zast dX10_remove_79 e31 t33 ?_
            refine xr_aload_n 0 dX10_remove_80 rfl rfl ?_
            refine yr_getR dX10_remove_81 fl_RX10_17 rfl t29 ?_
            refine xr_iload_n 1 dX10_remove_84 rfl rfl ?_
            obtain ⟨a34, e35, h⟩ := h
            obtain ⟨i36, t37, h⟩ := h
            refine yr_iald dX10_remove_85 e35 t37 ?_
            refine zistore_n 1 dX10_remove_86 rfl (L1 := [(1, va_rf (some a0)), (1, .int (xI (xsI M25 a30 i32 ((0 : Int32) &&& 1)) a34 i36)), (0, .null), (0, .null)]) (by decide) rfl ?_
            refine xr_aload_n 0 dX10_remove_87 rfl rfl ?_
            refine xr_iload_n 1 dX10_remove_88 rfl rfl ?_
            refine yr_callV (r := (some a0)) [.int (xI (xsI M25 a30 i32 ((0 : Int32) &&& 1)) a34 i36)] dX10_remove_89 cv_X10_remove_131 rfl t29 rfl (Nat.le_trans wt_0 (by decide)) (by decide) (xSp.mono h ?_)
            clear h
            intro ρ40 M39 h
            obtain ⟨v38, rfl, h⟩ := h
            refine zistore_n 2 dX10_remove_92 rfl (L1 := [(1, va_rf (some a0)), (1, .int (xI (xsI M25 a30 i32 ((0 : Int32) &&& 1)) a34 i36)), (1, .int v38), (0, .null)]) (by decide) rfl ?_
            refine xr_aload_n 0 dX10_remove_93 rfl rfl ?_
            obtain ⟨t42, h⟩ := h
            refine yr_getR dX10_remove_94 fl_RX10_36 rfl t42 ?_
            refine xr_iload_n 1 dX10_remove_97 rfl rfl ?_
            obtain ⟨a43, e44, h⟩ := h
            obtain ⟨i45, t46, h⟩ := h
            refine yr_iald dX10_remove_98 e44 t46 ?_
            refine xr_iconst 2 dX10_remove_99 (by decide) ?_
            obtain ⟨ht, hf⟩ := h
            refine xr_icmp_ne 107 dX10_remove_100 (by decide) (fun c73 => ?_) (fun c73 => ?_)
            · replace h := ht c73
              clear ht hf
              refine xr_aload_n 0 dX10_remove_107 rfl rfl ?_
              refine yr_getR dX10_remove_108 fl_RX10_36 rfl t42 ?_
              refine xr_iload_n 1 dX10_remove_111 rfl rfl ?_
              obtain ⟨i47, t48, h⟩ := h
              refine yr_iald dX10_remove_112 e44 t48 ?_
              refine xr_iconst 3 dX10_remove_113 (by decide) ?_
              obtain ⟨ht, hf⟩ := h
              refine xr_icmp_ne 122 dX10_remove_114 (by decide) (fun c67 => ?_) (fun c67 => ?_)
              · replace h := ht c67
                clear ht hf
                refine xr_aload_n 0 dX10_remove_122 rfl rfl ?_
                refine yr_getR dX10_remove_123 fl_RX10_36 rfl t42 ?_
                refine xr_iload_n 1 dX10_remove_126 rfl rfl ?_
                obtain ⟨i49, t50, h⟩ := h
                refine yr_iald dX10_remove_127 e44 t50 ?_
                refine xr_iconst 4 dX10_remove_128 (by decide) ?_
                obtain ⟨ht, hf⟩ := h
                refine xr_icmp_ne 137 dX10_remove_129 (by decide) (fun c61 => ?_) (fun c61 => ?_)
                · replace h := ht c61
                  clear ht hf
                  refine xr_iconst (-1) dX10_remove_137 (by decide) ?_
                  refine zistore_n 3 dX10_remove_138 rfl (L1 := [(1, va_rf (some a0)), (1, .int (xI (xsI M25 a30 i32 ((0 : Int32) &&& 1)) a34 i36)), (1, .int v38), (1, .int (-1))]) (by decide) rfl ?_
                  refine xr_iload_n 2 dX10_remove_139 rfl rfl ?_
                  refine xr_iload_n 3 dX10_remove_140 rfl rfl ?_
                  obtain ⟨ht, hf⟩ := h
                  refine xr_icmp_gt 154 dX10_remove_141 (by decide) (fun c55 => ?_) (fun c55 => ?_)
                  · replace h := ht c55
                    clear ht hf
                    exact h
                  · replace h := hf c55
                    clear ht hf
                    refine xr_aload_n 0 dX10_remove_144 rfl rfl ?_
                    refine yr_getR dX10_remove_145 fl_RX10_36 rfl t42 ?_
                    refine xr_iload_n 1 dX10_remove_148 rfl rfl ?_
                    refine xr_dup2 dX10_remove_149 rfl (va_rf_cat _) ?_
                    obtain ⟨i51, t52, h⟩ := h
                    refine yr_iald dX10_remove_150 e44 t52 ?_
                    refine xr_iconst 1 dX10_remove_151 (by decide) ?_
                    refine xr_isub dX10_remove_152 ?_
                    obtain ⟨i53, t54, h⟩ := h
                    refine yr_iast dX10_remove_153 e44 t54 ?_
                    exact h
                · replace h := hf c61
                  clear ht hf
                  refine xr_bipush 40 dX10_remove_132 (by decide) ?_
                  refine xr_goto 138 dX10_remove_134 (by decide) ?_
                  refine zistore_n 3 dX10_remove_138 rfl (L1 := [(1, va_rf (some a0)), (1, .int (xI (xsI M25 a30 i32 ((0 : Int32) &&& 1)) a34 i36)), (1, .int v38), (1, .int 40)]) (by decide) rfl ?_
                  refine xr_iload_n 2 dX10_remove_139 rfl rfl ?_
                  refine xr_iload_n 3 dX10_remove_140 rfl rfl ?_
                  obtain ⟨ht, hf⟩ := h
                  refine xr_icmp_gt 154 dX10_remove_141 (by decide) (fun c60 => ?_) (fun c60 => ?_)
                  · replace h := ht c60
                    clear ht hf
                    exact h
                  · replace h := hf c60
                    clear ht hf
                    refine xr_aload_n 0 dX10_remove_144 rfl rfl ?_
                    refine yr_getR dX10_remove_145 fl_RX10_36 rfl t42 ?_
                    refine xr_iload_n 1 dX10_remove_148 rfl rfl ?_
                    refine xr_dup2 dX10_remove_149 rfl (va_rf_cat _) ?_
                    obtain ⟨i56, t57, h⟩ := h
                    refine yr_iald dX10_remove_150 e44 t57 ?_
                    refine xr_iconst 1 dX10_remove_151 (by decide) ?_
                    refine xr_isub dX10_remove_152 ?_
                    obtain ⟨i58, t59, h⟩ := h
                    refine yr_iast dX10_remove_153 e44 t59 ?_
                    exact h
              · replace h := hf c67
                clear ht hf
                refine xr_bipush 12 dX10_remove_117 (by decide) ?_
                refine xr_goto 138 dX10_remove_119 (by decide) ?_
                refine zistore_n 3 dX10_remove_138 rfl (L1 := [(1, va_rf (some a0)), (1, .int (xI (xsI M25 a30 i32 ((0 : Int32) &&& 1)) a34 i36)), (1, .int v38), (1, .int 12)]) (by decide) rfl ?_
                refine xr_iload_n 2 dX10_remove_139 rfl rfl ?_
                refine xr_iload_n 3 dX10_remove_140 rfl rfl ?_
                obtain ⟨ht, hf⟩ := h
                refine xr_icmp_gt 154 dX10_remove_141 (by decide) (fun c66 => ?_) (fun c66 => ?_)
                · replace h := ht c66
                  clear ht hf
                  exact h
                · replace h := hf c66
                  clear ht hf
                  refine xr_aload_n 0 dX10_remove_144 rfl rfl ?_
                  refine yr_getR dX10_remove_145 fl_RX10_36 rfl t42 ?_
                  refine xr_iload_n 1 dX10_remove_148 rfl rfl ?_
                  refine xr_dup2 dX10_remove_149 rfl (va_rf_cat _) ?_
                  obtain ⟨i62, t63, h⟩ := h
                  refine yr_iald dX10_remove_150 e44 t63 ?_
                  refine xr_iconst 1 dX10_remove_151 (by decide) ?_
                  refine xr_isub dX10_remove_152 ?_
                  obtain ⟨i64, t65, h⟩ := h
                  refine yr_iast dX10_remove_153 e44 t65 ?_
                  exact h
            · replace h := hf c73
              clear ht hf
              refine xr_iconst 3 dX10_remove_103 (by decide) ?_
              refine xr_goto 138 dX10_remove_104 (by decide) ?_
              refine zistore_n 3 dX10_remove_138 rfl (L1 := [(1, va_rf (some a0)), (1, .int (xI (xsI M25 a30 i32 ((0 : Int32) &&& 1)) a34 i36)), (1, .int v38), (1, .int 3)]) (by decide) rfl ?_
              refine xr_iload_n 2 dX10_remove_139 rfl rfl ?_
              refine xr_iload_n 3 dX10_remove_140 rfl rfl ?_
              obtain ⟨ht, hf⟩ := h
              refine xr_icmp_gt 154 dX10_remove_141 (by decide) (fun c72 => ?_) (fun c72 => ?_)
              · replace h := ht c72
                clear ht hf
                exact h
              · replace h := hf c72
                clear ht hf
                refine xr_aload_n 0 dX10_remove_144 rfl rfl ?_
                refine yr_getR dX10_remove_145 fl_RX10_36 rfl t42 ?_
                refine xr_iload_n 1 dX10_remove_148 rfl rfl ?_
                refine xr_dup2 dX10_remove_149 rfl (va_rf_cat _) ?_
                obtain ⟨i68, t69, h⟩ := h
                refine yr_iald dX10_remove_150 e44 t69 ?_
                refine xr_iconst 1 dX10_remove_151 (by decide) ?_
                refine xr_isub dX10_remove_152 ?_
                obtain ⟨i70, t71, h⟩ := h
                refine yr_iast dX10_remove_153 e44 t71 ?_
                exact h
      · replace h := hf c76
        clear ht hf
        refine xr_iconst 0 dX10_remove_31 (by decide) ?_
        exact xr_retv (by decide) (xRi rfl rfl dX10_remove_32) h
    · replace h := hf c77
      clear ht hf
      refine xr_iconst (-1) dX10_remove_22 (by decide) ?_
      exact xr_retv (by decide) (xRi rfl rfl dX10_remove_23) h
  · replace h := hf c78
    clear ht hf
    refine xr_bipush (-4) dX10_remove_12 (by decide) ?_
    exact xr_retv (by decide) (xRi rfl rfl dX10_remove_14) h
theorem dX10_putTogether_0 : decode cX10_putTogether 0 = .ok (.aload_n 0, 1) := by decide +kernel
theorem dX10_putTogether_1 : decode cX10_putTogether 1 = .ok (.iload_n 1, 1) := by decide +kernel
theorem dX10_putTogether_2 : decode cX10_putTogether 2 = .ok (.iconst 0, 1) := by decide +kernel
theorem dX10_putTogether_3 : decode cX10_putTogether 3 = .ok (.invokevirtual 96, 3) := by decide +kernel
theorem dX10_putTogether_6 : decode cX10_putTogether 6 = .ok (.istore_n 2, 1) := by decide +kernel
theorem dX10_putTogether_7 : decode cX10_putTogether 7 = .ok (.aload_n 0, 1) := by decide +kernel
theorem dX10_putTogether_8 : decode cX10_putTogether 8 = .ok (.getfield 26, 3) := by decide +kernel
theorem dX10_putTogether_11 : decode cX10_putTogether 11 = .ok (.iload_n 1, 1) := by decide +kernel
theorem dX10_putTogether_12 : decode cX10_putTogether 12 = .ok (.iaload, 1) := by decide +kernel
theorem dX10_putTogether_13 : decode cX10_putTogether 13 = .ok (.istore_n 3, 1) := by decide +kernel
theorem dX10_putTogether_14 : decode cX10_putTogether 14 = .ok (.aload_n 0, 1) := by decide +kernel
theorem dX10_putTogether_15 : decode cX10_putTogether 15 = .ok (.getfield 26, 3) := by decide +kernel
theorem dX10_putTogether_18 : decode cX10_putTogether 18 = .ok (.iload_n 2, 1) := by decide +kernel
theorem dX10_putTogether_19 : decode cX10_putTogether 19 = .ok (.iaload, 1) := by decide +kernel
theorem dX10_putTogether_20 : decode cX10_putTogether 20 = .ok (.iconst 1, 1) := by decide +kernel
theorem dX10_putTogether_21 : decode cX10_putTogether 21 = .ok (.isub, 1) := by decide +kernel
theorem dX10_putTogether_22 : decode cX10_putTogether 22 = .ok (.istore 4, 2) := by decide +kernel
theorem dX10_putTogether_24 : decode cX10_putTogether 24 = .ok (.iload 4, 2) := by decide +kernel
theorem dX10_putTogether_26 : decode cX10_putTogether 26 = .ok (.ifCond .lt 37, 3) := by decide +kernel
theorem dX10_putTogether_29 : decode cX10_putTogether 29 = .ok (.aload_n 0, 1) := by decide +kernel
theorem dX10_putTogether_30 : decode cX10_putTogether 30 = .ok (.getfield 23, 3) := by decide +kernel
theorem dX10_putTogether_33 : decode cX10_putTogether 33 = .ok (.bipush 12, 2) := by decide +kernel
theorem dX10_putTogether_35 : decode cX10_putTogether 35 = .ok (.iload_n 2, 1) := by decide +kernel
theorem dX10_putTogether_36 : decode cX10_putTogether 36 = .ok (.imul, 1) := by decide +kernel
theorem dX10_putTogether_37 : decode cX10_putTogether 37 = .ok (.iload 4, 2) := by decide +kernel
theorem dX10_putTogether_39 : decode cX10_putTogether 39 = .ok (.iadd, 1) := by decide +kernel
theorem dX10_putTogether_40 : decode cX10_putTogether 40 = .ok (.iload_n 3, 1) := by decide +kernel
theorem dX10_putTogether_41 : decode cX10_putTogether 41 = .ok (.iadd, 1) := by decide +kernel
theorem dX10_putTogether_42 : decode cX10_putTogether 42 = .ok (.iconst 1, 1) := by decide +kernel
theorem dX10_putTogether_43 : decode cX10_putTogether 43 = .ok (.iadd, 1) := by decide +kernel
theorem dX10_putTogether_44 : decode cX10_putTogether 44 = .ok (.aload_n 0, 1) := by decide +kernel
theorem dX10_putTogether_45 : decode cX10_putTogether 45 = .ok (.getfield 23, 3) := by decide +kernel
theorem dX10_putTogether_48 : decode cX10_putTogether 48 = .ok (.bipush 12, 2) := by decide +kernel
theorem dX10_putTogether_50 : decode cX10_putTogether 50 = .ok (.iload_n 2, 1) := by decide +kernel
theorem dX10_putTogether_51 : decode cX10_putTogether 51 = .ok (.imul, 1) := by decide +kernel
theorem dX10_putTogether_52 : decode cX10_putTogether 52 = .ok (.iload 4, 2) := by decide +kernel
theorem dX10_putTogether_54 : decode cX10_putTogether 54 = .ok (.iadd, 1) := by decide +kernel
theorem dX10_putTogether_55 : decode cX10_putTogether 55 = .ok (.iaload, 1) := by decide +kernel
theorem dX10_putTogether_56 : decode cX10_putTogether 56 = .ok (.iastore, 1) := by decide +kernel
theorem dX10_putTogether_57 : decode cX10_putTogether 57 = .ok (.iinc 4 (-1), 3) := by decide +kernel
theorem dX10_putTogether_60 : decode cX10_putTogether 60 = .ok (.goto (-36), 3) := by decide +kernel
theorem dX10_putTogether_63 : decode cX10_putTogether 63 = .ok (.iconst 0, 1) := by decide +kernel
theorem dX10_putTogether_64 : decode cX10_putTogether 64 = .ok (.istore 4, 2) := by decide +kernel
theorem dX10_putTogether_66 : decode cX10_putTogether 66 = .ok (.iload 4, 2) := by decide +kernel
theorem dX10_putTogether_68 : decode cX10_putTogether 68 = .ok (.iload_n 3, 1) := by decide +kernel
theorem dX10_putTogether_69 : decode cX10_putTogether 69 = .ok (.if_icmp .ge 33, 3) := by decide +kernel
theorem dX10_putTogether_72 : decode cX10_putTogether 72 = .ok (.aload_n 0, 1) := by decide +kernel
theorem dX10_putTogether_73 : decode cX10_putTogether 73 = .ok (.getfield 23, 3) := by decide +kernel
theorem dX10_putTogether_76 : decode cX10_putTogether 76 = .ok (.bipush 12, 2) := by decide +kernel
theorem dX10_putTogether_78 : decode cX10_putTogether 78 = .ok (.iload_n 2, 1) := by decide +kernel
theorem dX10_putTogether_79 : decode cX10_putTogether 79 = .ok (.imul, 1) := by decide +kernel
theorem dX10_putTogether_80 : decode cX10_putTogether 80 = .ok (.iload 4, 2) := by decide +kernel
theorem dX10_putTogether_82 : decode cX10_putTogether 82 = .ok (.iadd, 1) := by decide +kernel
theorem dX10_putTogether_83 : decode cX10_putTogether 83 = .ok (.aload_n 0, 1) := by decide +kernel
theorem dX10_putTogether_84 : decode cX10_putTogether 84 = .ok (.getfield 23, 3) := by decide +kernel
theorem dX10_putTogether_87 : decode cX10_putTogether 87 = .ok (.bipush 12, 2) := by decide +kernel
theorem dX10_putTogether_89 : decode cX10_putTogether 89 = .ok (.iload_n 1, 1) := by decide +kernel
theorem dX10_putTogether_90 : decode cX10_putTogether 90 = .ok (.imul, 1) := by decide +kernel
theorem dX10_putTogether_91 : decode cX10_putTogether 91 = .ok (.iload 4, 2) := by decide +kernel
theorem dX10_putTogether_93 : decode cX10_putTogether 93 = .ok (.iadd, 1) := by decide +kernel
theorem dX10_putTogether_94 : decode cX10_putTogether 94 = .ok (.iaload, 1) := by decide +kernel
theorem dX10_putTogether_95 : decode cX10_putTogether 95 = .ok (.iastore, 1) := by decide +kernel
theorem dX10_putTogether_96 : decode cX10_putTogether 96 = .ok (.iinc 4 1, 3) := by decide +kernel
theorem dX10_putTogether_99 : decode cX10_putTogether 99 = .ok (.goto (-33), 3) := by decide +kernel
theorem dX10_putTogether_102 : decode cX10_putTogether 102 = .ok (.aload_n 0, 1) := by decide +kernel
theorem dX10_putTogether_103 : decode cX10_putTogether 103 = .ok (.getfield 23, 3) := by decide +kernel
theorem dX10_putTogether_106 : decode cX10_putTogether 106 = .ok (.bipush 12, 2) := by decide +kernel
theorem dX10_putTogether_108 : decode cX10_putTogether 108 = .ok (.iload_n 2, 1) := by decide +kernel
theorem dX10_putTogether_109 : decode cX10_putTogether 109 = .ok (.imul, 1) := by decide +kernel
theorem dX10_putTogether_110 : decode cX10_putTogether 110 = .ok (.iload_n 3, 1) := by decide +kernel
theorem dX10_putTogether_111 : decode cX10_putTogether 111 = .ok (.iadd, 1) := by decide +kernel
theorem dX10_putTogether_112 : decode cX10_putTogether 112 = .ok (.aload_n 0, 1) := by decide +kernel
theorem dX10_putTogether_113 : decode cX10_putTogether 113 = .ok (.getfield 20, 3) := by decide +kernel
theorem dX10_putTogether_116 : decode cX10_putTogether 116 = .ok (.iload_n 2, 1) := by decide +kernel
theorem dX10_putTogether_117 : decode cX10_putTogether 117 = .ok (.iaload, 1) := by decide +kernel
theorem dX10_putTogether_118 : decode cX10_putTogether 118 = .ok (.iastore, 1) := by decide +kernel
theorem dX10_putTogether_119 : decode cX10_putTogether 119 = .ok (.aload_n 0, 1) := by decide +kernel
theorem dX10_putTogether_120 : decode cX10_putTogether 120 = .ok (.getfield 26, 3) := by decide +kernel
theorem dX10_putTogether_123 : decode cX10_putTogether 123 = .ok (.iload_n 2, 1) := by decide +kernel
theorem dX10_putTogether_124 : decode cX10_putTogether 124 = .ok (.dup2, 1) := by decide +kernel
theorem dX10_putTogether_125 : decode cX10_putTogether 125 = .ok (.iaload, 1) := by decide +kernel
theorem dX10_putTogether_126 : decode cX10_putTogether 126 = .ok (.iload_n 3, 1) := by decide +kernel
theorem dX10_putTogether_127 : decode cX10_putTogether 127 = .ok (.iconst 1, 1) := by decide +kernel
theorem dX10_putTogether_128 : decode cX10_putTogether 128 = .ok (.iadd, 1) := by decide +kernel
theorem dX10_putTogether_129 : decode cX10_putTogether 129 = .ok (.iadd, 1) := by decide +kernel
theorem dX10_putTogether_130 : decode cX10_putTogether 130 = .ok (.iastore, 1) := by decide +kernel
theorem dX10_putTogether_131 : decode cX10_putTogether 131 = .ok (.aload_n 0, 1) := by decide +kernel
theorem dX10_putTogether_132 : decode cX10_putTogether 132 = .ok (.getfield 17, 3) := by decide +kernel
theorem dX10_putTogether_135 : decode cX10_putTogether 135 = .ok (.iload_n 2, 1) := by decide +kernel
theorem dX10_putTogether_136 : decode cX10_putTogether 136 = .ok (.aload_n 0, 1) := by decide +kernel
theorem dX10_putTogether_137 : decode cX10_putTogether 137 = .ok (.getfield 17, 3) := by decide +kernel
theorem dX10_putTogether_140 : decode cX10_putTogether 140 = .ok (.iload_n 1, 1) := by decide +kernel
theorem dX10_putTogether_141 : decode cX10_putTogether 141 = .ok (.iaload, 1) := by decide +kernel
theorem dX10_putTogether_142 : decode cX10_putTogether 142 = .ok (.iastore, 1) := by decide +kernel
theorem dX10_putTogether_143 : decode cX10_putTogether 143 = .ok (.aload_n 0, 1) := by decide +kernel
theorem dX10_putTogether_144 : decode cX10_putTogether 144 = .ok (.getfield 20, 3) := by decide +kernel
theorem dX10_putTogether_147 : decode cX10_putTogether 147 = .ok (.iload_n 2, 1) := by decide +kernel
theorem dX10_putTogether_148 : decode cX10_putTogether 148 = .ok (.aload_n 0, 1) := by decide +kernel
theorem dX10_putTogether_149 : decode cX10_putTogether 149 = .ok (.getfield 20, 3) := by decide +kernel
theorem dX10_putTogether_152 : decode cX10_putTogether 152 = .ok (.iload_n 1, 1) := by decide +kernel
theorem dX10_putTogether_153 : decode cX10_putTogether 153 = .ok (.iaload, 1) := by decide +kernel
theorem dX10_putTogether_154 : decode cX10_putTogether 154 = .ok (.iastore, 1) := by decide +kernel
theorem dX10_putTogether_155 : decode cX10_putTogether 155 = .ok (.aload_n 0, 1) := by decide +kernel
theorem dX10_putTogether_156 : decode cX10_putTogether 156 = .ok (.getfield 13, 3) := by decide +kernel
theorem dX10_putTogether_159 : decode cX10_putTogether 159 = .ok (.iload_n 1, 1) := by decide +kernel
theorem dX10_putTogether_160 : decode cX10_putTogether 160 = .ok (.iconst 0, 1) := by decide +kernel
theorem dX10_putTogether_161 : decode cX10_putTogether 161 = .ok (.bastore, 1) := by decide +kernel
theorem dX10_putTogether_162 : decode cX10_putTogether 162 = .ok (.aload_n 0, 1) := by decide +kernel
theorem dX10_putTogether_163 : decode cX10_putTogether 163 = .ok (.getfield 75, 3) := by decide +kernel
theorem dX10_putTogether_166 : decode cX10_putTogether 166 = .ok (.iload_n 1, 1) := by decide +kernel
theorem dX10_putTogether_167 : decode cX10_putTogether 167 = .ok (.if_icmp .ne 8, 3) := by decide +kernel
theorem dX10_putTogether_170 : decode cX10_putTogether 170 = .ok (.aload_n 0, 1) := by decide +kernel
theorem dX10_putTogether_171 : decode cX10_putTogether 171 = .ok (.iload_n 2, 1) := by decide +kernel
theorem dX10_putTogether_172 : decode cX10_putTogether 172 = .ok (.putfield 75, 3) := by decide +kernel
theorem dX10_putTogether_175 : decode cX10_putTogether 175 = .ok (.aload_n 0, 1) := by decide +kernel
theorem dX10_putTogether_176 : decode cX10_putTogether 176 = .ok (.iload_n 2, 1) := by decide +kernel
theorem dX10_putTogether_177 : decode cX10_putTogether 177 = .ok (.invokevirtual 127, 3) := by decide +kernel
theorem dX10_putTogether_180 : decode cX10_putTogether 180 = .ok (.return_, 1) := by decide +kernel
set_option maxRecDepth 100000 in
set_option maxHeartbeats 4000000 in
theorem bX10_putTogether_66 {l : Launch} {g : xG} (a0 : Nat) (x1 : Int32) (x2 : Int32) (x3 : Int32) (x4 : Int32) {M : xM} {Q : Option Value → xM → Prop} (h : ((x3 ≤ x4 → (xat M a0 7 ∧ (∃ a2, (xR M a0 6) = some a2 ∧ ∃ i4, xai M a2 9 x2 i4 ∧ (∃ a6, (xR M a0 7) = some a6 ∧ ∃ i8, xai M a6 9 ((12 * x2) + x3) i8 ∧ (∃ a10, (xR (xsI M a6 i8 (xI M a2 i4)) a0 8) = some a10 ∧ ∃ i12, xai (xsI M a6 i8 (xI M a2 i4)) a10 9 x2 i12 ∧ (∃ i14, xai (xsI M a6 i8 (xI M a2 i4)) a10 9 x2 i14 ∧ (∃ a16, (xR (xsI (xsI M a6 i8 (xI M a2 i4)) a10 i14 ((xI (xsI M a6 i8 (xI M a2 i4)) a10 i12) + (x3 + 1))) a0 5) = some a16 ∧ ∃ i18, xai (xsI (xsI M a6 i8 (xI M a2 i4)) a10 i14 ((xI (xsI M a6 i8 (xI M a2 i4)) a10 i12) + (x3 + 1))) a16 9 x1 i18 ∧ (∃ i20, xai (xsI (xsI M a6 i8 (xI M a2 i4)) a10 i14 ((xI (xsI M a6 i8 (xI M a2 i4)) a10 i12) + (x3 + 1))) a16 9 x2 i20 ∧ (∃ a22, (xR (xsI (xsI (xsI M a6 i8 (xI M a2 i4)) a10 i14 ((xI (xsI M a6 i8 (xI M a2 i4)) a10 i12) + (x3 + 1))) a16 i20 (xI (xsI (xsI M a6 i8 (xI M a2 i4)) a10 i14 ((xI (xsI M a6 i8 (xI M a2 i4)) a10 i12) + (x3 + 1))) a16 i18)) a0 6) = some a22 ∧ ∃ i24, xai (xsI (xsI (xsI M a6 i8 (xI M a2 i4)) a10 i14 ((xI (xsI M a6 i8 (xI M a2 i4)) a10 i12) + (x3 + 1))) a16 i20 (xI (xsI (xsI M a6 i8 (xI M a2 i4)) a10 i14 ((xI (xsI M a6 i8 (xI M a2 i4)) a10 i12) + (x3 + 1))) a16 i18)) a22 9 x1 i24 ∧ (∃ i26, xai (xsI (xsI (xsI M a6 i8 (xI M a2 i4)) a10 i14 ((xI (xsI M a6 i8 (xI M a2 i4)) a10 i12) + (x3 + 1))) a16 i20 (xI (xsI (xsI M a6 i8 (xI M a2 i4)) a10 i14 ((xI (xsI M a6 i8 (xI M a2 i4)) a10 i12) + (x3 + 1))) a16 i18)) a22 9 x2 i26 ∧ (∃ a28, (xR (xsI (xsI (xsI (xsI M a6 i8 (xI M a2 i4)) a10 i14 ((xI (xsI M a6 i8 (xI M a2 i4)) a10 i12) + (x3 + 1))) a16 i20 (xI (xsI (xsI M a6 i8 (xI M a2 i4)) a10 i14 ((xI (xsI M a6 i8 (xI M a2 i4)) a10 i12) + (x3 + 1))) a16 i18)) a22 i26 (xI (xsI (xsI (xsI M a6 i8 (xI M a2 i4)) a10 i14 ((xI (xsI M a6 i8 (xI M a2 i4)) a10 i12) + (x3 + 1))) a16 i20 (xI (xsI (xsI M a6 i8 (xI M a2 i4)) a10 i14 ((xI (xsI M a6 i8 (xI M a2 i4)) a10 i12) + (x3 + 1))) a16 i18)) a22 i24)) a0 4) = some a28 ∧ ∃ i30, xai (xsI (xsI (xsI (xsI M a6 i8 (xI M a2 i4)) a10 i14 ((xI (xsI M a6 i8 (xI M a2 i4)) a10 i12) + (x3 + 1))) a16 i20 (xI (xsI (xsI M a6 i8 (xI M a2 i4)) a10 i14 ((xI (xsI M a6 i8 (xI M a2 i4)) a10 i12) + (x3 + 1))) a16 i18)) a22 i26 (xI (xsI (xsI (xsI M a6 i8 (xI M a2 i4)) a10 i14 ((xI (xsI M a6 i8 (xI M a2 i4)) a10 i12) + (x3 + 1))) a16 i20 (xI (xsI (xsI M a6 i8 (xI M a2 i4)) a10 i14 ((xI (xsI M a6 i8 (xI M a2 i4)) a10 i12) + (x3 + 1))) a16 i18)) a22 i24)) a28 11 x1 i30 ∧ ((¬ (xI (xsI (xsI (xsI (xsI (xsI M a6 i8 (xI M a2 i4)) a10 i14 ((xI (xsI M a6 i8 (xI M a2 i4)) a10 i12) + (x3 + 1))) a16 i20 (xI (xsI (xsI M a6 i8 (xI M a2 i4)) a10 i14 ((xI (xsI M a6 i8 (xI M a2 i4)) a10 i12) + (x3 + 1))) a16 i18)) a22 i26 (xI (xsI (xsI (xsI M a6 i8 (xI M a2 i4)) a10 i14 ((xI (xsI M a6 i8 (xI M a2 i4)) a10 i12) + (x3 + 1))) a16 i20 (xI (xsI (xsI M a6 i8 (xI M a2 i4)) a10 i14 ((xI (xsI M a6 i8 (xI M a2 i4)) a10 i12) + (x3 + 1))) a16 i18)) a22 i24)) a28 i30 ((0 : Int32) &&& 1)) a0 14) = x1 → (xSp l g mX10_freshen 0 0 [va_rf (some a0), .int x2] (xsI (xsI (xsI (xsI (xsI M a6 i8 (xI M a2 i4)) a10 i14 ((xI (xsI M a6 i8 (xI M a2 i4)) a10 i12) + (x3 + 1))) a16 i20 (xI (xsI (xsI M a6 i8 (xI M a2 i4)) a10 i14 ((xI (xsI M a6 i8 (xI M a2 i4)) a10 i12) + (x3 + 1))) a16 i18)) a22 i26 (xI (xsI (xsI (xsI M a6 i8 (xI M a2 i4)) a10 i14 ((xI (xsI M a6 i8 (xI M a2 i4)) a10 i12) + (x3 + 1))) a16 i20 (xI (xsI (xsI M a6 i8 (xI M a2 i4)) a10 i14 ((xI (xsI M a6 i8 (xI M a2 i4)) a10 i12) + (x3 + 1))) a16 i18)) a22 i24)) a28 i30 ((0 : Int32) &&& 1)) (fun ρ34 M33 => ρ34 = none ∧ (Q none M33)))) ∧ ((xI (xsI (xsI (xsI (xsI (xsI M a6 i8 (xI M a2 i4)) a10 i14 ((xI (xsI M a6 i8 (xI M a2 i4)) a10 i12) + (x3 + 1))) a16 i20 (xI (xsI (xsI M a6 i8 (xI M a2 i4)) a10 i14 ((xI (xsI M a6 i8 (xI M a2 i4)) a10 i12) + (x3 + 1))) a16 i18)) a22 i26 (xI (xsI (xsI (xsI M a6 i8 (xI M a2 i4)) a10 i14 ((xI (xsI M a6 i8 (xI M a2 i4)) a10 i12) + (x3 + 1))) a16 i20 (xI (xsI (xsI M a6 i8 (xI M a2 i4)) a10 i14 ((xI (xsI M a6 i8 (xI M a2 i4)) a10 i12) + (x3 + 1))) a16 i18)) a22 i24)) a28 i30 ((0 : Int32) &&& 1)) a0 14) = x1 → (xSp l g mX10_freshen 0 0 [va_rf (some a0), .int x2] (xsI (xsI (xsI (xsI (xsI (xsI M a6 i8 (xI M a2 i4)) a10 i14 ((xI (xsI M a6 i8 (xI M a2 i4)) a10 i12) + (x3 + 1))) a16 i20 (xI (xsI (xsI M a6 i8 (xI M a2 i4)) a10 i14 ((xI (xsI M a6 i8 (xI M a2 i4)) a10 i12) + (x3 + 1))) a16 i18)) a22 i26 (xI (xsI (xsI (xsI M a6 i8 (xI M a2 i4)) a10 i14 ((xI (xsI M a6 i8 (xI M a2 i4)) a10 i12) + (x3 + 1))) a16 i20 (xI (xsI (xsI M a6 i8 (xI M a2 i4)) a10 i14 ((xI (xsI M a6 i8 (xI M a2 i4)) a10 i12) + (x3 + 1))) a16 i18)) a22 i24)) a28 i30 ((0 : Int32) &&& 1)) a0 14 x2) (fun ρ38 M37 => ρ38 = none ∧ (Q none M37)))))))))))))))) ∧ (¬ x3 ≤ x4 → (xat M a0 7 ∧ (∃ a42, (xR M a0 7) = some a42 ∧ ∃ i44, xai M a42 9 ((12 * x1) + x4) i44 ∧ (∃ i46, xai M a42 9 ((12 * x2) + x4) i46 ∧ xWp l g mX10_putTogether 0 0 66 [(1, va_rf (some a0)), (1, .int x1), (1, .int x2), (1, .int x3), (1, .int (x4 + 1))] [] (0, 0) (xsI M a42 i46 (xI M a42 i44)) Q)))))) : xWp l g mX10_putTogether 0 0 66 [(1, va_rf (some a0)), (1, .int x1), (1, .int x2), (1, .int x3), (1, .int x4)] [] (0, 0) M Q := by
  refine xr_iload dX10_putTogether_66 rfl ?_
  refine xr_iload_n 3 dX10_putTogether_68 rfl rfl ?_
  obtain ⟨ht, hf⟩ := h
  refine xr_icmp_ge 102 dX10_putTogether_69 (by decide) (fun c48 => ?_) (fun c48 => ?_)
  · replace h := ht c48
    clear ht hf
    refine xr_aload_n 0 dX10_putTogether_102 rfl rfl ?_
    obtain ⟨t1, h⟩ := h
    refine yr_getR dX10_putTogether_103 fl_RX10_23 rfl t1 ?_
    refine xr_bipush 12 dX10_putTogether_106 (by decide) ?_
    refine xr_iload_n 2 dX10_putTogether_108 rfl rfl ?_
    refine xr_imul dX10_putTogether_109 ?_
    refine xr_iload_n 3 dX10_putTogether_110 rfl rfl ?_
    refine xr_iadd dX10_putTogether_111 ?_
    refine xr_aload_n 0 dX10_putTogether_112 rfl rfl ?_
    refine yr_getR dX10_putTogether_113 fl_RX10_20 rfl t1 ?_
    refine xr_iload_n 2 dX10_putTogether_116 rfl rfl ?_
    obtain ⟨a2, e3, h⟩ := h
    obtain ⟨i4, t5, h⟩ := h
    refine yr_iald dX10_putTogether_117 e3 t5 ?_
    obtain ⟨a6, e7, h⟩ := h
    obtain ⟨i8, t9, h⟩ := h
    refine yr_iast dX10_putTogether_118 e7 t9 ?_
    refine xr_aload_n 0 dX10_putTogether_119 rfl rfl ?_
    refine yr_getR dX10_putTogether_120 fl_RX10_26 rfl t1 ?_
    refine xr_iload_n 2 dX10_putTogether_123 rfl rfl ?_
    refine xr_dup2 dX10_putTogether_124 rfl (va_rf_cat _) ?_
    obtain ⟨a10, e11, h⟩ := h
    obtain ⟨i12, t13, h⟩ := h
    refine yr_iald dX10_putTogether_125 e11 t13 ?_
    refine xr_iload_n 3 dX10_putTogether_126 rfl rfl ?_
    refine xr_iconst 1 dX10_putTogether_127 (by decide) ?_
    refine xr_iadd dX10_putTogether_128 ?_
    refine xr_iadd dX10_putTogether_129 ?_
    obtain ⟨i14, t15, h⟩ := h
    refine yr_iast dX10_putTogether_130 e11 t15 ?_
    refine xr_aload_n 0 dX10_putTogether_131 rfl rfl ?_
    refine yr_getR dX10_putTogether_132 fl_RX10_17 rfl t1 ?_
    refine xr_iload_n 2 dX10_putTogether_135 rfl rfl ?_
    refine xr_aload_n 0 dX10_putTogether_136 rfl rfl ?_
    refine yr_getR dX10_putTogether_137 fl_RX10_17 rfl t1 ?_
    refine xr_iload_n 1 dX10_putTogether_140 rfl rfl ?_
    obtain ⟨a16, e17, h⟩ := h
    obtain ⟨i18, t19, h⟩ := h
    refine yr_iald dX10_putTogether_141 e17 t19 ?_
    obtain ⟨i20, t21, h⟩ := h
    refine yr_iast dX10_putTogether_142 e17 t21 ?_
    refine xr_aload_n 0 dX10_putTogether_143 rfl rfl ?_
    refine yr_getR dX10_putTogether_144 fl_RX10_20 rfl t1 ?_
    refine xr_iload_n 2 dX10_putTogether_147 rfl rfl ?_
    refine xr_aload_n 0 dX10_putTogether_148 rfl rfl ?_
    refine yr_getR dX10_putTogether_149 fl_RX10_20 rfl t1 ?_
    refine xr_iload_n 1 dX10_putTogether_152 rfl rfl ?_
    obtain ⟨a22, e23, h⟩ := h
    obtain ⟨i24, t25, h⟩ := h
    refine yr_iald dX10_putTogether_153 e23 t25 ?_
    obtain ⟨i26, t27, h⟩ := h
    refine yr_iast dX10_putTogether_154 e23 t27 ?_
    refine xr_aload_n 0 dX10_putTogether_155 rfl rfl ?_
    refine yr_getR dX10_putTogether_156 fl_RX10_13 rfl t1 ?_
    refine xr_iload_n 1 dX10_putTogether_159 rfl rfl ?_
    refine xr_iconst 0 dX10_putTogether_160 (by decide) ?_
    obtain ⟨a28, e29, h⟩ := h
    obtain ⟨i30, t31, h⟩ := h
    refine yr_zast dX10_putTogether_161 e29 t31 ?_
    refine xr_aload_n 0 dX10_putTogether_162 rfl rfl ?_
    refine yr_getI dX10_putTogether_163 fl_RX10_75 rfl t1 ?_
    refine xr_iload_n 1 dX10_putTogether_166 rfl rfl ?_
    obtain ⟨ht, hf⟩ := h
    refine xr_icmp_ne 175 dX10_putTogether_167 (by decide) (fun c40 => ?_) (fun c40 => ?_)
    · replace h := ht c40
      clear ht hf
      refine xr_aload_n 0 dX10_putTogether_175 rfl rfl ?_
      refine xr_iload_n 2 dX10_putTogether_176 rfl rfl ?_
      refine yr_callV (r := (some a0)) [.int x2] dX10_putTogether_177 cv_X10_putTogether_127 rfl t1 rfl (Nat.le_trans wt_0 (by decide)) (by decide) (xSp.mono h ?_)
      clear h
      intro ρ34 M33 h
      obtain ⟨rfl, h⟩ := h
      exact xr_ret (by decide) (xRv rfl dX10_putTogether_180) h
    · replace h := hf c40
      clear ht hf
      refine xr_aload_n 0 dX10_putTogether_170 rfl rfl ?_
      refine xr_iload_n 2 dX10_putTogether_171 rfl rfl ?_
      refine yr_putI dX10_putTogether_172 fp_RX10_75 rfl t1 ?_
      refine xr_aload_n 0 dX10_putTogether_175 rfl rfl ?_
      refine xr_iload_n 2 dX10_putTogether_176 rfl rfl ?_
      refine yr_callV (r := (some a0)) [.int x2] dX10_putTogether_177 cv_X10_putTogether_127 rfl t1 rfl (Nat.le_trans wt_0 (by decide)) (by decide) (xSp.mono h ?_)
      clear h
      intro ρ38 M37 h
      obtain ⟨rfl, h⟩ := h
      exact xr_ret (by decide) (xRv rfl dX10_putTogether_180) h
  · replace h := hf c48
    clear ht hf
    refine xr_aload_n 0 dX10_putTogether_72 rfl rfl ?_
    obtain ⟨t41, h⟩ := h
    refine yr_getR dX10_putTogether_73 fl_RX10_23 rfl t41 ?_
    refine xr_bipush 12 dX10_putTogether_76 (by decide) ?_
    refine xr_iload_n 2 dX10_putTogether_78 rfl rfl ?_
    refine xr_imul dX10_putTogether_79 ?_
    refine xr_iload dX10_putTogether_80 rfl ?_
    refine xr_iadd dX10_putTogether_82 ?_
    refine xr_aload_n 0 dX10_putTogether_83 rfl rfl ?_
    refine yr_getR dX10_putTogether_84 fl_RX10_23 rfl t41 ?_
    refine xr_bipush 12 dX10_putTogether_87 (by decide) ?_
    refine xr_iload_n 1 dX10_putTogether_89 rfl rfl ?_
    refine xr_imul dX10_putTogether_90 ?_
    refine xr_iload dX10_putTogether_91 rfl ?_
    refine xr_iadd dX10_putTogether_93 ?_
    obtain ⟨a42, e43, h⟩ := h
    obtain ⟨i44, t45, h⟩ := h
    refine yr_iald dX10_putTogether_94 e43 t45 ?_
    obtain ⟨i46, t47, h⟩ := h
    refine yr_iast dX10_putTogether_95 e43 t47 ?_
    refine ziinc (x4 + 1) dX10_putTogether_96 rfl rfl (L1 := [(1, va_rf (some a0)), (1, .int x1), (1, .int x2), (1, .int x3), (1, .int (x4 + 1))]) (by decide) rfl ?_
    refine xr_goto 66 dX10_putTogether_99 (by decide) ?_
    exact h
set_option maxRecDepth 100000 in
set_option maxHeartbeats 4000000 in
theorem bX10_putTogether_24 {l : Launch} {g : xG} (a0 : Nat) (x1 : Int32) (x2 : Int32) (x3 : Int32) (x4 : Int32) {M : xM} {Q : Option Value → xM → Prop} (h : ((x4 < 0 → xWp l g mX10_putTogether 0 0 66 [(1, va_rf (some a0)), (1, .int x1), (1, .int x2), (1, .int x3), (1, .int 0)] [] (0, 0) M Q) ∧ (¬ x4 < 0 → (xat M a0 7 ∧ (∃ a2, (xR M a0 7) = some a2 ∧ ∃ i4, xai M a2 9 ((12 * x2) + x4) i4 ∧ (∃ i6, xai M a2 9 ((((12 * x2) + x4) + x3) + 1) i6 ∧ xWp l g mX10_putTogether 0 0 24 [(1, va_rf (some a0)), (1, .int x1), (1, .int x2), (1, .int x3), (1, .int (x4 + (-1)))] [] (0, 0) (xsI M a2 i6 (xI M a2 i4)) Q)))))) : xWp l g mX10_putTogether 0 0 24 [(1, va_rf (some a0)), (1, .int x1), (1, .int x2), (1, .int x3), (1, .int x4)] [] (0, 0) M Q := by
  refine xr_iload dX10_putTogether_24 rfl ?_
  obtain ⟨ht, hf⟩ := h
  refine xr_if_lt 63 dX10_putTogether_26 (by decide) (fun c8 => ?_) (fun c8 => ?_)
  · replace h := ht c8
    clear ht hf
    refine xr_iconst 0 dX10_putTogether_63 (by decide) ?_
    refine zistore dX10_putTogether_64 (L1 := [(1, va_rf (some a0)), (1, .int x1), (1, .int x2), (1, .int x3), (1, .int 0)]) (by decide) rfl ?_
    exact h
  · replace h := hf c8
    clear ht hf
    refine xr_aload_n 0 dX10_putTogether_29 rfl rfl ?_
    obtain ⟨t1, h⟩ := h
    refine yr_getR dX10_putTogether_30 fl_RX10_23 rfl t1 ?_
    refine xr_bipush 12 dX10_putTogether_33 (by decide) ?_
    refine xr_iload_n 2 dX10_putTogether_35 rfl rfl ?_
    refine xr_imul dX10_putTogether_36 ?_
    refine xr_iload dX10_putTogether_37 rfl ?_
    refine xr_iadd dX10_putTogether_39 ?_
    refine xr_iload_n 3 dX10_putTogether_40 rfl rfl ?_
    refine xr_iadd dX10_putTogether_41 ?_
    refine xr_iconst 1 dX10_putTogether_42 (by decide) ?_
    refine xr_iadd dX10_putTogether_43 ?_
    refine xr_aload_n 0 dX10_putTogether_44 rfl rfl ?_
    refine yr_getR dX10_putTogether_45 fl_RX10_23 rfl t1 ?_
    refine xr_bipush 12 dX10_putTogether_48 (by decide) ?_
    refine xr_iload_n 2 dX10_putTogether_50 rfl rfl ?_
    refine xr_imul dX10_putTogether_51 ?_
    refine xr_iload dX10_putTogether_52 rfl ?_
    refine xr_iadd dX10_putTogether_54 ?_
    obtain ⟨a2, e3, h⟩ := h
    obtain ⟨i4, t5, h⟩ := h
    refine yr_iald dX10_putTogether_55 e3 t5 ?_
    obtain ⟨i6, t7, h⟩ := h
    refine yr_iast dX10_putTogether_56 e3 t7 ?_
    refine ziinc (x4 + (-1)) dX10_putTogether_57 rfl rfl (L1 := [(1, va_rf (some a0)), (1, .int x1), (1, .int x2), (1, .int x3), (1, .int (x4 + (-1)))]) (by decide) rfl ?_
    refine xr_goto 24 dX10_putTogether_60 (by decide) ?_
    exact h
set_option maxRecDepth 100000 in
set_option maxHeartbeats 4000000 in
theorem bX10_putTogether_0 {l : Launch} {g : xG} (a0 : Nat) (x1 : Int32) {M : xM} {Q : Option Value → xM → Prop} (h : (xat M a0 7 ∧ xSp l g mX10_childFrom 0 0 [va_rf (some a0), .int x1, .int 0] M (fun ρ3 M2 => ∃ v1 : Int32, ρ3 = some (.int v1) ∧ (xat M2 a0 7 ∧ (∃ a7, (xR M2 a0 8) = some a7 ∧ ∃ i9, xai M2 a7 9 x1 i9 ∧ (∃ i11, xai M2 a7 9 v1 i11 ∧ xWp l g mX10_putTogether 0 0 24 [(1, va_rf (some a0)), (1, .int x1), (1, .int v1), (1, .int (xI M2 a7 i9)), (1, .int ((xI M2 a7 i11) - 1))] [] (0, 0) M2 Q)))))) : xWp l g mX10_putTogether 0 0 0 [(1, va_rf (some a0)), (1, .int x1), (0, .null), (0, .null), (0, .null)] [] (0, 0) M Q := by
  refine xr_aload_n 0 dX10_putTogether_0 rfl rfl ?_
  refine xr_iload_n 1 dX10_putTogether_1 rfl rfl ?_
  refine xr_iconst 0 dX10_putTogether_2 (by decide) ?_
  obtain ⟨t5, h⟩ := h
  refine yr_callV (r := (some a0)) [.int x1, .int 0] dX10_putTogether_3 cv_X10_putTogether_96 rfl t5 rfl (Nat.le_trans wt_0 (by decide)) (by decide) (xSp.mono h ?_)
  clear h
  intro ρ3 M2 h
  obtain ⟨v1, rfl, h⟩ := h
  refine zistore_n 2 dX10_putTogether_6 rfl (L1 := [(1, va_rf (some a0)), (1, .int x1), (1, .int v1), (0, .null), (0, .null)]) (by decide) rfl ?_
  refine xr_aload_n 0 dX10_putTogether_7 rfl rfl ?_
  obtain ⟨t6, h⟩ := h
  refine yr_getR dX10_putTogether_8 fl_RX10_26 rfl t6 ?_
  refine xr_iload_n 1 dX10_putTogether_11 rfl rfl ?_
  obtain ⟨a7, e8, h⟩ := h
  obtain ⟨i9, t10, h⟩ := h
  refine yr_iald dX10_putTogether_12 e8 t10 ?_
  refine zistore_n 3 dX10_putTogether_13 rfl (L1 := [(1, va_rf (some a0)), (1, .int x1), (1, .int v1), (1, .int (xI M2 a7 i9)), (0, .null)]) (by decide) rfl ?_
  refine xr_aload_n 0 dX10_putTogether_14 rfl rfl ?_
  refine yr_getR dX10_putTogether_15 fl_RX10_26 rfl t6 ?_
  refine xr_iload_n 2 dX10_putTogether_18 rfl rfl ?_
  obtain ⟨i11, t12, h⟩ := h
  refine yr_iald dX10_putTogether_19 e8 t12 ?_
  refine xr_iconst 1 dX10_putTogether_20 (by decide) ?_
  refine xr_isub dX10_putTogether_21 ?_
  refine zistore dX10_putTogether_22 (L1 := [(1, va_rf (some a0)), (1, .int x1), (1, .int v1), (1, .int (xI M2 a7 i9)), (1, .int ((xI M2 a7 i11) - 1))]) (by decide) rfl ?_
  exact h
theorem dX10_get_0 : decode cX10_get 0 = .ok (.aload_n 0, 1) := by decide +kernel
theorem dX10_get_1 : decode cX10_get 1 = .ok (.iconst 0, 1) := by decide +kernel
theorem dX10_get_2 : decode cX10_get 2 = .ok (.putfield 68, 3) := by decide +kernel
theorem dX10_get_5 : decode cX10_get 5 = .ok (.aload_n 0, 1) := by decide +kernel
theorem dX10_get_6 : decode cX10_get 6 = .ok (.getfield 114, 3) := by decide +kernel
theorem dX10_get_9 : decode cX10_get 9 = .ok (.ifCond .ne 29, 3) := by decide +kernel
theorem dX10_get_12 : decode cX10_get 12 = .ok (.aload_n 0, 1) := by decide +kernel
theorem dX10_get_13 : decode cX10_get 13 = .ok (.invokevirtual 118, 3) := by decide +kernel
theorem dX10_get_16 : decode cX10_get 16 = .ok (.ifCond .eq 22, 3) := by decide +kernel
theorem dX10_get_19 : decode cX10_get 19 = .ok (.aload_n 0, 1) := by decide +kernel
theorem dX10_get_20 : decode cX10_get 20 = .ok (.invokevirtual 124, 3) := by decide +kernel
theorem dX10_get_23 : decode cX10_get 23 = .ok (.ifCond .eq 15, 3) := by decide +kernel
theorem dX10_get_26 : decode cX10_get 26 = .ok (.aload_n 0, 1) := by decide +kernel
theorem dX10_get_27 : decode cX10_get 27 = .ok (.getfield 32, 3) := by decide +kernel
theorem dX10_get_30 : decode cX10_get 30 = .ok (.aload_n 0, 1) := by decide +kernel
theorem dX10_get_31 : decode cX10_get 31 = .ok (.getfield 99, 3) := by decide +kernel
theorem dX10_get_34 : decode cX10_get 34 = .ok (.laload, 1) := by decide +kernel
theorem dX10_get_35 : decode cX10_get 35 = .ok (.goto 6, 3) := by decide +kernel
theorem dX10_get_38 : decode cX10_get 38 = .ok (.ldc2_w 122, 3) := by decide +kernel
theorem dX10_get_41 : decode cX10_get 41 = .ok (.lreturn, 1) := by decide +kernel
set_option maxRecDepth 100000 in
set_option maxHeartbeats 4000000 in
theorem bX10_get_0 {l : Launch} {g : xG} (a0 : Nat) {M : xM} {Q : Option Value → xM → Prop} (h : (xat M a0 7 ∧ ((¬ (xI (xsI M a0 0 0) a0 3) = 0 → (Q (some (.long (-9223372036854775808))) (xsI M a0 0 0))) ∧ ((xI (xsI M a0 0 0) a0 3) = 0 → (xSp l g mX10_isKey 0 0 [va_rf (some a0)] (xsI M a0 0 0) (fun ρ4 M3 => ∃ v2 : Int32, ρ4 = some (.int v2) ∧ ((v2 = 0 → (Q (some (.long (-9223372036854775808))) M3)) ∧ (¬ v2 = 0 → (xat M3 a0 7 ∧ xSp l g mX10_isFound 0 0 [va_rf (some a0)] M3 (fun ρ8 M7 => ∃ v6 : Int32, ρ8 = some (.int v6) ∧ ((v6 = 0 → (Q (some (.long (-9223372036854775808))) M7)) ∧ (¬ v6 = 0 → (xat M7 a0 7 ∧ (∃ a12, (xR M7 a0 10) = some a12 ∧ ∃ i14, xai M7 a12 10 (xI M7 a0 20) i14 ∧ (Q (some (.long (xJ M7 a12 i14))) M7))))))))))))))) : xWp l g mX10_get 0 0 0 [(1, va_rf (some a0))] [] (0, 0) M Q := by
  refine xr_aload_n 0 dX10_get_0 rfl rfl ?_
  refine xr_iconst 0 dX10_get_1 (by decide) ?_
  obtain ⟨t1, h⟩ := h
  refine yr_putI dX10_get_2 fp_RX10_68 rfl t1 ?_
  refine xr_aload_n 0 dX10_get_5 rfl rfl ?_
  refine yr_getZ dX10_get_6 fl_RX10_114 rfl t1 ?_
  obtain ⟨ht, hf⟩ := h
  refine xr_if_ne 38 dX10_get_9 (by decide) (fun c18 => ?_) (fun c18 => ?_)
  · replace h := ht c18
    clear ht hf
    refine xr_ldc2 (-9223372036854775808) dX10_get_38 ct_RX10_122 ?_
    exact xr_retv (by decide) (xRl rfl dX10_get_41) h
  · replace h := hf c18
    clear ht hf
    refine xr_aload_n 0 dX10_get_12 rfl rfl ?_
    refine yr_callV (r := (some a0)) [] dX10_get_13 cv_X10_get_118 rfl t1 rfl (Nat.le_trans wt_0 (by decide)) (by decide) (xSp.mono h ?_)
    clear h
    intro ρ4 M3 h
    obtain ⟨v2, rfl, h⟩ := h
    obtain ⟨ht, hf⟩ := h
    refine xr_if_eq 38 dX10_get_16 (by decide) (fun c17 => ?_) (fun c17 => ?_)
    · replace h := ht c17
      clear ht hf
      refine xr_ldc2 (-9223372036854775808) dX10_get_38 ct_RX10_122 ?_
      exact xr_retv (by decide) (xRl rfl dX10_get_41) h
    · replace h := hf c17
      clear ht hf
      refine xr_aload_n 0 dX10_get_19 rfl rfl ?_
      obtain ⟨t10, h⟩ := h
      refine yr_callV (r := (some a0)) [] dX10_get_20 cv_X10_get_124 rfl t10 rfl (Nat.le_trans wt_0 (by decide)) (by decide) (xSp.mono h ?_)
      clear h
      intro ρ8 M7 h
      obtain ⟨v6, rfl, h⟩ := h
      obtain ⟨ht, hf⟩ := h
      refine xr_if_eq 38 dX10_get_23 (by decide) (fun c16 => ?_) (fun c16 => ?_)
      · replace h := ht c16
        clear ht hf
        refine xr_ldc2 (-9223372036854775808) dX10_get_38 ct_RX10_122 ?_
        exact xr_retv (by decide) (xRl rfl dX10_get_41) h
      · replace h := hf c16
        clear ht hf
        refine xr_aload_n 0 dX10_get_26 rfl rfl ?_
        obtain ⟨t11, h⟩ := h
        refine yr_getR dX10_get_27 fl_RX10_32 rfl t11 ?_
        refine xr_aload_n 0 dX10_get_30 rfl rfl ?_
        refine yr_getI dX10_get_31 fl_RX10_99 rfl t11 ?_
        obtain ⟨a12, e13, h⟩ := h
        obtain ⟨i14, t15, h⟩ := h
        refine yr_lald dX10_get_34 e13 t15 ?_
        refine xr_goto 41 dX10_get_35 (by decide) ?_
        exact xr_retv (by decide) (xRl rfl dX10_get_41) h
theorem dX10_tell_0 : decode cX10_tell 0 = .ok (.aload_n 0, 1) := by decide +kernel
theorem dX10_tell_1 : decode cX10_tell 1 = .ok (.aload_n 0, 1) := by decide +kernel
theorem dX10_tell_2 : decode cX10_tell 2 = .ok (.iload_n 1, 1) := by decide +kernel
theorem dX10_tell_3 : decode cX10_tell 3 = .ok (.invokevirtual 155, 3) := by decide +kernel
theorem dX10_tell_6 : decode cX10_tell 6 = .ok (.aload_n 0, 1) := by decide +kernel
theorem dX10_tell_7 : decode cX10_tell 7 = .ok (.getfield 26, 3) := by decide +kernel
theorem dX10_tell_10 : decode cX10_tell 10 = .ok (.iload_n 1, 1) := by decide +kernel
theorem dX10_tell_11 : decode cX10_tell 11 = .ok (.iaload, 1) := by decide +kernel
theorem dX10_tell_12 : decode cX10_tell 12 = .ok (.iadd, 1) := by decide +kernel
theorem dX10_tell_13 : decode cX10_tell 13 = .ok (.putfield 158, 3) := by decide +kernel
theorem dX10_tell_16 : decode cX10_tell 16 = .ok (.aload_n 0, 1) := by decide +kernel
theorem dX10_tell_17 : decode cX10_tell 17 = .ok (.getfield 158, 3) := by decide +kernel
theorem dX10_tell_20 : decode cX10_tell 20 = .ok (.istore_n 2, 1) := by decide +kernel
theorem dX10_tell_21 : decode cX10_tell 21 = .ok (.iload_n 1, 1) := by decide +kernel
theorem dX10_tell_22 : decode cX10_tell 22 = .ok (.istore_n 3, 1) := by decide +kernel
theorem dX10_tell_23 : decode cX10_tell 23 = .ok (.iload_n 3, 1) := by decide +kernel
theorem dX10_tell_24 : decode cX10_tell 24 = .ok (.iconst (-1), 1) := by decide +kernel
theorem dX10_tell_25 : decode cX10_tell 25 = .ok (.if_icmp .eq 86, 3) := by decide +kernel
theorem dX10_tell_28 : decode cX10_tell 28 = .ok (.iload_n 2, 1) := by decide +kernel
theorem dX10_tell_29 : decode cX10_tell 29 = .ok (.aload_n 0, 1) := by decide +kernel
theorem dX10_tell_30 : decode cX10_tell 30 = .ok (.getfield 26, 3) := by decide +kernel
theorem dX10_tell_33 : decode cX10_tell 33 = .ok (.iload_n 3, 1) := by decide +kernel
theorem dX10_tell_34 : decode cX10_tell 34 = .ok (.iaload, 1) := by decide +kernel
theorem dX10_tell_35 : decode cX10_tell 35 = .ok (.isub, 1) := by decide +kernel
theorem dX10_tell_36 : decode cX10_tell 36 = .ok (.istore_n 2, 1) := by decide +kernel
theorem dX10_tell_37 : decode cX10_tell 37 = .ok (.iconst 0, 1) := by decide +kernel
theorem dX10_tell_38 : decode cX10_tell 38 = .ok (.istore 4, 2) := by decide +kernel
theorem dX10_tell_40 : decode cX10_tell 40 = .ok (.iload 4, 2) := by decide +kernel
theorem dX10_tell_42 : decode cX10_tell 42 = .ok (.aload_n 0, 1) := by decide +kernel
theorem dX10_tell_43 : decode cX10_tell 43 = .ok (.getfield 26, 3) := by decide +kernel
theorem dX10_tell_46 : decode cX10_tell 46 = .ok (.iload_n 3, 1) := by decide +kernel
theorem dX10_tell_47 : decode cX10_tell 47 = .ok (.iaload, 1) := by decide +kernel
theorem dX10_tell_48 : decode cX10_tell 48 = .ok (.if_icmp .ge 30, 3) := by decide +kernel
theorem dX10_tell_51 : decode cX10_tell 51 = .ok (.aload_n 0, 1) := by decide +kernel
theorem dX10_tell_52 : decode cX10_tell 52 = .ok (.getfield 53, 3) := by decide +kernel
theorem dX10_tell_55 : decode cX10_tell 55 = .ok (.iload_n 2, 1) := by decide +kernel
theorem dX10_tell_56 : decode cX10_tell 56 = .ok (.iload 4, 2) := by decide +kernel
theorem dX10_tell_58 : decode cX10_tell 58 = .ok (.iadd, 1) := by decide +kernel
theorem dX10_tell_59 : decode cX10_tell 59 = .ok (.aload_n 0, 1) := by decide +kernel
theorem dX10_tell_60 : decode cX10_tell 60 = .ok (.getfield 23, 3) := by decide +kernel
theorem dX10_tell_63 : decode cX10_tell 63 = .ok (.bipush 12, 2) := by decide +kernel
theorem dX10_tell_65 : decode cX10_tell 65 = .ok (.iload_n 3, 1) := by decide +kernel
theorem dX10_tell_66 : decode cX10_tell 66 = .ok (.imul, 1) := by decide +kernel
theorem dX10_tell_67 : decode cX10_tell 67 = .ok (.iload 4, 2) := by decide +kernel
theorem dX10_tell_69 : decode cX10_tell 69 = .ok (.iadd, 1) := by decide +kernel
theorem dX10_tell_70 : decode cX10_tell 70 = .ok (.iaload, 1) := by decide +kernel
theorem dX10_tell_71 : decode cX10_tell 71 = .ok (.iastore, 1) := by decide +kernel
theorem dX10_tell_72 : decode cX10_tell 72 = .ok (.iinc 4 1, 3) := by decide +kernel
theorem dX10_tell_75 : decode cX10_tell 75 = .ok (.goto (-35), 3) := by decide +kernel
theorem dX10_tell_78 : decode cX10_tell 78 = .ok (.iload_n 3, 1) := by decide +kernel
theorem dX10_tell_79 : decode cX10_tell 79 = .ok (.aload_n 0, 1) := by decide +kernel
theorem dX10_tell_80 : decode cX10_tell 80 = .ok (.getfield 75, 3) := by decide +kernel
theorem dX10_tell_83 : decode cX10_tell 83 = .ok (.if_icmp .eq 18, 3) := by decide +kernel
theorem dX10_tell_86 : decode cX10_tell 86 = .ok (.iinc 2 (-1), 3) := by decide +kernel
theorem dX10_tell_89 : decode cX10_tell 89 = .ok (.aload_n 0, 1) := by decide +kernel
theorem dX10_tell_90 : decode cX10_tell 90 = .ok (.getfield 53, 3) := by decide +kernel
theorem dX10_tell_93 : decode cX10_tell 93 = .ok (.iload_n 2, 1) := by decide +kernel
theorem dX10_tell_94 : decode cX10_tell 94 = .ok (.aload_n 0, 1) := by decide +kernel
theorem dX10_tell_95 : decode cX10_tell 95 = .ok (.getfield 20, 3) := by decide +kernel
theorem dX10_tell_98 : decode cX10_tell 98 = .ok (.iload_n 3, 1) := by decide +kernel
theorem dX10_tell_99 : decode cX10_tell 99 = .ok (.iaload, 1) := by decide +kernel
theorem dX10_tell_100 : decode cX10_tell 100 = .ok (.iastore, 1) := by decide +kernel
theorem dX10_tell_101 : decode cX10_tell 101 = .ok (.aload_n 0, 1) := by decide +kernel
theorem dX10_tell_102 : decode cX10_tell 102 = .ok (.getfield 17, 3) := by decide +kernel
theorem dX10_tell_105 : decode cX10_tell 105 = .ok (.iload_n 3, 1) := by decide +kernel
theorem dX10_tell_106 : decode cX10_tell 106 = .ok (.iaload, 1) := by decide +kernel
theorem dX10_tell_107 : decode cX10_tell 107 = .ok (.istore_n 3, 1) := by decide +kernel
theorem dX10_tell_108 : decode cX10_tell 108 = .ok (.goto (-85), 3) := by decide +kernel
theorem dX10_tell_111 : decode cX10_tell 111 = .ok (.return_, 1) := by decide +kernel
set_option maxRecDepth 100000 in
set_option maxHeartbeats 4000000 in
theorem bX10_tell_40 {l : Launch} {g : xG} (a0 : Nat) (x1 : Int32) (x2 : Int32) (x3 : Int32) (x4 : Int32) {M : xM} {Q : Option Value → xM → Prop} (h : (xat M a0 7 ∧ (∃ a2, (xR M a0 8) = some a2 ∧ ∃ i4, xai M a2 9 x3 i4 ∧ (((xI M a2 i4) ≤ x4 → ((x3 = (xI M a0 14) → (∃ a6, (xR M a0 5) = some a6 ∧ ∃ i8, xai M a6 9 x3 i8 ∧ xWp l g mX10_tell 0 0 23 [(1, va_rf (some a0)), (1, .int x1), (1, .int x2), (1, .int (xI M a6 i8)), (1, .int x4)] [] (0, 0) M Q)) ∧ (¬ x3 = (xI M a0 14) → (∃ a10, (xR M a0 6) = some a10 ∧ ∃ i12, xai M a10 9 x3 i12 ∧ (∃ a14, (xR M a0 23) = some a14 ∧ ∃ i16, xai M a14 9 (x2 + (-1)) i16 ∧ (∃ a18, (xR (xsI M a14 i16 (xI M a10 i12)) a0 5) = some a18 ∧ ∃ i20, xai (xsI M a14 i16 (xI M a10 i12)) a18 9 x3 i20 ∧ xWp l g mX10_tell 0 0 23 [(1, va_rf (some a0)), (1, .int x1), (1, .int (x2 + (-1))), (1, .int (xI (xsI M a14 i16 (xI M a10 i12)) a18 i20)), (1, .int x4)] [] (0, 0) (xsI M a14 i16 (xI M a10 i12)) Q)))))) ∧ (¬ (xI M a2 i4) ≤ x4 → (∃ a23, (xR M a0 7) = some a23 ∧ ∃ i25, xai M a23 9 ((12 * x3) + x4) i25 ∧ (∃ a27, (xR M a0 23) = some a27 ∧ ∃ i29, xai M a27 9 (x2 + x4) i29 ∧ xWp l g mX10_tell 0 0 40 [(1, va_rf (some a0)), (1, .int x1), (1, .int x2), (1, .int x3), (1, .int (x4 + 1))] [] (0, 0) (xsI M a27 i29 (xI M a23 i25)) Q))))))) : xWp l g mX10_tell 0 0 40 [(1, va_rf (some a0)), (1, .int x1), (1, .int x2), (1, .int x3), (1, .int x4)] [] (0, 0) M Q := by
  refine xr_iload dX10_tell_40 rfl ?_
  refine xr_aload_n 0 dX10_tell_42 rfl rfl ?_
  obtain ⟨t1, h⟩ := h
  refine yr_getR dX10_tell_43 fl_RX10_26 rfl t1 ?_
  refine xr_iload_n 3 dX10_tell_46 rfl rfl ?_
  obtain ⟨a2, e3, h⟩ := h
  obtain ⟨i4, t5, h⟩ := h
  refine yr_iald dX10_tell_47 e3 t5 ?_
  obtain ⟨ht, hf⟩ := h
  refine xr_icmp_ge 78 dX10_tell_48 (by decide) (fun c31 => ?_) (fun c31 => ?_)
  · replace h := ht c31
    clear ht hf
    refine xr_iload_n 3 dX10_tell_78 rfl rfl ?_
    refine xr_aload_n 0 dX10_tell_79 rfl rfl ?_
    refine yr_getI dX10_tell_80 fl_RX10_75 rfl t1 ?_
    obtain ⟨ht, hf⟩ := h
    refine xr_icmp_eq 101 dX10_tell_83 (by decide) (fun c22 => ?_) (fun c22 => ?_)
    · replace h := ht c22
      clear ht hf
      refine xr_aload_n 0 dX10_tell_101 rfl rfl ?_
      refine yr_getR dX10_tell_102 fl_RX10_17 rfl t1 ?_
      refine xr_iload_n 3 dX10_tell_105 rfl rfl ?_
      obtain ⟨a6, e7, h⟩ := h
      obtain ⟨i8, t9, h⟩ := h
      refine yr_iald dX10_tell_106 e7 t9 ?_
      refine zistore_n 3 dX10_tell_107 rfl (L1 := [(1, va_rf (some a0)), (1, .int x1), (1, .int x2), (1, .int (xI M a6 i8)), (1, .int x4)]) (by decide) rfl ?_
      refine xr_goto 23 dX10_tell_108 (by decide) ?_
      exact h
    · replace h := hf c22
      clear ht hf
      refine ziinc (x2 + (-1)) dX10_tell_86 rfl rfl (L1 := [(1, va_rf (some a0)), (1, .int x1), (1, .int (x2 + (-1))), (1, .int x3), (1, .int x4)]) (by decide) rfl ?_
      refine xr_aload_n 0 dX10_tell_89 rfl rfl ?_
      refine yr_getR dX10_tell_90 fl_RX10_53 rfl t1 ?_
      refine xr_iload_n 2 dX10_tell_93 rfl rfl ?_
      refine xr_aload_n 0 dX10_tell_94 rfl rfl ?_
      refine yr_getR dX10_tell_95 fl_RX10_20 rfl t1 ?_
      refine xr_iload_n 3 dX10_tell_98 rfl rfl ?_
      obtain ⟨a10, e11, h⟩ := h
      obtain ⟨i12, t13, h⟩ := h
      refine yr_iald dX10_tell_99 e11 t13 ?_
      obtain ⟨a14, e15, h⟩ := h
      obtain ⟨i16, t17, h⟩ := h
      refine yr_iast dX10_tell_100 e15 t17 ?_
      refine xr_aload_n 0 dX10_tell_101 rfl rfl ?_
      refine yr_getR dX10_tell_102 fl_RX10_17 rfl t1 ?_
      refine xr_iload_n 3 dX10_tell_105 rfl rfl ?_
      obtain ⟨a18, e19, h⟩ := h
      obtain ⟨i20, t21, h⟩ := h
      refine yr_iald dX10_tell_106 e19 t21 ?_
      refine zistore_n 3 dX10_tell_107 rfl (L1 := [(1, va_rf (some a0)), (1, .int x1), (1, .int (x2 + (-1))), (1, .int (xI (xsI M a14 i16 (xI M a10 i12)) a18 i20)), (1, .int x4)]) (by decide) rfl ?_
      refine xr_goto 23 dX10_tell_108 (by decide) ?_
      exact h
  · replace h := hf c31
    clear ht hf
    refine xr_aload_n 0 dX10_tell_51 rfl rfl ?_
    refine yr_getR dX10_tell_52 fl_RX10_53 rfl t1 ?_
    refine xr_iload_n 2 dX10_tell_55 rfl rfl ?_
    refine xr_iload dX10_tell_56 rfl ?_
    refine xr_iadd dX10_tell_58 ?_
    refine xr_aload_n 0 dX10_tell_59 rfl rfl ?_
    refine yr_getR dX10_tell_60 fl_RX10_23 rfl t1 ?_
    refine xr_bipush 12 dX10_tell_63 (by decide) ?_
    refine xr_iload_n 3 dX10_tell_65 rfl rfl ?_
    refine xr_imul dX10_tell_66 ?_
    refine xr_iload dX10_tell_67 rfl ?_
    refine xr_iadd dX10_tell_69 ?_
    obtain ⟨a23, e24, h⟩ := h
    obtain ⟨i25, t26, h⟩ := h
    refine yr_iald dX10_tell_70 e24 t26 ?_
    obtain ⟨a27, e28, h⟩ := h
    obtain ⟨i29, t30, h⟩ := h
    refine yr_iast dX10_tell_71 e28 t30 ?_
    refine ziinc (x4 + 1) dX10_tell_72 rfl rfl (L1 := [(1, va_rf (some a0)), (1, .int x1), (1, .int x2), (1, .int x3), (1, .int (x4 + 1))]) (by decide) rfl ?_
    refine xr_goto 40 dX10_tell_75 (by decide) ?_
    exact h
set_option maxRecDepth 100000 in
set_option maxHeartbeats 4000000 in
theorem bX10_tell_23 {l : Launch} {g : xG} (a0 : Nat) (x1 : Int32) (x2 : Int32) (x3 : Int32) (w4 : Value) {M : xM} {Q : Option Value → xM → Prop} (h : ((x3 = (-1) → (Q none M)) ∧ (¬ x3 = (-1) → (xat M a0 7 ∧ (∃ a2, (xR M a0 8) = some a2 ∧ ∃ i4, xai M a2 9 x3 i4 ∧ xWp l g mX10_tell 0 0 40 [(1, va_rf (some a0)), (1, .int x1), (1, .int (x2 - (xI M a2 i4))), (1, .int x3), (1, .int 0)] [] (0, 0) M Q))))) : xWp l g mX10_tell 0 0 23 [(1, va_rf (some a0)), (1, .int x1), (1, .int x2), (1, .int x3), (0, w4)] [] (0, 0) M Q := by
  refine xr_iload_n 3 dX10_tell_23 rfl rfl ?_
  refine xr_iconst (-1) dX10_tell_24 (by decide) ?_
  obtain ⟨ht, hf⟩ := h
  refine xr_icmp_eq 111 dX10_tell_25 (by decide) (fun c6 => ?_) (fun c6 => ?_)
  · replace h := ht c6
    clear ht hf
    exact xr_ret (by decide) (xRv rfl dX10_tell_111) h
  · replace h := hf c6
    clear ht hf
    refine xr_iload_n 2 dX10_tell_28 rfl rfl ?_
    refine xr_aload_n 0 dX10_tell_29 rfl rfl ?_
    obtain ⟨t1, h⟩ := h
    refine yr_getR dX10_tell_30 fl_RX10_26 rfl t1 ?_
    refine xr_iload_n 3 dX10_tell_33 rfl rfl ?_
    obtain ⟨a2, e3, h⟩ := h
    obtain ⟨i4, t5, h⟩ := h
    refine yr_iald dX10_tell_34 e3 t5 ?_
    refine xr_isub dX10_tell_35 ?_
    refine zistore_n 2 dX10_tell_36 rfl (L1 := [(1, va_rf (some a0)), (1, .int x1), (1, .int (x2 - (xI M a2 i4))), (1, .int x3), (0, w4)]) (by decide) rfl ?_
    refine xr_iconst 0 dX10_tell_37 (by decide) ?_
    refine zistore dX10_tell_38 (L1 := [(1, va_rf (some a0)), (1, .int x1), (1, .int (x2 - (xI M a2 i4))), (1, .int x3), (1, .int 0)]) (by decide) rfl ?_
    exact h
set_option maxRecDepth 100000 in
set_option maxHeartbeats 4000000 in
theorem bX10_tell_0 {l : Launch} {g : xG} (a0 : Nat) (x1 : Int32) {M : xM} {Q : Option Value → xM → Prop} (h : (xat M a0 7 ∧ xSp l g mX10_lead 0 0 [va_rf (some a0), .int x1] M (fun ρ3 M2 => ∃ v1 : Int32, ρ3 = some (.int v1) ∧ (xat M2 a0 7 ∧ (∃ a7, (xR M2 a0 8) = some a7 ∧ ∃ i9, xai M2 a7 9 x1 i9 ∧ xWp l g mX10_tell 0 0 23 [(1, va_rf (some a0)), (1, .int x1), (1, .int (xI (xsI M2 a0 24 (v1 + (xI M2 a7 i9))) a0 24)), (1, .int x1), (0, .null)] [] (0, 0) (xsI M2 a0 24 (v1 + (xI M2 a7 i9))) Q))))) : xWp l g mX10_tell 0 0 0 [(1, va_rf (some a0)), (1, .int x1), (0, .null), (0, .null), (0, .null)] [] (0, 0) M Q := by
  refine xr_aload_n 0 dX10_tell_0 rfl rfl ?_
  refine xr_aload_n 0 dX10_tell_1 rfl rfl ?_
  refine xr_iload_n 1 dX10_tell_2 rfl rfl ?_
  obtain ⟨t5, h⟩ := h
  refine yr_callV (r := (some a0)) [.int x1] dX10_tell_3 cv_X10_tell_155 rfl t5 rfl (Nat.le_trans (wt_r wt_0) (by decide)) (by decide) (xSp.mono h ?_)
  clear h
  intro ρ3 M2 h
  obtain ⟨v1, rfl, h⟩ := h
  refine xr_aload_n 0 dX10_tell_6 rfl rfl ?_
  obtain ⟨t6, h⟩ := h
  refine yr_getR dX10_tell_7 fl_RX10_26 rfl t6 ?_
  refine xr_iload_n 1 dX10_tell_10 rfl rfl ?_
  obtain ⟨a7, e8, h⟩ := h
  obtain ⟨i9, t10, h⟩ := h
  refine yr_iald dX10_tell_11 e8 t10 ?_
  refine xr_iadd dX10_tell_12 ?_
  refine yr_putI dX10_tell_13 fp_RX10_158 rfl t6 ?_
  refine xr_aload_n 0 dX10_tell_16 rfl rfl ?_
  refine yr_getI dX10_tell_17 fl_RX10_158 rfl t6 ?_
  refine zistore_n 2 dX10_tell_20 rfl (L1 := [(1, va_rf (some a0)), (1, .int x1), (1, .int (xI (xsI M2 a0 24 (v1 + (xI M2 a7 i9))) a0 24)), (0, .null), (0, .null)]) (by decide) rfl ?_
  refine xr_iload_n 1 dX10_tell_21 rfl rfl ?_
  refine zistore_n 3 dX10_tell_22 rfl (L1 := [(1, va_rf (some a0)), (1, .int x1), (1, .int (xI (xsI M2 a0 24 (v1 + (xI M2 a7 i9))) a0 24)), (1, .int x1), (0, .null)]) (by decide) rfl ?_
  exact h
theorem dX10_begins_0 : decode cX10_begins 0 = .ok (.aload_n 0, 1) := by decide +kernel
theorem dX10_begins_1 : decode cX10_begins 1 = .ok (.getfield 158, 3) := by decide +kernel
theorem dX10_begins_4 : decode cX10_begins 4 = .ok (.aload_n 0, 1) := by decide +kernel
theorem dX10_begins_5 : decode cX10_begins 5 = .ok (.getfield 91, 3) := by decide +kernel
theorem dX10_begins_8 : decode cX10_begins 8 = .ok (.if_icmp .lt 7, 3) := by decide +kernel
theorem dX10_begins_11 : decode cX10_begins 11 = .ok (.iconst 1, 1) := by decide +kernel
theorem dX10_begins_12 : decode cX10_begins 12 = .ok (.goto 4, 3) := by decide +kernel
theorem dX10_begins_15 : decode cX10_begins 15 = .ok (.iconst 0, 1) := by decide +kernel
theorem dX10_begins_16 : decode cX10_begins 16 = .ok (.istore_n 1, 1) := by decide +kernel
theorem dX10_begins_17 : decode cX10_begins 17 = .ok (.iconst 0, 1) := by decide +kernel
theorem dX10_begins_18 : decode cX10_begins 18 = .ok (.istore_n 2, 1) := by decide +kernel
theorem dX10_begins_19 : decode cX10_begins 19 = .ok (.iload_n 2, 1) := by decide +kernel
theorem dX10_begins_20 : decode cX10_begins 20 = .ok (.aload_n 0, 1) := by decide +kernel
theorem dX10_begins_21 : decode cX10_begins 21 = .ok (.getfield 91, 3) := by decide +kernel
theorem dX10_begins_24 : decode cX10_begins 24 = .ok (.if_icmp .ge 34, 3) := by decide +kernel
theorem dX10_begins_27 : decode cX10_begins 27 = .ok (.iload_n 1, 1) := by decide +kernel
theorem dX10_begins_28 : decode cX10_begins 28 = .ok (.ifCond .eq 30, 3) := by decide +kernel
theorem dX10_begins_31 : decode cX10_begins 31 = .ok (.aload_n 0, 1) := by decide +kernel
theorem dX10_begins_32 : decode cX10_begins 32 = .ok (.getfield 53, 3) := by decide +kernel
theorem dX10_begins_35 : decode cX10_begins 35 = .ok (.iload_n 2, 1) := by decide +kernel
theorem dX10_begins_36 : decode cX10_begins 36 = .ok (.iaload, 1) := by decide +kernel
theorem dX10_begins_37 : decode cX10_begins 37 = .ok (.aload_n 0, 1) := by decide +kernel
theorem dX10_begins_38 : decode cX10_begins 38 = .ok (.getfield 7, 3) := by decide +kernel
theorem dX10_begins_41 : decode cX10_begins 41 = .ok (.iload_n 2, 1) := by decide +kernel
theorem dX10_begins_42 : decode cX10_begins 42 = .ok (.iaload, 1) := by decide +kernel
theorem dX10_begins_43 : decode cX10_begins 43 = .ok (.if_icmp .ne 7, 3) := by decide +kernel
theorem dX10_begins_46 : decode cX10_begins 46 = .ok (.iconst 1, 1) := by decide +kernel
theorem dX10_begins_47 : decode cX10_begins 47 = .ok (.goto 4, 3) := by decide +kernel
theorem dX10_begins_50 : decode cX10_begins 50 = .ok (.iconst 0, 1) := by decide +kernel
theorem dX10_begins_51 : decode cX10_begins 51 = .ok (.istore_n 1, 1) := by decide +kernel
theorem dX10_begins_52 : decode cX10_begins 52 = .ok (.iinc 2 1, 3) := by decide +kernel
theorem dX10_begins_55 : decode cX10_begins 55 = .ok (.goto (-36), 3) := by decide +kernel
theorem dX10_begins_58 : decode cX10_begins 58 = .ok (.iload_n 1, 1) := by decide +kernel
theorem dX10_begins_59 : decode cX10_begins 59 = .ok (.ireturn, 1) := by decide +kernel
set_option maxRecDepth 100000 in
set_option maxHeartbeats 4000000 in
theorem bX10_begins_19 {l : Launch} {g : xG} (a0 : Nat) (x1 : Int32) (x2 : Int32) {M : xM} {Q : Option Value → xM → Prop} (h : (xat M a0 7 ∧ (((xI M a0 2) ≤ x2 → ((x1 = 0 ∨ x1 = 1) ∧ Q (some (.int x1)) M)) ∧ (¬ (xI M a0 2) ≤ x2 → ((x1 = 0 → ((x1 = 0 ∨ x1 = 1) ∧ Q (some (.int x1)) M)) ∧ (¬ x1 = 0 → (∃ a4, (xR M a0 23) = some a4 ∧ ∃ i6, xai M a4 9 x2 i6 ∧ (∃ a8, (xR M a0 1) = some a8 ∧ ∃ i10, xai M a8 9 x2 i10 ∧ ((¬ (xI M a4 i6) = (xI M a8 i10) → xWp l g mX10_begins 0 0 19 [(1, va_rf (some a0)), (1, .int 0), (1, .int (x2 + 1))] [] (0, 0) M Q) ∧ ((xI M a4 i6) = (xI M a8 i10) → xWp l g mX10_begins 0 0 19 [(1, va_rf (some a0)), (1, .int 1), (1, .int (x2 + 1))] [] (0, 0) M Q)))))))))) : xWp l g mX10_begins 0 0 19 [(1, va_rf (some a0)), (1, .int x1), (1, .int x2)] [] (0, 0) M Q := by
  refine xr_iload_n 2 dX10_begins_19 rfl rfl ?_
  refine xr_aload_n 0 dX10_begins_20 rfl rfl ?_
  obtain ⟨t1, h⟩ := h
  refine yr_getI dX10_begins_21 fl_RX10_91 rfl t1 ?_
  obtain ⟨ht, hf⟩ := h
  refine xr_icmp_ge 58 dX10_begins_24 (by decide) (fun c14 => ?_) (fun c14 => ?_)
  · replace h := ht c14
    clear ht hf
    refine xr_iload_n 1 dX10_begins_58 rfl rfl ?_
    obtain ⟨z2, h⟩ := h
    exact xr_retv (by decide) (xRi rfl (nar_z z2) dX10_begins_59) h
  · replace h := hf c14
    clear ht hf
    refine xr_iload_n 1 dX10_begins_27 rfl rfl ?_
    obtain ⟨ht, hf⟩ := h
    refine xr_if_eq 58 dX10_begins_28 (by decide) (fun c13 => ?_) (fun c13 => ?_)
    · replace h := ht c13
      clear ht hf
      refine xr_iload_n 1 dX10_begins_58 rfl rfl ?_
      obtain ⟨z3, h⟩ := h
      exact xr_retv (by decide) (xRi rfl (nar_z z3) dX10_begins_59) h
    · replace h := hf c13
      clear ht hf
      refine xr_aload_n 0 dX10_begins_31 rfl rfl ?_
      refine yr_getR dX10_begins_32 fl_RX10_53 rfl t1 ?_
      refine xr_iload_n 2 dX10_begins_35 rfl rfl ?_
      obtain ⟨a4, e5, h⟩ := h
      obtain ⟨i6, t7, h⟩ := h
      refine yr_iald dX10_begins_36 e5 t7 ?_
      refine xr_aload_n 0 dX10_begins_37 rfl rfl ?_
      refine yr_getR dX10_begins_38 fl_RX10_7 rfl t1 ?_
      refine xr_iload_n 2 dX10_begins_41 rfl rfl ?_
      obtain ⟨a8, e9, h⟩ := h
      obtain ⟨i10, t11, h⟩ := h
      refine yr_iald dX10_begins_42 e9 t11 ?_
      obtain ⟨ht, hf⟩ := h
      refine xr_icmp_ne 50 dX10_begins_43 (by decide) (fun c12 => ?_) (fun c12 => ?_)
      · replace h := ht c12
        clear ht hf
        refine xr_iconst 0 dX10_begins_50 (by decide) ?_
        refine zistore_n 1 dX10_begins_51 rfl (L1 := [(1, va_rf (some a0)), (1, .int 0), (1, .int x2)]) (by decide) rfl ?_
        refine ziinc (x2 + 1) dX10_begins_52 rfl rfl (L1 := [(1, va_rf (some a0)), (1, .int 0), (1, .int (x2 + 1))]) (by decide) rfl ?_
        refine xr_goto 19 dX10_begins_55 (by decide) ?_
        exact h
      · replace h := hf c12
        clear ht hf
        refine xr_iconst 1 dX10_begins_46 (by decide) ?_
        refine xr_goto 51 dX10_begins_47 (by decide) ?_
        refine zistore_n 1 dX10_begins_51 rfl (L1 := [(1, va_rf (some a0)), (1, .int 1), (1, .int x2)]) (by decide) rfl ?_
        refine ziinc (x2 + 1) dX10_begins_52 rfl rfl (L1 := [(1, va_rf (some a0)), (1, .int 1), (1, .int (x2 + 1))]) (by decide) rfl ?_
        refine xr_goto 19 dX10_begins_55 (by decide) ?_
        exact h
set_option maxRecDepth 100000 in
set_option maxHeartbeats 4000000 in
theorem bX10_begins_0 {l : Launch} {g : xG} (a0 : Nat) {M : xM} {Q : Option Value → xM → Prop} (h : (xat M a0 7 ∧ (((xI M a0 24) < (xI M a0 2) → xWp l g mX10_begins 0 0 19 [(1, va_rf (some a0)), (1, .int 0), (1, .int 0)] [] (0, 0) M Q) ∧ (¬ (xI M a0 24) < (xI M a0 2) → xWp l g mX10_begins 0 0 19 [(1, va_rf (some a0)), (1, .int 1), (1, .int 0)] [] (0, 0) M Q)))) : xWp l g mX10_begins 0 0 0 [(1, va_rf (some a0)), (0, .null), (0, .null)] [] (0, 0) M Q := by
  refine xr_aload_n 0 dX10_begins_0 rfl rfl ?_
  obtain ⟨t1, h⟩ := h
  refine yr_getI dX10_begins_1 fl_RX10_158 rfl t1 ?_
  refine xr_aload_n 0 dX10_begins_4 rfl rfl ?_
  refine yr_getI dX10_begins_5 fl_RX10_91 rfl t1 ?_
  obtain ⟨ht, hf⟩ := h
  refine xr_icmp_lt 15 dX10_begins_8 (by decide) (fun c2 => ?_) (fun c2 => ?_)
  · replace h := ht c2
    clear ht hf
    refine xr_iconst 0 dX10_begins_15 (by decide) ?_
    refine zistore_n 1 dX10_begins_16 rfl (L1 := [(1, va_rf (some a0)), (1, .int 0), (0, .null)]) (by decide) rfl ?_
    refine xr_iconst 0 dX10_begins_17 (by decide) ?_
    refine zistore_n 2 dX10_begins_18 rfl (L1 := [(1, va_rf (some a0)), (1, .int 0), (1, .int 0)]) (by decide) rfl ?_
    exact h
  · replace h := hf c2
    clear ht hf
    refine xr_iconst 1 dX10_begins_11 (by decide) ?_
    refine xr_goto 16 dX10_begins_12 (by decide) ?_
    refine zistore_n 1 dX10_begins_16 rfl (L1 := [(1, va_rf (some a0)), (1, .int 1), (0, .null)]) (by decide) rfl ?_
    refine xr_iconst 0 dX10_begins_17 (by decide) ?_
    refine zistore_n 2 dX10_begins_18 rfl (L1 := [(1, va_rf (some a0)), (1, .int 1), (1, .int 0)]) (by decide) rfl ?_
    exact h
theorem dX10_isBefore_0 : decode cX10_isBefore 0 = .ok (.iconst 0, 1) := by decide +kernel
theorem dX10_isBefore_1 : decode cX10_isBefore 1 = .ok (.istore_n 1, 1) := by decide +kernel
theorem dX10_isBefore_2 : decode cX10_isBefore 2 = .ok (.iload_n 1, 1) := by decide +kernel
theorem dX10_isBefore_3 : decode cX10_isBefore 3 = .ok (.aload_n 0, 1) := by decide +kernel
theorem dX10_isBefore_4 : decode cX10_isBefore 4 = .ok (.getfield 158, 3) := by decide +kernel
theorem dX10_isBefore_7 : decode cX10_isBefore 7 = .ok (.if_icmp .ge 32, 3) := by decide +kernel
theorem dX10_isBefore_10 : decode cX10_isBefore 10 = .ok (.iload_n 1, 1) := by decide +kernel
theorem dX10_isBefore_11 : decode cX10_isBefore 11 = .ok (.aload_n 0, 1) := by decide +kernel
theorem dX10_isBefore_12 : decode cX10_isBefore 12 = .ok (.getfield 91, 3) := by decide +kernel
theorem dX10_isBefore_15 : decode cX10_isBefore 15 = .ok (.if_icmp .ge 24, 3) := by decide +kernel
theorem dX10_isBefore_18 : decode cX10_isBefore 18 = .ok (.aload_n 0, 1) := by decide +kernel
theorem dX10_isBefore_19 : decode cX10_isBefore 19 = .ok (.getfield 53, 3) := by decide +kernel
theorem dX10_isBefore_22 : decode cX10_isBefore 22 = .ok (.iload_n 1, 1) := by decide +kernel
theorem dX10_isBefore_23 : decode cX10_isBefore 23 = .ok (.iaload, 1) := by decide +kernel
theorem dX10_isBefore_24 : decode cX10_isBefore 24 = .ok (.aload_n 0, 1) := by decide +kernel
theorem dX10_isBefore_25 : decode cX10_isBefore 25 = .ok (.getfield 7, 3) := by decide +kernel
theorem dX10_isBefore_28 : decode cX10_isBefore 28 = .ok (.iload_n 1, 1) := by decide +kernel
theorem dX10_isBefore_29 : decode cX10_isBefore 29 = .ok (.iaload, 1) := by decide +kernel
theorem dX10_isBefore_30 : decode cX10_isBefore 30 = .ok (.if_icmp .ne 9, 3) := by decide +kernel
theorem dX10_isBefore_33 : decode cX10_isBefore 33 = .ok (.iinc 1 1, 3) := by decide +kernel
theorem dX10_isBefore_36 : decode cX10_isBefore 36 = .ok (.goto (-34), 3) := by decide +kernel
theorem dX10_isBefore_39 : decode cX10_isBefore 39 = .ok (.iload_n 1, 1) := by decide +kernel
theorem dX10_isBefore_40 : decode cX10_isBefore 40 = .ok (.aload_n 0, 1) := by decide +kernel
theorem dX10_isBefore_41 : decode cX10_isBefore 41 = .ok (.getfield 91, 3) := by decide +kernel
theorem dX10_isBefore_44 : decode cX10_isBefore 44 = .ok (.if_icmp .ge 30, 3) := by decide +kernel
theorem dX10_isBefore_47 : decode cX10_isBefore 47 = .ok (.iload_n 1, 1) := by decide +kernel
theorem dX10_isBefore_48 : decode cX10_isBefore 48 = .ok (.aload_n 0, 1) := by decide +kernel
theorem dX10_isBefore_49 : decode cX10_isBefore 49 = .ok (.getfield 158, 3) := by decide +kernel
theorem dX10_isBefore_52 : decode cX10_isBefore 52 = .ok (.if_icmp .eq 18, 3) := by decide +kernel
theorem dX10_isBefore_55 : decode cX10_isBefore 55 = .ok (.aload_n 0, 1) := by decide +kernel
theorem dX10_isBefore_56 : decode cX10_isBefore 56 = .ok (.getfield 53, 3) := by decide +kernel
theorem dX10_isBefore_59 : decode cX10_isBefore 59 = .ok (.iload_n 1, 1) := by decide +kernel
theorem dX10_isBefore_60 : decode cX10_isBefore 60 = .ok (.iaload, 1) := by decide +kernel
theorem dX10_isBefore_61 : decode cX10_isBefore 61 = .ok (.aload_n 0, 1) := by decide +kernel
theorem dX10_isBefore_62 : decode cX10_isBefore 62 = .ok (.getfield 7, 3) := by decide +kernel
theorem dX10_isBefore_65 : decode cX10_isBefore 65 = .ok (.iload_n 1, 1) := by decide +kernel
theorem dX10_isBefore_66 : decode cX10_isBefore 66 = .ok (.iaload, 1) := by decide +kernel
theorem dX10_isBefore_67 : decode cX10_isBefore 67 = .ok (.if_icmp .ge 7, 3) := by decide +kernel
theorem dX10_isBefore_70 : decode cX10_isBefore 70 = .ok (.iconst 1, 1) := by decide +kernel
theorem dX10_isBefore_71 : decode cX10_isBefore 71 = .ok (.goto 4, 3) := by decide +kernel
theorem dX10_isBefore_74 : decode cX10_isBefore 74 = .ok (.iconst 0, 1) := by decide +kernel
theorem dX10_isBefore_75 : decode cX10_isBefore 75 = .ok (.ireturn, 1) := by decide +kernel
set_option maxRecDepth 100000 in
set_option maxHeartbeats 4000000 in
theorem bX10_isBefore_39 {l : Launch} {g : xG} (a0 : Nat) (x1 : Int32) {M : xM} {Q : Option Value → xM → Prop} (h : (xat M a0 7 ∧ (((xI M a0 2) ≤ x1 → (Q (some (.int 0)) M)) ∧ (¬ (xI M a0 2) ≤ x1 → ((x1 = (xI M a0 24) → (Q (some (.int 1)) M)) ∧ (¬ x1 = (xI M a0 24) → (∃ a2, (xR M a0 23) = some a2 ∧ ∃ i4, xai M a2 9 x1 i4 ∧ (∃ a6, (xR M a0 1) = some a6 ∧ ∃ i8, xai M a6 9 x1 i8 ∧ (((xI M a6 i8) ≤ (xI M a2 i4) → (Q (some (.int 0)) M)) ∧ (¬ (xI M a6 i8) ≤ (xI M a2 i4) → (Q (some (.int 1)) M))))))))))) : xWp l g mX10_isBefore 0 0 39 [(1, va_rf (some a0)), (1, .int x1)] [] (0, 0) M Q := by
  refine xr_iload_n 1 dX10_isBefore_39 rfl rfl ?_
  refine xr_aload_n 0 dX10_isBefore_40 rfl rfl ?_
  obtain ⟨t1, h⟩ := h
  refine yr_getI dX10_isBefore_41 fl_RX10_91 rfl t1 ?_
  obtain ⟨ht, hf⟩ := h
  refine xr_icmp_ge 74 dX10_isBefore_44 (by decide) (fun c12 => ?_) (fun c12 => ?_)
  · replace h := ht c12
    clear ht hf
    refine xr_iconst 0 dX10_isBefore_74 (by decide) ?_
    exact xr_retv (by decide) (xRi rfl rfl dX10_isBefore_75) h
  · replace h := hf c12
    clear ht hf
    refine xr_iload_n 1 dX10_isBefore_47 rfl rfl ?_
    refine xr_aload_n 0 dX10_isBefore_48 rfl rfl ?_
    refine yr_getI dX10_isBefore_49 fl_RX10_158 rfl t1 ?_
    obtain ⟨ht, hf⟩ := h
    refine xr_icmp_eq 70 dX10_isBefore_52 (by decide) (fun c11 => ?_) (fun c11 => ?_)
    · replace h := ht c11
      clear ht hf
      refine xr_iconst 1 dX10_isBefore_70 (by decide) ?_
      refine xr_goto 75 dX10_isBefore_71 (by decide) ?_
      exact xr_retv (by decide) (xRi rfl rfl dX10_isBefore_75) h
    · replace h := hf c11
      clear ht hf
      refine xr_aload_n 0 dX10_isBefore_55 rfl rfl ?_
      refine yr_getR dX10_isBefore_56 fl_RX10_53 rfl t1 ?_
      refine xr_iload_n 1 dX10_isBefore_59 rfl rfl ?_
      obtain ⟨a2, e3, h⟩ := h
      obtain ⟨i4, t5, h⟩ := h
      refine yr_iald dX10_isBefore_60 e3 t5 ?_
      refine xr_aload_n 0 dX10_isBefore_61 rfl rfl ?_
      refine yr_getR dX10_isBefore_62 fl_RX10_7 rfl t1 ?_
      refine xr_iload_n 1 dX10_isBefore_65 rfl rfl ?_
      obtain ⟨a6, e7, h⟩ := h
      obtain ⟨i8, t9, h⟩ := h
      refine yr_iald dX10_isBefore_66 e7 t9 ?_
      obtain ⟨ht, hf⟩ := h
      refine xr_icmp_ge 74 dX10_isBefore_67 (by decide) (fun c10 => ?_) (fun c10 => ?_)
      · replace h := ht c10
        clear ht hf
        refine xr_iconst 0 dX10_isBefore_74 (by decide) ?_
        exact xr_retv (by decide) (xRi rfl rfl dX10_isBefore_75) h
      · replace h := hf c10
        clear ht hf
        refine xr_iconst 1 dX10_isBefore_70 (by decide) ?_
        refine xr_goto 75 dX10_isBefore_71 (by decide) ?_
        exact xr_retv (by decide) (xRi rfl rfl dX10_isBefore_75) h
set_option maxRecDepth 100000 in
set_option maxHeartbeats 4000000 in
theorem bX10_isBefore_2 {l : Launch} {g : xG} (a0 : Nat) (x1 : Int32) {M : xM} {Q : Option Value → xM → Prop} (h : (xat M a0 7 ∧ (((xI M a0 24) ≤ x1 → xWp l g mX10_isBefore 0 0 39 [(1, va_rf (some a0)), (1, .int x1)] [] (0, 0) M Q) ∧ (¬ (xI M a0 24) ≤ x1 → (((xI M a0 2) ≤ x1 → xWp l g mX10_isBefore 0 0 39 [(1, va_rf (some a0)), (1, .int x1)] [] (0, 0) M Q) ∧ (¬ (xI M a0 2) ≤ x1 → (∃ a2, (xR M a0 23) = some a2 ∧ ∃ i4, xai M a2 9 x1 i4 ∧ (∃ a6, (xR M a0 1) = some a6 ∧ ∃ i8, xai M a6 9 x1 i8 ∧ ((¬ (xI M a2 i4) = (xI M a6 i8) → xWp l g mX10_isBefore 0 0 39 [(1, va_rf (some a0)), (1, .int x1)] [] (0, 0) M Q) ∧ ((xI M a2 i4) = (xI M a6 i8) → xWp l g mX10_isBefore 0 0 2 [(1, va_rf (some a0)), (1, .int (x1 + 1))] [] (0, 0) M Q)))))))))) : xWp l g mX10_isBefore 0 0 2 [(1, va_rf (some a0)), (1, .int x1)] [] (0, 0) M Q := by
  refine xr_iload_n 1 dX10_isBefore_2 rfl rfl ?_
  refine xr_aload_n 0 dX10_isBefore_3 rfl rfl ?_
  obtain ⟨t1, h⟩ := h
  refine yr_getI dX10_isBefore_4 fl_RX10_158 rfl t1 ?_
  obtain ⟨ht, hf⟩ := h
  refine xr_icmp_ge 39 dX10_isBefore_7 (by decide) (fun c12 => ?_) (fun c12 => ?_)
  · replace h := ht c12
    clear ht hf
    exact h
  · replace h := hf c12
    clear ht hf
    refine xr_iload_n 1 dX10_isBefore_10 rfl rfl ?_
    refine xr_aload_n 0 dX10_isBefore_11 rfl rfl ?_
    refine yr_getI dX10_isBefore_12 fl_RX10_91 rfl t1 ?_
    obtain ⟨ht, hf⟩ := h
    refine xr_icmp_ge 39 dX10_isBefore_15 (by decide) (fun c11 => ?_) (fun c11 => ?_)
    · replace h := ht c11
      clear ht hf
      exact h
    · replace h := hf c11
      clear ht hf
      refine xr_aload_n 0 dX10_isBefore_18 rfl rfl ?_
      refine yr_getR dX10_isBefore_19 fl_RX10_53 rfl t1 ?_
      refine xr_iload_n 1 dX10_isBefore_22 rfl rfl ?_
      obtain ⟨a2, e3, h⟩ := h
      obtain ⟨i4, t5, h⟩ := h
      refine yr_iald dX10_isBefore_23 e3 t5 ?_
      refine xr_aload_n 0 dX10_isBefore_24 rfl rfl ?_
      refine yr_getR dX10_isBefore_25 fl_RX10_7 rfl t1 ?_
      refine xr_iload_n 1 dX10_isBefore_28 rfl rfl ?_
      obtain ⟨a6, e7, h⟩ := h
      obtain ⟨i8, t9, h⟩ := h
      refine yr_iald dX10_isBefore_29 e7 t9 ?_
      obtain ⟨ht, hf⟩ := h
      refine xr_icmp_ne 39 dX10_isBefore_30 (by decide) (fun c10 => ?_) (fun c10 => ?_)
      · replace h := ht c10
        clear ht hf
        exact h
      · replace h := hf c10
        clear ht hf
        refine ziinc (x1 + 1) dX10_isBefore_33 rfl rfl (L1 := [(1, va_rf (some a0)), (1, .int (x1 + 1))]) (by decide) rfl ?_
        refine xr_goto 2 dX10_isBefore_36 (by decide) ?_
        exact h
set_option maxRecDepth 100000 in
set_option maxHeartbeats 4000000 in
theorem bX10_isBefore_0 {l : Launch} {g : xG} (a0 : Nat) {M : xM} {Q : Option Value → xM → Prop} (h : xWp l g mX10_isBefore 0 0 2 [(1, va_rf (some a0)), (1, .int 0)] [] (0, 0) M Q) : xWp l g mX10_isBefore 0 0 0 [(1, va_rf (some a0)), (0, .null)] [] (0, 0) M Q := by
  refine xr_iconst 0 dX10_isBefore_0 (by decide) ?_
  refine zistore_n 1 dX10_isBefore_1 rfl (L1 := [(1, va_rf (some a0)), (1, .int 0)]) (by decide) rfl ?_
  exact h
theorem dX10_with_0 : decode cX10_with 0 = .ok (.aload_n 0, 1) := by decide +kernel
theorem dX10_with_1 : decode cX10_with 1 = .ok (.iconst 0, 1) := by decide +kernel
theorem dX10_with_2 : decode cX10_with 2 = .ok (.putfield 68, 3) := by decide +kernel
theorem dX10_with_5 : decode cX10_with 5 = .ok (.aload_n 0, 1) := by decide +kernel
theorem dX10_with_6 : decode cX10_with 6 = .ok (.getfield 114, 3) := by decide +kernel
theorem dX10_with_9 : decode cX10_with 9 = .ok (.ifCond .eq 8, 3) := by decide +kernel
theorem dX10_with_12 : decode cX10_with 12 = .ok (.bipush (-4), 2) := by decide +kernel
theorem dX10_with_14 : decode cX10_with 14 = .ok (.goto 19, 3) := by decide +kernel
theorem dX10_with_17 : decode cX10_with 17 = .ok (.aload_n 0, 1) := by decide +kernel
theorem dX10_with_18 : decode cX10_with 18 = .ok (.invokevirtual 118, 3) := by decide +kernel
theorem dX10_with_21 : decode cX10_with 21 = .ok (.ifCond .eq 11, 3) := by decide +kernel
theorem dX10_with_24 : decode cX10_with 24 = .ok (.aload_n 0, 1) := by decide +kernel
theorem dX10_with_25 : decode cX10_with 25 = .ok (.iconst 1, 1) := by decide +kernel
theorem dX10_with_26 : decode cX10_with 26 = .ok (.invokevirtual 161, 3) := by decide +kernel
theorem dX10_with_29 : decode cX10_with 29 = .ok (.goto 4, 3) := by decide +kernel
theorem dX10_with_32 : decode cX10_with 32 = .ok (.iconst (-1), 1) := by decide +kernel
theorem dX10_with_33 : decode cX10_with 33 = .ok (.ireturn, 1) := by decide +kernel
set_option maxRecDepth 100000 in
set_option maxHeartbeats 4000000 in
theorem bX10_with_0 {l : Launch} {g : xG} (a0 : Nat) {M : xM} {Q : Option Value → xM → Prop} (h : (xat M a0 7 ∧ (((xI (xsI M a0 0 0) a0 3) = 0 → (xSp l g mX10_isKey 0 0 [va_rf (some a0)] (xsI M a0 0 0) (fun ρ4 M3 => ∃ v2 : Int32, ρ4 = some (.int v2) ∧ ((v2 = 0 → (Q (some (.int (-1))) M3)) ∧ (¬ v2 = 0 → (xat M3 a0 7 ∧ xSp l g mX10_countKeys 0 0 [va_rf (some a0), .int 1] M3 (fun ρ8 M7 => ∃ v6 : Int32, ρ8 = some (.int v6) ∧ (Q (some (.int v6)) M7)))))))) ∧ (¬ (xI (xsI M a0 0 0) a0 3) = 0 → (Q (some (.int (-4))) (xsI M a0 0 0)))))) : xWp l g mX10_with 0 0 0 [(1, va_rf (some a0))] [] (0, 0) M Q := by
  refine xr_aload_n 0 dX10_with_0 rfl rfl ?_
  refine xr_iconst 0 dX10_with_1 (by decide) ?_
  obtain ⟨t1, h⟩ := h
  refine yr_putI dX10_with_2 fp_RX10_68 rfl t1 ?_
  refine xr_aload_n 0 dX10_with_5 rfl rfl ?_
  refine yr_getZ dX10_with_6 fl_RX10_114 rfl t1 ?_
  obtain ⟨ht, hf⟩ := h
  refine xr_if_eq 17 dX10_with_9 (by decide) (fun c12 => ?_) (fun c12 => ?_)
  · replace h := ht c12
    clear ht hf
    refine xr_aload_n 0 dX10_with_17 rfl rfl ?_
    refine yr_callV (r := (some a0)) [] dX10_with_18 cv_X10_with_118 rfl t1 rfl (Nat.le_trans wt_0 (by decide)) (by decide) (xSp.mono h ?_)
    clear h
    intro ρ4 M3 h
    obtain ⟨v2, rfl, h⟩ := h
    obtain ⟨ht, hf⟩ := h
    refine xr_if_eq 32 dX10_with_21 (by decide) (fun c11 => ?_) (fun c11 => ?_)
    · replace h := ht c11
      clear ht hf
      refine xr_iconst (-1) dX10_with_32 (by decide) ?_
      exact xr_retv (by decide) (xRi rfl rfl dX10_with_33) h
    · replace h := hf c11
      clear ht hf
      refine xr_aload_n 0 dX10_with_24 rfl rfl ?_
      refine xr_iconst 1 dX10_with_25 (by decide) ?_
      obtain ⟨t10, h⟩ := h
      refine yr_callV (r := (some a0)) [.int 1] dX10_with_26 cv_X10_with_161 rfl t10 rfl (Nat.le_trans wt_0 (by decide)) (by decide) (xSp.mono h ?_)
      clear h
      intro ρ8 M7 h
      obtain ⟨v6, rfl, h⟩ := h
      refine xr_goto 33 dX10_with_29 (by decide) ?_
      exact xr_retv (by decide) (xRi rfl rfl dX10_with_33) h
  · replace h := hf c12
    clear ht hf
    refine xr_bipush (-4) dX10_with_12 (by decide) ?_
    refine xr_goto 33 dX10_with_14 (by decide) ?_
    exact xr_retv (by decide) (xRi rfl rfl dX10_with_33) h
theorem dX10_countKeys_0 : decode cX10_countKeys 0 = .ok (.iconst 0, 1) := by decide +kernel
theorem dX10_countKeys_1 : decode cX10_countKeys 1 = .ok (.istore_n 2, 1) := by decide +kernel
theorem dX10_countKeys_2 : decode cX10_countKeys 2 = .ok (.aload_n 0, 1) := by decide +kernel
theorem dX10_countKeys_3 : decode cX10_countKeys 3 = .ok (.getfield 75, 3) := by decide +kernel
theorem dX10_countKeys_6 : decode cX10_countKeys 6 = .ok (.istore_n 3, 1) := by decide +kernel
theorem dX10_countKeys_7 : decode cX10_countKeys 7 = .ok (.iload_n 3, 1) := by decide +kernel
theorem dX10_countKeys_8 : decode cX10_countKeys 8 = .ok (.iconst (-1), 1) := by decide +kernel
theorem dX10_countKeys_9 : decode cX10_countKeys 9 = .ok (.if_icmp .eq 59, 3) := by decide +kernel
theorem dX10_countKeys_12 : decode cX10_countKeys 12 = .ok (.aload_n 0, 1) := by decide +kernel
theorem dX10_countKeys_13 : decode cX10_countKeys 13 = .ok (.getfield 29, 3) := by decide +kernel
theorem dX10_countKeys_16 : decode cX10_countKeys 16 = .ok (.iload_n 3, 1) := by decide +kernel
theorem dX10_countKeys_17 : decode cX10_countKeys 17 = .ok (.baload, 1) := by decide +kernel
theorem dX10_countKeys_18 : decode cX10_countKeys 18 = .ok (.ifCond .ne 6, 3) := by decide +kernel
theorem dX10_countKeys_21 : decode cX10_countKeys 21 = .ok (.goto 38, 3) := by decide +kernel
theorem dX10_countKeys_24 : decode cX10_countKeys 24 = .ok (.aload_n 0, 1) := by decide +kernel
theorem dX10_countKeys_25 : decode cX10_countKeys 25 = .ok (.iload_n 3, 1) := by decide +kernel
theorem dX10_countKeys_26 : decode cX10_countKeys 26 = .ok (.invokevirtual 165, 3) := by decide +kernel
theorem dX10_countKeys_29 : decode cX10_countKeys 29 = .ok (.iload_n 2, 1) := by decide +kernel
theorem dX10_countKeys_30 : decode cX10_countKeys 30 = .ok (.iload_n 1, 1) := by decide +kernel
theorem dX10_countKeys_31 : decode cX10_countKeys 31 = .ok (.ifCond .eq 10, 3) := by decide +kernel
theorem dX10_countKeys_34 : decode cX10_countKeys 34 = .ok (.aload_n 0, 1) := by decide +kernel
theorem dX10_countKeys_35 : decode cX10_countKeys 35 = .ok (.invokevirtual 168, 3) := by decide +kernel
theorem dX10_countKeys_38 : decode cX10_countKeys 38 = .ok (.ifCond .ne 14, 3) := by decide +kernel
theorem dX10_countKeys_41 : decode cX10_countKeys 41 = .ok (.iload_n 1, 1) := by decide +kernel
theorem dX10_countKeys_42 : decode cX10_countKeys 42 = .ok (.ifCond .ne 14, 3) := by decide +kernel
theorem dX10_countKeys_45 : decode cX10_countKeys 45 = .ok (.aload_n 0, 1) := by decide +kernel
theorem dX10_countKeys_46 : decode cX10_countKeys 46 = .ok (.invokevirtual 171, 3) := by decide +kernel
theorem dX10_countKeys_49 : decode cX10_countKeys 49 = .ok (.ifCond .eq 7, 3) := by decide +kernel
theorem dX10_countKeys_52 : decode cX10_countKeys 52 = .ok (.iconst 1, 1) := by decide +kernel
theorem dX10_countKeys_53 : decode cX10_countKeys 53 = .ok (.goto 4, 3) := by decide +kernel
theorem dX10_countKeys_56 : decode cX10_countKeys 56 = .ok (.iconst 0, 1) := by decide +kernel
theorem dX10_countKeys_57 : decode cX10_countKeys 57 = .ok (.iadd, 1) := by decide +kernel
theorem dX10_countKeys_58 : decode cX10_countKeys 58 = .ok (.istore_n 2, 1) := by decide +kernel
theorem dX10_countKeys_59 : decode cX10_countKeys 59 = .ok (.aload_n 0, 1) := by decide +kernel
theorem dX10_countKeys_60 : decode cX10_countKeys 60 = .ok (.iload_n 3, 1) := by decide +kernel
theorem dX10_countKeys_61 : decode cX10_countKeys 61 = .ok (.invokevirtual 174, 3) := by decide +kernel
theorem dX10_countKeys_64 : decode cX10_countKeys 64 = .ok (.istore_n 3, 1) := by decide +kernel
theorem dX10_countKeys_65 : decode cX10_countKeys 65 = .ok (.goto (-58), 3) := by decide +kernel
theorem dX10_countKeys_68 : decode cX10_countKeys 68 = .ok (.iload_n 2, 1) := by decide +kernel
theorem dX10_countKeys_69 : decode cX10_countKeys 69 = .ok (.ireturn, 1) := by decide +kernel
set_option maxRecDepth 100000 in
set_option maxHeartbeats 4000000 in
theorem bX10_countKeys_41 {l : Launch} {g : xG} (a0 : Nat) (x1 : Int32) (x2 : Int32) (x3 : Int32) (sx0 : Int32) {M : xM} {Q : Option Value → xM → Prop} (h : ((¬ x1 = 0 → (xat M a0 7 ∧ xSp l g mX10_next 0 0 [va_rf (some a0), .int x3] M (fun ρ3 M2 => ∃ v1 : Int32, ρ3 = some (.int v1) ∧ xWp l g mX10_countKeys 0 0 7 [(1, va_rf (some a0)), (1, .int x1), (1, .int (sx0 + 0)), (1, .int v1)] [] (0, 0) M2 Q))) ∧ (x1 = 0 → (xat M a0 7 ∧ xSp l g mX10_isBefore 0 0 [va_rf (some a0)] M (fun ρ8 M7 => ∃ v6 : Int32, ρ8 = some (.int v6) ∧ ((v6 = 0 → (xat M7 a0 7 ∧ xSp l g mX10_next 0 0 [va_rf (some a0), .int x3] M7 (fun ρ13 M12 => ∃ v11 : Int32, ρ13 = some (.int v11) ∧ xWp l g mX10_countKeys 0 0 7 [(1, va_rf (some a0)), (1, .int x1), (1, .int (sx0 + 0)), (1, .int v11)] [] (0, 0) M12 Q))) ∧ (¬ v6 = 0 → (xat M7 a0 7 ∧ xSp l g mX10_next 0 0 [va_rf (some a0), .int x3] M7 (fun ρ18 M17 => ∃ v16 : Int32, ρ18 = some (.int v16) ∧ xWp l g mX10_countKeys 0 0 7 [(1, va_rf (some a0)), (1, .int x1), (1, .int (sx0 + 1)), (1, .int v16)] [] (0, 0) M17 Q))))))))) : xWp l g mX10_countKeys 0 0 41 [(1, va_rf (some a0)), (1, .int x1), (1, .int x2), (1, .int x3)] [.int sx0] (0, 0) M Q := by
  refine xr_iload_n 1 dX10_countKeys_41 rfl rfl ?_
  obtain ⟨ht, hf⟩ := h
  refine xr_if_ne 56 dX10_countKeys_42 (by decide) (fun c22 => ?_) (fun c22 => ?_)
  · replace h := ht c22
    clear ht hf
    refine xr_iconst 0 dX10_countKeys_56 (by decide) ?_
    refine xr_iadd dX10_countKeys_57 ?_
    refine zistore_n 2 dX10_countKeys_58 rfl (L1 := [(1, va_rf (some a0)), (1, .int x1), (1, .int (sx0 + 0)), (1, .int x3)]) (by decide) rfl ?_
    refine xr_aload_n 0 dX10_countKeys_59 rfl rfl ?_
    refine xr_iload_n 3 dX10_countKeys_60 rfl rfl ?_
    obtain ⟨t5, h⟩ := h
    refine yr_callV (r := (some a0)) [.int x3] dX10_countKeys_61 cv_X10_countKeys_174 rfl t5 rfl (Nat.le_trans wt_0 (by decide)) (by decide) (xSp.mono h ?_)
    clear h
    intro ρ3 M2 h
    obtain ⟨v1, rfl, h⟩ := h
    refine zistore_n 3 dX10_countKeys_64 rfl (L1 := [(1, va_rf (some a0)), (1, .int x1), (1, .int (sx0 + 0)), (1, .int v1)]) (by decide) rfl ?_
    refine xr_goto 7 dX10_countKeys_65 (by decide) ?_
    exact h
  · replace h := hf c22
    clear ht hf
    refine xr_aload_n 0 dX10_countKeys_45 rfl rfl ?_
    obtain ⟨t10, h⟩ := h
    refine yr_callV (r := (some a0)) [] dX10_countKeys_46 cv_X10_countKeys_171 rfl t10 rfl (Nat.le_trans (wt_i wt_0) (by decide)) (by decide) (xSp.mono h ?_)
    clear h
    intro ρ8 M7 h
    obtain ⟨v6, rfl, h⟩ := h
    obtain ⟨ht, hf⟩ := h
    refine xr_if_eq 56 dX10_countKeys_49 (by decide) (fun c21 => ?_) (fun c21 => ?_)
    · replace h := ht c21
      clear ht hf
      refine xr_iconst 0 dX10_countKeys_56 (by decide) ?_
      refine xr_iadd dX10_countKeys_57 ?_
      refine zistore_n 2 dX10_countKeys_58 rfl (L1 := [(1, va_rf (some a0)), (1, .int x1), (1, .int (sx0 + 0)), (1, .int x3)]) (by decide) rfl ?_
      refine xr_aload_n 0 dX10_countKeys_59 rfl rfl ?_
      refine xr_iload_n 3 dX10_countKeys_60 rfl rfl ?_
      obtain ⟨t15, h⟩ := h
      refine yr_callV (r := (some a0)) [.int x3] dX10_countKeys_61 cv_X10_countKeys_174 rfl t15 rfl (Nat.le_trans wt_0 (by decide)) (by decide) (xSp.mono h ?_)
      clear h
      intro ρ13 M12 h
      obtain ⟨v11, rfl, h⟩ := h
      refine zistore_n 3 dX10_countKeys_64 rfl (L1 := [(1, va_rf (some a0)), (1, .int x1), (1, .int (sx0 + 0)), (1, .int v11)]) (by decide) rfl ?_
      refine xr_goto 7 dX10_countKeys_65 (by decide) ?_
      exact h
    · replace h := hf c21
      clear ht hf
      refine xr_iconst 1 dX10_countKeys_52 (by decide) ?_
      refine xr_goto 57 dX10_countKeys_53 (by decide) ?_
      refine xr_iadd dX10_countKeys_57 ?_
      refine zistore_n 2 dX10_countKeys_58 rfl (L1 := [(1, va_rf (some a0)), (1, .int x1), (1, .int (sx0 + 1)), (1, .int x3)]) (by decide) rfl ?_
      refine xr_aload_n 0 dX10_countKeys_59 rfl rfl ?_
      refine xr_iload_n 3 dX10_countKeys_60 rfl rfl ?_
      obtain ⟨t20, h⟩ := h
      refine yr_callV (r := (some a0)) [.int x3] dX10_countKeys_61 cv_X10_countKeys_174 rfl t20 rfl (Nat.le_trans wt_0 (by decide)) (by decide) (xSp.mono h ?_)
      clear h
      intro ρ18 M17 h
      obtain ⟨v16, rfl, h⟩ := h
      refine zistore_n 3 dX10_countKeys_64 rfl (L1 := [(1, va_rf (some a0)), (1, .int x1), (1, .int (sx0 + 1)), (1, .int v16)]) (by decide) rfl ?_
      refine xr_goto 7 dX10_countKeys_65 (by decide) ?_
      exact h
set_option maxRecDepth 100000 in
set_option maxHeartbeats 4000000 in
theorem bX10_countKeys_7 {l : Launch} {g : xG} (a0 : Nat) (x1 : Int32) (x2 : Int32) (x3 : Int32) {M : xM} {Q : Option Value → xM → Prop} (h : ((x3 = (-1) → (Q (some (.int x2)) M)) ∧ (¬ x3 = (-1) → (xat M a0 7 ∧ (∃ a2, (xR M a0 9) = some a2 ∧ ∃ i4, xai M a2 11 x3 i4 ∧ ((¬ (xI M a2 i4) = 0 → (xSp l g mX10_tell 0 0 [va_rf (some a0), .int x3] M (fun ρ8 M7 => ρ8 = none ∧ ((x1 = 0 → xWp l g mX10_countKeys 0 0 41 [(1, va_rf (some a0)), (1, .int x1), (1, .int x2), (1, .int x3)] [.int x2] (0, 0) M7 Q) ∧ (¬ x1 = 0 → (xat M7 a0 7 ∧ xSp l g mX10_begins 0 0 [va_rf (some a0)] M7 (fun ρ12 M11 => ∃ v10 : Int32, ρ12 = some (.int v10) ∧ ((¬ v10 = 0 → (xat M11 a0 7 ∧ xSp l g mX10_next 0 0 [va_rf (some a0), .int x3] M11 (fun ρ17 M16 => ∃ v15 : Int32, ρ17 = some (.int v15) ∧ xWp l g mX10_countKeys 0 0 7 [(1, va_rf (some a0)), (1, .int x1), (1, .int (x2 + 1)), (1, .int v15)] [] (0, 0) M16 Q))) ∧ (v10 = 0 → xWp l g mX10_countKeys 0 0 41 [(1, va_rf (some a0)), (1, .int x1), (1, .int x2), (1, .int x3)] [.int x2] (0, 0) M11 Q))))))))) ∧ ((xI M a2 i4) = 0 → (xSp l g mX10_next 0 0 [va_rf (some a0), .int x3] M (fun ρ24 M23 => ∃ v22 : Int32, ρ24 = some (.int v22) ∧ xWp l g mX10_countKeys 0 0 7 [(1, va_rf (some a0)), (1, .int x1), (1, .int x2), (1, .int v22)] [] (0, 0) M23 Q))))))))) : xWp l g mX10_countKeys 0 0 7 [(1, va_rf (some a0)), (1, .int x1), (1, .int x2), (1, .int x3)] [] (0, 0) M Q := by
  refine xr_iload_n 3 dX10_countKeys_7 rfl rfl ?_
  refine xr_iconst (-1) dX10_countKeys_8 (by decide) ?_
  obtain ⟨ht, hf⟩ := h
  refine xr_icmp_eq 68 dX10_countKeys_9 (by decide) (fun c27 => ?_) (fun c27 => ?_)
  · replace h := ht c27
    clear ht hf
    refine xr_iload_n 2 dX10_countKeys_68 rfl rfl ?_
    exact xr_retv (by decide) (xRi rfl rfl dX10_countKeys_69) h
  · replace h := hf c27
    clear ht hf
    refine xr_aload_n 0 dX10_countKeys_12 rfl rfl ?_
    obtain ⟨t1, h⟩ := h
    refine yr_getR dX10_countKeys_13 fl_RX10_29 rfl t1 ?_
    refine xr_iload_n 3 dX10_countKeys_16 rfl rfl ?_
    obtain ⟨a2, e3, h⟩ := h
    obtain ⟨i4, t5, h⟩ := h
    refine yr_zald dX10_countKeys_17 e3 t5 ?_
    obtain ⟨ht, hf⟩ := h
    refine xr_if_ne 24 dX10_countKeys_18 (by decide) (fun c26 => ?_) (fun c26 => ?_)
    · replace h := ht c26
      clear ht hf
      refine xr_aload_n 0 dX10_countKeys_24 rfl rfl ?_
      refine xr_iload_n 3 dX10_countKeys_25 rfl rfl ?_
      refine yr_callV (r := (some a0)) [.int x3] dX10_countKeys_26 cv_X10_countKeys_165 rfl t1 rfl (Nat.le_trans wt_0 (by decide)) (by decide) (xSp.mono h ?_)
      clear h
      intro ρ8 M7 h
      obtain ⟨rfl, h⟩ := h
      refine xr_iload_n 2 dX10_countKeys_29 rfl rfl ?_
      refine xr_iload_n 1 dX10_countKeys_30 rfl rfl ?_
      obtain ⟨ht, hf⟩ := h
      refine xr_if_eq 41 dX10_countKeys_31 (by decide) (fun c21 => ?_) (fun c21 => ?_)
      · replace h := ht c21
        clear ht hf
        exact h
      · replace h := hf c21
        clear ht hf
        refine xr_aload_n 0 dX10_countKeys_34 rfl rfl ?_
        obtain ⟨t14, h⟩ := h
        refine yr_callV (r := (some a0)) [] dX10_countKeys_35 cv_X10_countKeys_168 rfl t14 rfl (Nat.le_trans (wt_i wt_0) (by decide)) (by decide) (xSp.mono h ?_)
        clear h
        intro ρ12 M11 h
        obtain ⟨v10, rfl, h⟩ := h
        obtain ⟨ht, hf⟩ := h
        refine xr_if_ne 52 dX10_countKeys_38 (by decide) (fun c20 => ?_) (fun c20 => ?_)
        · replace h := ht c20
          clear ht hf
          refine xr_iconst 1 dX10_countKeys_52 (by decide) ?_
          refine xr_goto 57 dX10_countKeys_53 (by decide) ?_
          refine xr_iadd dX10_countKeys_57 ?_
          refine zistore_n 2 dX10_countKeys_58 rfl (L1 := [(1, va_rf (some a0)), (1, .int x1), (1, .int (x2 + 1)), (1, .int x3)]) (by decide) rfl ?_
          refine xr_aload_n 0 dX10_countKeys_59 rfl rfl ?_
          refine xr_iload_n 3 dX10_countKeys_60 rfl rfl ?_
          obtain ⟨t19, h⟩ := h
          refine yr_callV (r := (some a0)) [.int x3] dX10_countKeys_61 cv_X10_countKeys_174 rfl t19 rfl (Nat.le_trans wt_0 (by decide)) (by decide) (xSp.mono h ?_)
          clear h
          intro ρ17 M16 h
          obtain ⟨v15, rfl, h⟩ := h
          refine zistore_n 3 dX10_countKeys_64 rfl (L1 := [(1, va_rf (some a0)), (1, .int x1), (1, .int (x2 + 1)), (1, .int v15)]) (by decide) rfl ?_
          refine xr_goto 7 dX10_countKeys_65 (by decide) ?_
          exact h
        · replace h := hf c20
          clear ht hf
          exact h
    · replace h := hf c26
      clear ht hf
      refine xr_goto 59 dX10_countKeys_21 (by decide) ?_
      refine xr_aload_n 0 dX10_countKeys_59 rfl rfl ?_
      refine xr_iload_n 3 dX10_countKeys_60 rfl rfl ?_
      refine yr_callV (r := (some a0)) [.int x3] dX10_countKeys_61 cv_X10_countKeys_174 rfl t1 rfl (Nat.le_trans wt_0 (by decide)) (by decide) (xSp.mono h ?_)
      clear h
      intro ρ24 M23 h
      obtain ⟨v22, rfl, h⟩ := h
      refine zistore_n 3 dX10_countKeys_64 rfl (L1 := [(1, va_rf (some a0)), (1, .int x1), (1, .int x2), (1, .int v22)]) (by decide) rfl ?_
      refine xr_goto 7 dX10_countKeys_65 (by decide) ?_
      exact h
set_option maxRecDepth 100000 in
set_option maxHeartbeats 4000000 in
theorem bX10_countKeys_0 {l : Launch} {g : xG} (a0 : Nat) (x1 : Int32) {M : xM} {Q : Option Value → xM → Prop} (h : (xat M a0 7 ∧ xWp l g mX10_countKeys 0 0 7 [(1, va_rf (some a0)), (1, .int x1), (1, .int 0), (1, .int (xI M a0 14))] [] (0, 0) M Q)) : xWp l g mX10_countKeys 0 0 0 [(1, va_rf (some a0)), (1, .int x1), (0, .null), (0, .null)] [] (0, 0) M Q := by
  refine xr_iconst 0 dX10_countKeys_0 (by decide) ?_
  refine zistore_n 2 dX10_countKeys_1 rfl (L1 := [(1, va_rf (some a0)), (1, .int x1), (1, .int 0), (0, .null)]) (by decide) rfl ?_
  refine xr_aload_n 0 dX10_countKeys_2 rfl rfl ?_
  obtain ⟨t1, h⟩ := h
  refine yr_getI dX10_countKeys_3 fl_RX10_75 rfl t1 ?_
  refine zistore_n 3 dX10_countKeys_6 rfl (L1 := [(1, va_rf (some a0)), (1, .int x1), (1, .int 0), (1, .int (xI M a0 14))]) (by decide) rfl ?_
  exact h
theorem dX10_before_0 : decode cX10_before 0 = .ok (.aload_n 0, 1) := by decide +kernel
theorem dX10_before_1 : decode cX10_before 1 = .ok (.iconst 0, 1) := by decide +kernel
theorem dX10_before_2 : decode cX10_before 2 = .ok (.putfield 68, 3) := by decide +kernel
theorem dX10_before_5 : decode cX10_before 5 = .ok (.aload_n 0, 1) := by decide +kernel
theorem dX10_before_6 : decode cX10_before 6 = .ok (.getfield 114, 3) := by decide +kernel
theorem dX10_before_9 : decode cX10_before 9 = .ok (.ifCond .eq 8, 3) := by decide +kernel
theorem dX10_before_12 : decode cX10_before 12 = .ok (.bipush (-4), 2) := by decide +kernel
theorem dX10_before_14 : decode cX10_before 14 = .ok (.goto 19, 3) := by decide +kernel
theorem dX10_before_17 : decode cX10_before 17 = .ok (.aload_n 0, 1) := by decide +kernel
theorem dX10_before_18 : decode cX10_before 18 = .ok (.invokevirtual 118, 3) := by decide +kernel
theorem dX10_before_21 : decode cX10_before 21 = .ok (.ifCond .eq 11, 3) := by decide +kernel
theorem dX10_before_24 : decode cX10_before 24 = .ok (.aload_n 0, 1) := by decide +kernel
theorem dX10_before_25 : decode cX10_before 25 = .ok (.iconst 0, 1) := by decide +kernel
theorem dX10_before_26 : decode cX10_before 26 = .ok (.invokevirtual 161, 3) := by decide +kernel
theorem dX10_before_29 : decode cX10_before 29 = .ok (.goto 4, 3) := by decide +kernel
theorem dX10_before_32 : decode cX10_before 32 = .ok (.iconst (-1), 1) := by decide +kernel
theorem dX10_before_33 : decode cX10_before 33 = .ok (.ireturn, 1) := by decide +kernel
set_option maxRecDepth 100000 in
set_option maxHeartbeats 4000000 in
theorem bX10_before_0 {l : Launch} {g : xG} (a0 : Nat) {M : xM} {Q : Option Value → xM → Prop} (h : (xat M a0 7 ∧ (((xI (xsI M a0 0 0) a0 3) = 0 → (xSp l g mX10_isKey 0 0 [va_rf (some a0)] (xsI M a0 0 0) (fun ρ4 M3 => ∃ v2 : Int32, ρ4 = some (.int v2) ∧ ((v2 = 0 → (Q (some (.int (-1))) M3)) ∧ (¬ v2 = 0 → (xat M3 a0 7 ∧ xSp l g mX10_countKeys 0 0 [va_rf (some a0), .int 0] M3 (fun ρ8 M7 => ∃ v6 : Int32, ρ8 = some (.int v6) ∧ (Q (some (.int v6)) M7)))))))) ∧ (¬ (xI (xsI M a0 0 0) a0 3) = 0 → (Q (some (.int (-4))) (xsI M a0 0 0)))))) : xWp l g mX10_before 0 0 0 [(1, va_rf (some a0))] [] (0, 0) M Q := by
  refine xr_aload_n 0 dX10_before_0 rfl rfl ?_
  refine xr_iconst 0 dX10_before_1 (by decide) ?_
  obtain ⟨t1, h⟩ := h
  refine yr_putI dX10_before_2 fp_RX10_68 rfl t1 ?_
  refine xr_aload_n 0 dX10_before_5 rfl rfl ?_
  refine yr_getZ dX10_before_6 fl_RX10_114 rfl t1 ?_
  obtain ⟨ht, hf⟩ := h
  refine xr_if_eq 17 dX10_before_9 (by decide) (fun c12 => ?_) (fun c12 => ?_)
  · replace h := ht c12
    clear ht hf
    refine xr_aload_n 0 dX10_before_17 rfl rfl ?_
    refine yr_callV (r := (some a0)) [] dX10_before_18 cv_X10_before_118 rfl t1 rfl (Nat.le_trans wt_0 (by decide)) (by decide) (xSp.mono h ?_)
    clear h
    intro ρ4 M3 h
    obtain ⟨v2, rfl, h⟩ := h
    obtain ⟨ht, hf⟩ := h
    refine xr_if_eq 32 dX10_before_21 (by decide) (fun c11 => ?_) (fun c11 => ?_)
    · replace h := ht c11
      clear ht hf
      refine xr_iconst (-1) dX10_before_32 (by decide) ?_
      exact xr_retv (by decide) (xRi rfl rfl dX10_before_33) h
    · replace h := hf c11
      clear ht hf
      refine xr_aload_n 0 dX10_before_24 rfl rfl ?_
      refine xr_iconst 0 dX10_before_25 (by decide) ?_
      obtain ⟨t10, h⟩ := h
      refine yr_callV (r := (some a0)) [.int 0] dX10_before_26 cv_X10_before_161 rfl t10 rfl (Nat.le_trans wt_0 (by decide)) (by decide) (xSp.mono h ?_)
      clear h
      intro ρ8 M7 h
      obtain ⟨v6, rfl, h⟩ := h
      refine xr_goto 33 dX10_before_29 (by decide) ?_
      exact xr_retv (by decide) (xRi rfl rfl dX10_before_33) h
  · replace h := hf c12
    clear ht hf
    refine xr_bipush (-4) dX10_before_12 (by decide) ?_
    refine xr_goto 33 dX10_before_14 (by decide) ?_
    exact xr_retv (by decide) (xRi rfl rfl dX10_before_33) h
theorem dX10_keys_0 : decode cX10_keys 0 = .ok (.iconst 0, 1) := by decide +kernel
theorem dX10_keys_1 : decode cX10_keys 1 = .ok (.istore_n 1, 1) := by decide +kernel
theorem dX10_keys_2 : decode cX10_keys 2 = .ok (.iconst 0, 1) := by decide +kernel
theorem dX10_keys_3 : decode cX10_keys 3 = .ok (.istore_n 2, 1) := by decide +kernel
theorem dX10_keys_4 : decode cX10_keys 4 = .ok (.iload_n 2, 1) := by decide +kernel
theorem dX10_keys_5 : decode cX10_keys 5 = .ok (.sipush 220, 3) := by decide +kernel
theorem dX10_keys_8 : decode cX10_keys 8 = .ok (.if_icmp .ge 35, 3) := by decide +kernel
theorem dX10_keys_11 : decode cX10_keys 11 = .ok (.iload_n 1, 1) := by decide +kernel
theorem dX10_keys_12 : decode cX10_keys 12 = .ok (.aload_n 0, 1) := by decide +kernel
theorem dX10_keys_13 : decode cX10_keys 13 = .ok (.getfield 13, 3) := by decide +kernel
theorem dX10_keys_16 : decode cX10_keys 16 = .ok (.iload_n 2, 1) := by decide +kernel
theorem dX10_keys_17 : decode cX10_keys 17 = .ok (.baload, 1) := by decide +kernel
theorem dX10_keys_18 : decode cX10_keys 18 = .ok (.ifCond .eq 16, 3) := by decide +kernel
theorem dX10_keys_21 : decode cX10_keys 21 = .ok (.aload_n 0, 1) := by decide +kernel
theorem dX10_keys_22 : decode cX10_keys 22 = .ok (.getfield 29, 3) := by decide +kernel
theorem dX10_keys_25 : decode cX10_keys 25 = .ok (.iload_n 2, 1) := by decide +kernel
theorem dX10_keys_26 : decode cX10_keys 26 = .ok (.baload, 1) := by decide +kernel
theorem dX10_keys_27 : decode cX10_keys 27 = .ok (.ifCond .eq 7, 3) := by decide +kernel
theorem dX10_keys_30 : decode cX10_keys 30 = .ok (.iconst 1, 1) := by decide +kernel
theorem dX10_keys_31 : decode cX10_keys 31 = .ok (.goto 4, 3) := by decide +kernel
theorem dX10_keys_34 : decode cX10_keys 34 = .ok (.iconst 0, 1) := by decide +kernel
theorem dX10_keys_35 : decode cX10_keys 35 = .ok (.iadd, 1) := by decide +kernel
theorem dX10_keys_36 : decode cX10_keys 36 = .ok (.istore_n 1, 1) := by decide +kernel
theorem dX10_keys_37 : decode cX10_keys 37 = .ok (.iinc 2 1, 3) := by decide +kernel
theorem dX10_keys_40 : decode cX10_keys 40 = .ok (.goto (-36), 3) := by decide +kernel
theorem dX10_keys_43 : decode cX10_keys 43 = .ok (.iload_n 1, 1) := by decide +kernel
theorem dX10_keys_44 : decode cX10_keys 44 = .ok (.ireturn, 1) := by decide +kernel
set_option maxRecDepth 100000 in
set_option maxHeartbeats 4000000 in
theorem bX10_keys_4 {l : Launch} {g : xG} (a0 : Nat) (x1 : Int32) (x2 : Int32) {M : xM} {Q : Option Value → xM → Prop} (h : ((220 ≤ x2 → (Q (some (.int x1)) M)) ∧ (¬ 220 ≤ x2 → (xat M a0 7 ∧ (∃ a2, (xR M a0 4) = some a2 ∧ ∃ i4, xai M a2 11 x2 i4 ∧ (((xI M a2 i4) = 0 → xWp l g mX10_keys 0 0 4 [(1, va_rf (some a0)), (1, .int (x1 + 0)), (1, .int (x2 + 1))] [] (0, 0) M Q) ∧ (¬ (xI M a2 i4) = 0 → (∃ a6, (xR M a0 9) = some a6 ∧ ∃ i8, xai M a6 11 x2 i8 ∧ (((xI M a6 i8) = 0 → xWp l g mX10_keys 0 0 4 [(1, va_rf (some a0)), (1, .int (x1 + 0)), (1, .int (x2 + 1))] [] (0, 0) M Q) ∧ (¬ (xI M a6 i8) = 0 → xWp l g mX10_keys 0 0 4 [(1, va_rf (some a0)), (1, .int (x1 + 1)), (1, .int (x2 + 1))] [] (0, 0) M Q)))))))))) : xWp l g mX10_keys 0 0 4 [(1, va_rf (some a0)), (1, .int x1), (1, .int x2)] [] (0, 0) M Q := by
  refine xr_iload_n 2 dX10_keys_4 rfl rfl ?_
  refine xr_sipush 220 dX10_keys_5 (by decide) ?_
  obtain ⟨ht, hf⟩ := h
  refine xr_icmp_ge 43 dX10_keys_8 (by decide) (fun c12 => ?_) (fun c12 => ?_)
  · replace h := ht c12
    clear ht hf
    refine xr_iload_n 1 dX10_keys_43 rfl rfl ?_
    exact xr_retv (by decide) (xRi rfl rfl dX10_keys_44) h
  · replace h := hf c12
    clear ht hf
    refine xr_iload_n 1 dX10_keys_11 rfl rfl ?_
    refine xr_aload_n 0 dX10_keys_12 rfl rfl ?_
    obtain ⟨t1, h⟩ := h
    refine yr_getR dX10_keys_13 fl_RX10_13 rfl t1 ?_
    refine xr_iload_n 2 dX10_keys_16 rfl rfl ?_
    obtain ⟨a2, e3, h⟩ := h
    obtain ⟨i4, t5, h⟩ := h
    refine yr_zald dX10_keys_17 e3 t5 ?_
    obtain ⟨ht, hf⟩ := h
    refine xr_if_eq 34 dX10_keys_18 (by decide) (fun c11 => ?_) (fun c11 => ?_)
    · replace h := ht c11
      clear ht hf
      refine xr_iconst 0 dX10_keys_34 (by decide) ?_
      refine xr_iadd dX10_keys_35 ?_
      refine zistore_n 1 dX10_keys_36 rfl (L1 := [(1, va_rf (some a0)), (1, .int (x1 + 0)), (1, .int x2)]) (by decide) rfl ?_
      refine ziinc (x2 + 1) dX10_keys_37 rfl rfl (L1 := [(1, va_rf (some a0)), (1, .int (x1 + 0)), (1, .int (x2 + 1))]) (by decide) rfl ?_
      refine xr_goto 4 dX10_keys_40 (by decide) ?_
      exact h
    · replace h := hf c11
      clear ht hf
      refine xr_aload_n 0 dX10_keys_21 rfl rfl ?_
      refine yr_getR dX10_keys_22 fl_RX10_29 rfl t1 ?_
      refine xr_iload_n 2 dX10_keys_25 rfl rfl ?_
      obtain ⟨a6, e7, h⟩ := h
      obtain ⟨i8, t9, h⟩ := h
      refine yr_zald dX10_keys_26 e7 t9 ?_
      obtain ⟨ht, hf⟩ := h
      refine xr_if_eq 34 dX10_keys_27 (by decide) (fun c10 => ?_) (fun c10 => ?_)
      · replace h := ht c10
        clear ht hf
        refine xr_iconst 0 dX10_keys_34 (by decide) ?_
        refine xr_iadd dX10_keys_35 ?_
        refine zistore_n 1 dX10_keys_36 rfl (L1 := [(1, va_rf (some a0)), (1, .int (x1 + 0)), (1, .int x2)]) (by decide) rfl ?_
        refine ziinc (x2 + 1) dX10_keys_37 rfl rfl (L1 := [(1, va_rf (some a0)), (1, .int (x1 + 0)), (1, .int (x2 + 1))]) (by decide) rfl ?_
        refine xr_goto 4 dX10_keys_40 (by decide) ?_
        exact h
      · replace h := hf c10
        clear ht hf
        refine xr_iconst 1 dX10_keys_30 (by decide) ?_
        refine xr_goto 35 dX10_keys_31 (by decide) ?_
        refine xr_iadd dX10_keys_35 ?_
        refine zistore_n 1 dX10_keys_36 rfl (L1 := [(1, va_rf (some a0)), (1, .int (x1 + 1)), (1, .int x2)]) (by decide) rfl ?_
        refine ziinc (x2 + 1) dX10_keys_37 rfl rfl (L1 := [(1, va_rf (some a0)), (1, .int (x1 + 1)), (1, .int (x2 + 1))]) (by decide) rfl ?_
        refine xr_goto 4 dX10_keys_40 (by decide) ?_
        exact h
set_option maxRecDepth 100000 in
set_option maxHeartbeats 4000000 in
theorem bX10_keys_0 {l : Launch} {g : xG} (a0 : Nat) {M : xM} {Q : Option Value → xM → Prop} (h : xWp l g mX10_keys 0 0 4 [(1, va_rf (some a0)), (1, .int 0), (1, .int 0)] [] (0, 0) M Q) : xWp l g mX10_keys 0 0 0 [(1, va_rf (some a0)), (0, .null), (0, .null)] [] (0, 0) M Q := by
  refine xr_iconst 0 dX10_keys_0 (by decide) ?_
  refine zistore_n 1 dX10_keys_1 rfl (L1 := [(1, va_rf (some a0)), (1, .int 0), (0, .null)]) (by decide) rfl ?_
  refine xr_iconst 0 dX10_keys_2 (by decide) ?_
  refine zistore_n 2 dX10_keys_3 rfl (L1 := [(1, va_rf (some a0)), (1, .int 0), (1, .int 0)]) (by decide) rfl ?_
  exact h
theorem dX10_nth_0 : decode cX10_nth 0 = .ok (.aload_n 0, 1) := by decide +kernel
theorem dX10_nth_1 : decode cX10_nth 1 = .ok (.iconst 0, 1) := by decide +kernel
theorem dX10_nth_2 : decode cX10_nth 2 = .ok (.putfield 68, 3) := by decide +kernel
theorem dX10_nth_5 : decode cX10_nth 5 = .ok (.aload_n 0, 1) := by decide +kernel
theorem dX10_nth_6 : decode cX10_nth 6 = .ok (.getfield 114, 3) := by decide +kernel
theorem dX10_nth_9 : decode cX10_nth 9 = .ok (.ifCond .eq 6, 3) := by decide +kernel
theorem dX10_nth_12 : decode cX10_nth 12 = .ok (.bipush (-4), 2) := by decide +kernel
theorem dX10_nth_14 : decode cX10_nth 14 = .ok (.ireturn, 1) := by decide +kernel
theorem dX10_nth_15 : decode cX10_nth 15 = .ok (.iload_n 1, 1) := by decide +kernel
theorem dX10_nth_16 : decode cX10_nth 16 = .ok (.i2l, 1) := by decide +kernel
theorem dX10_nth_17 : decode cX10_nth 17 = .ok (.lconst 0, 1) := by decide +kernel
theorem dX10_nth_18 : decode cX10_nth 18 = .ok (.aload_n 0, 1) := by decide +kernel
theorem dX10_nth_19 : decode cX10_nth 19 = .ok (.invokevirtual 177, 3) := by decide +kernel
theorem dX10_nth_22 : decode cX10_nth 22 = .ok (.iconst 1, 1) := by decide +kernel
theorem dX10_nth_23 : decode cX10_nth 23 = .ok (.isub, 1) := by decide +kernel
theorem dX10_nth_24 : decode cX10_nth 24 = .ok (.i2l, 1) := by decide +kernel
theorem dX10_nth_25 : decode cX10_nth 25 = .ok (.invokestatic 87, 3) := by decide +kernel
theorem dX10_nth_28 : decode cX10_nth 28 = .ok (.ifCond .ne 5, 3) := by decide +kernel
theorem dX10_nth_31 : decode cX10_nth 31 = .ok (.iconst (-1), 1) := by decide +kernel
theorem dX10_nth_32 : decode cX10_nth 32 = .ok (.ireturn, 1) := by decide +kernel
theorem dX10_nth_33 : decode cX10_nth 33 = .ok (.iload_n 1, 1) := by decide +kernel
theorem dX10_nth_34 : decode cX10_nth 34 = .ok (.istore_n 2, 1) := by decide +kernel
theorem dX10_nth_35 : decode cX10_nth 35 = .ok (.aload_n 0, 1) := by decide +kernel
theorem dX10_nth_36 : decode cX10_nth 36 = .ok (.getfield 75, 3) := by decide +kernel
theorem dX10_nth_39 : decode cX10_nth 39 = .ok (.istore_n 3, 1) := by decide +kernel
theorem dX10_nth_40 : decode cX10_nth 40 = .ok (.aload_n 0, 1) := by decide +kernel
theorem dX10_nth_41 : decode cX10_nth 41 = .ok (.getfield 29, 3) := by decide +kernel
theorem dX10_nth_44 : decode cX10_nth 44 = .ok (.iload_n 3, 1) := by decide +kernel
theorem dX10_nth_45 : decode cX10_nth 45 = .ok (.baload, 1) := by decide +kernel
theorem dX10_nth_46 : decode cX10_nth 46 = .ok (.ifCond .eq 7, 3) := by decide +kernel
theorem dX10_nth_49 : decode cX10_nth 49 = .ok (.iload_n 2, 1) := by decide +kernel
theorem dX10_nth_50 : decode cX10_nth 50 = .ok (.ifCond .le 29, 3) := by decide +kernel
theorem dX10_nth_53 : decode cX10_nth 53 = .ok (.iload_n 2, 1) := by decide +kernel
theorem dX10_nth_54 : decode cX10_nth 54 = .ok (.aload_n 0, 1) := by decide +kernel
theorem dX10_nth_55 : decode cX10_nth 55 = .ok (.getfield 29, 3) := by decide +kernel
theorem dX10_nth_58 : decode cX10_nth 58 = .ok (.iload_n 3, 1) := by decide +kernel
theorem dX10_nth_59 : decode cX10_nth 59 = .ok (.baload, 1) := by decide +kernel
theorem dX10_nth_60 : decode cX10_nth 60 = .ok (.ifCond .eq 7, 3) := by decide +kernel
theorem dX10_nth_63 : decode cX10_nth 63 = .ok (.iconst 1, 1) := by decide +kernel
theorem dX10_nth_64 : decode cX10_nth 64 = .ok (.goto 4, 3) := by decide +kernel
theorem dX10_nth_67 : decode cX10_nth 67 = .ok (.iconst 0, 1) := by decide +kernel
theorem dX10_nth_68 : decode cX10_nth 68 = .ok (.isub, 1) := by decide +kernel
theorem dX10_nth_69 : decode cX10_nth 69 = .ok (.istore_n 2, 1) := by decide +kernel
theorem dX10_nth_70 : decode cX10_nth 70 = .ok (.aload_n 0, 1) := by decide +kernel
theorem dX10_nth_71 : decode cX10_nth 71 = .ok (.iload_n 3, 1) := by decide +kernel
theorem dX10_nth_72 : decode cX10_nth 72 = .ok (.invokevirtual 174, 3) := by decide +kernel
theorem dX10_nth_75 : decode cX10_nth 75 = .ok (.istore_n 3, 1) := by decide +kernel
theorem dX10_nth_76 : decode cX10_nth 76 = .ok (.goto (-36), 3) := by decide +kernel
theorem dX10_nth_79 : decode cX10_nth 79 = .ok (.aload_n 0, 1) := by decide +kernel
theorem dX10_nth_80 : decode cX10_nth 80 = .ok (.iload_n 3, 1) := by decide +kernel
theorem dX10_nth_81 : decode cX10_nth 81 = .ok (.invokevirtual 165, 3) := by decide +kernel
theorem dX10_nth_84 : decode cX10_nth 84 = .ok (.iconst 0, 1) := by decide +kernel
theorem dX10_nth_85 : decode cX10_nth 85 = .ok (.istore 4, 2) := by decide +kernel
theorem dX10_nth_87 : decode cX10_nth 87 = .ok (.iload 4, 2) := by decide +kernel
theorem dX10_nth_89 : decode cX10_nth 89 = .ok (.aload_n 0, 1) := by decide +kernel
theorem dX10_nth_90 : decode cX10_nth 90 = .ok (.getfield 158, 3) := by decide +kernel
theorem dX10_nth_93 : decode cX10_nth 93 = .ok (.if_icmp .ge 23, 3) := by decide +kernel
theorem dX10_nth_96 : decode cX10_nth 96 = .ok (.aload_n 0, 1) := by decide +kernel
theorem dX10_nth_97 : decode cX10_nth 97 = .ok (.getfield 7, 3) := by decide +kernel
theorem dX10_nth_100 : decode cX10_nth 100 = .ok (.iload 4, 2) := by decide +kernel
theorem dX10_nth_102 : decode cX10_nth 102 = .ok (.aload_n 0, 1) := by decide +kernel
theorem dX10_nth_103 : decode cX10_nth 103 = .ok (.getfield 53, 3) := by decide +kernel
theorem dX10_nth_106 : decode cX10_nth 106 = .ok (.iload 4, 2) := by decide +kernel
theorem dX10_nth_108 : decode cX10_nth 108 = .ok (.iaload, 1) := by decide +kernel
theorem dX10_nth_109 : decode cX10_nth 109 = .ok (.iastore, 1) := by decide +kernel
theorem dX10_nth_110 : decode cX10_nth 110 = .ok (.iinc 4 1, 3) := by decide +kernel
theorem dX10_nth_113 : decode cX10_nth 113 = .ok (.goto (-26), 3) := by decide +kernel
theorem dX10_nth_116 : decode cX10_nth 116 = .ok (.aload_n 0, 1) := by decide +kernel
theorem dX10_nth_117 : decode cX10_nth 117 = .ok (.aload_n 0, 1) := by decide +kernel
theorem dX10_nth_118 : decode cX10_nth 118 = .ok (.getfield 158, 3) := by decide +kernel
theorem dX10_nth_121 : decode cX10_nth 121 = .ok (.putfield 91, 3) := by decide +kernel
theorem dX10_nth_124 : decode cX10_nth 124 = .ok (.aload_n 0, 1) := by decide +kernel
theorem dX10_nth_125 : decode cX10_nth 125 = .ok (.getfield 91, 3) := by decide +kernel
theorem dX10_nth_128 : decode cX10_nth 128 = .ok (.ireturn, 1) := by decide +kernel
set_option maxRecDepth 100000 in
set_option maxHeartbeats 4000000 in
theorem bX10_nth_87 {l : Launch} {g : xG} (a0 : Nat) (x1 : Int32) (x2 : Int32) (x3 : Int32) (x4 : Int32) {M : xM} {Q : Option Value → xM → Prop} (h : (xat M a0 7 ∧ (((xI M a0 24) ≤ x4 → (Q (some (.int (xI (xsI M a0 2 (xI M a0 24)) a0 2))) (xsI M a0 2 (xI M a0 24)))) ∧ (¬ (xI M a0 24) ≤ x4 → (∃ a2, (xR M a0 23) = some a2 ∧ ∃ i4, xai M a2 9 x4 i4 ∧ (∃ a6, (xR M a0 1) = some a6 ∧ ∃ i8, xai M a6 9 x4 i8 ∧ xWp l g mX10_nth 0 0 87 [(1, va_rf (some a0)), (1, .int x1), (1, .int x2), (1, .int x3), (1, .int (x4 + 1))] [] (0, 0) (xsI M a6 i8 (xI M a2 i4)) Q)))))) : xWp l g mX10_nth 0 0 87 [(1, va_rf (some a0)), (1, .int x1), (1, .int x2), (1, .int x3), (1, .int x4)] [] (0, 0) M Q := by
  refine xr_iload dX10_nth_87 rfl ?_
  refine xr_aload_n 0 dX10_nth_89 rfl rfl ?_
  obtain ⟨t1, h⟩ := h
  refine yr_getI dX10_nth_90 fl_RX10_158 rfl t1 ?_
  obtain ⟨ht, hf⟩ := h
  refine xr_icmp_ge 116 dX10_nth_93 (by decide) (fun c10 => ?_) (fun c10 => ?_)
  · replace h := ht c10
    clear ht hf
    refine xr_aload_n 0 dX10_nth_116 rfl rfl ?_
    refine xr_aload_n 0 dX10_nth_117 rfl rfl ?_
    refine yr_getI dX10_nth_118 fl_RX10_158 rfl t1 ?_
    refine yr_putI dX10_nth_121 fp_RX10_91 rfl t1 ?_
    refine xr_aload_n 0 dX10_nth_124 rfl rfl ?_
    refine yr_getI dX10_nth_125 fl_RX10_91 rfl t1 ?_
    exact xr_retv (by decide) (xRi rfl rfl dX10_nth_128) h
  · replace h := hf c10
    clear ht hf
    refine xr_aload_n 0 dX10_nth_96 rfl rfl ?_
    refine yr_getR dX10_nth_97 fl_RX10_7 rfl t1 ?_
    refine xr_iload dX10_nth_100 rfl ?_
    refine xr_aload_n 0 dX10_nth_102 rfl rfl ?_
    refine yr_getR dX10_nth_103 fl_RX10_53 rfl t1 ?_
    refine xr_iload dX10_nth_106 rfl ?_
    obtain ⟨a2, e3, h⟩ := h
    obtain ⟨i4, t5, h⟩ := h
    refine yr_iald dX10_nth_108 e3 t5 ?_
    obtain ⟨a6, e7, h⟩ := h
    obtain ⟨i8, t9, h⟩ := h
    refine yr_iast dX10_nth_109 e7 t9 ?_
    refine ziinc (x4 + 1) dX10_nth_110 rfl rfl (L1 := [(1, va_rf (some a0)), (1, .int x1), (1, .int x2), (1, .int x3), (1, .int (x4 + 1))]) (by decide) rfl ?_
    refine xr_goto 87 dX10_nth_113 (by decide) ?_
    exact h
set_option maxRecDepth 100000 in
set_option maxHeartbeats 4000000 in
theorem bX10_nth_53 {l : Launch} {g : xG} (a0 : Nat) (x1 : Int32) (x2 : Int32) (x3 : Int32) (w4 : Value) {M : xM} {Q : Option Value → xM → Prop} (h : (xat M a0 7 ∧ (∃ a2, (xR M a0 9) = some a2 ∧ ∃ i4, xai M a2 11 x3 i4 ∧ (((xI M a2 i4) = 0 → (xSp l g mX10_next 0 0 [va_rf (some a0), .int x3] M (fun ρ8 M7 => ∃ v6 : Int32, ρ8 = some (.int v6) ∧ xWp l g mX10_nth 0 0 40 [(1, va_rf (some a0)), (1, .int x1), (1, .int (x2 - 0)), (1, .int v6), (0, w4)] [] (0, 0) M7 Q))) ∧ (¬ (xI M a2 i4) = 0 → (xSp l g mX10_next 0 0 [va_rf (some a0), .int x3] M (fun ρ12 M11 => ∃ v10 : Int32, ρ12 = some (.int v10) ∧ xWp l g mX10_nth 0 0 40 [(1, va_rf (some a0)), (1, .int x1), (1, .int (x2 - 1)), (1, .int v10), (0, w4)] [] (0, 0) M11 Q))))))) : xWp l g mX10_nth 0 0 53 [(1, va_rf (some a0)), (1, .int x1), (1, .int x2), (1, .int x3), (0, w4)] [] (0, 0) M Q := by
  refine xr_iload_n 2 dX10_nth_53 rfl rfl ?_
  refine xr_aload_n 0 dX10_nth_54 rfl rfl ?_
  obtain ⟨t1, h⟩ := h
  refine yr_getR dX10_nth_55 fl_RX10_29 rfl t1 ?_
  refine xr_iload_n 3 dX10_nth_58 rfl rfl ?_
  obtain ⟨a2, e3, h⟩ := h
  obtain ⟨i4, t5, h⟩ := h
  refine yr_zald dX10_nth_59 e3 t5 ?_
  obtain ⟨ht, hf⟩ := h
  refine xr_if_eq 67 dX10_nth_60 (by decide) (fun c14 => ?_) (fun c14 => ?_)
  · replace h := ht c14
    clear ht hf
    refine xr_iconst 0 dX10_nth_67 (by decide) ?_
    refine xr_isub dX10_nth_68 ?_
    refine zistore_n 2 dX10_nth_69 rfl (L1 := [(1, va_rf (some a0)), (1, .int x1), (1, .int (x2 - 0)), (1, .int x3), (0, w4)]) (by decide) rfl ?_
    refine xr_aload_n 0 dX10_nth_70 rfl rfl ?_
    refine xr_iload_n 3 dX10_nth_71 rfl rfl ?_
    refine yr_callV (r := (some a0)) [.int x3] dX10_nth_72 cv_X10_nth_174 rfl t1 rfl (Nat.le_trans wt_0 (by decide)) (by decide) (xSp.mono h ?_)
    clear h
    intro ρ8 M7 h
    obtain ⟨v6, rfl, h⟩ := h
    refine zistore_n 3 dX10_nth_75 rfl (L1 := [(1, va_rf (some a0)), (1, .int x1), (1, .int (x2 - 0)), (1, .int v6), (0, w4)]) (by decide) rfl ?_
    refine xr_goto 40 dX10_nth_76 (by decide) ?_
    exact h
  · replace h := hf c14
    clear ht hf
    refine xr_iconst 1 dX10_nth_63 (by decide) ?_
    refine xr_goto 68 dX10_nth_64 (by decide) ?_
    refine xr_isub dX10_nth_68 ?_
    refine zistore_n 2 dX10_nth_69 rfl (L1 := [(1, va_rf (some a0)), (1, .int x1), (1, .int (x2 - 1)), (1, .int x3), (0, w4)]) (by decide) rfl ?_
    refine xr_aload_n 0 dX10_nth_70 rfl rfl ?_
    refine xr_iload_n 3 dX10_nth_71 rfl rfl ?_
    refine yr_callV (r := (some a0)) [.int x3] dX10_nth_72 cv_X10_nth_174 rfl t1 rfl (Nat.le_trans wt_0 (by decide)) (by decide) (xSp.mono h ?_)
    clear h
    intro ρ12 M11 h
    obtain ⟨v10, rfl, h⟩ := h
    refine zistore_n 3 dX10_nth_75 rfl (L1 := [(1, va_rf (some a0)), (1, .int x1), (1, .int (x2 - 1)), (1, .int v10), (0, w4)]) (by decide) rfl ?_
    refine xr_goto 40 dX10_nth_76 (by decide) ?_
    exact h
set_option maxRecDepth 100000 in
set_option maxHeartbeats 4000000 in
theorem bX10_nth_40 {l : Launch} {g : xG} (a0 : Nat) (x1 : Int32) (x2 : Int32) (x3 : Int32) (w4 : Value) {M : xM} {Q : Option Value → xM → Prop} (h : (xat M a0 7 ∧ (∃ a2, (xR M a0 9) = some a2 ∧ ∃ i4, xai M a2 11 x3 i4 ∧ (((xI M a2 i4) = 0 → xWp l g mX10_nth 0 0 53 [(1, va_rf (some a0)), (1, .int x1), (1, .int x2), (1, .int x3), (0, w4)] [] (0, 0) M Q) ∧ (¬ (xI M a2 i4) = 0 → ((x2 ≤ 0 → (xSp l g mX10_tell 0 0 [va_rf (some a0), .int x3] M (fun ρ8 M7 => ρ8 = none ∧ xWp l g mX10_nth 0 0 87 [(1, va_rf (some a0)), (1, .int x1), (1, .int x2), (1, .int x3), (1, .int 0)] [] (0, 0) M7 Q))) ∧ (¬ x2 ≤ 0 → xWp l g mX10_nth 0 0 53 [(1, va_rf (some a0)), (1, .int x1), (1, .int x2), (1, .int x3), (0, w4)] [] (0, 0) M Q))))))) : xWp l g mX10_nth 0 0 40 [(1, va_rf (some a0)), (1, .int x1), (1, .int x2), (1, .int x3), (0, w4)] [] (0, 0) M Q := by
  refine xr_aload_n 0 dX10_nth_40 rfl rfl ?_
  obtain ⟨t1, h⟩ := h
  refine yr_getR dX10_nth_41 fl_RX10_29 rfl t1 ?_
  refine xr_iload_n 3 dX10_nth_44 rfl rfl ?_
  obtain ⟨a2, e3, h⟩ := h
  obtain ⟨i4, t5, h⟩ := h
  refine yr_zald dX10_nth_45 e3 t5 ?_
  obtain ⟨ht, hf⟩ := h
  refine xr_if_eq 53 dX10_nth_46 (by decide) (fun c11 => ?_) (fun c11 => ?_)
  · replace h := ht c11
    clear ht hf
    exact h
  · replace h := hf c11
    clear ht hf
    refine xr_iload_n 2 dX10_nth_49 rfl rfl ?_
    obtain ⟨ht, hf⟩ := h
    refine xr_if_le 79 dX10_nth_50 (by decide) (fun c10 => ?_) (fun c10 => ?_)
    · replace h := ht c10
      clear ht hf
      refine xr_aload_n 0 dX10_nth_79 rfl rfl ?_
      refine xr_iload_n 3 dX10_nth_80 rfl rfl ?_
      refine yr_callV (r := (some a0)) [.int x3] dX10_nth_81 cv_X10_nth_165 rfl t1 rfl (Nat.le_trans wt_0 (by decide)) (by decide) (xSp.mono h ?_)
      clear h
      intro ρ8 M7 h
      obtain ⟨rfl, h⟩ := h
      refine xr_iconst 0 dX10_nth_84 (by decide) ?_
      refine zistore dX10_nth_85 (L1 := [(1, va_rf (some a0)), (1, .int x1), (1, .int x2), (1, .int x3), (1, .int 0)]) (by decide) rfl ?_
      exact h
    · replace h := hf c10
      clear ht hf
      exact h
set_option maxRecDepth 100000 in
set_option maxHeartbeats 4000000 in
theorem bX10_nth_0 {l : Launch} {g : xG} (a0 : Nat) (x1 : Int32) {M : xM} {Q : Option Value → xM → Prop} (h : (xat M a0 7 ∧ (((xI (xsI M a0 0 0) a0 3) = 0 → (xSp l g mX10_keys 0 0 [va_rf (some a0)] (xsI M a0 0 0) (fun ρ4 M3 => ∃ v2 : Int32, ρ4 = some (.int v2) ∧ (xSp l g mX10_in 0 0 [.long x1.toInt64, .long 0, .long (v2 - 1).toInt64] M3 (fun ρ8 M7 => ∃ v6 : Int32, ρ8 = some (.int v6) ∧ ((¬ v6 = 0 → (xat M7 a0 7 ∧ xWp l g mX10_nth 0 0 40 [(1, va_rf (some a0)), (1, .int x1), (1, .int x1), (1, .int (xI M7 a0 14)), (0, .null)] [] (0, 0) M7 Q)) ∧ (v6 = 0 → (Q (some (.int (-1))) M7)))))))) ∧ (¬ (xI (xsI M a0 0 0) a0 3) = 0 → (Q (some (.int (-4))) (xsI M a0 0 0)))))) : xWp l g mX10_nth 0 0 0 [(1, va_rf (some a0)), (1, .int x1), (0, .null), (0, .null), (0, .null)] [] (0, 0) M Q := by
  refine xr_aload_n 0 dX10_nth_0 rfl rfl ?_
  refine xr_iconst 0 dX10_nth_1 (by decide) ?_
  obtain ⟨t1, h⟩ := h
  refine yr_putI dX10_nth_2 fp_RX10_68 rfl t1 ?_
  refine xr_aload_n 0 dX10_nth_5 rfl rfl ?_
  refine yr_getZ dX10_nth_6 fl_RX10_114 rfl t1 ?_
  obtain ⟨ht, hf⟩ := h
  refine xr_if_eq 15 dX10_nth_9 (by decide) (fun c12 => ?_) (fun c12 => ?_)
  · replace h := ht c12
    clear ht hf
    refine xr_iload_n 1 dX10_nth_15 rfl rfl ?_
    refine xr_i2l dX10_nth_16 ?_
    refine xr_lconst 0 dX10_nth_17 (by decide) ?_
    refine xr_aload_n 0 dX10_nth_18 rfl rfl ?_
    refine yr_callV (r := (some a0)) [] dX10_nth_19 cv_X10_nth_177 rfl t1 rfl (Nat.le_trans (wt_j (wt_j wt_0)) (by decide)) (by decide) (xSp.mono h ?_)
    clear h
    intro ρ4 M3 h
    obtain ⟨v2, rfl, h⟩ := h
    refine xr_iconst 1 dX10_nth_22 (by decide) ?_
    refine xr_isub dX10_nth_23 ?_
    refine xr_i2l dX10_nth_24 ?_
    refine xr_callS [.long x1.toInt64, .long 0, .long (v2 - 1).toInt64] dX10_nth_25 cs_X10_nth_87 rfl (Nat.le_trans wt_0 (by decide)) (by decide) (xSp.mono h ?_)
    clear h
    intro ρ8 M7 h
    obtain ⟨v6, rfl, h⟩ := h
    obtain ⟨ht, hf⟩ := h
    refine xr_if_ne 33 dX10_nth_28 (by decide) (fun c11 => ?_) (fun c11 => ?_)
    · replace h := ht c11
      clear ht hf
      refine xr_iload_n 1 dX10_nth_33 rfl rfl ?_
      refine zistore_n 2 dX10_nth_34 rfl (L1 := [(1, va_rf (some a0)), (1, .int x1), (1, .int x1), (0, .null), (0, .null)]) (by decide) rfl ?_
      refine xr_aload_n 0 dX10_nth_35 rfl rfl ?_
      obtain ⟨t10, h⟩ := h
      refine yr_getI dX10_nth_36 fl_RX10_75 rfl t10 ?_
      refine zistore_n 3 dX10_nth_39 rfl (L1 := [(1, va_rf (some a0)), (1, .int x1), (1, .int x1), (1, .int (xI M7 a0 14)), (0, .null)]) (by decide) rfl ?_
      exact h
    · replace h := hf c11
      clear ht hf
      refine xr_iconst (-1) dX10_nth_31 (by decide) ?_
      exact xr_retv (by decide) (xRi rfl rfl dX10_nth_32) h
  · replace h := hf c12
    clear ht hf
    refine xr_bipush (-4) dX10_nth_12 (by decide) ?_
    exact xr_retv (by decide) (xRi rfl rfl dX10_nth_14) h
theorem dX10_sum_0 : decode cX10_sum 0 = .ok (.lconst 0, 1) := by decide +kernel
theorem dX10_sum_1 : decode cX10_sum 1 = .ok (.lstore_n 2, 1) := by decide +kernel
theorem dX10_sum_2 : decode cX10_sum 2 = .ok (.iconst 0, 1) := by decide +kernel
theorem dX10_sum_3 : decode cX10_sum 3 = .ok (.istore 4, 2) := by decide +kernel
theorem dX10_sum_5 : decode cX10_sum 5 = .ok (.iload 4, 2) := by decide +kernel
theorem dX10_sum_7 : decode cX10_sum 7 = .ok (.sipush 504, 3) := by decide +kernel
theorem dX10_sum_10 : decode cX10_sum 10 = .ok (.if_icmp .ge 33, 3) := by decide +kernel
theorem dX10_sum_13 : decode cX10_sum 13 = .ok (.lload_n 2, 1) := by decide +kernel
theorem dX10_sum_14 : decode cX10_sum 14 = .ok (.aload_n 0, 1) := by decide +kernel
theorem dX10_sum_15 : decode cX10_sum 15 = .ok (.iload_n 1, 1) := by decide +kernel
theorem dX10_sum_16 : decode cX10_sum 16 = .ok (.iload 4, 2) := by decide +kernel
theorem dX10_sum_18 : decode cX10_sum 18 = .ok (.iadd, 1) := by decide +kernel
theorem dX10_sum_19 : decode cX10_sum 19 = .ok (.iaload, 1) := by decide +kernel
theorem dX10_sum_20 : decode cX10_sum 20 = .ok (.i2l, 1) := by decide +kernel
theorem dX10_sum_21 : decode cX10_sum 21 = .ok (.lxor, 1) := by decide +kernel
theorem dX10_sum_22 : decode cX10_sum 22 = .ok (.ldc2_w 180, 3) := by decide +kernel
theorem dX10_sum_25 : decode cX10_sum 25 = .ok (.lmul, 1) := by decide +kernel
theorem dX10_sum_26 : decode cX10_sum 26 = .ok (.lstore_n 2, 1) := by decide +kernel
theorem dX10_sum_27 : decode cX10_sum 27 = .ok (.lload_n 2, 1) := by decide +kernel
theorem dX10_sum_28 : decode cX10_sum 28 = .ok (.bipush 9, 2) := by decide +kernel
theorem dX10_sum_30 : decode cX10_sum 30 = .ok (.lshl, 1) := by decide +kernel
theorem dX10_sum_31 : decode cX10_sum 31 = .ok (.lload_n 2, 1) := by decide +kernel
theorem dX10_sum_32 : decode cX10_sum 32 = .ok (.bipush 55, 2) := by decide +kernel
theorem dX10_sum_34 : decode cX10_sum 34 = .ok (.lushr, 1) := by decide +kernel
theorem dX10_sum_35 : decode cX10_sum 35 = .ok (.lor, 1) := by decide +kernel
theorem dX10_sum_36 : decode cX10_sum 36 = .ok (.lstore_n 2, 1) := by decide +kernel
theorem dX10_sum_37 : decode cX10_sum 37 = .ok (.iinc 4 1, 3) := by decide +kernel
theorem dX10_sum_40 : decode cX10_sum 40 = .ok (.goto (-35), 3) := by decide +kernel
theorem dX10_sum_43 : decode cX10_sum 43 = .ok (.lload_n 2, 1) := by decide +kernel
theorem dX10_sum_44 : decode cX10_sum 44 = .ok (.lreturn, 1) := by decide +kernel
set_option maxRecDepth 100000 in
set_option maxHeartbeats 4000000 in
theorem bX10_sum_5 {l : Launch} {g : xG} (r0 : Option Nat) (x1 : Int32) (j2 : Int64) (w3 : Value) (x4 : Int32) {M : xM} {Q : Option Value → xM → Prop} (h : ((504 ≤ x4 → (Q (some (.long j2)) M)) ∧ (¬ 504 ≤ x4 → (∃ a1, r0 = some a1 ∧ ∃ i3, xai M a1 9 (x1 + x4) i3 ∧ xWp l g mX10_sum 0 0 5 [(1, va_rf r0), (1, .int x1), (2, .long ((((j2 ^^^ (xI M a1 i3).toInt64) * 1099511628211) <<< ((9 : Int32).toInt64 &&& 63)) ||| (((j2 ^^^ (xI M a1 i3).toInt64) * 1099511628211).toUInt64 >>> ((55 : Int32).toInt64.toUInt64 &&& Int64.toUInt64 63)).toInt64)), (0, (.long ((((j2 ^^^ (xI M a1 i3).toInt64) * 1099511628211) <<< ((9 : Int32).toInt64 &&& 63)) ||| (((j2 ^^^ (xI M a1 i3).toInt64) * 1099511628211).toUInt64 >>> ((55 : Int32).toInt64.toUInt64 &&& Int64.toUInt64 63)).toInt64))), (1, .int (x4 + 1))] [] (0, 0) M Q)))) : xWp l g mX10_sum 0 0 5 [(1, va_rf r0), (1, .int x1), (2, .long j2), (0, w3), (1, .int x4)] [] (0, 0) M Q := by
  refine xr_iload dX10_sum_5 rfl ?_
  refine xr_sipush 504 dX10_sum_7 (by decide) ?_
  obtain ⟨ht, hf⟩ := h
  refine xr_icmp_ge 43 dX10_sum_10 (by decide) (fun c5 => ?_) (fun c5 => ?_)
  · replace h := ht c5
    clear ht hf
    refine xr_lload_n 2 dX10_sum_43 rfl rfl ?_
    exact xr_retv (by decide) (xRl rfl dX10_sum_44) h
  · replace h := hf c5
    clear ht hf
    refine xr_lload_n 2 dX10_sum_13 rfl rfl ?_
    refine xr_aload_n 0 dX10_sum_14 rfl rfl ?_
    refine xr_iload_n 1 dX10_sum_15 rfl rfl ?_
    refine xr_iload dX10_sum_16 rfl ?_
    refine xr_iadd dX10_sum_18 ?_
    obtain ⟨a1, e2, h⟩ := h
    obtain ⟨i3, t4, h⟩ := h
    refine yr_iald dX10_sum_19 e2 t4 ?_
    refine xr_i2l dX10_sum_20 ?_
    refine xr_lxor dX10_sum_21 ?_
    refine xr_ldc2 1099511628211 dX10_sum_22 ct_RX10_180 ?_
    refine xr_lmul dX10_sum_25 ?_
    refine zlstore_n 2 dX10_sum_26 rfl (L1 := [(1, va_rf r0), (1, .int x1), (2, .long ((j2 ^^^ (xI M a1 i3).toInt64) * 1099511628211)), (0, (.long ((j2 ^^^ (xI M a1 i3).toInt64) * 1099511628211))), (1, .int x4)]) (by decide) rfl ?_
    refine xr_lload_n 2 dX10_sum_27 rfl rfl ?_
    refine xr_bipush 9 dX10_sum_28 (by decide) ?_
    refine xr_lshl dX10_sum_30 ?_
    refine xr_lload_n 2 dX10_sum_31 rfl rfl ?_
    refine xr_bipush 55 dX10_sum_32 (by decide) ?_
    refine xr_lushr dX10_sum_34 ?_
    refine xr_lor dX10_sum_35 ?_
    refine zlstore_n 2 dX10_sum_36 rfl (L1 := [(1, va_rf r0), (1, .int x1), (2, .long ((((j2 ^^^ (xI M a1 i3).toInt64) * 1099511628211) <<< ((9 : Int32).toInt64 &&& 63)) ||| (((j2 ^^^ (xI M a1 i3).toInt64) * 1099511628211).toUInt64 >>> ((55 : Int32).toInt64.toUInt64 &&& Int64.toUInt64 63)).toInt64)), (0, (.long ((((j2 ^^^ (xI M a1 i3).toInt64) * 1099511628211) <<< ((9 : Int32).toInt64 &&& 63)) ||| (((j2 ^^^ (xI M a1 i3).toInt64) * 1099511628211).toUInt64 >>> ((55 : Int32).toInt64.toUInt64 &&& Int64.toUInt64 63)).toInt64))), (1, .int x4)]) (by decide) rfl ?_
    refine ziinc (x4 + 1) dX10_sum_37 rfl rfl (L1 := [(1, va_rf r0), (1, .int x1), (2, .long ((((j2 ^^^ (xI M a1 i3).toInt64) * 1099511628211) <<< ((9 : Int32).toInt64 &&& 63)) ||| (((j2 ^^^ (xI M a1 i3).toInt64) * 1099511628211).toUInt64 >>> ((55 : Int32).toInt64.toUInt64 &&& Int64.toUInt64 63)).toInt64)), (0, (.long ((((j2 ^^^ (xI M a1 i3).toInt64) * 1099511628211) <<< ((9 : Int32).toInt64 &&& 63)) ||| (((j2 ^^^ (xI M a1 i3).toInt64) * 1099511628211).toUInt64 >>> ((55 : Int32).toInt64.toUInt64 &&& Int64.toUInt64 63)).toInt64))), (1, .int (x4 + 1))]) (by decide) rfl ?_
    refine xr_goto 5 dX10_sum_40 (by decide) ?_
    exact h
set_option maxRecDepth 100000 in
set_option maxHeartbeats 4000000 in
theorem bX10_sum_0 {l : Launch} {g : xG} (r0 : Option Nat) (x1 : Int32) {M : xM} {Q : Option Value → xM → Prop} (h : xWp l g mX10_sum 0 0 5 [(1, va_rf r0), (1, .int x1), (2, .long 0), (0, (.long 0)), (1, .int 0)] [] (0, 0) M Q) : xWp l g mX10_sum 0 0 0 [(1, va_rf r0), (1, .int x1), (0, .null), (0, .null), (0, .null)] [] (0, 0) M Q := by
  refine xr_lconst 0 dX10_sum_0 (by decide) ?_
  refine zlstore_n 2 dX10_sum_1 rfl (L1 := [(1, va_rf r0), (1, .int x1), (2, .long 0), (0, (.long 0)), (0, .null)]) (by decide) rfl ?_
  refine xr_iconst 0 dX10_sum_2 (by decide) ?_
  refine zistore dX10_sum_3 (L1 := [(1, va_rf r0), (1, .int x1), (2, .long 0), (0, (.long 0)), (1, .int 0)]) (by decide) rfl ?_
  exact h
theorem dX10_number_0 : decode cX10_number 0 = .ok (.iconst 0, 1) := by decide +kernel
theorem dX10_number_1 : decode cX10_number 1 = .ok (.istore 5, 2) := by decide +kernel
theorem dX10_number_3 : decode cX10_number 3 = .ok (.iload 5, 2) := by decide +kernel
theorem dX10_number_5 : decode cX10_number 5 = .ok (.iload_n 2, 1) := by decide +kernel
theorem dX10_number_6 : decode cX10_number 6 = .ok (.if_icmp .ge 34, 3) := by decide +kernel
theorem dX10_number_9 : decode cX10_number 9 = .ok (.aload_n 0, 1) := by decide +kernel
theorem dX10_number_10 : decode cX10_number 10 = .ok (.getfield 56, 3) := by decide +kernel
theorem dX10_number_13 : decode cX10_number 13 = .ok (.iload_n 1, 1) := by decide +kernel
theorem dX10_number_14 : decode cX10_number 14 = .ok (.iload 5, 2) := by decide +kernel
theorem dX10_number_16 : decode cX10_number 16 = .ok (.iadd, 1) := by decide +kernel
theorem dX10_number_17 : decode cX10_number 17 = .ok (.lload_n 3, 1) := by decide +kernel
theorem dX10_number_18 : decode cX10_number 18 = .ok (.bipush 8, 2) := by decide +kernel
theorem dX10_number_20 : decode cX10_number 20 = .ok (.iload_n 2, 1) := by decide +kernel
theorem dX10_number_21 : decode cX10_number 21 = .ok (.iconst 1, 1) := by decide +kernel
theorem dX10_number_22 : decode cX10_number 22 = .ok (.isub, 1) := by decide +kernel
theorem dX10_number_23 : decode cX10_number 23 = .ok (.iload 5, 2) := by decide +kernel
theorem dX10_number_25 : decode cX10_number 25 = .ok (.isub, 1) := by decide +kernel
theorem dX10_number_26 : decode cX10_number 26 = .ok (.imul, 1) := by decide +kernel
theorem dX10_number_27 : decode cX10_number 27 = .ok (.lshr, 1) := by decide +kernel
theorem dX10_number_28 : decode cX10_number 28 = .ok (.ldc2_w 94, 3) := by decide +kernel
theorem dX10_number_31 : decode cX10_number 31 = .ok (.land, 1) := by decide +kernel
theorem dX10_number_32 : decode cX10_number 32 = .ok (.l2i, 1) := by decide +kernel
theorem dX10_number_33 : decode cX10_number 33 = .ok (.iastore, 1) := by decide +kernel
theorem dX10_number_34 : decode cX10_number 34 = .ok (.iinc 5 1, 3) := by decide +kernel
theorem dX10_number_37 : decode cX10_number 37 = .ok (.goto (-34), 3) := by decide +kernel
theorem dX10_number_40 : decode cX10_number 40 = .ok (.return_, 1) := by decide +kernel
set_option maxRecDepth 100000 in
set_option maxHeartbeats 4000000 in
theorem bX10_number_3 {l : Launch} {g : xG} (a0 : Nat) (x1 : Int32) (x2 : Int32) (j3 : Int64) (w4 : Value) (x5 : Int32) {M : xM} {Q : Option Value → xM → Prop} (h : ((x2 ≤ x5 → (Q none M)) ∧ (¬ x2 ≤ x5 → (xat M a0 7 ∧ (∃ a2, (xR M a0 25) = some a2 ∧ ∃ i4, xai M a2 9 (x1 + x5) i4 ∧ xWp l g mX10_number 0 0 3 [(1, va_rf (some a0)), (1, .int x1), (1, .int x2), (2, .long j3), (0, w4), (1, .int (x5 + 1))] [] (0, 0) (xsI M a2 i4 ((j3 >>> ((8 * ((x2 - 1) - x5)).toInt64 &&& 63)) &&& 255).toInt32) Q))))) : xWp l g mX10_number 0 0 3 [(1, va_rf (some a0)), (1, .int x1), (1, .int x2), (2, .long j3), (0, w4), (1, .int x5)] [] (0, 0) M Q := by
  refine xr_iload dX10_number_3 rfl ?_
  refine xr_iload_n 2 dX10_number_5 rfl rfl ?_
  obtain ⟨ht, hf⟩ := h
  refine xr_icmp_ge 40 dX10_number_6 (by decide) (fun c6 => ?_) (fun c6 => ?_)
  · replace h := ht c6
    clear ht hf
    exact xr_ret (by decide) (xRv rfl dX10_number_40) h
  · replace h := hf c6
    clear ht hf
    refine xr_aload_n 0 dX10_number_9 rfl rfl ?_
    obtain ⟨t1, h⟩ := h
    refine yr_getR dX10_number_10 fl_RX10_56 rfl t1 ?_
    refine xr_iload_n 1 dX10_number_13 rfl rfl ?_
    refine xr_iload dX10_number_14 rfl ?_
    refine xr_iadd dX10_number_16 ?_
    refine xr_lload_n 3 dX10_number_17 rfl rfl ?_
    refine xr_bipush 8 dX10_number_18 (by decide) ?_
    refine xr_iload_n 2 dX10_number_20 rfl rfl ?_
    refine xr_iconst 1 dX10_number_21 (by decide) ?_
    refine xr_isub dX10_number_22 ?_
    refine xr_iload dX10_number_23 rfl ?_
    refine xr_isub dX10_number_25 ?_
    refine xr_imul dX10_number_26 ?_
    refine xr_lshr dX10_number_27 ?_
    refine xr_ldc2 255 dX10_number_28 ct_RX10_94 ?_
    refine xr_land dX10_number_31 ?_
    refine xr_l2i dX10_number_32 ?_
    obtain ⟨a2, e3, h⟩ := h
    obtain ⟨i4, t5, h⟩ := h
    refine yr_iast dX10_number_33 e3 t5 ?_
    refine ziinc (x5 + 1) dX10_number_34 rfl rfl (L1 := [(1, va_rf (some a0)), (1, .int x1), (1, .int x2), (2, .long j3), (0, w4), (1, .int (x5 + 1))]) (by decide) rfl ?_
    refine xr_goto 3 dX10_number_37 (by decide) ?_
    exact h
set_option maxRecDepth 100000 in
set_option maxHeartbeats 4000000 in
theorem bX10_number_0 {l : Launch} {g : xG} (a0 : Nat) (x1 : Int32) (x2 : Int32) (j3 : Int64) {M : xM} {Q : Option Value → xM → Prop} (h : xWp l g mX10_number 0 0 3 [(1, va_rf (some a0)), (1, .int x1), (1, .int x2), (2, .long j3), (0, .null), (1, .int 0)] [] (0, 0) M Q) : xWp l g mX10_number 0 0 0 [(1, va_rf (some a0)), (1, .int x1), (1, .int x2), (2, .long j3), (0, .null), (0, .null)] [] (0, 0) M Q := by
  refine xr_iconst 0 dX10_number_0 (by decide) ?_
  refine zistore dX10_number_1 (L1 := [(1, va_rf (some a0)), (1, .int x1), (1, .int x2), (2, .long j3), (0, .null), (1, .int 0)]) (by decide) rfl ?_
  exact h
theorem dX10_write_0 : decode cX10_write 0 = .ok (.aload_n 0, 1) := by decide +kernel
theorem dX10_write_1 : decode cX10_write 1 = .ok (.sipush 504, 3) := by decide +kernel
theorem dX10_write_4 : decode cX10_write 4 = .ok (.bipush 8, 2) := by decide +kernel
theorem dX10_write_6 : decode cX10_write 6 = .ok (.aload_n 0, 1) := by decide +kernel
theorem dX10_write_7 : decode cX10_write 7 = .ok (.getfield 56, 3) := by decide +kernel
theorem dX10_write_10 : decode cX10_write 10 = .ok (.iconst 0, 1) := by decide +kernel
theorem dX10_write_11 : decode cX10_write 11 = .ok (.invokestatic 182, 3) := by decide +kernel
theorem dX10_write_14 : decode cX10_write 14 = .ok (.invokevirtual 186, 3) := by decide +kernel
theorem dX10_write_17 : decode cX10_write 17 = .ok (.aload_n 0, 1) := by decide +kernel
theorem dX10_write_18 : decode cX10_write 18 = .ok (.getfield 49, 3) := by decide +kernel
theorem dX10_write_21 : decode cX10_write 21 = .ok (.ifCond .ne 7, 3) := by decide +kernel
theorem dX10_write_24 : decode cX10_write 24 = .ok (.iconst 1, 1) := by decide +kernel
theorem dX10_write_25 : decode cX10_write 25 = .ok (.goto 4, 3) := by decide +kernel
theorem dX10_write_28 : decode cX10_write 28 = .ok (.iconst 0, 1) := by decide +kernel
theorem dX10_write_29 : decode cX10_write 29 = .ok (.istore_n 2, 1) := by decide +kernel
theorem dX10_write_30 : decode cX10_write 30 = .ok (.iload_n 2, 1) := by decide +kernel
theorem dX10_write_31 : decode cX10_write 31 = .ok (.ifCond .eq 10, 3) := by decide +kernel
theorem dX10_write_34 : decode cX10_write 34 = .ok (.aload_n 0, 1) := by decide +kernel
theorem dX10_write_35 : decode cX10_write 35 = .ok (.getfield 190, 3) := by decide +kernel
theorem dX10_write_38 : decode cX10_write 38 = .ok (.goto 6, 3) := by decide +kernel
theorem dX10_write_41 : decode cX10_write 41 = .ok (.sipush 512, 3) := by decide +kernel
theorem dX10_write_44 : decode cX10_write 44 = .ok (.istore_n 3, 1) := by decide +kernel
theorem dX10_write_45 : decode cX10_write 45 = .ok (.iconst 0, 1) := by decide +kernel
theorem dX10_write_46 : decode cX10_write 46 = .ok (.istore 4, 2) := by decide +kernel
theorem dX10_write_48 : decode cX10_write 48 = .ok (.iload 4, 2) := by decide +kernel
theorem dX10_write_50 : decode cX10_write 50 = .ok (.iload_n 3, 1) := by decide +kernel
theorem dX10_write_51 : decode cX10_write 51 = .ok (.if_icmp .ge 29, 3) := by decide +kernel
theorem dX10_write_54 : decode cX10_write 54 = .ok (.aload_n 0, 1) := by decide +kernel
theorem dX10_write_55 : decode cX10_write 55 = .ok (.getfield 46, 3) := by decide +kernel
theorem dX10_write_58 : decode cX10_write 58 = .ok (.sipush 512, 3) := by decide +kernel
theorem dX10_write_61 : decode cX10_write 61 = .ok (.iload_n 1, 1) := by decide +kernel
theorem dX10_write_62 : decode cX10_write 62 = .ok (.imul, 1) := by decide +kernel
theorem dX10_write_63 : decode cX10_write 63 = .ok (.iload 4, 2) := by decide +kernel
theorem dX10_write_65 : decode cX10_write 65 = .ok (.iadd, 1) := by decide +kernel
theorem dX10_write_66 : decode cX10_write 66 = .ok (.aload_n 0, 1) := by decide +kernel
theorem dX10_write_67 : decode cX10_write 67 = .ok (.getfield 56, 3) := by decide +kernel
theorem dX10_write_70 : decode cX10_write 70 = .ok (.iload 4, 2) := by decide +kernel
theorem dX10_write_72 : decode cX10_write 72 = .ok (.iaload, 1) := by decide +kernel
theorem dX10_write_73 : decode cX10_write 73 = .ok (.iastore, 1) := by decide +kernel
theorem dX10_write_74 : decode cX10_write 74 = .ok (.iinc 4 1, 3) := by decide +kernel
theorem dX10_write_77 : decode cX10_write 77 = .ok (.goto (-29), 3) := by decide +kernel
theorem dX10_write_80 : decode cX10_write 80 = .ok (.iload_n 2, 1) := by decide +kernel
theorem dX10_write_81 : decode cX10_write 81 = .ok (.ifCond .eq 16, 3) := by decide +kernel
theorem dX10_write_84 : decode cX10_write 84 = .ok (.aload_n 0, 1) := by decide +kernel
theorem dX10_write_85 : decode cX10_write 85 = .ok (.getfield 46, 3) := by decide +kernel
theorem dX10_write_88 : decode cX10_write 88 = .ok (.sipush 512, 3) := by decide +kernel
theorem dX10_write_91 : decode cX10_write 91 = .ok (.iload_n 1, 1) := by decide +kernel
theorem dX10_write_92 : decode cX10_write 92 = .ok (.imul, 1) := by decide +kernel
theorem dX10_write_93 : decode cX10_write 93 = .ok (.sipush 255, 3) := by decide +kernel
theorem dX10_write_96 : decode cX10_write 96 = .ok (.iastore, 1) := by decide +kernel
theorem dX10_write_97 : decode cX10_write 97 = .ok (.aload_n 0, 1) := by decide +kernel
theorem dX10_write_98 : decode cX10_write 98 = .ok (.getfield 49, 3) := by decide +kernel
theorem dX10_write_101 : decode cX10_write 101 = .ok (.ifCond .le 13, 3) := by decide +kernel
theorem dX10_write_104 : decode cX10_write 104 = .ok (.aload_n 0, 1) := by decide +kernel
theorem dX10_write_105 : decode cX10_write 105 = .ok (.dup, 1) := by decide +kernel
theorem dX10_write_106 : decode cX10_write 106 = .ok (.getfield 49, 3) := by decide +kernel
theorem dX10_write_109 : decode cX10_write 109 = .ok (.iconst 1, 1) := by decide +kernel
theorem dX10_write_110 : decode cX10_write 110 = .ok (.isub, 1) := by decide +kernel
theorem dX10_write_111 : decode cX10_write 111 = .ok (.putfield 49, 3) := by decide +kernel
theorem dX10_write_114 : decode cX10_write 114 = .ok (.aload_n 0, 1) := by decide +kernel
theorem dX10_write_115 : decode cX10_write 115 = .ok (.iload_n 2, 1) := by decide +kernel
theorem dX10_write_116 : decode cX10_write 116 = .ok (.putfield 114, 3) := by decide +kernel
theorem dX10_write_119 : decode cX10_write 119 = .ok (.iload_n 2, 1) := by decide +kernel
theorem dX10_write_120 : decode cX10_write 120 = .ok (.ifCond .ne 7, 3) := by decide +kernel
theorem dX10_write_123 : decode cX10_write 123 = .ok (.iconst 1, 1) := by decide +kernel
theorem dX10_write_124 : decode cX10_write 124 = .ok (.goto 4, 3) := by decide +kernel
theorem dX10_write_127 : decode cX10_write 127 = .ok (.iconst 0, 1) := by decide +kernel
theorem dX10_write_128 : decode cX10_write 128 = .ok (.ireturn, 1) := by decide +kernel
set_option maxRecDepth 100000 in
set_option maxHeartbeats 4000000 in
theorem bX10_write_97 {l : Launch} {g : xG} (a0 : Nat) (x1 : Int32) (x2 : Int32) (x3 : Int32) (x4 : Int32) {M : xM} {Q : Option Value → xM → Prop} (h : (xat M a0 7 ∧ (((xI M a0 18) ≤ 0 → ((x2 = 0 ∨ x2 = 1) ∧ ((¬ x2 = 0 → (Q (some (.int 0)) (xsI M a0 3 x2))) ∧ (x2 = 0 → (Q (some (.int 1)) (xsI M a0 3 x2)))))) ∧ (¬ (xI M a0 18) ≤ 0 → ((x2 = 0 ∨ x2 = 1) ∧ ((¬ x2 = 0 → (Q (some (.int 0)) (xsI (xsI M a0 18 ((xI M a0 18) - 1)) a0 3 x2))) ∧ (x2 = 0 → (Q (some (.int 1)) (xsI (xsI M a0 18 ((xI M a0 18) - 1)) a0 3 x2))))))))) : xWp l g mX10_write 0 0 97 [(1, va_rf (some a0)), (1, .int x1), (1, .int x2), (1, .int x3), (1, .int x4)] [] (0, 0) M Q := by
  refine xr_aload_n 0 dX10_write_97 rfl rfl ?_
  obtain ⟨t1, h⟩ := h
  refine yr_getI dX10_write_98 fl_RX10_49 rfl t1 ?_
  obtain ⟨ht, hf⟩ := h
  refine xr_if_le 114 dX10_write_101 (by decide) (fun c6 => ?_) (fun c6 => ?_)
  · replace h := ht c6
    clear ht hf
    refine xr_aload_n 0 dX10_write_114 rfl rfl ?_
    refine xr_iload_n 2 dX10_write_115 rfl rfl ?_
    obtain ⟨z2, h⟩ := h
    refine yr_putZ dX10_write_116 fp_RX10_114 rfl t1 z2 ?_
    refine xr_iload_n 2 dX10_write_119 rfl rfl ?_
    obtain ⟨ht, hf⟩ := h
    refine xr_if_ne 127 dX10_write_120 (by decide) (fun c3 => ?_) (fun c3 => ?_)
    · replace h := ht c3
      clear ht hf
      refine xr_iconst 0 dX10_write_127 (by decide) ?_
      exact xr_retv (by decide) (xRi rfl rfl dX10_write_128) h
    · replace h := hf c3
      clear ht hf
      refine xr_iconst 1 dX10_write_123 (by decide) ?_
      refine xr_goto 128 dX10_write_124 (by decide) ?_
      exact xr_retv (by decide) (xRi rfl rfl dX10_write_128) h
  · replace h := hf c6
    clear ht hf
    refine xr_aload_n 0 dX10_write_104 rfl rfl ?_
    refine xr_dup dX10_write_105 (va_rf_cat _) ?_
    refine yr_getI dX10_write_106 fl_RX10_49 rfl t1 ?_
    refine xr_iconst 1 dX10_write_109 (by decide) ?_
    refine xr_isub dX10_write_110 ?_
    refine yr_putI dX10_write_111 fp_RX10_49 rfl t1 ?_
    refine xr_aload_n 0 dX10_write_114 rfl rfl ?_
    refine xr_iload_n 2 dX10_write_115 rfl rfl ?_
    obtain ⟨z4, h⟩ := h
    refine yr_putZ dX10_write_116 fp_RX10_114 rfl t1 z4 ?_
    refine xr_iload_n 2 dX10_write_119 rfl rfl ?_
    obtain ⟨ht, hf⟩ := h
    refine xr_if_ne 127 dX10_write_120 (by decide) (fun c5 => ?_) (fun c5 => ?_)
    · replace h := ht c5
      clear ht hf
      refine xr_iconst 0 dX10_write_127 (by decide) ?_
      exact xr_retv (by decide) (xRi rfl rfl dX10_write_128) h
    · replace h := hf c5
      clear ht hf
      refine xr_iconst 1 dX10_write_123 (by decide) ?_
      refine xr_goto 128 dX10_write_124 (by decide) ?_
      exact xr_retv (by decide) (xRi rfl rfl dX10_write_128) h
set_option maxRecDepth 100000 in
set_option maxHeartbeats 4000000 in
theorem bX10_write_48 {l : Launch} {g : xG} (a0 : Nat) (x1 : Int32) (x2 : Int32) (x3 : Int32) (x4 : Int32) {M : xM} {Q : Option Value → xM → Prop} (h : ((x3 ≤ x4 → ((x2 = 0 → xWp l g mX10_write 0 0 97 [(1, va_rf (some a0)), (1, .int x1), (1, .int x2), (1, .int x3), (1, .int x4)] [] (0, 0) M Q) ∧ (¬ x2 = 0 → (xat M a0 7 ∧ (∃ a2, (xR M a0 17) = some a2 ∧ ∃ i4, xai M a2 9 (512 * x1) i4 ∧ xWp l g mX10_write 0 0 97 [(1, va_rf (some a0)), (1, .int x1), (1, .int x2), (1, .int x3), (1, .int x4)] [] (0, 0) (xsI M a2 i4 255) Q))))) ∧ (¬ x3 ≤ x4 → (xat M a0 7 ∧ (∃ a8, (xR M a0 25) = some a8 ∧ ∃ i10, xai M a8 9 x4 i10 ∧ (∃ a12, (xR M a0 17) = some a12 ∧ ∃ i14, xai M a12 9 ((512 * x1) + x4) i14 ∧ xWp l g mX10_write 0 0 48 [(1, va_rf (some a0)), (1, .int x1), (1, .int x2), (1, .int x3), (1, .int (x4 + 1))] [] (0, 0) (xsI M a12 i14 (xI M a8 i10)) Q)))))) : xWp l g mX10_write 0 0 48 [(1, va_rf (some a0)), (1, .int x1), (1, .int x2), (1, .int x3), (1, .int x4)] [] (0, 0) M Q := by
  refine xr_iload dX10_write_48 rfl ?_
  refine xr_iload_n 3 dX10_write_50 rfl rfl ?_
  obtain ⟨ht, hf⟩ := h
  refine xr_icmp_ge 80 dX10_write_51 (by decide) (fun c16 => ?_) (fun c16 => ?_)
  · replace h := ht c16
    clear ht hf
    refine xr_iload_n 2 dX10_write_80 rfl rfl ?_
    obtain ⟨ht, hf⟩ := h
    refine xr_if_eq 97 dX10_write_81 (by decide) (fun c6 => ?_) (fun c6 => ?_)
    · replace h := ht c6
      clear ht hf
      exact h
    · replace h := hf c6
      clear ht hf
      refine xr_aload_n 0 dX10_write_84 rfl rfl ?_
      obtain ⟨t1, h⟩ := h
      refine yr_getR dX10_write_85 fl_RX10_46 rfl t1 ?_
      refine xr_sipush 512 dX10_write_88 (by decide) ?_
      refine xr_iload_n 1 dX10_write_91 rfl rfl ?_
      refine xr_imul dX10_write_92 ?_
      refine xr_sipush 255 dX10_write_93 (by decide) ?_
      obtain ⟨a2, e3, h⟩ := h
      obtain ⟨i4, t5, h⟩ := h
      refine yr_iast dX10_write_96 e3 t5 ?_
      exact h
  · replace h := hf c16
    clear ht hf
    refine xr_aload_n 0 dX10_write_54 rfl rfl ?_
    obtain ⟨t7, h⟩ := h
    refine yr_getR dX10_write_55 fl_RX10_46 rfl t7 ?_
    refine xr_sipush 512 dX10_write_58 (by decide) ?_
    refine xr_iload_n 1 dX10_write_61 rfl rfl ?_
    refine xr_imul dX10_write_62 ?_
    refine xr_iload dX10_write_63 rfl ?_
    refine xr_iadd dX10_write_65 ?_
    refine xr_aload_n 0 dX10_write_66 rfl rfl ?_
    refine yr_getR dX10_write_67 fl_RX10_56 rfl t7 ?_
    refine xr_iload dX10_write_70 rfl ?_
    obtain ⟨a8, e9, h⟩ := h
    obtain ⟨i10, t11, h⟩ := h
    refine yr_iald dX10_write_72 e9 t11 ?_
    obtain ⟨a12, e13, h⟩ := h
    obtain ⟨i14, t15, h⟩ := h
    refine yr_iast dX10_write_73 e13 t15 ?_
    refine ziinc (x4 + 1) dX10_write_74 rfl rfl (L1 := [(1, va_rf (some a0)), (1, .int x1), (1, .int x2), (1, .int x3), (1, .int (x4 + 1))]) (by decide) rfl ?_
    refine xr_goto 48 dX10_write_77 (by decide) ?_
    exact h
set_option maxRecDepth 100000 in
set_option maxHeartbeats 4000000 in
theorem bX10_write_0 {l : Launch} {g : xG} (a0 : Nat) (x1 : Int32) {M : xM} {Q : Option Value → xM → Prop} (h : (xat M a0 7 ∧ (xSp l g mX10_sum 0 0 [va_rf (xR M a0 25), .int 0] M (fun ρ4 M3 => ∃ v2 : Int64, ρ4 = some (.long v2) ∧ (xat M3 a0 7 ∧ xSp l g mX10_number 0 0 [va_rf (some a0), .int 504, .int 8, .long v2] M3 (fun ρ8 M7 => ρ8 = none ∧ (xat M7 a0 7 ∧ ((¬ (xI M7 a0 18) = 0 → (((0 : Int32) = 0 → xWp l g mX10_write 0 0 48 [(1, va_rf (some a0)), (1, .int x1), (1, .int 0), (1, .int 512), (1, .int 0)] [] (0, 0) M7 Q) ∧ (¬ (0 : Int32) = 0 → xWp l g mX10_write 0 0 48 [(1, va_rf (some a0)), (1, .int x1), (1, .int 0), (1, .int (xI M7 a0 19)), (1, .int 0)] [] (0, 0) M7 Q))) ∧ ((xI M7 a0 18) = 0 → (((1 : Int32) = 0 → xWp l g mX10_write 0 0 48 [(1, va_rf (some a0)), (1, .int x1), (1, .int 1), (1, .int 512), (1, .int 0)] [] (0, 0) M7 Q) ∧ (¬ (1 : Int32) = 0 → xWp l g mX10_write 0 0 48 [(1, va_rf (some a0)), (1, .int x1), (1, .int 1), (1, .int (xI M7 a0 19)), (1, .int 0)] [] (0, 0) M7 Q))))))))))) : xWp l g mX10_write 0 0 0 [(1, va_rf (some a0)), (1, .int x1), (0, .null), (0, .null), (0, .null)] [] (0, 0) M Q := by
  refine xr_aload_n 0 dX10_write_0 rfl rfl ?_
  refine xr_sipush 504 dX10_write_1 (by decide) ?_
  refine xr_bipush 8 dX10_write_4 (by decide) ?_
  refine xr_aload_n 0 dX10_write_6 rfl rfl ?_
  obtain ⟨t1, h⟩ := h
  refine yr_getR dX10_write_7 fl_RX10_56 rfl t1 ?_
  refine xr_iconst 0 dX10_write_10 (by decide) ?_
  refine xr_callS [va_rf (xR M a0 25), .int 0] dX10_write_11 cs_X10_write_182 rfl (Nat.le_trans (wt_i (wt_i (wt_r wt_0))) (by decide)) (by decide) (xSp.mono h ?_)
  clear h
  intro ρ4 M3 h
  obtain ⟨v2, rfl, h⟩ := h
  obtain ⟨t10, h⟩ := h
  refine yr_callV (r := (some a0)) [.int 504, .int 8, .long v2] dX10_write_14 cv_X10_write_186 rfl t10 rfl (Nat.le_trans wt_0 (by decide)) (by decide) (xSp.mono h ?_)
  clear h
  intro ρ8 M7 h
  obtain ⟨rfl, h⟩ := h
  refine xr_aload_n 0 dX10_write_17 rfl rfl ?_
  obtain ⟨t11, h⟩ := h
  refine yr_getI dX10_write_18 fl_RX10_49 rfl t11 ?_
  obtain ⟨ht, hf⟩ := h
  refine xr_if_ne 28 dX10_write_21 (by decide) (fun c14 => ?_) (fun c14 => ?_)
  · replace h := ht c14
    clear ht hf
    refine xr_iconst 0 dX10_write_28 (by decide) ?_
    refine zistore_n 2 dX10_write_29 rfl (L1 := [(1, va_rf (some a0)), (1, .int x1), (1, .int 0), (0, .null), (0, .null)]) (by decide) rfl ?_
    refine xr_iload_n 2 dX10_write_30 rfl rfl ?_
    obtain ⟨ht, hf⟩ := h
    refine xr_if_eq 41 dX10_write_31 (by decide) (fun c12 => ?_) (fun c12 => ?_)
    · replace h := ht c12
      clear ht hf
      refine xr_sipush 512 dX10_write_41 (by decide) ?_
      refine zistore_n 3 dX10_write_44 rfl (L1 := [(1, va_rf (some a0)), (1, .int x1), (1, .int 0), (1, .int 512), (0, .null)]) (by decide) rfl ?_
      refine xr_iconst 0 dX10_write_45 (by decide) ?_
      refine zistore dX10_write_46 (L1 := [(1, va_rf (some a0)), (1, .int x1), (1, .int 0), (1, .int 512), (1, .int 0)]) (by decide) rfl ?_
      exact h
    · replace h := hf c12
      clear ht hf
      refine xr_aload_n 0 dX10_write_34 rfl rfl ?_
      refine yr_getI dX10_write_35 fl_RX10_190 rfl t11 ?_
      refine xr_goto 44 dX10_write_38 (by decide) ?_
      refine zistore_n 3 dX10_write_44 rfl (L1 := [(1, va_rf (some a0)), (1, .int x1), (1, .int 0), (1, .int (xI M7 a0 19)), (0, .null)]) (by decide) rfl ?_
      refine xr_iconst 0 dX10_write_45 (by decide) ?_
      refine zistore dX10_write_46 (L1 := [(1, va_rf (some a0)), (1, .int x1), (1, .int 0), (1, .int (xI M7 a0 19)), (1, .int 0)]) (by decide) rfl ?_
      exact h
  · replace h := hf c14
    clear ht hf
    refine xr_iconst 1 dX10_write_24 (by decide) ?_
    refine xr_goto 29 dX10_write_25 (by decide) ?_
    refine zistore_n 2 dX10_write_29 rfl (L1 := [(1, va_rf (some a0)), (1, .int x1), (1, .int 1), (0, .null), (0, .null)]) (by decide) rfl ?_
    refine xr_iload_n 2 dX10_write_30 rfl rfl ?_
    obtain ⟨ht, hf⟩ := h
    refine xr_if_eq 41 dX10_write_31 (by decide) (fun c13 => ?_) (fun c13 => ?_)
    · replace h := ht c13
      clear ht hf
      refine xr_sipush 512 dX10_write_41 (by decide) ?_
      refine zistore_n 3 dX10_write_44 rfl (L1 := [(1, va_rf (some a0)), (1, .int x1), (1, .int 1), (1, .int 512), (0, .null)]) (by decide) rfl ?_
      refine xr_iconst 0 dX10_write_45 (by decide) ?_
      refine zistore dX10_write_46 (L1 := [(1, va_rf (some a0)), (1, .int x1), (1, .int 1), (1, .int 512), (1, .int 0)]) (by decide) rfl ?_
      exact h
    · replace h := hf c13
      clear ht hf
      refine xr_aload_n 0 dX10_write_34 rfl rfl ?_
      refine yr_getI dX10_write_35 fl_RX10_190 rfl t11 ?_
      refine xr_goto 44 dX10_write_38 (by decide) ?_
      refine zistore_n 3 dX10_write_44 rfl (L1 := [(1, va_rf (some a0)), (1, .int x1), (1, .int 1), (1, .int (xI M7 a0 19)), (0, .null)]) (by decide) rfl ?_
      refine xr_iconst 0 dX10_write_45 (by decide) ?_
      refine zistore dX10_write_46 (L1 := [(1, va_rf (some a0)), (1, .int x1), (1, .int 1), (1, .int (xI M7 a0 19)), (1, .int 0)]) (by decide) rfl ?_
      exact h
theorem dX10_beginSheet_0 : decode cX10_beginSheet 0 = .ok (.iconst 0, 1) := by decide +kernel
theorem dX10_beginSheet_1 : decode cX10_beginSheet 1 = .ok (.istore_n 1, 1) := by decide +kernel
theorem dX10_beginSheet_2 : decode cX10_beginSheet 2 = .ok (.iload_n 1, 1) := by decide +kernel
theorem dX10_beginSheet_3 : decode cX10_beginSheet 3 = .ok (.sipush 512, 3) := by decide +kernel
theorem dX10_beginSheet_6 : decode cX10_beginSheet 6 = .ok (.if_icmp .ge 16, 3) := by decide +kernel
theorem dX10_beginSheet_9 : decode cX10_beginSheet 9 = .ok (.aload_n 0, 1) := by decide +kernel
theorem dX10_beginSheet_10 : decode cX10_beginSheet 10 = .ok (.getfield 56, 3) := by decide +kernel
theorem dX10_beginSheet_13 : decode cX10_beginSheet 13 = .ok (.iload_n 1, 1) := by decide +kernel
theorem dX10_beginSheet_14 : decode cX10_beginSheet 14 = .ok (.iconst 0, 1) := by decide +kernel
theorem dX10_beginSheet_15 : decode cX10_beginSheet 15 = .ok (.iastore, 1) := by decide +kernel
theorem dX10_beginSheet_16 : decode cX10_beginSheet 16 = .ok (.iinc 1 1, 3) := by decide +kernel
theorem dX10_beginSheet_19 : decode cX10_beginSheet 19 = .ok (.goto (-17), 3) := by decide +kernel
theorem dX10_beginSheet_22 : decode cX10_beginSheet 22 = .ok (.return_, 1) := by decide +kernel
set_option maxRecDepth 100000 in
set_option maxHeartbeats 4000000 in
theorem bX10_beginSheet_2 {l : Launch} {g : xG} (a0 : Nat) (x1 : Int32) {M : xM} {Q : Option Value → xM → Prop} (h : ((512 ≤ x1 → (Q none M)) ∧ (¬ 512 ≤ x1 → (xat M a0 7 ∧ (∃ a2, (xR M a0 25) = some a2 ∧ ∃ i4, xai M a2 9 x1 i4 ∧ xWp l g mX10_beginSheet 0 0 2 [(1, va_rf (some a0)), (1, .int (x1 + 1))] [] (0, 0) (xsI M a2 i4 0) Q))))) : xWp l g mX10_beginSheet 0 0 2 [(1, va_rf (some a0)), (1, .int x1)] [] (0, 0) M Q := by
  refine xr_iload_n 1 dX10_beginSheet_2 rfl rfl ?_
  refine xr_sipush 512 dX10_beginSheet_3 (by decide) ?_
  obtain ⟨ht, hf⟩ := h
  refine xr_icmp_ge 22 dX10_beginSheet_6 (by decide) (fun c6 => ?_) (fun c6 => ?_)
  · replace h := ht c6
    clear ht hf
    exact xr_ret (by decide) (xRv rfl dX10_beginSheet_22) h
  · replace h := hf c6
    clear ht hf
    refine xr_aload_n 0 dX10_beginSheet_9 rfl rfl ?_
    obtain ⟨t1, h⟩ := h
    refine yr_getR dX10_beginSheet_10 fl_RX10_56 rfl t1 ?_
    refine xr_iload_n 1 dX10_beginSheet_13 rfl rfl ?_
    refine xr_iconst 0 dX10_beginSheet_14 (by decide) ?_
    obtain ⟨a2, e3, h⟩ := h
    obtain ⟨i4, t5, h⟩ := h
    refine yr_iast dX10_beginSheet_15 e3 t5 ?_
    refine ziinc (x1 + 1) dX10_beginSheet_16 rfl rfl (L1 := [(1, va_rf (some a0)), (1, .int (x1 + 1))]) (by decide) rfl ?_
    refine xr_goto 2 dX10_beginSheet_19 (by decide) ?_
    exact h
set_option maxRecDepth 100000 in
set_option maxHeartbeats 4000000 in
theorem bX10_beginSheet_0 {l : Launch} {g : xG} (a0 : Nat) {M : xM} {Q : Option Value → xM → Prop} (h : xWp l g mX10_beginSheet 0 0 2 [(1, va_rf (some a0)), (1, .int 0)] [] (0, 0) M Q) : xWp l g mX10_beginSheet 0 0 0 [(1, va_rf (some a0)), (0, .null)] [] (0, 0) M Q := by
  refine xr_iconst 0 dX10_beginSheet_0 (by decide) ?_
  refine zistore_n 1 dX10_beginSheet_1 rfl (L1 := [(1, va_rf (some a0)), (1, .int 0)]) (by decide) rfl ?_
  exact h
