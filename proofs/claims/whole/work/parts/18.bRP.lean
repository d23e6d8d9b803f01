/-! Decode rows and blocks: 18.bRP -/
theorem dX9_init_0 : decode cX9_init 0 = .ok (.aload_n 0, 1) := by decide +kernel
theorem dX9_init_1 : decode cX9_init 1 = .ok (.invokespecial 3, 3) := by decide +kernel
theorem dX9_init_4 : decode cX9_init 4 = .ok (.aload_n 0, 1) := by decide +kernel
theorem dX9_init_5 : decode cX9_init 5 = .ok (.new 9, 3) := by decide +kernel
theorem dX9_init_8 : decode cX9_init 8 = .ok (.dup, 1) := by decide +kernel
theorem dX9_init_9 : decode cX9_init 9 = .ok (.invokespecial 11, 3) := by decide +kernel
theorem dX9_init_12 : decode cX9_init 12 = .ok (.putfield 12, 3) := by decide +kernel
theorem dX9_init_15 : decode cX9_init 15 = .ok (.aload_n 0, 1) := by decide +kernel
theorem dX9_init_16 : decode cX9_init 16 = .ok (.new 18, 3) := by decide +kernel
theorem dX9_init_19 : decode cX9_init 19 = .ok (.dup, 1) := by decide +kernel
theorem dX9_init_20 : decode cX9_init 20 = .ok (.invokespecial 20, 3) := by decide +kernel
theorem dX9_init_23 : decode cX9_init 23 = .ok (.putfield 21, 3) := by decide +kernel
theorem dX9_init_26 : decode cX9_init 26 = .ok (.aload_n 0, 1) := by decide +kernel
theorem dX9_init_27 : decode cX9_init 27 = .ok (.new 18, 3) := by decide +kernel
theorem dX9_init_30 : decode cX9_init 30 = .ok (.dup, 1) := by decide +kernel
theorem dX9_init_31 : decode cX9_init 31 = .ok (.invokespecial 20, 3) := by decide +kernel
theorem dX9_init_34 : decode cX9_init 34 = .ok (.putfield 25, 3) := by decide +kernel
theorem dX9_init_37 : decode cX9_init 37 = .ok (.aload_n 0, 1) := by decide +kernel
theorem dX9_init_38 : decode cX9_init 38 = .ok (.new 28, 3) := by decide +kernel
theorem dX9_init_41 : decode cX9_init 41 = .ok (.dup, 1) := by decide +kernel
theorem dX9_init_42 : decode cX9_init 42 = .ok (.invokespecial 30, 3) := by decide +kernel
theorem dX9_init_45 : decode cX9_init 45 = .ok (.putfield 31, 3) := by decide +kernel
theorem dX9_init_48 : decode cX9_init 48 = .ok (.aload_n 0, 1) := by decide +kernel
theorem dX9_init_49 : decode cX9_init 49 = .ok (.iconst 0, 1) := by decide +kernel
theorem dX9_init_50 : decode cX9_init 50 = .ok (.putfield 35, 3) := by decide +kernel
theorem dX9_init_53 : decode cX9_init 53 = .ok (.aload_n 0, 1) := by decide +kernel
theorem dX9_init_54 : decode cX9_init 54 = .ok (.iconst 0, 1) := by decide +kernel
theorem dX9_init_55 : decode cX9_init 55 = .ok (.putfield 39, 3) := by decide +kernel
theorem dX9_init_58 : decode cX9_init 58 = .ok (.return_, 1) := by decide +kernel
set_option maxRecDepth 100000 in
set_option maxHeartbeats 4000000 in
theorem bX9_init_0 {l : Launch} {g : xG} {mc ms : Nat} (a0 : Nat) {M : xM} {Q : Option Value → xM → Prop} (h : ((0 + 1 ≤ mc ∧ 0 + 2 ≤ ms) ∧ ∀ q1, q1 ∉ xL M → (∃ mc8 ms9, ((0 + 1) + mc8 ≤ mc ∧ (0 + 2) + ms9 ≤ ms) ∧ xSp l g mX7_init mc8 ms9 [va_rf (some q1)] (xnew M q1 4 0) (fun ρ6 M5 => ρ6 = none ∧ (xat M5 a0 6 ∧ ((((0 + 1) + mc8) + 1 ≤ mc ∧ ((0 + 2) + ms9) + 8 ≤ ms) ∧ ∀ q11, q11 ∉ xL (xsR M5 a0 0 (some q1)) → (∃ mc18 ms19, ((((0 + 1) + mc8) + 1) + mc18 ≤ mc ∧ (((0 + 2) + ms9) + 8) + ms19 ≤ ms) ∧ xSp l g mX8_init mc18 ms19 [va_rf (some q11)] (xnew (xsR M5 a0 0 (some q1)) q11 5 0) (fun ρ16 M15 => ρ16 = none ∧ (xat M15 a0 6 ∧ ((((((0 + 1) + mc8) + 1) + mc18) + 1 ≤ mc ∧ ((((0 + 2) + ms9) + 8) + ms19) + 8 ≤ ms) ∧ ∀ q21, q21 ∉ xL (xsR M15 a0 1 (some q11)) → (∃ mc28 ms29, ((((((0 + 1) + mc8) + 1) + mc18) + 1) + mc28 ≤ mc ∧ (((((0 + 2) + ms9) + 8) + ms19) + 8) + ms29 ≤ ms) ∧ xSp l g mX8_init mc28 ms29 [va_rf (some q21)] (xnew (xsR M15 a0 1 (some q11)) q21 5 0) (fun ρ26 M25 => ρ26 = none ∧ (xat M25 a0 6 ∧ ((((((((0 + 1) + mc8) + 1) + mc18) + 1) + mc28) + 1 ≤ mc ∧ ((((((0 + 2) + ms9) + 8) + ms19) + 8) + ms29) + 4 ≤ ms) ∧ ∀ q31, q31 ∉ xL (xsR M25 a0 2 (some q21)) → (∃ mc38 ms39, ((((((((0 + 1) + mc8) + 1) + mc18) + 1) + mc28) + 1) + mc38 ≤ mc ∧ (((((((0 + 2) + ms9) + 8) + ms19) + 8) + ms29) + 4) + ms39 ≤ ms) ∧ xSp l g mX6_init mc38 ms39 [va_rf (some q31)] (xnew (xsR M25 a0 2 (some q21)) q31 3 0) (fun ρ36 M35 => ρ36 = none ∧ (xat M35 a0 6 ∧ ((((((((((0 + 1) + mc8) + 1) + mc18) + 1) + mc28) + 1) + mc38) ≤ mc ∧ ((((((((0 + 2) + ms9) + 8) + ms19) + 8) + ms29) + 4) + ms39) ≤ ms) ∧ Q none (xsI (xsI (xsR M35 a0 3 (some q31)) a0 4 0) a0 5 0))))))))))))))))))) : xWp l g mX9_init mc ms 0 [(1, va_rf (some a0))] [] (0, 0) M Q := by
  refine xr_aload_n 0 dX9_init_0 rfl rfl ?_
  refine xr_obj dX9_init_1 ml_RX9_3 obj_inst obj_code (by decide) (by decide) ?_
  refine xr_aload_n 0 dX9_init_4 rfl rfl ?_
  obtain ⟨hm3, h⟩ := h
  refine xr_new dX9_init_5 cn_RX9_9 hm3 (fun q1 hq2 => ?_)
  replace h := h q1 hq2
  refine xr_dup dX9_init_8 (va_rf_cat _) ?_
  obtain ⟨mc8, ms9, hm45, h⟩ := h
  refine xr_callIN (a := q1) [] dX9_init_9 ci_X9_init_11 rfl (Nat.le_trans (wt_r (wt_r wt_0)) (by decide)) hm45 (xSp.mono h ?_)
  clear h
  intro ρ6 M5 h
  obtain ⟨rfl, h⟩ := h
  obtain ⟨t10, h⟩ := h
  refine yr_putRF dX9_init_12 rfl fp_RX9_12 (Or.inl ⟨_, rfl⟩) rfl t10 ?_
  refine xr_aload_n 0 dX9_init_15 rfl rfl ?_
  obtain ⟨hm13, h⟩ := h
  refine xr_new dX9_init_16 cn_RX9_18 hm13 (fun q11 hq12 => ?_)
  replace h := h q11 hq12
  refine xr_dup dX9_init_19 (va_rf_cat _) ?_
  obtain ⟨mc18, ms19, hm44, h⟩ := h
  refine xr_callI (a := q11) [] dX9_init_20 ci_X9_init_20 rfl (Nat.le_trans (wt_r (wt_r wt_0)) (by decide)) hm44 (xSp.mono h ?_)
  clear h
  intro ρ16 M15 h
  obtain ⟨rfl, h⟩ := h
  obtain ⟨t20, h⟩ := h
  refine yr_putRF dX9_init_23 rfl fp_RX9_21 (Or.inl ⟨_, rfl⟩) rfl t20 ?_
  refine xr_aload_n 0 dX9_init_26 rfl rfl ?_
  obtain ⟨hm23, h⟩ := h
  refine xr_new dX9_init_27 cn_RX9_18 hm23 (fun q21 hq22 => ?_)
  replace h := h q21 hq22
  refine xr_dup dX9_init_30 (va_rf_cat _) ?_
  obtain ⟨mc28, ms29, hm43, h⟩ := h
  refine xr_callI (a := q21) [] dX9_init_31 ci_X9_init_20 rfl (Nat.le_trans (wt_r (wt_r wt_0)) (by decide)) hm43 (xSp.mono h ?_)
  clear h
  intro ρ26 M25 h
  obtain ⟨rfl, h⟩ := h
  obtain ⟨t30, h⟩ := h
  refine yr_putRF dX9_init_34 rfl fp_RX9_25 (Or.inl ⟨_, rfl⟩) rfl t30 ?_
  refine xr_aload_n 0 dX9_init_37 rfl rfl ?_
  obtain ⟨hm33, h⟩ := h
  refine xr_new dX9_init_38 cn_RX9_28 hm33 (fun q31 hq32 => ?_)
  replace h := h q31 hq32
  refine xr_dup dX9_init_41 (va_rf_cat _) ?_
  obtain ⟨mc38, ms39, hm42, h⟩ := h
  refine xr_callIN (a := q31) [] dX9_init_42 ci_X9_init_30 rfl (Nat.le_trans (wt_r (wt_r wt_0)) (by decide)) hm42 (xSp.mono h ?_)
  clear h
  intro ρ36 M35 h
  obtain ⟨rfl, h⟩ := h
  obtain ⟨t40, h⟩ := h
  refine yr_putRF dX9_init_45 rfl fp_RX9_31 (Or.inl ⟨_, rfl⟩) rfl t40 ?_
  refine xr_aload_n 0 dX9_init_48 rfl rfl ?_
  refine xr_iconst 0 dX9_init_49 (by decide) ?_
  refine yr_putI dX9_init_50 fp_RX9_35 rfl t40 ?_
  refine xr_aload_n 0 dX9_init_53 rfl rfl ?_
  refine xr_iconst 0 dX9_init_54 (by decide) ?_
  refine yr_putZ dX9_init_55 fp_RX9_39 rfl t40 (by decide) ?_
  obtain ⟨hm41, h⟩ := h
  exact xr_ret hm41 (xRv rfl dX9_init_58) h
theorem dX9_type_0 : decode cX9_type 0 = .ok (.iload_n 3, 1) := by decide +kernel
theorem dX9_type_1 : decode cX9_type 1 = .ok (.iconst 1, 1) := by decide +kernel
theorem dX9_type_2 : decode cX9_type 2 = .ok (.if_icmp .lt 9, 3) := by decide +kernel
theorem dX9_type_5 : decode cX9_type 5 = .ok (.iload_n 3, 1) := by decide +kernel
theorem dX9_type_6 : decode cX9_type 6 = .ok (.bipush 8, 2) := by decide +kernel
theorem dX9_type_8 : decode cX9_type 8 = .ok (.if_icmp .le 13, 3) := by decide +kernel
theorem dX9_type_11 : decode cX9_type 11 = .ok (.new 43, 3) := by decide +kernel
theorem dX9_type_14 : decode cX9_type 14 = .ok (.dup, 1) := by decide +kernel
theorem dX9_type_15 : decode cX9_type 15 = .ok (.ldc 45, 2) := by decide +kernel
theorem dX9_type_17 : decode cX9_type 17 = .ok (.invokespecial 47, 3) := by decide +kernel
theorem dX9_type_20 : decode cX9_type 20 = .ok (.athrow, 1) := by decide +kernel
theorem dX9_type_21 : decode cX9_type 21 = .ok (.aload_n 0, 1) := by decide +kernel
theorem dX9_type_22 : decode cX9_type 22 = .ok (.getfield 12, 3) := by decide +kernel
theorem dX9_type_25 : decode cX9_type 25 = .ok (.getfield 50, 3) := by decide +kernel
theorem dX9_type_28 : decode cX9_type 28 = .ok (.iload_n 3, 1) := by decide +kernel
theorem dX9_type_29 : decode cX9_type 29 = .ok (.iadd, 1) := by decide +kernel
theorem dX9_type_30 : decode cX9_type 30 = .ok (.bipush 64, 2) := by decide +kernel
theorem dX9_type_32 : decode cX9_type 32 = .ok (.if_icmp .le 13, 3) := by decide +kernel
theorem dX9_type_35 : decode cX9_type 35 = .ok (.new 53, 3) := by decide +kernel
theorem dX9_type_38 : decode cX9_type 38 = .ok (.dup, 1) := by decide +kernel
theorem dX9_type_39 : decode cX9_type 39 = .ok (.ldc 55, 2) := by decide +kernel
theorem dX9_type_41 : decode cX9_type 41 = .ok (.invokespecial 57, 3) := by decide +kernel
theorem dX9_type_44 : decode cX9_type 44 = .ok (.athrow, 1) := by decide +kernel
theorem dX9_type_45 : decode cX9_type 45 = .ok (.bipush 8, 2) := by decide +kernel
theorem dX9_type_47 : decode cX9_type 47 = .ok (.iload_n 3, 1) := by decide +kernel
theorem dX9_type_48 : decode cX9_type 48 = .ok (.iconst 1, 1) := by decide +kernel
theorem dX9_type_49 : decode cX9_type 49 = .ok (.isub, 1) := by decide +kernel
theorem dX9_type_50 : decode cX9_type 50 = .ok (.imul, 1) := by decide +kernel
theorem dX9_type_51 : decode cX9_type 51 = .ok (.istore 4, 2) := by decide +kernel
theorem dX9_type_53 : decode cX9_type 53 = .ok (.iload 4, 2) := by decide +kernel
theorem dX9_type_55 : decode cX9_type 55 = .ok (.ifCond .lt 25, 3) := by decide +kernel
theorem dX9_type_58 : decode cX9_type 58 = .ok (.aload_n 0, 1) := by decide +kernel
theorem dX9_type_59 : decode cX9_type 59 = .ok (.getfield 12, 3) := by decide +kernel
theorem dX9_type_62 : decode cX9_type 62 = .ok (.lload_n 1, 1) := by decide +kernel
theorem dX9_type_63 : decode cX9_type 63 = .ok (.iload 4, 2) := by decide +kernel
theorem dX9_type_65 : decode cX9_type 65 = .ok (.lushr, 1) := by decide +kernel
theorem dX9_type_66 : decode cX9_type 66 = .ok (.l2i, 1) := by decide +kernel
theorem dX9_type_67 : decode cX9_type 67 = .ok (.sipush 255, 3) := by decide +kernel
theorem dX9_type_70 : decode cX9_type 70 = .ok (.iand, 1) := by decide +kernel
theorem dX9_type_71 : decode cX9_type 71 = .ok (.invokevirtual 58, 3) := by decide +kernel
theorem dX9_type_74 : decode cX9_type 74 = .ok (.iinc 4 (-8), 3) := by decide +kernel
theorem dX9_type_77 : decode cX9_type 77 = .ok (.goto (-24), 3) := by decide +kernel
theorem dX9_type_80 : decode cX9_type 80 = .ok (.aload_n 0, 1) := by decide +kernel
theorem dX9_type_81 : decode cX9_type 81 = .ok (.getfield 12, 3) := by decide +kernel
theorem dX9_type_84 : decode cX9_type 84 = .ok (.getfield 50, 3) := by decide +kernel
theorem dX9_type_87 : decode cX9_type 87 = .ok (.ireturn, 1) := by decide +kernel
set_option maxRecDepth 100000 in
set_option maxHeartbeats 4000000 in
theorem bX9_type_53 {l : Launch} {g : xG} (a0 : Nat) (j1 : Int64) (w2 : Value) (x3 : Int32) (x4 : Int32) {M : xM} {Q : Option Value → xM → Prop} (h : ((x4 < 0 → (xat M a0 6 ∧ (∃ a2, (xR M a0 0) = some a2 ∧ xat M a2 4 ∧ (Q (some (.int (xI M a2 1))) M)))) ∧ (¬ x4 < 0 → (xat M a0 6 ∧ (∃ a10, (xR M a0 0) = some a10 ∧ xat M a10 4 ∧ xSp l g mX7_append 0 0 [va_rf (xR M a0 0), .int ((j1.toUInt64 >>> (x4.toInt64.toUInt64 &&& Int64.toUInt64 63)).toInt64.toInt32 &&& 255)] M (fun ρ8 M7 => ρ8 = none ∧ xWp l g mX9_type 0 0 53 [(1, va_rf (some a0)), (2, .long j1), (0, w2), (1, .int x3), (1, .int (x4 + (-8)))] [] (0, 0) M7 Q)))))) : xWp l g mX9_type 0 0 53 [(1, va_rf (some a0)), (2, .long j1), (0, w2), (1, .int x3), (1, .int x4)] [] (0, 0) M Q := by
  refine xr_iload dX9_type_53 rfl ?_
  obtain ⟨ht, hf⟩ := h
  refine xr_if_lt 80 dX9_type_55 (by decide) (fun c13 => ?_) (fun c13 => ?_)
  · replace h := ht c13
    clear ht hf
    refine xr_aload_n 0 dX9_type_80 rfl rfl ?_
    obtain ⟨t1, h⟩ := h
    refine yr_getR dX9_type_81 fl_RX9_12 rfl t1 ?_
    obtain ⟨a2, e3, h⟩ := h
    obtain ⟨t4, h⟩ := h
    refine yr_getI dX9_type_84 fl_RX9_50 e3 t4 ?_
    exact xr_retv (by decide) (xRi rfl rfl dX9_type_87) h
  · replace h := hf c13
    clear ht hf
    refine xr_aload_n 0 dX9_type_58 rfl rfl ?_
    obtain ⟨t5, h⟩ := h
    refine yr_getR dX9_type_59 fl_RX9_12 rfl t5 ?_
    refine xr_lload_n 1 dX9_type_62 rfl rfl ?_
    refine xr_iload dX9_type_63 rfl ?_
    refine xr_lushr dX9_type_65 ?_
    refine xr_l2i dX9_type_66 ?_
    refine xr_sipush 255 dX9_type_67 (by decide) ?_
    refine xr_iand dX9_type_70 ?_
    obtain ⟨a10, e11, h⟩ := h
    obtain ⟨t12, h⟩ := h
    refine yr_callV (r := (xR M a0 0)) [.int ((j1.toUInt64 >>> (x4.toInt64.toUInt64 &&& Int64.toUInt64 63)).toInt64.toInt32 &&& 255)] dX9_type_71 cv_X9_type_58 e11 t12 rfl (Nat.le_trans wt_0 (by decide)) (by decide) (xSp.mono h ?_)
    clear h
    intro ρ8 M7 h
    obtain ⟨rfl, h⟩ := h
    refine ziinc (x4 + (-8)) dX9_type_74 rfl rfl (L1 := [(1, va_rf (some a0)), (2, .long j1), (0, w2), (1, .int x3), (1, .int (x4 + (-8)))]) (by decide) rfl ?_
    refine xr_goto 53 dX9_type_77 (by decide) ?_
    exact h
set_option maxRecDepth 100000 in
set_option maxHeartbeats 4000000 in
theorem bX9_type_0 {l : Launch} {g : xG} (a0 : Nat) (j1 : Int64) (x3 : Int32) {M : xM} {Q : Option Value → xM → Prop} (h : ((x3 < 1 → False) ∧ (¬ x3 < 1 → ((x3 ≤ 8 → (xat M a0 6 ∧ (∃ a2, (xR M a0 0) = some a2 ∧ xat M a2 4 ∧ ((((xI M a2 1) + x3) ≤ 64 → xWp l g mX9_type 0 0 53 [(1, va_rf (some a0)), (2, .long j1), (0, .null), (1, .int x3), (1, .int (8 * (x3 - 1)))] [] (0, 0) M Q) ∧ (¬ ((xI M a2 1) + x3) ≤ 64 → False))))) ∧ (¬ x3 ≤ 8 → False))))) : xWp l g mX9_type 0 0 0 [(1, va_rf (some a0)), (2, .long j1), (0, .null), (1, .int x3), (0, .null)] [] (0, 0) M Q := by
  refine xr_iload_n 3 dX9_type_0 rfl rfl ?_
  refine xr_iconst 1 dX9_type_1 (by decide) ?_
  obtain ⟨ht, hf⟩ := h
  refine xr_icmp_lt 11 dX9_type_2 (by decide) (fun c7 => ?_) (fun c7 => ?_)
  · replace h := ht c7
    clear ht hf
    exact h.elim
  · replace h := hf c7
    clear ht hf
    refine xr_iload_n 3 dX9_type_5 rfl rfl ?_
    refine xr_bipush 8 dX9_type_6 (by decide) ?_
    obtain ⟨ht, hf⟩ := h
    refine xr_icmp_le 21 dX9_type_8 (by decide) (fun c6 => ?_) (fun c6 => ?_)
    · replace h := ht c6
      clear ht hf
      refine xr_aload_n 0 dX9_type_21 rfl rfl ?_
      obtain ⟨t1, h⟩ := h
      refine yr_getR dX9_type_22 fl_RX9_12 rfl t1 ?_
      obtain ⟨a2, e3, h⟩ := h
      obtain ⟨t4, h⟩ := h
      refine yr_getI dX9_type_25 fl_RX9_50 e3 t4 ?_
      refine xr_iload_n 3 dX9_type_28 rfl rfl ?_
      refine xr_iadd dX9_type_29 ?_
      refine xr_bipush 64 dX9_type_30 (by decide) ?_
      obtain ⟨ht, hf⟩ := h
      refine xr_icmp_le 45 dX9_type_32 (by decide) (fun c5 => ?_) (fun c5 => ?_)
      · replace h := ht c5
        clear ht hf
        refine xr_bipush 8 dX9_type_45 (by decide) ?_
        refine xr_iload_n 3 dX9_type_47 rfl rfl ?_
        refine xr_iconst 1 dX9_type_48 (by decide) ?_
        refine xr_isub dX9_type_49 ?_
        refine xr_imul dX9_type_50 ?_
        refine zistore dX9_type_51 (L1 := [(1, va_rf (some a0)), (2, .long j1), (0, .null), (1, .int x3), (1, .int (8 * (x3 - 1)))]) (by decide) rfl ?_
        exact h
      · replace h := hf c5
        clear ht hf
        exact h.elim
    · replace h := hf c6
      clear ht hf
      exact h.elim
theorem dX9_cut_0 : decode cX9_cut 0 = .ok (.iload_n 1, 1) := by decide +kernel
theorem dX9_cut_1 : decode cX9_cut 1 = .ok (.ifCond .lt 14, 3) := by decide +kernel
theorem dX9_cut_4 : decode cX9_cut 4 = .ok (.iload_n 1, 1) := by decide +kernel
theorem dX9_cut_5 : decode cX9_cut 5 = .ok (.aload_n 0, 1) := by decide +kernel
theorem dX9_cut_6 : decode cX9_cut 6 = .ok (.getfield 12, 3) := by decide +kernel
theorem dX9_cut_9 : decode cX9_cut 9 = .ok (.getfield 50, 3) := by decide +kernel
theorem dX9_cut_12 : decode cX9_cut 12 = .ok (.if_icmp .le 13, 3) := by decide +kernel
theorem dX9_cut_15 : decode cX9_cut 15 = .ok (.new 43, 3) := by decide +kernel
theorem dX9_cut_18 : decode cX9_cut 18 = .ok (.dup, 1) := by decide +kernel
theorem dX9_cut_19 : decode cX9_cut 19 = .ok (.ldc 62, 2) := by decide +kernel
theorem dX9_cut_21 : decode cX9_cut 21 = .ok (.invokespecial 47, 3) := by decide +kernel
theorem dX9_cut_24 : decode cX9_cut 24 = .ok (.athrow, 1) := by decide +kernel
theorem dX9_cut_25 : decode cX9_cut 25 = .ok (.aload_n 0, 1) := by decide +kernel
theorem dX9_cut_26 : decode cX9_cut 26 = .ok (.getfield 12, 3) := by decide +kernel
theorem dX9_cut_29 : decode cX9_cut 29 = .ok (.getfield 50, 3) := by decide +kernel
theorem dX9_cut_32 : decode cX9_cut 32 = .ok (.istore_n 2, 1) := by decide +kernel
theorem dX9_cut_33 : decode cX9_cut 33 = .ok (.aload_n 0, 1) := by decide +kernel
theorem dX9_cut_34 : decode cX9_cut 34 = .ok (.getfield 12, 3) := by decide +kernel
theorem dX9_cut_37 : decode cX9_cut 37 = .ok (.iload_n 1, 1) := by decide +kernel
theorem dX9_cut_38 : decode cX9_cut 38 = .ok (.putfield 50, 3) := by decide +kernel
theorem dX9_cut_41 : decode cX9_cut 41 = .ok (.iload_n 2, 1) := by decide +kernel
theorem dX9_cut_42 : decode cX9_cut 42 = .ok (.ireturn, 1) := by decide +kernel
set_option maxRecDepth 100000 in
set_option maxHeartbeats 4000000 in
theorem bX9_cut_0 {l : Launch} {g : xG} (a0 : Nat) (x1 : Int32) {M : xM} {Q : Option Value → xM → Prop} (h : ((x1 < 0 → False) ∧ (¬ x1 < 0 → (xat M a0 6 ∧ (∃ a2, (xR M a0 0) = some a2 ∧ xat M a2 4 ∧ ((x1 ≤ (xI M a2 1) → (Q (some (.int (xI M a2 1))) (xsI M a2 1 x1))) ∧ (¬ x1 ≤ (xI M a2 1) → False))))))) : xWp l g mX9_cut 0 0 0 [(1, va_rf (some a0)), (1, .int x1), (0, .null)] [] (0, 0) M Q := by
  refine xr_iload_n 1 dX9_cut_0 rfl rfl ?_
  obtain ⟨ht, hf⟩ := h
  refine xr_if_lt 15 dX9_cut_1 (by decide) (fun c6 => ?_) (fun c6 => ?_)
  · replace h := ht c6
    clear ht hf
    exact h.elim
  · replace h := hf c6
    clear ht hf
    refine xr_iload_n 1 dX9_cut_4 rfl rfl ?_
    refine xr_aload_n 0 dX9_cut_5 rfl rfl ?_
    obtain ⟨t1, h⟩ := h
    refine yr_getR dX9_cut_6 fl_RX9_12 rfl t1 ?_
    obtain ⟨a2, e3, h⟩ := h
    obtain ⟨t4, h⟩ := h
    refine yr_getI dX9_cut_9 fl_RX9_50 e3 t4 ?_
    obtain ⟨ht, hf⟩ := h
    refine xr_icmp_le 25 dX9_cut_12 (by decide) (fun c5 => ?_) (fun c5 => ?_)
    · replace h := ht c5
      clear ht hf
      refine xr_aload_n 0 dX9_cut_25 rfl rfl ?_
      refine yr_getR dX9_cut_26 fl_RX9_12 rfl t1 ?_
      refine yr_getI dX9_cut_29 fl_RX9_50 e3 t4 ?_
      refine zistore_n 2 dX9_cut_32 rfl (L1 := [(1, va_rf (some a0)), (1, .int x1), (1, .int (xI M a2 1))]) (by decide) rfl ?_
      refine xr_aload_n 0 dX9_cut_33 rfl rfl ?_
      refine yr_getR dX9_cut_34 fl_RX9_12 rfl t1 ?_
      refine xr_iload_n 1 dX9_cut_37 rfl rfl ?_
      refine yr_putI dX9_cut_38 fp_RX9_50 e3 t4 ?_
      refine xr_iload_n 2 dX9_cut_41 rfl rfl ?_
      exact xr_retv (by decide) (xRi rfl rfl dX9_cut_42) h
    · replace h := hf c5
      clear ht hf
      exact h.elim
theorem dX9_tapeAt_0 : decode cX9_tapeAt 0 = .ok (.aload_n 0, 1) := by decide +kernel
theorem dX9_tapeAt_1 : decode cX9_tapeAt 1 = .ok (.getfield 12, 3) := by decide +kernel
theorem dX9_tapeAt_4 : decode cX9_tapeAt 4 = .ok (.iload_n 1, 1) := by decide +kernel
theorem dX9_tapeAt_5 : decode cX9_tapeAt 5 = .ok (.invokevirtual 64, 3) := by decide +kernel
theorem dX9_tapeAt_8 : decode cX9_tapeAt 8 = .ok (.ireturn, 1) := by decide +kernel
set_option maxRecDepth 100000 in
set_option maxHeartbeats 4000000 in
theorem bX9_tapeAt_0 {l : Launch} {g : xG} (a0 : Nat) (x1 : Int32) {M : xM} {Q : Option Value → xM → Prop} (h : (xat M a0 6 ∧ (∃ a6, (xR M a0 0) = some a6 ∧ xat M a6 4 ∧ xSp l g mX7_byteAt 0 0 [va_rf (xR M a0 0), .int x1] M (fun ρ4 M3 => ∃ v2 : Int32, ρ4 = some (.int v2) ∧ (Q (some (.int v2)) M3))))) : xWp l g mX9_tapeAt 0 0 0 [(1, va_rf (some a0)), (1, .int x1)] [] (0, 0) M Q := by
  refine xr_aload_n 0 dX9_tapeAt_0 rfl rfl ?_
  obtain ⟨t1, h⟩ := h
  refine yr_getR dX9_tapeAt_1 fl_RX9_12 rfl t1 ?_
  refine xr_iload_n 1 dX9_tapeAt_4 rfl rfl ?_
  obtain ⟨a6, e7, h⟩ := h
  obtain ⟨t8, h⟩ := h
  refine yr_callV (r := (xR M a0 0)) [.int x1] dX9_tapeAt_5 cv_X9_tapeAt_64 e7 t8 rfl (Nat.le_trans wt_0 (by decide)) (by decide) (xSp.mono h ?_)
  clear h
  intro ρ4 M3 h
  obtain ⟨v2, rfl, h⟩ := h
  exact xr_retv (by decide) (xRi rfl rfl dX9_tapeAt_8) h
theorem dX9_put_0 : decode cX9_put 0 = .ok (.aload_n 0, 1) := by decide +kernel
theorem dX9_put_1 : decode cX9_put 1 = .ok (.getfield 39, 3) := by decide +kernel
theorem dX9_put_4 : decode cX9_put 4 = .ok (.ifCond .eq 6, 3) := by decide +kernel
theorem dX9_put_7 : decode cX9_put 7 = .ok (.bipush (-4), 2) := by decide +kernel
theorem dX9_put_9 : decode cX9_put 9 = .ok (.ireturn, 1) := by decide +kernel
theorem dX9_put_10 : decode cX9_put 10 = .ok (.aload_n 0, 1) := by decide +kernel
theorem dX9_put_11 : decode cX9_put 11 = .ok (.getfield 12, 3) := by decide +kernel
theorem dX9_put_14 : decode cX9_put 14 = .ok (.invokevirtual 68, 3) := by decide +kernel
theorem dX9_put_17 : decode cX9_put 17 = .ok (.ifCond .eq 11, 3) := by decide +kernel
theorem dX9_put_20 : decode cX9_put 20 = .ok (.lload_n 1, 1) := by decide +kernel
theorem dX9_put_21 : decode cX9_put 21 = .ok (.ldc2_w 72, 3) := by decide +kernel
theorem dX9_put_24 : decode cX9_put 24 = .ok (.lcmp, 1) := by decide +kernel
theorem dX9_put_25 : decode cX9_put 25 = .ok (.ifCond .ne 5, 3) := by decide +kernel
theorem dX9_put_28 : decode cX9_put 28 = .ok (.iconst (-1), 1) := by decide +kernel
theorem dX9_put_29 : decode cX9_put 29 = .ok (.ireturn, 1) := by decide +kernel
theorem dX9_put_30 : decode cX9_put 30 = .ok (.aload_n 0, 1) := by decide +kernel
theorem dX9_put_31 : decode cX9_put 31 = .ok (.getfield 21, 3) := by decide +kernel
theorem dX9_put_34 : decode cX9_put 34 = .ok (.aload_n 0, 1) := by decide +kernel
theorem dX9_put_35 : decode cX9_put 35 = .ok (.getfield 12, 3) := by decide +kernel
theorem dX9_put_38 : decode cX9_put 38 = .ok (.lload_n 1, 1) := by decide +kernel
theorem dX9_put_39 : decode cX9_put 39 = .ok (.invokevirtual 74, 3) := by decide +kernel
theorem dX9_put_42 : decode cX9_put 42 = .ok (.ireturn, 1) := by decide +kernel
set_option maxRecDepth 100000 in
set_option maxHeartbeats 4000000 in
theorem bX9_put_0 {l : Launch} {g : xG} (a0 : Nat) (j1 : Int64) {M : xM} {Q : Option Value → xM → Prop} (h : (xat M a0 6 ∧ (((xI M a0 5) = 0 → (∃ a6, (xR M a0 0) = some a6 ∧ xat M a6 4 ∧ xSp l g mX7_isKey 0 0 [va_rf (xR M a0 0)] M (fun ρ4 M3 => ∃ v2 : Int32, ρ4 = some (.int v2) ∧ ((v2 = 0 → (Q (some (.int (-1))) M3)) ∧ (¬ v2 = 0 → ((¬ (lg_cmp j1 (-9223372036854775808)) = 0 → (xat M3 a0 6 ∧ (∃ a14, (xR M3 a0 1) = some a14 ∧ xat M3 a14 5 ∧ xSp l g mX8_store 0 0 [va_rf (xR M3 a0 1), va_rf (xR M3 a0 0), .long j1] M3 (fun ρ12 M11 => ∃ v10 : Int32, ρ12 = some (.int v10) ∧ (Q (some (.int v10)) M11))))) ∧ ((lg_cmp j1 (-9223372036854775808)) = 0 → (Q (some (.int (-1))) M3)))))))) ∧ (¬ (xI M a0 5) = 0 → (Q (some (.int (-4))) M))))) : xWp l g mX9_put 0 0 0 [(1, va_rf (some a0)), (2, .long j1), (0, .null)] [] (0, 0) M Q := by
  refine xr_aload_n 0 dX9_put_0 rfl rfl ?_
  obtain ⟨t1, h⟩ := h
  refine yr_getZ dX9_put_1 fl_RX9_39 rfl t1 ?_
  obtain ⟨ht, hf⟩ := h
  refine xr_if_eq 10 dX9_put_4 (by decide) (fun c19 => ?_) (fun c19 => ?_)
  · replace h := ht c19
    clear ht hf
    refine xr_aload_n 0 dX9_put_10 rfl rfl ?_
    refine yr_getR dX9_put_11 fl_RX9_12 rfl t1 ?_
    obtain ⟨a6, e7, h⟩ := h
    obtain ⟨t8, h⟩ := h
    refine yr_callV (r := (xR M a0 0)) [] dX9_put_14 cv_X9_put_68 e7 t8 rfl (Nat.le_trans wt_0 (by decide)) (by decide) (xSp.mono h ?_)
    clear h
    intro ρ4 M3 h
    obtain ⟨v2, rfl, h⟩ := h
    obtain ⟨ht, hf⟩ := h
    refine xr_if_eq 28 dX9_put_17 (by decide) (fun c18 => ?_) (fun c18 => ?_)
    · replace h := ht c18
      clear ht hf
      refine xr_iconst (-1) dX9_put_28 (by decide) ?_
      exact xr_retv (by decide) (xRi rfl rfl dX9_put_29) h
    · replace h := hf c18
      clear ht hf
      refine xr_lload_n 1 dX9_put_20 rfl rfl ?_
      refine xr_ldc2 (-9223372036854775808) dX9_put_21 ct_RX9_72 ?_
      refine xr_lcmp dX9_put_24 ?_
      obtain ⟨ht, hf⟩ := h
      refine xr_if_ne 30 dX9_put_25 (by decide) (fun c17 => ?_) (fun c17 => ?_)
      · replace h := ht c17
        clear ht hf
        refine xr_aload_n 0 dX9_put_30 rfl rfl ?_
        obtain ⟨t9, h⟩ := h
        refine yr_getR dX9_put_31 fl_RX9_21 rfl t9 ?_
        refine xr_aload_n 0 dX9_put_34 rfl rfl ?_
        refine yr_getR dX9_put_35 fl_RX9_12 rfl t9 ?_
        refine xr_lload_n 1 dX9_put_38 rfl rfl ?_
        obtain ⟨a14, e15, h⟩ := h
        obtain ⟨t16, h⟩ := h
        refine yr_callV (r := (xR M3 a0 1)) [va_rf (xR M3 a0 0), .long j1] dX9_put_39 cv_X9_put_74 e15 t16 rfl (Nat.le_trans wt_0 (by decide)) (by decide) (xSp.mono h ?_)
        clear h
        intro ρ12 M11 h
        obtain ⟨v10, rfl, h⟩ := h
        exact xr_retv (by decide) (xRi rfl rfl dX9_put_42) h
      · replace h := hf c17
        clear ht hf
        refine xr_iconst (-1) dX9_put_28 (by decide) ?_
        exact xr_retv (by decide) (xRi rfl rfl dX9_put_29) h
  · replace h := hf c19
    clear ht hf
    refine xr_bipush (-4) dX9_put_7 (by decide) ?_
    exact xr_retv (by decide) (xRi rfl rfl dX9_put_9) h
theorem dX9_remove_0 : decode cX9_remove 0 = .ok (.aload_n 0, 1) := by decide +kernel
theorem dX9_remove_1 : decode cX9_remove 1 = .ok (.getfield 39, 3) := by decide +kernel
theorem dX9_remove_4 : decode cX9_remove 4 = .ok (.ifCond .eq 6, 3) := by decide +kernel
theorem dX9_remove_7 : decode cX9_remove 7 = .ok (.bipush (-4), 2) := by decide +kernel
theorem dX9_remove_9 : decode cX9_remove 9 = .ok (.ireturn, 1) := by decide +kernel
theorem dX9_remove_10 : decode cX9_remove 10 = .ok (.aload_n 0, 1) := by decide +kernel
theorem dX9_remove_11 : decode cX9_remove 11 = .ok (.getfield 12, 3) := by decide +kernel
theorem dX9_remove_14 : decode cX9_remove 14 = .ok (.invokevirtual 68, 3) := by decide +kernel
theorem dX9_remove_17 : decode cX9_remove 17 = .ok (.ifCond .ne 5, 3) := by decide +kernel
theorem dX9_remove_20 : decode cX9_remove 20 = .ok (.iconst (-1), 1) := by decide +kernel
theorem dX9_remove_21 : decode cX9_remove 21 = .ok (.ireturn, 1) := by decide +kernel
theorem dX9_remove_22 : decode cX9_remove 22 = .ok (.aload_n 0, 1) := by decide +kernel
theorem dX9_remove_23 : decode cX9_remove 23 = .ok (.getfield 21, 3) := by decide +kernel
theorem dX9_remove_26 : decode cX9_remove 26 = .ok (.aload_n 0, 1) := by decide +kernel
theorem dX9_remove_27 : decode cX9_remove 27 = .ok (.getfield 12, 3) := by decide +kernel
theorem dX9_remove_30 : decode cX9_remove 30 = .ok (.invokevirtual 77, 3) := by decide +kernel
theorem dX9_remove_33 : decode cX9_remove 33 = .ok (.ireturn, 1) := by decide +kernel
set_option maxRecDepth 100000 in
set_option maxHeartbeats 4000000 in
theorem bX9_remove_0 {l : Launch} {g : xG} (a0 : Nat) {M : xM} {Q : Option Value → xM → Prop} (h : (xat M a0 6 ∧ (((xI M a0 5) = 0 → (∃ a6, (xR M a0 0) = some a6 ∧ xat M a6 4 ∧ xSp l g mX7_isKey 0 0 [va_rf (xR M a0 0)] M (fun ρ4 M3 => ∃ v2 : Int32, ρ4 = some (.int v2) ∧ ((¬ v2 = 0 → (xat M3 a0 6 ∧ (∃ a14, (xR M3 a0 1) = some a14 ∧ xat M3 a14 5 ∧ xSp l g mX8_drop 0 0 [va_rf (xR M3 a0 1), va_rf (xR M3 a0 0)] M3 (fun ρ12 M11 => ∃ v10 : Int32, ρ12 = some (.int v10) ∧ (Q (some (.int v10)) M11))))) ∧ (v2 = 0 → (Q (some (.int (-1))) M3)))))) ∧ (¬ (xI M a0 5) = 0 → (Q (some (.int (-4))) M))))) : xWp l g mX9_remove 0 0 0 [(1, va_rf (some a0))] [] (0, 0) M Q := by
  refine xr_aload_n 0 dX9_remove_0 rfl rfl ?_
  obtain ⟨t1, h⟩ := h
  refine yr_getZ dX9_remove_1 fl_RX9_39 rfl t1 ?_
  obtain ⟨ht, hf⟩ := h
  refine xr_if_eq 10 dX9_remove_4 (by decide) (fun c18 => ?_) (fun c18 => ?_)
  · replace h := ht c18
    clear ht hf
    refine xr_aload_n 0 dX9_remove_10 rfl rfl ?_
    refine yr_getR dX9_remove_11 fl_RX9_12 rfl t1 ?_
    obtain ⟨a6, e7, h⟩ := h
    obtain ⟨t8, h⟩ := h
    refine yr_callV (r := (xR M a0 0)) [] dX9_remove_14 cv_X9_remove_68 e7 t8 rfl (Nat.le_trans wt_0 (by decide)) (by decide) (xSp.mono h ?_)
    clear h
    intro ρ4 M3 h
    obtain ⟨v2, rfl, h⟩ := h
    obtain ⟨ht, hf⟩ := h
    refine xr_if_ne 22 dX9_remove_17 (by decide) (fun c17 => ?_) (fun c17 => ?_)
    · replace h := ht c17
      clear ht hf
      refine xr_aload_n 0 dX9_remove_22 rfl rfl ?_
      obtain ⟨t9, h⟩ := h
      refine yr_getR dX9_remove_23 fl_RX9_21 rfl t9 ?_
      refine xr_aload_n 0 dX9_remove_26 rfl rfl ?_
      refine yr_getR dX9_remove_27 fl_RX9_12 rfl t9 ?_
      obtain ⟨a14, e15, h⟩ := h
      obtain ⟨t16, h⟩ := h
      refine yr_callV (r := (xR M3 a0 1)) [va_rf (xR M3 a0 0)] dX9_remove_30 cv_X9_remove_77 e15 t16 rfl (Nat.le_trans wt_0 (by decide)) (by decide) (xSp.mono h ?_)
      clear h
      intro ρ12 M11 h
      obtain ⟨v10, rfl, h⟩ := h
      exact xr_retv (by decide) (xRi rfl rfl dX9_remove_33) h
    · replace h := hf c17
      clear ht hf
      refine xr_iconst (-1) dX9_remove_20 (by decide) ?_
      exact xr_retv (by decide) (xRi rfl rfl dX9_remove_21) h
  · replace h := hf c18
    clear ht hf
    refine xr_bipush (-4) dX9_remove_7 (by decide) ?_
    exact xr_retv (by decide) (xRi rfl rfl dX9_remove_9) h
theorem dX9_get_0 : decode cX9_get 0 = .ok (.aload_n 0, 1) := by decide +kernel
theorem dX9_get_1 : decode cX9_get 1 = .ok (.getfield 39, 3) := by decide +kernel
theorem dX9_get_4 : decode cX9_get 4 = .ok (.ifCond .ne 13, 3) := by decide +kernel
theorem dX9_get_7 : decode cX9_get 7 = .ok (.aload_n 0, 1) := by decide +kernel
theorem dX9_get_8 : decode cX9_get 8 = .ok (.getfield 12, 3) := by decide +kernel
theorem dX9_get_11 : decode cX9_get 11 = .ok (.invokevirtual 68, 3) := by decide +kernel
theorem dX9_get_14 : decode cX9_get 14 = .ok (.ifCond .ne 7, 3) := by decide +kernel
theorem dX9_get_17 : decode cX9_get 17 = .ok (.ldc2_w 72, 3) := by decide +kernel
theorem dX9_get_20 : decode cX9_get 20 = .ok (.lreturn, 1) := by decide +kernel
theorem dX9_get_21 : decode cX9_get 21 = .ok (.aload_n 0, 1) := by decide +kernel
theorem dX9_get_22 : decode cX9_get 22 = .ok (.getfield 21, 3) := by decide +kernel
theorem dX9_get_25 : decode cX9_get 25 = .ok (.aload_n 0, 1) := by decide +kernel
theorem dX9_get_26 : decode cX9_get 26 = .ok (.getfield 12, 3) := by decide +kernel
theorem dX9_get_29 : decode cX9_get 29 = .ok (.invokevirtual 81, 3) := by decide +kernel
theorem dX9_get_32 : decode cX9_get 32 = .ok (.astore_n 1, 1) := by decide +kernel
theorem dX9_get_33 : decode cX9_get 33 = .ok (.aload_n 1, 1) := by decide +kernel
theorem dX9_get_34 : decode cX9_get 34 = .ok (.ifnonnull 9, 3) := by decide +kernel
theorem dX9_get_37 : decode cX9_get 37 = .ok (.ldc2_w 72, 3) := by decide +kernel
theorem dX9_get_40 : decode cX9_get 40 = .ok (.goto 7, 3) := by decide +kernel
theorem dX9_get_43 : decode cX9_get 43 = .ok (.aload_n 1, 1) := by decide +kernel
theorem dX9_get_44 : decode cX9_get 44 = .ok (.getfield 85, 3) := by decide +kernel
theorem dX9_get_47 : decode cX9_get 47 = .ok (.lreturn, 1) := by decide +kernel
set_option maxRecDepth 100000 in
set_option maxHeartbeats 4000000 in
theorem bX9_get_0 {l : Launch} {g : xG} (a0 : Nat) {M : xM} {Q : Option Value → xM → Prop} (h : (xat M a0 6 ∧ ((¬ (xI M a0 5) = 0 → (Q (some (.long (-9223372036854775808))) M)) ∧ ((xI M a0 5) = 0 → (∃ a6, (xR M a0 0) = some a6 ∧ xat M a6 4 ∧ xSp l g mX7_isKey 0 0 [va_rf (xR M a0 0)] M (fun ρ4 M3 => ∃ v2 : Int32, ρ4 = some (.int v2) ∧ ((¬ v2 = 0 → (xat M3 a0 6 ∧ (∃ a14, (xR M3 a0 1) = some a14 ∧ xat M3 a14 5 ∧ xSp l g mX8_nodeOf 0 0 [va_rf (xR M3 a0 1), va_rf (xR M3 a0 0)] M3 (fun ρ12 M11 => ∃ v10 : Option Nat, ρ12 = some (va_rf v10) ∧ ((¬ v10 = none → (∃ a17, v10 = some a17 ∧ xat M11 a17 1 ∧ (Q (some (.long (xJ M11 a17 4))) M11))) ∧ (v10 = none → (Q (some (.long (-9223372036854775808))) M11))))))) ∧ (v2 = 0 → (Q (some (.long (-9223372036854775808))) M3))))))))) : xWp l g mX9_get 0 0 0 [(1, va_rf (some a0)), (0, .null)] [] (0, 0) M Q := by
  refine xr_aload_n 0 dX9_get_0 rfl rfl ?_
  obtain ⟨t1, h⟩ := h
  refine yr_getZ dX9_get_1 fl_RX9_39 rfl t1 ?_
  obtain ⟨ht, hf⟩ := h
  refine xr_if_ne 17 dX9_get_4 (by decide) (fun c22 => ?_) (fun c22 => ?_)
  · replace h := ht c22
    clear ht hf
    refine xr_ldc2 (-9223372036854775808) dX9_get_17 ct_RX9_72 ?_
    exact xr_retv (by decide) (xRl rfl dX9_get_20) h
  · replace h := hf c22
    clear ht hf
    refine xr_aload_n 0 dX9_get_7 rfl rfl ?_
    refine yr_getR dX9_get_8 fl_RX9_12 rfl t1 ?_
    obtain ⟨a6, e7, h⟩ := h
    obtain ⟨t8, h⟩ := h
    refine yr_callV (r := (xR M a0 0)) [] dX9_get_11 cv_X9_get_68 e7 t8 rfl (Nat.le_trans wt_0 (by decide)) (by decide) (xSp.mono h ?_)
    clear h
    intro ρ4 M3 h
    obtain ⟨v2, rfl, h⟩ := h
    obtain ⟨ht, hf⟩ := h
    refine xr_if_ne 21 dX9_get_14 (by decide) (fun c21 => ?_) (fun c21 => ?_)
    · replace h := ht c21
      clear ht hf
      refine xr_aload_n 0 dX9_get_21 rfl rfl ?_
      obtain ⟨t9, h⟩ := h
      refine yr_getR dX9_get_22 fl_RX9_21 rfl t9 ?_
      refine xr_aload_n 0 dX9_get_25 rfl rfl ?_
      refine yr_getR dX9_get_26 fl_RX9_12 rfl t9 ?_
      obtain ⟨a14, e15, h⟩ := h
      obtain ⟨t16, h⟩ := h
      refine yr_callV (r := (xR M3 a0 1)) [va_rf (xR M3 a0 0)] dX9_get_29 cv_X9_get_81 e15 t16 rfl (Nat.le_trans wt_0 (by decide)) (by decide) (xSp.mono h ?_)
      clear h
      intro ρ12 M11 h
      obtain ⟨v10, rfl, h⟩ := h
      refine zastore_n 1 dX9_get_32 rfl (L1 := [(1, va_rf (some a0)), (1, va_rf v10)]) (by decide) rfl ?_
      refine xr_aload_n 1 dX9_get_33 rfl rfl ?_
      obtain ⟨ht, hf⟩ := h
      refine xr_ifnonnull 43 dX9_get_34 (by decide) (fun c20 => ?_) (fun c20 => ?_)
      · replace h := ht c20
        clear ht hf
        refine xr_aload_n 1 dX9_get_43 rfl rfl ?_
        obtain ⟨a17, e18, h⟩ := h
        obtain ⟨t19, h⟩ := h
        refine yr_getJ dX9_get_44 fl_RX9_85 e18 t19 ?_
        exact xr_retv (by decide) (xRl rfl dX9_get_47) h
      · replace h := hf c20
        clear ht hf
        refine xr_ldc2 (-9223372036854775808) dX9_get_37 ct_RX9_72 ?_
        refine xr_goto 47 dX9_get_40 (by decide) ?_
        exact xr_retv (by decide) (xRl rfl dX9_get_47) h
    · replace h := hf c21
      clear ht hf
      refine xr_ldc2 (-9223372036854775808) dX9_get_17 ct_RX9_72 ?_
      exact xr_retv (by decide) (xRl rfl dX9_get_20) h
theorem dX9_with_0 : decode cX9_with 0 = .ok (.aload_n 0, 1) := by decide +kernel
theorem dX9_with_1 : decode cX9_with 1 = .ok (.getfield 39, 3) := by decide +kernel
theorem dX9_with_4 : decode cX9_with 4 = .ok (.ifCond .eq 6, 3) := by decide +kernel
theorem dX9_with_7 : decode cX9_with 7 = .ok (.bipush (-4), 2) := by decide +kernel
theorem dX9_with_9 : decode cX9_with 9 = .ok (.ireturn, 1) := by decide +kernel
theorem dX9_with_10 : decode cX9_with 10 = .ok (.aload_n 0, 1) := by decide +kernel
theorem dX9_with_11 : decode cX9_with 11 = .ok (.getfield 12, 3) := by decide +kernel
theorem dX9_with_14 : decode cX9_with 14 = .ok (.invokevirtual 68, 3) := by decide +kernel
theorem dX9_with_17 : decode cX9_with 17 = .ok (.ifCond .ne 5, 3) := by decide +kernel
theorem dX9_with_20 : decode cX9_with 20 = .ok (.iconst (-1), 1) := by decide +kernel
theorem dX9_with_21 : decode cX9_with 21 = .ok (.ireturn, 1) := by decide +kernel
theorem dX9_with_22 : decode cX9_with 22 = .ok (.aload_n 0, 1) := by decide +kernel
theorem dX9_with_23 : decode cX9_with 23 = .ok (.getfield 21, 3) := by decide +kernel
theorem dX9_with_26 : decode cX9_with 26 = .ok (.aload_n 0, 1) := by decide +kernel
theorem dX9_with_27 : decode cX9_with 27 = .ok (.getfield 12, 3) := by decide +kernel
theorem dX9_with_30 : decode cX9_with 30 = .ok (.invokevirtual 91, 3) := by decide +kernel
theorem dX9_with_33 : decode cX9_with 33 = .ok (.ireturn, 1) := by decide +kernel
set_option maxRecDepth 100000 in
set_option maxHeartbeats 4000000 in
theorem bX9_with_0 {l : Launch} {g : xG} (a0 : Nat) {M : xM} {Q : Option Value → xM → Prop} (h : (xat M a0 6 ∧ (((xI M a0 5) = 0 → (∃ a6, (xR M a0 0) = some a6 ∧ xat M a6 4 ∧ xSp l g mX7_isKey 0 0 [va_rf (xR M a0 0)] M (fun ρ4 M3 => ∃ v2 : Int32, ρ4 = some (.int v2) ∧ ((¬ v2 = 0 → (xat M3 a0 6 ∧ (∃ a14, (xR M3 a0 1) = some a14 ∧ xat M3 a14 5 ∧ xSp l g mX8_keysUnder 0 0 [va_rf (xR M3 a0 1), va_rf (xR M3 a0 0)] M3 (fun ρ12 M11 => ∃ v10 : Int32, ρ12 = some (.int v10) ∧ (Q (some (.int v10)) M11))))) ∧ (v2 = 0 → (Q (some (.int (-1))) M3)))))) ∧ (¬ (xI M a0 5) = 0 → (Q (some (.int (-4))) M))))) : xWp l g mX9_with 0 0 0 [(1, va_rf (some a0))] [] (0, 0) M Q := by
  refine xr_aload_n 0 dX9_with_0 rfl rfl ?_
  obtain ⟨t1, h⟩ := h
  refine yr_getZ dX9_with_1 fl_RX9_39 rfl t1 ?_
  obtain ⟨ht, hf⟩ := h
  refine xr_if_eq 10 dX9_with_4 (by decide) (fun c18 => ?_) (fun c18 => ?_)
  · replace h := ht c18
    clear ht hf
    refine xr_aload_n 0 dX9_with_10 rfl rfl ?_
    refine yr_getR dX9_with_11 fl_RX9_12 rfl t1 ?_
    obtain ⟨a6, e7, h⟩ := h
    obtain ⟨t8, h⟩ := h
    refine yr_callV (r := (xR M a0 0)) [] dX9_with_14 cv_X9_with_68 e7 t8 rfl (Nat.le_trans wt_0 (by decide)) (by decide) (xSp.mono h ?_)
    clear h
    intro ρ4 M3 h
    obtain ⟨v2, rfl, h⟩ := h
    obtain ⟨ht, hf⟩ := h
    refine xr_if_ne 22 dX9_with_17 (by decide) (fun c17 => ?_) (fun c17 => ?_)
    · replace h := ht c17
      clear ht hf
      refine xr_aload_n 0 dX9_with_22 rfl rfl ?_
      obtain ⟨t9, h⟩ := h
      refine yr_getR dX9_with_23 fl_RX9_21 rfl t9 ?_
      refine xr_aload_n 0 dX9_with_26 rfl rfl ?_
      refine yr_getR dX9_with_27 fl_RX9_12 rfl t9 ?_
      obtain ⟨a14, e15, h⟩ := h
      obtain ⟨t16, h⟩ := h
      refine yr_callV (r := (xR M3 a0 1)) [va_rf (xR M3 a0 0)] dX9_with_30 cv_X9_with_91 e15 t16 rfl (Nat.le_trans wt_0 (by decide)) (by decide) (xSp.mono h ?_)
      clear h
      intro ρ12 M11 h
      obtain ⟨v10, rfl, h⟩ := h
      exact xr_retv (by decide) (xRi rfl rfl dX9_with_33) h
    · replace h := hf c17
      clear ht hf
      refine xr_iconst (-1) dX9_with_20 (by decide) ?_
      exact xr_retv (by decide) (xRi rfl rfl dX9_with_21) h
  · replace h := hf c18
    clear ht hf
    refine xr_bipush (-4) dX9_with_7 (by decide) ?_
    exact xr_retv (by decide) (xRi rfl rfl dX9_with_9) h
theorem dX9_before_0 : decode cX9_before 0 = .ok (.aload_n 0, 1) := by decide +kernel
theorem dX9_before_1 : decode cX9_before 1 = .ok (.getfield 39, 3) := by decide +kernel
theorem dX9_before_4 : decode cX9_before 4 = .ok (.ifCond .eq 6, 3) := by decide +kernel
theorem dX9_before_7 : decode cX9_before 7 = .ok (.bipush (-4), 2) := by decide +kernel
theorem dX9_before_9 : decode cX9_before 9 = .ok (.ireturn, 1) := by decide +kernel
theorem dX9_before_10 : decode cX9_before 10 = .ok (.aload_n 0, 1) := by decide +kernel
theorem dX9_before_11 : decode cX9_before 11 = .ok (.getfield 12, 3) := by decide +kernel
theorem dX9_before_14 : decode cX9_before 14 = .ok (.invokevirtual 68, 3) := by decide +kernel
theorem dX9_before_17 : decode cX9_before 17 = .ok (.ifCond .ne 5, 3) := by decide +kernel
theorem dX9_before_20 : decode cX9_before 20 = .ok (.iconst (-1), 1) := by decide +kernel
theorem dX9_before_21 : decode cX9_before 21 = .ok (.ireturn, 1) := by decide +kernel
theorem dX9_before_22 : decode cX9_before 22 = .ok (.aload_n 0, 1) := by decide +kernel
theorem dX9_before_23 : decode cX9_before 23 = .ok (.getfield 21, 3) := by decide +kernel
theorem dX9_before_26 : decode cX9_before 26 = .ok (.aload_n 0, 1) := by decide +kernel
theorem dX9_before_27 : decode cX9_before 27 = .ok (.getfield 12, 3) := by decide +kernel
theorem dX9_before_30 : decode cX9_before 30 = .ok (.invokevirtual 94, 3) := by decide +kernel
theorem dX9_before_33 : decode cX9_before 33 = .ok (.ireturn, 1) := by decide +kernel
set_option maxRecDepth 100000 in
set_option maxHeartbeats 4000000 in
theorem bX9_before_0 {l : Launch} {g : xG} (a0 : Nat) {M : xM} {Q : Option Value → xM → Prop} (h : (xat M a0 6 ∧ (((xI M a0 5) = 0 → (∃ a6, (xR M a0 0) = some a6 ∧ xat M a6 4 ∧ xSp l g mX7_isKey 0 0 [va_rf (xR M a0 0)] M (fun ρ4 M3 => ∃ v2 : Int32, ρ4 = some (.int v2) ∧ ((¬ v2 = 0 → (xat M3 a0 6 ∧ (∃ a14, (xR M3 a0 1) = some a14 ∧ xat M3 a14 5 ∧ xSp l g mX8_keysAhead 0 0 [va_rf (xR M3 a0 1), va_rf (xR M3 a0 0)] M3 (fun ρ12 M11 => ∃ v10 : Int32, ρ12 = some (.int v10) ∧ (Q (some (.int v10)) M11))))) ∧ (v2 = 0 → (Q (some (.int (-1))) M3)))))) ∧ (¬ (xI M a0 5) = 0 → (Q (some (.int (-4))) M))))) : xWp l g mX9_before 0 0 0 [(1, va_rf (some a0))] [] (0, 0) M Q := by
  refine xr_aload_n 0 dX9_before_0 rfl rfl ?_
  obtain ⟨t1, h⟩ := h
  refine yr_getZ dX9_before_1 fl_RX9_39 rfl t1 ?_
  obtain ⟨ht, hf⟩ := h
  refine xr_if_eq 10 dX9_before_4 (by decide) (fun c18 => ?_) (fun c18 => ?_)
  · replace h := ht c18
    clear ht hf
    refine xr_aload_n 0 dX9_before_10 rfl rfl ?_
    refine yr_getR dX9_before_11 fl_RX9_12 rfl t1 ?_
    obtain ⟨a6, e7, h⟩ := h
    obtain ⟨t8, h⟩ := h
    refine yr_callV (r := (xR M a0 0)) [] dX9_before_14 cv_X9_before_68 e7 t8 rfl (Nat.le_trans wt_0 (by decide)) (by decide) (xSp.mono h ?_)
    clear h
    intro ρ4 M3 h
    obtain ⟨v2, rfl, h⟩ := h
    obtain ⟨ht, hf⟩ := h
    refine xr_if_ne 22 dX9_before_17 (by decide) (fun c17 => ?_) (fun c17 => ?_)
    · replace h := ht c17
      clear ht hf
      refine xr_aload_n 0 dX9_before_22 rfl rfl ?_
      obtain ⟨t9, h⟩ := h
      refine yr_getR dX9_before_23 fl_RX9_21 rfl t9 ?_
      refine xr_aload_n 0 dX9_before_26 rfl rfl ?_
      refine yr_getR dX9_before_27 fl_RX9_12 rfl t9 ?_
      obtain ⟨a14, e15, h⟩ := h
      obtain ⟨t16, h⟩ := h
      refine yr_callV (r := (xR M3 a0 1)) [va_rf (xR M3 a0 0)] dX9_before_30 cv_X9_before_94 e15 t16 rfl (Nat.le_trans wt_0 (by decide)) (by decide) (xSp.mono h ?_)
      clear h
      intro ρ12 M11 h
      obtain ⟨v10, rfl, h⟩ := h
      exact xr_retv (by decide) (xRi rfl rfl dX9_before_33) h
    · replace h := hf c17
      clear ht hf
      refine xr_iconst (-1) dX9_before_20 (by decide) ?_
      exact xr_retv (by decide) (xRi rfl rfl dX9_before_21) h
  · replace h := hf c18
    clear ht hf
    refine xr_bipush (-4) dX9_before_7 (by decide) ?_
    exact xr_retv (by decide) (xRi rfl rfl dX9_before_9) h
theorem dX9_nth_0 : decode cX9_nth 0 = .ok (.aload_n 0, 1) := by decide +kernel
theorem dX9_nth_1 : decode cX9_nth 1 = .ok (.getfield 39, 3) := by decide +kernel
theorem dX9_nth_4 : decode cX9_nth 4 = .ok (.ifCond .eq 6, 3) := by decide +kernel
theorem dX9_nth_7 : decode cX9_nth 7 = .ok (.bipush (-4), 2) := by decide +kernel
theorem dX9_nth_9 : decode cX9_nth 9 = .ok (.ireturn, 1) := by decide +kernel
theorem dX9_nth_10 : decode cX9_nth 10 = .ok (.aload_n 0, 1) := by decide +kernel
theorem dX9_nth_11 : decode cX9_nth 11 = .ok (.getfield 21, 3) := by decide +kernel
theorem dX9_nth_14 : decode cX9_nth 14 = .ok (.iload_n 1, 1) := by decide +kernel
theorem dX9_nth_15 : decode cX9_nth 15 = .ok (.invokevirtual 97, 3) := by decide +kernel
theorem dX9_nth_18 : decode cX9_nth 18 = .ok (.astore_n 2, 1) := by decide +kernel
theorem dX9_nth_19 : decode cX9_nth 19 = .ok (.aload_n 2, 1) := by decide +kernel
theorem dX9_nth_20 : decode cX9_nth 20 = .ok (.ifnonnull 5, 3) := by decide +kernel
theorem dX9_nth_23 : decode cX9_nth 23 = .ok (.iconst (-1), 1) := by decide +kernel
theorem dX9_nth_24 : decode cX9_nth 24 = .ok (.ireturn, 1) := by decide +kernel
theorem dX9_nth_25 : decode cX9_nth 25 = .ok (.aload_n 2, 1) := by decide +kernel
theorem dX9_nth_26 : decode cX9_nth 26 = .ok (.aload_n 0, 1) := by decide +kernel
theorem dX9_nth_27 : decode cX9_nth 27 = .ok (.getfield 12, 3) := by decide +kernel
theorem dX9_nth_30 : decode cX9_nth 30 = .ok (.invokevirtual 101, 3) := by decide +kernel
theorem dX9_nth_33 : decode cX9_nth 33 = .ok (.aload_n 0, 1) := by decide +kernel
theorem dX9_nth_34 : decode cX9_nth 34 = .ok (.getfield 12, 3) := by decide +kernel
theorem dX9_nth_37 : decode cX9_nth 37 = .ok (.getfield 50, 3) := by decide +kernel
theorem dX9_nth_40 : decode cX9_nth 40 = .ok (.ireturn, 1) := by decide +kernel
set_option maxRecDepth 100000 in
set_option maxHeartbeats 4000000 in
theorem bX9_nth_0 {l : Launch} {g : xG} (a0 : Nat) (x1 : Int32) {M : xM} {Q : Option Value → xM → Prop} (h : (xat M a0 6 ∧ (((xI M a0 5) = 0 → (∃ a6, (xR M a0 1) = some a6 ∧ xat M a6 5 ∧ xSp l g mX8_keyNumber 0 0 [va_rf (xR M a0 1), .int x1] M (fun ρ4 M3 => ∃ v2 : Option Nat, ρ4 = some (va_rf v2) ∧ ((¬ v2 = none → (xat M3 a0 6 ∧ (∃ a14, v2 = some a14 ∧ xat M3 a14 1 ∧ xSp l g mX3_spell 0 0 [va_rf v2, va_rf (xR M3 a0 0)] M3 (fun ρ12 M11 => ρ12 = none ∧ (xat M11 a0 6 ∧ (∃ a18, (xR M11 a0 0) = some a18 ∧ xat M11 a18 4 ∧ (Q (some (.int (xI M11 a18 1))) M11))))))) ∧ (v2 = none → (Q (some (.int (-1))) M3)))))) ∧ (¬ (xI M a0 5) = 0 → (Q (some (.int (-4))) M))))) : xWp l g mX9_nth 0 0 0 [(1, va_rf (some a0)), (1, .int x1), (0, .null)] [] (0, 0) M Q := by
  refine xr_aload_n 0 dX9_nth_0 rfl rfl ?_
  obtain ⟨t1, h⟩ := h
  refine yr_getZ dX9_nth_1 fl_RX9_39 rfl t1 ?_
  obtain ⟨ht, hf⟩ := h
  refine xr_if_eq 10 dX9_nth_4 (by decide) (fun c22 => ?_) (fun c22 => ?_)
  · replace h := ht c22
    clear ht hf
    refine xr_aload_n 0 dX9_nth_10 rfl rfl ?_
    refine yr_getR dX9_nth_11 fl_RX9_21 rfl t1 ?_
    refine xr_iload_n 1 dX9_nth_14 rfl rfl ?_
    obtain ⟨a6, e7, h⟩ := h
    obtain ⟨t8, h⟩ := h
    refine yr_callV (r := (xR M a0 1)) [.int x1] dX9_nth_15 cv_X9_nth_97 e7 t8 rfl (Nat.le_trans wt_0 (by decide)) (by decide) (xSp.mono h ?_)
    clear h
    intro ρ4 M3 h
    obtain ⟨v2, rfl, h⟩ := h
    refine zastore_n 2 dX9_nth_18 rfl (L1 := [(1, va_rf (some a0)), (1, .int x1), (1, va_rf v2)]) (by decide) rfl ?_
    refine xr_aload_n 2 dX9_nth_19 rfl rfl ?_
    obtain ⟨ht, hf⟩ := h
    refine xr_ifnonnull 25 dX9_nth_20 (by decide) (fun c21 => ?_) (fun c21 => ?_)
    · replace h := ht c21
      clear ht hf
      refine xr_aload_n 2 dX9_nth_25 rfl rfl ?_
      refine xr_aload_n 0 dX9_nth_26 rfl rfl ?_
      obtain ⟨t9, h⟩ := h
      refine yr_getR dX9_nth_27 fl_RX9_12 rfl t9 ?_
      obtain ⟨a14, e15, h⟩ := h
      obtain ⟨t16, h⟩ := h
      refine yr_callV (r := v2) [va_rf (xR M3 a0 0)] dX9_nth_30 cv_X9_nth_101 e15 t16 rfl (Nat.le_trans wt_0 (by decide)) (by decide) (xSp.mono h ?_)
      clear h
      intro ρ12 M11 h
      obtain ⟨rfl, h⟩ := h
      refine xr_aload_n 0 dX9_nth_33 rfl rfl ?_
      obtain ⟨t17, h⟩ := h
      refine yr_getR dX9_nth_34 fl_RX9_12 rfl t17 ?_
      obtain ⟨a18, e19, h⟩ := h
      obtain ⟨t20, h⟩ := h
      refine yr_getI dX9_nth_37 fl_RX9_50 e19 t20 ?_
      exact xr_retv (by decide) (xRi rfl rfl dX9_nth_40) h
    · replace h := hf c21
      clear ht hf
      refine xr_iconst (-1) dX9_nth_23 (by decide) ?_
      exact xr_retv (by decide) (xRi rfl rfl dX9_nth_24) h
  · replace h := hf c22
    clear ht hf
    refine xr_bipush (-4) dX9_nth_7 (by decide) ?_
    exact xr_retv (by decide) (xRi rfl rfl dX9_nth_9) h
theorem dX9_commit_0 : decode cX9_commit 0 = .ok (.aload_n 0, 1) := by decide +kernel
theorem dX9_commit_1 : decode cX9_commit 1 = .ok (.getfield 39, 3) := by decide +kernel
theorem dX9_commit_4 : decode cX9_commit 4 = .ok (.ifCond .eq 6, 3) := by decide +kernel
theorem dX9_commit_7 : decode cX9_commit 7 = .ok (.bipush (-4), 2) := by decide +kernel
theorem dX9_commit_9 : decode cX9_commit 9 = .ok (.ireturn, 1) := by decide +kernel
theorem dX9_commit_10 : decode cX9_commit 10 = .ok (.aload_n 0, 1) := by decide +kernel
theorem dX9_commit_11 : decode cX9_commit 11 = .ok (.getfield 21, 3) := by decide +kernel
theorem dX9_commit_14 : decode cX9_commit 14 = .ok (.invokevirtual 105, 3) := by decide +kernel
theorem dX9_commit_17 : decode cX9_commit 17 = .ok (.istore_n 1, 1) := by decide +kernel
theorem dX9_commit_18 : decode cX9_commit 18 = .ok (.iload_n 1, 1) := by decide +kernel
theorem dX9_commit_19 : decode cX9_commit 19 = .ok (.ifCond .ne 5, 3) := by decide +kernel
theorem dX9_commit_22 : decode cX9_commit 22 = .ok (.iconst 0, 1) := by decide +kernel
theorem dX9_commit_23 : decode cX9_commit 23 = .ok (.ireturn, 1) := by decide +kernel
theorem dX9_commit_24 : decode cX9_commit 24 = .ok (.iload_n 1, 1) := by decide +kernel
theorem dX9_commit_25 : decode cX9_commit 25 = .ok (.aload_n 0, 1) := by decide +kernel
theorem dX9_commit_26 : decode cX9_commit 26 = .ok (.invokevirtual 109, 3) := by decide +kernel
theorem dX9_commit_29 : decode cX9_commit 29 = .ok (.if_icmp .le 6, 3) := by decide +kernel
theorem dX9_commit_32 : decode cX9_commit 32 = .ok (.bipush (-2), 2) := by decide +kernel
theorem dX9_commit_34 : decode cX9_commit 34 = .ok (.ireturn, 1) := by decide +kernel
theorem dX9_commit_35 : decode cX9_commit 35 = .ok (.aload_n 0, 1) := by decide +kernel
theorem dX9_commit_36 : decode cX9_commit 36 = .ok (.getfield 31, 3) := by decide +kernel
theorem dX9_commit_39 : decode cX9_commit 39 = .ok (.aload_n 0, 1) := by decide +kernel
theorem dX9_commit_40 : decode cX9_commit 40 = .ok (.getfield 21, 3) := by decide +kernel
theorem dX9_commit_43 : decode cX9_commit 43 = .ok (.aload_n 0, 1) := by decide +kernel
theorem dX9_commit_44 : decode cX9_commit 44 = .ok (.getfield 25, 3) := by decide +kernel
theorem dX9_commit_47 : decode cX9_commit 47 = .ok (.aload_n 0, 1) := by decide +kernel
theorem dX9_commit_48 : decode cX9_commit 48 = .ok (.getfield 35, 3) := by decide +kernel
theorem dX9_commit_51 : decode cX9_commit 51 = .ok (.iconst 1, 1) := by decide +kernel
theorem dX9_commit_52 : decode cX9_commit 52 = .ok (.iadd, 1) := by decide +kernel
theorem dX9_commit_53 : decode cX9_commit 53 = .ok (.invokevirtual 112, 3) := by decide +kernel
theorem dX9_commit_56 : decode cX9_commit 56 = .ok (.ifCond .ne 11, 3) := by decide +kernel
theorem dX9_commit_59 : decode cX9_commit 59 = .ok (.aload_n 0, 1) := by decide +kernel
theorem dX9_commit_60 : decode cX9_commit 60 = .ok (.iconst 1, 1) := by decide +kernel
theorem dX9_commit_61 : decode cX9_commit 61 = .ok (.putfield 39, 3) := by decide +kernel
theorem dX9_commit_64 : decode cX9_commit 64 = .ok (.bipush (-3), 2) := by decide +kernel
theorem dX9_commit_66 : decode cX9_commit 66 = .ok (.ireturn, 1) := by decide +kernel
theorem dX9_commit_67 : decode cX9_commit 67 = .ok (.aload_n 0, 1) := by decide +kernel
theorem dX9_commit_68 : decode cX9_commit 68 = .ok (.dup, 1) := by decide +kernel
theorem dX9_commit_69 : decode cX9_commit 69 = .ok (.getfield 35, 3) := by decide +kernel
theorem dX9_commit_72 : decode cX9_commit 72 = .ok (.iconst 1, 1) := by decide +kernel
theorem dX9_commit_73 : decode cX9_commit 73 = .ok (.iadd, 1) := by decide +kernel
theorem dX9_commit_74 : decode cX9_commit 74 = .ok (.putfield 35, 3) := by decide +kernel
theorem dX9_commit_77 : decode cX9_commit 77 = .ok (.aload_n 0, 1) := by decide +kernel
theorem dX9_commit_78 : decode cX9_commit 78 = .ok (.getfield 21, 3) := by decide +kernel
theorem dX9_commit_81 : decode cX9_commit 81 = .ok (.invokevirtual 116, 3) := by decide +kernel
theorem dX9_commit_84 : decode cX9_commit 84 = .ok (.aload_n 0, 1) := by decide +kernel
theorem dX9_commit_85 : decode cX9_commit 85 = .ok (.getfield 25, 3) := by decide +kernel
theorem dX9_commit_88 : decode cX9_commit 88 = .ok (.aload_n 0, 1) := by decide +kernel
theorem dX9_commit_89 : decode cX9_commit 89 = .ok (.getfield 21, 3) := by decide +kernel
theorem dX9_commit_92 : decode cX9_commit 92 = .ok (.invokevirtual 119, 3) := by decide +kernel
theorem dX9_commit_95 : decode cX9_commit 95 = .ok (.iload_n 1, 1) := by decide +kernel
theorem dX9_commit_96 : decode cX9_commit 96 = .ok (.iconst 1, 1) := by decide +kernel
theorem dX9_commit_97 : decode cX9_commit 97 = .ok (.iadd, 1) := by decide +kernel
theorem dX9_commit_98 : decode cX9_commit 98 = .ok (.ireturn, 1) := by decide +kernel
set_option maxRecDepth 100000 in
set_option maxHeartbeats 4000000 in
theorem bX9_commit_0 {l : Launch} {g : xG} (a0 : Nat) {M : xM} {Q : Option Value → xM → Prop} (h : (xat M a0 6 ∧ (((xI M a0 5) = 0 → (∃ a6, (xR M a0 1) = some a6 ∧ xat M a6 5 ∧ xSp l g mX8_freshNodes 0 0 [va_rf (xR M a0 1)] M (fun ρ4 M3 => ∃ v2 : Int32, ρ4 = some (.int v2) ∧ ((¬ v2 = 0 → (xat M3 a0 6 ∧ xSp l g mX9_freePages 0 0 [va_rf (some a0)] M3 (fun ρ11 M10 => ∃ v9 : Int32, ρ11 = some (.int v9) ∧ ((v2 ≤ v9 → (xat M10 a0 6 ∧ (∃ a19, (xR M10 a0 3) = some a19 ∧ xat M10 a19 3 ∧ xSp l g mX6_save 0 0 [va_rf (xR M10 a0 3), va_rf (xR M10 a0 1), va_rf (xR M10 a0 2), .int ((xI M10 a0 4) + 1)] M10 (fun ρ17 M16 => ∃ v15 : Int32, ρ17 = some (.int v15) ∧ ((¬ v15 = 0 → (xat M16 a0 6 ∧ (∃ a27, (xR (xsI M16 a0 4 ((xI M16 a0 4) + 1)) a0 1) = some a27 ∧ xat (xsI M16 a0 4 ((xI M16 a0 4) + 1)) a27 5 ∧ xSp l g mX8_settle 0 0 [va_rf (xR (xsI M16 a0 4 ((xI M16 a0 4) + 1)) a0 1)] (xsI M16 a0 4 ((xI M16 a0 4) + 1)) (fun ρ25 M24 => ρ25 = none ∧ (xat M24 a0 6 ∧ (∃ a35, (xR M24 a0 2) = some a35 ∧ xat M24 a35 5 ∧ xSp l g mX8_become 0 0 [va_rf (xR M24 a0 2), va_rf (xR M24 a0 1)] M24 (fun ρ33 M32 => ρ33 = none ∧ (Q (some (.int (v2 + 1))) M32)))))))) ∧ (v15 = 0 → (xat M16 a0 6 ∧ (Q (some (.int (-3))) (xsI M16 a0 5 1))))))))) ∧ (¬ v2 ≤ v9 → (Q (some (.int (-2))) M10)))))) ∧ (v2 = 0 → (Q (some (.int 0)) M3)))))) ∧ (¬ (xI M a0 5) = 0 → (Q (some (.int (-4))) M))))) : xWp l g mX9_commit 0 0 0 [(1, va_rf (some a0)), (0, .null)] [] (0, 0) M Q := by
  refine xr_aload_n 0 dX9_commit_0 rfl rfl ?_
  obtain ⟨t1, h⟩ := h
  refine yr_getZ dX9_commit_1 fl_RX9_39 rfl t1 ?_
  obtain ⟨ht, hf⟩ := h
  refine xr_if_eq 10 dX9_commit_4 (by decide) (fun c42 => ?_) (fun c42 => ?_)
  · replace h := ht c42
    clear ht hf
    refine xr_aload_n 0 dX9_commit_10 rfl rfl ?_
    refine yr_getR dX9_commit_11 fl_RX9_21 rfl t1 ?_
    obtain ⟨a6, e7, h⟩ := h
    obtain ⟨t8, h⟩ := h
    refine yr_callV (r := (xR M a0 1)) [] dX9_commit_14 cv_X9_commit_105 e7 t8 rfl (Nat.le_trans wt_0 (by decide)) (by decide) (xSp.mono h ?_)
    clear h
    intro ρ4 M3 h
    obtain ⟨v2, rfl, h⟩ := h
    refine zistore_n 1 dX9_commit_17 rfl (L1 := [(1, va_rf (some a0)), (1, .int v2)]) (by decide) rfl ?_
    refine xr_iload_n 1 dX9_commit_18 rfl rfl ?_
    obtain ⟨ht, hf⟩ := h
    refine xr_if_ne 24 dX9_commit_19 (by decide) (fun c41 => ?_) (fun c41 => ?_)
    · replace h := ht c41
      clear ht hf
      refine xr_iload_n 1 dX9_commit_24 rfl rfl ?_
      refine xr_aload_n 0 dX9_commit_25 rfl rfl ?_
      obtain ⟨t13, h⟩ := h
      refine yr_callV (r := (some a0)) [] dX9_commit_26 cv_X9_commit_109 rfl t13 rfl (Nat.le_trans (wt_i wt_0) (by decide)) (by decide) (xSp.mono h ?_)
      clear h
      intro ρ11 M10 h
      obtain ⟨v9, rfl, h⟩ := h
      obtain ⟨ht, hf⟩ := h
      refine xr_icmp_le 35 dX9_commit_29 (by decide) (fun c40 => ?_) (fun c40 => ?_)
      · replace h := ht c40
        clear ht hf
        refine xr_aload_n 0 dX9_commit_35 rfl rfl ?_
        obtain ⟨t14, h⟩ := h
        refine yr_getR dX9_commit_36 fl_RX9_31 rfl t14 ?_
        refine xr_aload_n 0 dX9_commit_39 rfl rfl ?_
        refine yr_getR dX9_commit_40 fl_RX9_21 rfl t14 ?_
        refine xr_aload_n 0 dX9_commit_43 rfl rfl ?_
        refine yr_getR dX9_commit_44 fl_RX9_25 rfl t14 ?_
        refine xr_aload_n 0 dX9_commit_47 rfl rfl ?_
        refine yr_getI dX9_commit_48 fl_RX9_35 rfl t14 ?_
        refine xr_iconst 1 dX9_commit_51 (by decide) ?_
        refine xr_iadd dX9_commit_52 ?_
        obtain ⟨a19, e20, h⟩ := h
        obtain ⟨t21, h⟩ := h
        refine yr_callV (r := (xR M10 a0 3)) [va_rf (xR M10 a0 1), va_rf (xR M10 a0 2), .int ((xI M10 a0 4) + 1)] dX9_commit_53 cv_X9_commit_112 e20 t21 rfl (Nat.le_trans wt_0 (by decide)) (by decide) (xSp.mono h ?_)
        clear h
        intro ρ17 M16 h
        obtain ⟨v15, rfl, h⟩ := h
        obtain ⟨ht, hf⟩ := h
        refine xr_if_ne 67 dX9_commit_56 (by decide) (fun c39 => ?_) (fun c39 => ?_)
        · replace h := ht c39
          clear ht hf
          refine xr_aload_n 0 dX9_commit_67 rfl rfl ?_
          refine xr_dup dX9_commit_68 (va_rf_cat _) ?_
          obtain ⟨t22, h⟩ := h
          refine yr_getI dX9_commit_69 fl_RX9_35 rfl t22 ?_
          refine xr_iconst 1 dX9_commit_72 (by decide) ?_
          refine xr_iadd dX9_commit_73 ?_
          refine yr_putI dX9_commit_74 fp_RX9_35 rfl t22 ?_
          refine xr_aload_n 0 dX9_commit_77 rfl rfl ?_
          refine yr_getR dX9_commit_78 fl_RX9_21 rfl t22 ?_
          obtain ⟨a27, e28, h⟩ := h
          obtain ⟨t29, h⟩ := h
          refine yr_callV (r := (xR (xsI M16 a0 4 ((xI M16 a0 4) + 1)) a0 1)) [] dX9_commit_81 cv_X9_commit_116 e28 t29 rfl (Nat.le_trans wt_0 (by decide)) (by decide) (xSp.mono h ?_)
          clear h
          intro ρ25 M24 h
          obtain ⟨rfl, h⟩ := h
          refine xr_aload_n 0 dX9_commit_84 rfl rfl ?_
          obtain ⟨t30, h⟩ := h
          refine yr_getR dX9_commit_85 fl_RX9_25 rfl t30 ?_
          refine xr_aload_n 0 dX9_commit_88 rfl rfl ?_
          refine yr_getR dX9_commit_89 fl_RX9_21 rfl t30 ?_
          obtain ⟨a35, e36, h⟩ := h
          obtain ⟨t37, h⟩ := h
          refine yr_callV (r := (xR M24 a0 2)) [va_rf (xR M24 a0 1)] dX9_commit_92 cv_X9_commit_119 e36 t37 rfl (Nat.le_trans wt_0 (by decide)) (by decide) (xSp.mono h ?_)
          clear h
          intro ρ33 M32 h
          obtain ⟨rfl, h⟩ := h
          refine xr_iload_n 1 dX9_commit_95 rfl rfl ?_
          refine xr_iconst 1 dX9_commit_96 (by decide) ?_
          refine xr_iadd dX9_commit_97 ?_
          exact xr_retv (by decide) (xRi rfl rfl dX9_commit_98) h
        · replace h := hf c39
          clear ht hf
          refine xr_aload_n 0 dX9_commit_59 rfl rfl ?_
          refine xr_iconst 1 dX9_commit_60 (by decide) ?_
          obtain ⟨t38, h⟩ := h
          refine yr_putZ dX9_commit_61 fp_RX9_39 rfl t38 (by decide) ?_
          refine xr_bipush (-3) dX9_commit_64 (by decide) ?_
          exact xr_retv (by decide) (xRi rfl rfl dX9_commit_66) h
      · replace h := hf c40
        clear ht hf
        refine xr_bipush (-2) dX9_commit_32 (by decide) ?_
        exact xr_retv (by decide) (xRi rfl rfl dX9_commit_34) h
    · replace h := hf c41
      clear ht hf
      refine xr_iconst 0 dX9_commit_22 (by decide) ?_
      exact xr_retv (by decide) (xRi rfl rfl dX9_commit_23) h
  · replace h := hf c42
    clear ht hf
    refine xr_bipush (-4) dX9_commit_7 (by decide) ?_
    exact xr_retv (by decide) (xRi rfl rfl dX9_commit_9) h
theorem dX9_back_0 : decode cX9_back 0 = .ok (.aload_n 0, 1) := by decide +kernel
theorem dX9_back_1 : decode cX9_back 1 = .ok (.getfield 39, 3) := by decide +kernel
theorem dX9_back_4 : decode cX9_back 4 = .ok (.ifCond .eq 6, 3) := by decide +kernel
theorem dX9_back_7 : decode cX9_back 7 = .ok (.bipush (-4), 2) := by decide +kernel
theorem dX9_back_9 : decode cX9_back 9 = .ok (.ireturn, 1) := by decide +kernel
theorem dX9_back_10 : decode cX9_back 10 = .ok (.aload_n 0, 1) := by decide +kernel
theorem dX9_back_11 : decode cX9_back 11 = .ok (.getfield 21, 3) := by decide +kernel
theorem dX9_back_14 : decode cX9_back 14 = .ok (.invokevirtual 105, 3) := by decide +kernel
theorem dX9_back_17 : decode cX9_back 17 = .ok (.istore_n 1, 1) := by decide +kernel
theorem dX9_back_18 : decode cX9_back 18 = .ok (.aload_n 0, 1) := by decide +kernel
theorem dX9_back_19 : decode cX9_back 19 = .ok (.getfield 21, 3) := by decide +kernel
theorem dX9_back_22 : decode cX9_back 22 = .ok (.aload_n 0, 1) := by decide +kernel
theorem dX9_back_23 : decode cX9_back 23 = .ok (.getfield 25, 3) := by decide +kernel
theorem dX9_back_26 : decode cX9_back 26 = .ok (.invokevirtual 119, 3) := by decide +kernel
theorem dX9_back_29 : decode cX9_back 29 = .ok (.iload_n 1, 1) := by decide +kernel
theorem dX9_back_30 : decode cX9_back 30 = .ok (.ireturn, 1) := by decide +kernel
set_option maxRecDepth 100000 in
set_option maxHeartbeats 4000000 in
theorem bX9_back_0 {l : Launch} {g : xG} (a0 : Nat) {M : xM} {Q : Option Value → xM → Prop} (h : (xat M a0 6 ∧ (((xI M a0 5) = 0 → (∃ a6, (xR M a0 1) = some a6 ∧ xat M a6 5 ∧ xSp l g mX8_freshNodes 0 0 [va_rf (xR M a0 1)] M (fun ρ4 M3 => ∃ v2 : Int32, ρ4 = some (.int v2) ∧ (xat M3 a0 6 ∧ (∃ a14, (xR M3 a0 1) = some a14 ∧ xat M3 a14 5 ∧ xSp l g mX8_become 0 0 [va_rf (xR M3 a0 1), va_rf (xR M3 a0 2)] M3 (fun ρ12 M11 => ρ12 = none ∧ (Q (some (.int v2)) M11))))))) ∧ (¬ (xI M a0 5) = 0 → (Q (some (.int (-4))) M))))) : xWp l g mX9_back 0 0 0 [(1, va_rf (some a0)), (0, .null)] [] (0, 0) M Q := by
  refine xr_aload_n 0 dX9_back_0 rfl rfl ?_
  obtain ⟨t1, h⟩ := h
  refine yr_getZ dX9_back_1 fl_RX9_39 rfl t1 ?_
  obtain ⟨ht, hf⟩ := h
  refine xr_if_eq 10 dX9_back_4 (by decide) (fun c17 => ?_) (fun c17 => ?_)
  · replace h := ht c17
    clear ht hf
    refine xr_aload_n 0 dX9_back_10 rfl rfl ?_
    refine yr_getR dX9_back_11 fl_RX9_21 rfl t1 ?_
    obtain ⟨a6, e7, h⟩ := h
    obtain ⟨t8, h⟩ := h
    refine yr_callV (r := (xR M a0 1)) [] dX9_back_14 cv_X9_back_105 e7 t8 rfl (Nat.le_trans wt_0 (by decide)) (by decide) (xSp.mono h ?_)
    clear h
    intro ρ4 M3 h
    obtain ⟨v2, rfl, h⟩ := h
    refine zistore_n 1 dX9_back_17 rfl (L1 := [(1, va_rf (some a0)), (1, .int v2)]) (by decide) rfl ?_
    refine xr_aload_n 0 dX9_back_18 rfl rfl ?_
    obtain ⟨t9, h⟩ := h
    refine yr_getR dX9_back_19 fl_RX9_21 rfl t9 ?_
    refine xr_aload_n 0 dX9_back_22 rfl rfl ?_
    refine yr_getR dX9_back_23 fl_RX9_25 rfl t9 ?_
    obtain ⟨a14, e15, h⟩ := h
    obtain ⟨t16, h⟩ := h
    refine yr_callV (r := (xR M3 a0 1)) [va_rf (xR M3 a0 2)] dX9_back_26 cv_X9_back_119 e15 t16 rfl (Nat.le_trans wt_0 (by decide)) (by decide) (xSp.mono h ?_)
    clear h
    intro ρ12 M11 h
    obtain ⟨rfl, h⟩ := h
    refine xr_iload_n 1 dX9_back_29 rfl rfl ?_
    exact xr_retv (by decide) (xRi rfl rfl dX9_back_30) h
  · replace h := hf c17
    clear ht hf
    refine xr_bipush (-4) dX9_back_7 (by decide) ?_
    exact xr_retv (by decide) (xRi rfl rfl dX9_back_9) h
theorem dX9_count_0 : decode cX9_count 0 = .ok (.aload_n 0, 1) := by decide +kernel
theorem dX9_count_1 : decode cX9_count 1 = .ok (.getfield 39, 3) := by decide +kernel
theorem dX9_count_4 : decode cX9_count 4 = .ok (.ifCond .eq 6, 3) := by decide +kernel
theorem dX9_count_7 : decode cX9_count 7 = .ok (.bipush (-4), 2) := by decide +kernel
theorem dX9_count_9 : decode cX9_count 9 = .ok (.ireturn, 1) := by decide +kernel
theorem dX9_count_10 : decode cX9_count 10 = .ok (.iload_n 1, 1) := by decide +kernel
theorem dX9_count_11 : decode cX9_count 11 = .ok (.tableswitch 121 0 10 #[57, 65, 73, 73, 73, 73, 84, 92, 97, 102, 113], 57) := by decide +kernel
theorem dX9_count_68 : decode cX9_count 68 = .ok (.aload_n 0, 1) := by decide +kernel
theorem dX9_count_69 : decode cX9_count 69 = .ok (.getfield 21, 3) := by decide +kernel
theorem dX9_count_72 : decode cX9_count 72 = .ok (.getfield 123, 3) := by decide +kernel
theorem dX9_count_75 : decode cX9_count 75 = .ok (.ireturn, 1) := by decide +kernel
theorem dX9_count_76 : decode cX9_count 76 = .ok (.aload_n 0, 1) := by decide +kernel
theorem dX9_count_77 : decode cX9_count 77 = .ok (.getfield 21, 3) := by decide +kernel
theorem dX9_count_80 : decode cX9_count 80 = .ok (.getfield 126, 3) := by decide +kernel
theorem dX9_count_83 : decode cX9_count 83 = .ok (.ireturn, 1) := by decide +kernel
theorem dX9_count_84 : decode cX9_count 84 = .ok (.aload_n 0, 1) := by decide +kernel
theorem dX9_count_85 : decode cX9_count 85 = .ok (.getfield 21, 3) := by decide +kernel
theorem dX9_count_88 : decode cX9_count 88 = .ok (.iload_n 1, 1) := by decide +kernel
theorem dX9_count_89 : decode cX9_count 89 = .ok (.iconst 1, 1) := by decide +kernel
theorem dX9_count_90 : decode cX9_count 90 = .ok (.isub, 1) := by decide +kernel
theorem dX9_count_91 : decode cX9_count 91 = .ok (.invokevirtual 129, 3) := by decide +kernel
theorem dX9_count_94 : decode cX9_count 94 = .ok (.ireturn, 1) := by decide +kernel
theorem dX9_count_95 : decode cX9_count 95 = .ok (.aload_n 0, 1) := by decide +kernel
theorem dX9_count_96 : decode cX9_count 96 = .ok (.getfield 21, 3) := by decide +kernel
theorem dX9_count_99 : decode cX9_count 99 = .ok (.invokevirtual 105, 3) := by decide +kernel
theorem dX9_count_102 : decode cX9_count 102 = .ok (.ireturn, 1) := by decide +kernel
theorem dX9_count_103 : decode cX9_count 103 = .ok (.aload_n 0, 1) := by decide +kernel
theorem dX9_count_104 : decode cX9_count 104 = .ok (.invokevirtual 109, 3) := by decide +kernel
theorem dX9_count_107 : decode cX9_count 107 = .ok (.ireturn, 1) := by decide +kernel
theorem dX9_count_108 : decode cX9_count 108 = .ok (.aload_n 0, 1) := by decide +kernel
theorem dX9_count_109 : decode cX9_count 109 = .ok (.getfield 35, 3) := by decide +kernel
theorem dX9_count_112 : decode cX9_count 112 = .ok (.ireturn, 1) := by decide +kernel
theorem dX9_count_113 : decode cX9_count 113 = .ok (.aload_n 0, 1) := by decide +kernel
theorem dX9_count_114 : decode cX9_count 114 = .ok (.getfield 21, 3) := by decide +kernel
theorem dX9_count_117 : decode cX9_count 117 = .ok (.getfield 132, 3) := by decide +kernel
theorem dX9_count_120 : decode cX9_count 120 = .ok (.getfield 136, 3) := by decide +kernel
theorem dX9_count_123 : decode cX9_count 123 = .ok (.ireturn, 1) := by decide +kernel
theorem dX9_count_124 : decode cX9_count 124 = .ok (.aload_n 0, 1) := by decide +kernel
theorem dX9_count_125 : decode cX9_count 125 = .ok (.getfield 21, 3) := by decide +kernel
theorem dX9_count_128 : decode cX9_count 128 = .ok (.invokevirtual 139, 3) := by decide +kernel
theorem dX9_count_131 : decode cX9_count 131 = .ok (.ireturn, 1) := by decide +kernel
theorem dX9_count_132 : decode cX9_count 132 = .ok (.iconst (-1), 1) := by decide +kernel
theorem dX9_count_133 : decode cX9_count 133 = .ok (.ireturn, 1) := by decide +kernel
set_option maxRecDepth 100000 in
set_option maxHeartbeats 4000000 in
theorem bX9_count_0 {l : Launch} {g : xG} (a0 : Nat) (x1 : Int32) {M : xM} {Q : Option Value → xM → Prop} (h : (xat M a0 6 ∧ (((xI M a0 5) = 0 → ((x1 = 0 → (∃ a2, (xR M a0 1) = some a2 ∧ xat M a2 5 ∧ (Q (some (.int (xI M a2 4))) M))) ∧ (x1 = 1 → (∃ a5, (xR M a0 1) = some a5 ∧ xat M a5 5 ∧ (Q (some (.int (xI M a5 3))) M))) ∧ (x1 = 2 → (∃ a12, (xR M a0 1) = some a12 ∧ xat M a12 5 ∧ xSp l g mX8_nodesOfFormat 0 0 [va_rf (xR M a0 1), .int (x1 - 1)] M (fun ρ10 M9 => ∃ v8 : Int32, ρ10 = some (.int v8) ∧ (Q (some (.int v8)) M9)))) ∧ (x1 = 3 → (∃ a19, (xR M a0 1) = some a19 ∧ xat M a19 5 ∧ xSp l g mX8_nodesOfFormat 0 0 [va_rf (xR M a0 1), .int (x1 - 1)] M (fun ρ17 M16 => ∃ v15 : Int32, ρ17 = some (.int v15) ∧ (Q (some (.int v15)) M16)))) ∧ (x1 = 4 → (∃ a26, (xR M a0 1) = some a26 ∧ xat M a26 5 ∧ xSp l g mX8_nodesOfFormat 0 0 [va_rf (xR M a0 1), .int (x1 - 1)] M (fun ρ24 M23 => ∃ v22 : Int32, ρ24 = some (.int v22) ∧ (Q (some (.int v22)) M23)))) ∧ (x1 = 5 → (∃ a33, (xR M a0 1) = some a33 ∧ xat M a33 5 ∧ xSp l g mX8_nodesOfFormat 0 0 [va_rf (xR M a0 1), .int (x1 - 1)] M (fun ρ31 M30 => ∃ v29 : Int32, ρ31 = some (.int v29) ∧ (Q (some (.int v29)) M30)))) ∧ (x1 = 6 → (∃ a40, (xR M a0 1) = some a40 ∧ xat M a40 5 ∧ xSp l g mX8_freshNodes 0 0 [va_rf (xR M a0 1)] M (fun ρ38 M37 => ∃ v36 : Int32, ρ38 = some (.int v36) ∧ (Q (some (.int v36)) M37)))) ∧ (x1 = 7 → (xSp l g mX9_freePages 0 0 [va_rf (some a0)] M (fun ρ45 M44 => ∃ v43 : Int32, ρ45 = some (.int v43) ∧ (Q (some (.int v43)) M44)))) ∧ (x1 = 8 → (Q (some (.int (xI M a0 4))) M)) ∧ (x1 = 9 → (∃ a47, (xR M a0 1) = some a47 ∧ xat M a47 5 ∧ (∃ a50, (xR M a47 2) = some a50 ∧ xat M a50 1 ∧ (Q (some (.int (xI M a50 7))) M)))) ∧ (x1 = 10 → (∃ a57, (xR M a0 1) = some a57 ∧ xat M a57 5 ∧ xSp l g mX8_depth 0 0 [va_rf (xR M a0 1)] M (fun ρ55 M54 => ∃ v53 : Int32, ρ55 = some (.int v53) ∧ (Q (some (.int v53)) M54)))) ∧ ((∀ k : Nat, k ≤ 10 → ¬ x1 = nI k) → (Q (some (.int (-1))) M)))) ∧ (¬ (xI M a0 5) = 0 → (Q (some (.int (-4))) M))))) : xWp l g mX9_count 0 0 0 [(1, va_rf (some a0)), (1, .int x1)] [] (0, 0) M Q := by
  refine xr_aload_n 0 dX9_count_0 rfl rfl ?_
  obtain ⟨t1, h⟩ := h
  refine yr_getZ dX9_count_1 fl_RX9_39 rfl t1 ?_
  obtain ⟨ht, hf⟩ := h
  refine xr_if_eq 10 dX9_count_4 (by decide) (fun c71 => ?_) (fun c71 => ?_)
  · replace h := ht c71
    clear ht hf
    refine xr_iload_n 1 dX9_count_10 rfl rfl ?_
    obtain ⟨h0_, h1_, h2_, h3_, h4_, h5_, h6_, h7_, h8_, h9_, h10_, h11_⟩ := h
    by_cases c60 : x1 = 0
    · replace h := h0_ c60
      refine xr_tableIn 68 dX9_count_11 (by rw [c60]; decide) (by rw [c60]; decide) (by rw [c60]; rfl) (by decide) ?_
      refine xr_aload_n 0 dX9_count_68 rfl rfl ?_
      refine yr_getR dX9_count_69 fl_RX9_21 rfl t1 ?_
      obtain ⟨a2, e3, h⟩ := h
      obtain ⟨t4, h⟩ := h
      refine yr_getI dX9_count_72 fl_RX9_123 e3 t4 ?_
      exact xr_retv (by decide) (xRi rfl rfl dX9_count_75) h
    by_cases c61 : x1 = 1
    · replace h := h1_ c61
      refine xr_tableIn 76 dX9_count_11 (by rw [c61]; decide) (by rw [c61]; decide) (by rw [c61]; rfl) (by decide) ?_
      refine xr_aload_n 0 dX9_count_76 rfl rfl ?_
      refine yr_getR dX9_count_77 fl_RX9_21 rfl t1 ?_
      obtain ⟨a5, e6, h⟩ := h
      obtain ⟨t7, h⟩ := h
      refine yr_getI dX9_count_80 fl_RX9_126 e6 t7 ?_
      exact xr_retv (by decide) (xRi rfl rfl dX9_count_83) h
    by_cases c62 : x1 = 2
    · replace h := h2_ c62
      refine xr_tableIn 84 dX9_count_11 (by rw [c62]; decide) (by rw [c62]; decide) (by rw [c62]; rfl) (by decide) ?_
      refine xr_aload_n 0 dX9_count_84 rfl rfl ?_
      refine yr_getR dX9_count_85 fl_RX9_21 rfl t1 ?_
      refine xr_iload_n 1 dX9_count_88 rfl rfl ?_
      refine xr_iconst 1 dX9_count_89 (by decide) ?_
      refine xr_isub dX9_count_90 ?_
      obtain ⟨a12, e13, h⟩ := h
      obtain ⟨t14, h⟩ := h
      refine yr_callV (r := (xR M a0 1)) [.int (x1 - 1)] dX9_count_91 cv_X9_count_129 e13 t14 rfl (Nat.le_trans wt_0 (by decide)) (by decide) (xSp.mono h ?_)
      clear h
      intro ρ10 M9 h
      obtain ⟨v8, rfl, h⟩ := h
      exact xr_retv (by decide) (xRi rfl rfl dX9_count_94) h
    by_cases c63 : x1 = 3
    · replace h := h3_ c63
      refine xr_tableIn 84 dX9_count_11 (by rw [c63]; decide) (by rw [c63]; decide) (by rw [c63]; rfl) (by decide) ?_
      refine xr_aload_n 0 dX9_count_84 rfl rfl ?_
      refine yr_getR dX9_count_85 fl_RX9_21 rfl t1 ?_
      refine xr_iload_n 1 dX9_count_88 rfl rfl ?_
      refine xr_iconst 1 dX9_count_89 (by decide) ?_
      refine xr_isub dX9_count_90 ?_
      obtain ⟨a19, e20, h⟩ := h
      obtain ⟨t21, h⟩ := h
      refine yr_callV (r := (xR M a0 1)) [.int (x1 - 1)] dX9_count_91 cv_X9_count_129 e20 t21 rfl (Nat.le_trans wt_0 (by decide)) (by decide) (xSp.mono h ?_)
      clear h
      intro ρ17 M16 h
      obtain ⟨v15, rfl, h⟩ := h
      exact xr_retv (by decide) (xRi rfl rfl dX9_count_94) h
    by_cases c64 : x1 = 4
    · replace h := h4_ c64
      refine xr_tableIn 84 dX9_count_11 (by rw [c64]; decide) (by rw [c64]; decide) (by rw [c64]; rfl) (by decide) ?_
      refine xr_aload_n 0 dX9_count_84 rfl rfl ?_
      refine yr_getR dX9_count_85 fl_RX9_21 rfl t1 ?_
      refine xr_iload_n 1 dX9_count_88 rfl rfl ?_
      refine xr_iconst 1 dX9_count_89 (by decide) ?_
      refine xr_isub dX9_count_90 ?_
      obtain ⟨a26, e27, h⟩ := h
      obtain ⟨t28, h⟩ := h
      refine yr_callV (r := (xR M a0 1)) [.int (x1 - 1)] dX9_count_91 cv_X9_count_129 e27 t28 rfl (Nat.le_trans wt_0 (by decide)) (by decide) (xSp.mono h ?_)
      clear h
      intro ρ24 M23 h
      obtain ⟨v22, rfl, h⟩ := h
      exact xr_retv (by decide) (xRi rfl rfl dX9_count_94) h
    by_cases c65 : x1 = 5
    · replace h := h5_ c65
      refine xr_tableIn 84 dX9_count_11 (by rw [c65]; decide) (by rw [c65]; decide) (by rw [c65]; rfl) (by decide) ?_
      refine xr_aload_n 0 dX9_count_84 rfl rfl ?_
      refine yr_getR dX9_count_85 fl_RX9_21 rfl t1 ?_
      refine xr_iload_n 1 dX9_count_88 rfl rfl ?_
      refine xr_iconst 1 dX9_count_89 (by decide) ?_
      refine xr_isub dX9_count_90 ?_
      obtain ⟨a33, e34, h⟩ := h
      obtain ⟨t35, h⟩ := h
      refine yr_callV (r := (xR M a0 1)) [.int (x1 - 1)] dX9_count_91 cv_X9_count_129 e34 t35 rfl (Nat.le_trans wt_0 (by decide)) (by decide) (xSp.mono h ?_)
      clear h
      intro ρ31 M30 h
      obtain ⟨v29, rfl, h⟩ := h
      exact xr_retv (by decide) (xRi rfl rfl dX9_count_94) h
    by_cases c66 : x1 = 6
    · replace h := h6_ c66
      refine xr_tableIn 95 dX9_count_11 (by rw [c66]; decide) (by rw [c66]; decide) (by rw [c66]; rfl) (by decide) ?_
      refine xr_aload_n 0 dX9_count_95 rfl rfl ?_
      refine yr_getR dX9_count_96 fl_RX9_21 rfl t1 ?_
      obtain ⟨a40, e41, h⟩ := h
      obtain ⟨t42, h⟩ := h
      refine yr_callV (r := (xR M a0 1)) [] dX9_count_99 cv_X9_count_105 e41 t42 rfl (Nat.le_trans wt_0 (by decide)) (by decide) (xSp.mono h ?_)
      clear h
      intro ρ38 M37 h
      obtain ⟨v36, rfl, h⟩ := h
      exact xr_retv (by decide) (xRi rfl rfl dX9_count_102) h
    by_cases c67 : x1 = 7
    · replace h := h7_ c67
      refine xr_tableIn 103 dX9_count_11 (by rw [c67]; decide) (by rw [c67]; decide) (by rw [c67]; rfl) (by decide) ?_
      refine xr_aload_n 0 dX9_count_103 rfl rfl ?_
      refine yr_callV (r := (some a0)) [] dX9_count_104 cv_X9_count_109 rfl t1 rfl (Nat.le_trans wt_0 (by decide)) (by decide) (xSp.mono h ?_)
      clear h
      intro ρ45 M44 h
      obtain ⟨v43, rfl, h⟩ := h
      exact xr_retv (by decide) (xRi rfl rfl dX9_count_107) h
    by_cases c68 : x1 = 8
    · replace h := h8_ c68
      refine xr_tableIn 108 dX9_count_11 (by rw [c68]; decide) (by rw [c68]; decide) (by rw [c68]; rfl) (by decide) ?_
      refine xr_aload_n 0 dX9_count_108 rfl rfl ?_
      refine yr_getI dX9_count_109 fl_RX9_35 rfl t1 ?_
      exact xr_retv (by decide) (xRi rfl rfl dX9_count_112) h
    by_cases c69 : x1 = 9
    · replace h := h9_ c69
      refine xr_tableIn 113 dX9_count_11 (by rw [c69]; decide) (by rw [c69]; decide) (by rw [c69]; rfl) (by decide) ?_
      refine xr_aload_n 0 dX9_count_113 rfl rfl ?_
      refine yr_getR dX9_count_114 fl_RX9_21 rfl t1 ?_
      obtain ⟨a47, e48, h⟩ := h
      obtain ⟨t49, h⟩ := h
      refine yr_getR dX9_count_117 fl_RX9_132 e48 t49 ?_
      obtain ⟨a50, e51, h⟩ := h
      obtain ⟨t52, h⟩ := h
      refine yr_getI dX9_count_120 fl_RX9_136 e51 t52 ?_
      exact xr_retv (by decide) (xRi rfl rfl dX9_count_123) h
    by_cases c70 : x1 = 10
    · replace h := h10_ c70
      refine xr_tableIn 124 dX9_count_11 (by rw [c70]; decide) (by rw [c70]; decide) (by rw [c70]; rfl) (by decide) ?_
      refine xr_aload_n 0 dX9_count_124 rfl rfl ?_
      refine yr_getR dX9_count_125 fl_RX9_21 rfl t1 ?_
      obtain ⟨a57, e58, h⟩ := h
      obtain ⟨t59, h⟩ := h
      refine yr_callV (r := (xR M a0 1)) [] dX9_count_128 cv_X9_count_139 e58 t59 rfl (Nat.le_trans wt_0 (by decide)) (by decide) (xSp.mono h ?_)
      clear h
      intro ρ55 M54 h
      obtain ⟨v53, rfl, h⟩ := h
      exact xr_retv (by decide) (xRi rfl rfl dX9_count_131) h
    have hout : ∀ k : Nat, k ≤ 10 → ¬ x1 = nI k := fun k hk => by
      rcases (show k = 0 ∨ k = 1 ∨ k = 2 ∨ k = 3 ∨ k = 4 ∨ k = 5 ∨ k = 6 ∨ k = 7 ∨ k = 8 ∨ k = 9 ∨ k = 10 by omega) with rfl | rfl | rfl | rfl | rfl | rfl | rfl | rfl | rfl | rfl | rfl
      · exact c60
      · exact c61
      · exact c62
      · exact c63
      · exact c64
      · exact c65
      · exact c66
      · exact c67
      · exact c68
      · exact c69
      · exact c70
    replace h := h11_ hout
    refine xr_tableOut 132 dX9_count_11 (sw_out 10 (by decide) hout) (by decide) ?_
    refine xr_iconst (-1) dX9_count_132 (by decide) ?_
    exact xr_retv (by decide) (xRi rfl rfl dX9_count_133) h
  · replace h := hf c71
    clear ht hf
    refine xr_bipush (-4) dX9_count_7 (by decide) ?_
    exact xr_retv (by decide) (xRi rfl rfl dX9_count_9) h
theorem dX9_node_0 : decode cX9_node 0 = .ok (.aload_n 0, 1) := by decide +kernel
theorem dX9_node_1 : decode cX9_node 1 = .ok (.getfield 39, 3) := by decide +kernel
theorem dX9_node_4 : decode cX9_node 4 = .ok (.ifCond .eq 6, 3) := by decide +kernel
theorem dX9_node_7 : decode cX9_node 7 = .ok (.bipush (-4), 2) := by decide +kernel
theorem dX9_node_9 : decode cX9_node 9 = .ok (.ireturn, 1) := by decide +kernel
theorem dX9_node_10 : decode cX9_node 10 = .ok (.aload_n 0, 1) := by decide +kernel
theorem dX9_node_11 : decode cX9_node 11 = .ok (.getfield 21, 3) := by decide +kernel
theorem dX9_node_14 : decode cX9_node 14 = .ok (.iload_n 1, 1) := by decide +kernel
theorem dX9_node_15 : decode cX9_node 15 = .ok (.invokevirtual 142, 3) := by decide +kernel
theorem dX9_node_18 : decode cX9_node 18 = .ok (.astore_n 3, 1) := by decide +kernel
theorem dX9_node_19 : decode cX9_node 19 = .ok (.aload_n 3, 1) := by decide +kernel
theorem dX9_node_20 : decode cX9_node 20 = .ok (.ifnonnull 5, 3) := by decide +kernel
theorem dX9_node_23 : decode cX9_node 23 = .ok (.iconst (-1), 1) := by decide +kernel
theorem dX9_node_24 : decode cX9_node 24 = .ok (.ireturn, 1) := by decide +kernel
theorem dX9_node_25 : decode cX9_node 25 = .ok (.iload_n 2, 1) := by decide +kernel
theorem dX9_node_26 : decode cX9_node 26 = .ok (.tableswitch 76 0 5 #[38, 43, 48, 53, 66, 71], 38) := by decide +kernel
theorem dX9_node_64 : decode cX9_node 64 = .ok (.aload_n 3, 1) := by decide +kernel
theorem dX9_node_65 : decode cX9_node 65 = .ok (.getfield 145, 3) := by decide +kernel
theorem dX9_node_68 : decode cX9_node 68 = .ok (.ireturn, 1) := by decide +kernel
theorem dX9_node_69 : decode cX9_node 69 = .ok (.aload_n 3, 1) := by decide +kernel
theorem dX9_node_70 : decode cX9_node 70 = .ok (.getfield 148, 3) := by decide +kernel
theorem dX9_node_73 : decode cX9_node 73 = .ok (.ireturn, 1) := by decide +kernel
theorem dX9_node_74 : decode cX9_node 74 = .ok (.aload_n 3, 1) := by decide +kernel
theorem dX9_node_75 : decode cX9_node 75 = .ok (.getfield 151, 3) := by decide +kernel
theorem dX9_node_78 : decode cX9_node 78 = .ok (.ireturn, 1) := by decide +kernel
theorem dX9_node_79 : decode cX9_node 79 = .ok (.aload_n 3, 1) := by decide +kernel
theorem dX9_node_80 : decode cX9_node 80 = .ok (.getfield 154, 3) := by decide +kernel
theorem dX9_node_83 : decode cX9_node 83 = .ok (.ifCond .eq 7, 3) := by decide +kernel
theorem dX9_node_86 : decode cX9_node 86 = .ok (.iconst 1, 1) := by decide +kernel
theorem dX9_node_87 : decode cX9_node 87 = .ok (.goto 4, 3) := by decide +kernel
theorem dX9_node_90 : decode cX9_node 90 = .ok (.iconst 0, 1) := by decide +kernel
theorem dX9_node_91 : decode cX9_node 91 = .ok (.ireturn, 1) := by decide +kernel
theorem dX9_node_92 : decode cX9_node 92 = .ok (.aload_n 3, 1) := by decide +kernel
theorem dX9_node_93 : decode cX9_node 93 = .ok (.getfield 136, 3) := by decide +kernel
theorem dX9_node_96 : decode cX9_node 96 = .ok (.ireturn, 1) := by decide +kernel
theorem dX9_node_97 : decode cX9_node 97 = .ok (.aload_n 3, 1) := by decide +kernel
theorem dX9_node_98 : decode cX9_node 98 = .ok (.invokevirtual 157, 3) := by decide +kernel
theorem dX9_node_101 : decode cX9_node 101 = .ok (.ireturn, 1) := by decide +kernel
theorem dX9_node_102 : decode cX9_node 102 = .ok (.iconst (-1), 1) := by decide +kernel
theorem dX9_node_103 : decode cX9_node 103 = .ok (.ireturn, 1) := by decide +kernel
set_option maxRecDepth 100000 in
set_option maxHeartbeats 4000000 in
theorem bX9_node_0 {l : Launch} {g : xG} (a0 : Nat) (x1 : Int32) (x2 : Int32) {M : xM} {Q : Option Value → xM → Prop} (h : (xat M a0 6 ∧ (((xI M a0 5) = 0 → (∃ a6, (xR M a0 1) = some a6 ∧ xat M a6 5 ∧ xSp l g mX8_nodeNumber 0 0 [va_rf (xR M a0 1), .int x1] M (fun ρ4 M3 => ∃ v2 : Option Nat, ρ4 = some (va_rf v2) ∧ ((¬ v2 = none → ((x2 = 0 → (∃ a9, v2 = some a9 ∧ xat M3 a9 1 ∧ (Q (some (.int (xI M3 a9 2))) M3))) ∧ (x2 = 1 → (∃ a12, v2 = some a12 ∧ xat M3 a12 1 ∧ (Q (some (.int (xI M3 a12 5))) M3))) ∧ (x2 = 2 → (∃ a15, v2 = some a15 ∧ xat M3 a15 1 ∧ (Q (some (.int (xI M3 a15 1))) M3))) ∧ (x2 = 3 → (∃ a18, v2 = some a18 ∧ xat M3 a18 1 ∧ (((xI M3 a18 3) = 0 → (Q (some (.int 0)) M3)) ∧ (¬ (xI M3 a18 3) = 0 → (Q (some (.int 1)) M3))))) ∧ (x2 = 4 → (∃ a22, v2 = some a22 ∧ xat M3 a22 1 ∧ (Q (some (.int (xI M3 a22 7))) M3))) ∧ (x2 = 5 → (∃ a29, v2 = some a29 ∧ xat M3 a29 1 ∧ xSp l g mX3_lead 0 0 [va_rf v2] M3 (fun ρ27 M26 => ∃ v25 : Int32, ρ27 = some (.int v25) ∧ (Q (some (.int v25)) M26)))) ∧ ((∀ k : Nat, k ≤ 5 → ¬ x2 = nI k) → (Q (some (.int (-1))) M3)))) ∧ (v2 = none → (Q (some (.int (-1))) M3)))))) ∧ (¬ (xI M a0 5) = 0 → (Q (some (.int (-4))) M))))) : xWp l g mX9_node 0 0 0 [(1, va_rf (some a0)), (1, .int x1), (1, .int x2), (0, .null)] [] (0, 0) M Q := by
  refine xr_aload_n 0 dX9_node_0 rfl rfl ?_
  obtain ⟨t1, h⟩ := h
  refine yr_getZ dX9_node_1 fl_RX9_39 rfl t1 ?_
  obtain ⟨ht, hf⟩ := h
  refine xr_if_eq 10 dX9_node_4 (by decide) (fun c39 => ?_) (fun c39 => ?_)
  · replace h := ht c39
    clear ht hf
    refine xr_aload_n 0 dX9_node_10 rfl rfl ?_
    refine yr_getR dX9_node_11 fl_RX9_21 rfl t1 ?_
    refine xr_iload_n 1 dX9_node_14 rfl rfl ?_
    obtain ⟨a6, e7, h⟩ := h
    obtain ⟨t8, h⟩ := h
    refine yr_callV (r := (xR M a0 1)) [.int x1] dX9_node_15 cv_X9_node_142 e7 t8 rfl (Nat.le_trans wt_0 (by decide)) (by decide) (xSp.mono h ?_)
    clear h
    intro ρ4 M3 h
    obtain ⟨v2, rfl, h⟩ := h
    refine zastore_n 3 dX9_node_18 rfl (L1 := [(1, va_rf (some a0)), (1, .int x1), (1, .int x2), (1, va_rf v2)]) (by decide) rfl ?_
    refine xr_aload_n 3 dX9_node_19 rfl rfl ?_
    obtain ⟨ht, hf⟩ := h
    refine xr_ifnonnull 25 dX9_node_20 (by decide) (fun c38 => ?_) (fun c38 => ?_)
    · replace h := ht c38
      clear ht hf
      refine xr_iload_n 2 dX9_node_25 rfl rfl ?_
      obtain ⟨h0_, h1_, h2_, h3_, h4_, h5_, h6_⟩ := h
      by_cases c32 : x2 = 0
      · replace h := h0_ c32
        refine xr_tableIn 64 dX9_node_26 (by rw [c32]; decide) (by rw [c32]; decide) (by rw [c32]; rfl) (by decide) ?_
        refine xr_aload_n 3 dX9_node_64 rfl rfl ?_
        obtain ⟨a9, e10, h⟩ := h
        obtain ⟨t11, h⟩ := h
        refine yr_getI dX9_node_65 fl_RX9_145 e10 t11 ?_
        exact xr_retv (by decide) (xRi rfl rfl dX9_node_68) h
      by_cases c33 : x2 = 1
      · replace h := h1_ c33
        refine xr_tableIn 69 dX9_node_26 (by rw [c33]; decide) (by rw [c33]; decide) (by rw [c33]; rfl) (by decide) ?_
        refine xr_aload_n 3 dX9_node_69 rfl rfl ?_
        obtain ⟨a12, e13, h⟩ := h
        obtain ⟨t14, h⟩ := h
        refine yr_getI dX9_node_70 fl_RX9_148 e13 t14 ?_
        exact xr_retv (by decide) (xRi rfl rfl dX9_node_73) h
      by_cases c34 : x2 = 2
      · replace h := h2_ c34
        refine xr_tableIn 74 dX9_node_26 (by rw [c34]; decide) (by rw [c34]; decide) (by rw [c34]; rfl) (by decide) ?_
        refine xr_aload_n 3 dX9_node_74 rfl rfl ?_
        obtain ⟨a15, e16, h⟩ := h
        obtain ⟨t17, h⟩ := h
        refine yr_getI dX9_node_75 fl_RX9_151 e16 t17 ?_
        exact xr_retv (by decide) (xRi rfl rfl dX9_node_78) h
      by_cases c35 : x2 = 3
      · replace h := h3_ c35
        refine xr_tableIn 79 dX9_node_26 (by rw [c35]; decide) (by rw [c35]; decide) (by rw [c35]; rfl) (by decide) ?_
        refine xr_aload_n 3 dX9_node_79 rfl rfl ?_
        obtain ⟨a18, e19, h⟩ := h
        obtain ⟨t20, h⟩ := h
        refine yr_getZ dX9_node_80 fl_RX9_154 e19 t20 ?_
        obtain ⟨ht, hf⟩ := h
        refine xr_if_eq 90 dX9_node_83 (by decide) (fun c21 => ?_) (fun c21 => ?_)
        · replace h := ht c21
          clear ht hf
          refine xr_iconst 0 dX9_node_90 (by decide) ?_
          exact xr_retv (by decide) (xRi rfl rfl dX9_node_91) h
        · replace h := hf c21
          clear ht hf
          refine xr_iconst 1 dX9_node_86 (by decide) ?_
          refine xr_goto 91 dX9_node_87 (by decide) ?_
          exact xr_retv (by decide) (xRi rfl rfl dX9_node_91) h
      by_cases c36 : x2 = 4
      · replace h := h4_ c36
        refine xr_tableIn 92 dX9_node_26 (by rw [c36]; decide) (by rw [c36]; decide) (by rw [c36]; rfl) (by decide) ?_
        refine xr_aload_n 3 dX9_node_92 rfl rfl ?_
        obtain ⟨a22, e23, h⟩ := h
        obtain ⟨t24, h⟩ := h
        refine yr_getI dX9_node_93 fl_RX9_136 e23 t24 ?_
        exact xr_retv (by decide) (xRi rfl rfl dX9_node_96) h
      by_cases c37 : x2 = 5
      · replace h := h5_ c37
        refine xr_tableIn 97 dX9_node_26 (by rw [c37]; decide) (by rw [c37]; decide) (by rw [c37]; rfl) (by decide) ?_
        refine xr_aload_n 3 dX9_node_97 rfl rfl ?_
        obtain ⟨a29, e30, h⟩ := h
        obtain ⟨t31, h⟩ := h
        refine yr_callV (r := v2) [] dX9_node_98 cv_X9_node_157 e30 t31 rfl (Nat.le_trans wt_0 (by decide)) (by decide) (xSp.mono h ?_)
        clear h
        intro ρ27 M26 h
        obtain ⟨v25, rfl, h⟩ := h
        exact xr_retv (by decide) (xRi rfl rfl dX9_node_101) h
      have hout : ∀ k : Nat, k ≤ 5 → ¬ x2 = nI k := fun k hk => by
        rcases (show k = 0 ∨ k = 1 ∨ k = 2 ∨ k = 3 ∨ k = 4 ∨ k = 5 by omega) with rfl | rfl | rfl | rfl | rfl | rfl
        · exact c32
        · exact c33
        · exact c34
        · exact c35
        · exact c36
        · exact c37
      replace h := h6_ hout
      refine xr_tableOut 102 dX9_node_26 (sw_out 5 (by decide) hout) (by decide) ?_
      refine xr_iconst (-1) dX9_node_102 (by decide) ?_
      exact xr_retv (by decide) (xRi rfl rfl dX9_node_103) h
    · replace h := hf c38
      clear ht hf
      refine xr_iconst (-1) dX9_node_23 (by decide) ?_
      exact xr_retv (by decide) (xRi rfl rfl dX9_node_24) h
  · replace h := hf c39
    clear ht hf
    refine xr_bipush (-4) dX9_node_7 (by decide) ?_
    exact xr_retv (by decide) (xRi rfl rfl dX9_node_9) h
theorem dX9_power_0 : decode cX9_power 0 = .ok (.aload_n 0, 1) := by decide +kernel
theorem dX9_power_1 : decode cX9_power 1 = .ok (.getfield 39, 3) := by decide +kernel
theorem dX9_power_4 : decode cX9_power 4 = .ok (.ifCond .eq 6, 3) := by decide +kernel
theorem dX9_power_7 : decode cX9_power 7 = .ok (.bipush (-4), 2) := by decide +kernel
theorem dX9_power_9 : decode cX9_power 9 = .ok (.ireturn, 1) := by decide +kernel
theorem dX9_power_10 : decode cX9_power 10 = .ok (.iload_n 1, 1) := by decide +kernel
theorem dX9_power_11 : decode cX9_power 11 = .ok (.iconst (-1), 1) := by decide +kernel
theorem dX9_power_12 : decode cX9_power 12 = .ok (.if_icmp .lt 21, 3) := by decide +kernel
theorem dX9_power_15 : decode cX9_power 15 = .ok (.iload_n 1, 1) := by decide +kernel
theorem dX9_power_16 : decode cX9_power 16 = .ok (.sipush 1000, 3) := by decide +kernel
theorem dX9_power_19 : decode cX9_power 19 = .ok (.if_icmp .gt 14, 3) := by decide +kernel
theorem dX9_power_22 : decode cX9_power 22 = .ok (.iload_n 2, 1) := by decide +kernel
theorem dX9_power_23 : decode cX9_power 23 = .ok (.ifCond .lt 10, 3) := by decide +kernel
theorem dX9_power_26 : decode cX9_power 26 = .ok (.iload_n 2, 1) := by decide +kernel
theorem dX9_power_27 : decode cX9_power 27 = .ok (.sipush 512, 3) := by decide +kernel
theorem dX9_power_30 : decode cX9_power 30 = .ok (.if_icmp .lt 5, 3) := by decide +kernel
theorem dX9_power_33 : decode cX9_power 33 = .ok (.iconst (-1), 1) := by decide +kernel
theorem dX9_power_34 : decode cX9_power 34 = .ok (.ireturn, 1) := by decide +kernel
theorem dX9_power_35 : decode cX9_power 35 = .ok (.aload_n 0, 1) := by decide +kernel
theorem dX9_power_36 : decode cX9_power 36 = .ok (.getfield 31, 3) := by decide +kernel
theorem dX9_power_39 : decode cX9_power 39 = .ok (.getfield 162, 3) := by decide +kernel
theorem dX9_power_42 : decode cX9_power 42 = .ok (.iload_n 1, 1) := by decide +kernel
theorem dX9_power_43 : decode cX9_power 43 = .ok (.iload_n 2, 1) := by decide +kernel
theorem dX9_power_44 : decode cX9_power 44 = .ok (.invokevirtual 166, 3) := by decide +kernel
theorem dX9_power_47 : decode cX9_power 47 = .ok (.iconst 1, 1) := by decide +kernel
theorem dX9_power_48 : decode cX9_power 48 = .ok (.ireturn, 1) := by decide +kernel
set_option maxRecDepth 100000 in
set_option maxHeartbeats 4000000 in
theorem bX9_power_0 {l : Launch} {g : xG} (a0 : Nat) (x1 : Int32) (x2 : Int32) {M : xM} {Q : Option Value → xM → Prop} (h : (xat M a0 6 ∧ (((xI M a0 5) = 0 → ((x1 < (-1) → (Q (some (.int (-1))) M)) ∧ (¬ x1 < (-1) → ((1000 < x1 → (Q (some (.int (-1))) M)) ∧ (¬ 1000 < x1 → ((x2 < 0 → (Q (some (.int (-1))) M)) ∧ (¬ x2 < 0 → ((x2 < 512 → (∃ a2, (xR M a0 3) = some a2 ∧ xat M a2 3 ∧ (∃ a9, (xR M a2 0) = some a9 ∧ xat M a9 0 ∧ xSp l g mX0_setPower 0 0 [va_rf (xR M a2 0), .int x1, .int x2] M (fun ρ7 M6 => ρ7 = none ∧ (Q (some (.int 1)) M6))))) ∧ (¬ x2 < 512 → (Q (some (.int (-1))) M)))))))))) ∧ (¬ (xI M a0 5) = 0 → (Q (some (.int (-4))) M))))) : xWp l g mX9_power 0 0 0 [(1, va_rf (some a0)), (1, .int x1), (1, .int x2)] [] (0, 0) M Q := by
  refine xr_aload_n 0 dX9_power_0 rfl rfl ?_
  obtain ⟨t1, h⟩ := h
  refine yr_getZ dX9_power_1 fl_RX9_39 rfl t1 ?_
  obtain ⟨ht, hf⟩ := h
  refine xr_if_eq 10 dX9_power_4 (by decide) (fun c16 => ?_) (fun c16 => ?_)
  · replace h := ht c16
    clear ht hf
    refine xr_iload_n 1 dX9_power_10 rfl rfl ?_
    refine xr_iconst (-1) dX9_power_11 (by decide) ?_
    obtain ⟨ht, hf⟩ := h
    refine xr_icmp_lt 33 dX9_power_12 (by decide) (fun c15 => ?_) (fun c15 => ?_)
    · replace h := ht c15
      clear ht hf
      refine xr_iconst (-1) dX9_power_33 (by decide) ?_
      exact xr_retv (by decide) (xRi rfl rfl dX9_power_34) h
    · replace h := hf c15
      clear ht hf
      refine xr_iload_n 1 dX9_power_15 rfl rfl ?_
      refine xr_sipush 1000 dX9_power_16 (by decide) ?_
      obtain ⟨ht, hf⟩ := h
      refine xr_icmp_gt 33 dX9_power_19 (by decide) (fun c14 => ?_) (fun c14 => ?_)
      · replace h := ht c14
        clear ht hf
        refine xr_iconst (-1) dX9_power_33 (by decide) ?_
        exact xr_retv (by decide) (xRi rfl rfl dX9_power_34) h
      · replace h := hf c14
        clear ht hf
        refine xr_iload_n 2 dX9_power_22 rfl rfl ?_
        obtain ⟨ht, hf⟩ := h
        refine xr_if_lt 33 dX9_power_23 (by decide) (fun c13 => ?_) (fun c13 => ?_)
        · replace h := ht c13
          clear ht hf
          refine xr_iconst (-1) dX9_power_33 (by decide) ?_
          exact xr_retv (by decide) (xRi rfl rfl dX9_power_34) h
        · replace h := hf c13
          clear ht hf
          refine xr_iload_n 2 dX9_power_26 rfl rfl ?_
          refine xr_sipush 512 dX9_power_27 (by decide) ?_
          obtain ⟨ht, hf⟩ := h
          refine xr_icmp_lt 35 dX9_power_30 (by decide) (fun c12 => ?_) (fun c12 => ?_)
          · replace h := ht c12
            clear ht hf
            refine xr_aload_n 0 dX9_power_35 rfl rfl ?_
            refine yr_getR dX9_power_36 fl_RX9_31 rfl t1 ?_
            obtain ⟨a2, e3, h⟩ := h
            obtain ⟨t4, h⟩ := h
            refine yr_getR dX9_power_39 fl_RX9_162 e3 t4 ?_
            refine xr_iload_n 1 dX9_power_42 rfl rfl ?_
            refine xr_iload_n 2 dX9_power_43 rfl rfl ?_
            obtain ⟨a9, e10, h⟩ := h
            obtain ⟨t11, h⟩ := h
            refine yr_callV (r := (xR M a2 0)) [.int x1, .int x2] dX9_power_44 cv_X9_power_166 e10 t11 rfl (Nat.le_trans wt_0 (by decide)) (by decide) (xSp.mono h ?_)
            clear h
            intro ρ7 M6 h
            obtain ⟨rfl, h⟩ := h
            refine xr_iconst 1 dX9_power_47 (by decide) ?_
            exact xr_retv (by decide) (xRi rfl rfl dX9_power_48) h
          · replace h := hf c12
            clear ht hf
            refine xr_iconst (-1) dX9_power_33 (by decide) ?_
            exact xr_retv (by decide) (xRi rfl rfl dX9_power_34) h
  · replace h := hf c16
    clear ht hf
    refine xr_bipush (-4) dX9_power_7 (by decide) ?_
    exact xr_retv (by decide) (xRi rfl rfl dX9_power_9) h
theorem dX9_start_0 : decode cX9_start 0 = .ok (.aload_n 0, 1) := by decide +kernel
theorem dX9_start_1 : decode cX9_start 1 = .ok (.getfield 39, 3) := by decide +kernel
theorem dX9_start_4 : decode cX9_start 4 = .ok (.ifCond .ne 5, 3) := by decide +kernel
theorem dX9_start_7 : decode cX9_start 7 = .ok (.iconst (-1), 1) := by decide +kernel
theorem dX9_start_8 : decode cX9_start 8 = .ok (.ireturn, 1) := by decide +kernel
theorem dX9_start_9 : decode cX9_start 9 = .ok (.aload_n 0, 1) := by decide +kernel
theorem dX9_start_10 : decode cX9_start 10 = .ok (.iconst 0, 1) := by decide +kernel
theorem dX9_start_11 : decode cX9_start 11 = .ok (.putfield 39, 3) := by decide +kernel
theorem dX9_start_14 : decode cX9_start 14 = .ok (.aload_n 0, 1) := by decide +kernel
theorem dX9_start_15 : decode cX9_start 15 = .ok (.getfield 31, 3) := by decide +kernel
theorem dX9_start_18 : decode cX9_start 18 = .ok (.getfield 162, 3) := by decide +kernel
theorem dX9_start_21 : decode cX9_start 21 = .ok (.iconst (-1), 1) := by decide +kernel
theorem dX9_start_22 : decode cX9_start 22 = .ok (.iconst 0, 1) := by decide +kernel
theorem dX9_start_23 : decode cX9_start 23 = .ok (.invokevirtual 166, 3) := by decide +kernel
theorem dX9_start_26 : decode cX9_start 26 = .ok (.aload_n 0, 1) := by decide +kernel
theorem dX9_start_27 : decode cX9_start 27 = .ok (.aload_n 0, 1) := by decide +kernel
theorem dX9_start_28 : decode cX9_start 28 = .ok (.getfield 31, 3) := by decide +kernel
theorem dX9_start_31 : decode cX9_start 31 = .ok (.aload_n 0, 1) := by decide +kernel
theorem dX9_start_32 : decode cX9_start 32 = .ok (.getfield 21, 3) := by decide +kernel
theorem dX9_start_35 : decode cX9_start 35 = .ok (.invokevirtual 170, 3) := by decide +kernel
theorem dX9_start_38 : decode cX9_start 38 = .ok (.putfield 35, 3) := by decide +kernel
theorem dX9_start_41 : decode cX9_start 41 = .ok (.aload_n 0, 1) := by decide +kernel
theorem dX9_start_42 : decode cX9_start 42 = .ok (.getfield 25, 3) := by decide +kernel
theorem dX9_start_45 : decode cX9_start 45 = .ok (.aload_n 0, 1) := by decide +kernel
theorem dX9_start_46 : decode cX9_start 46 = .ok (.getfield 21, 3) := by decide +kernel
theorem dX9_start_49 : decode cX9_start 49 = .ok (.invokevirtual 119, 3) := by decide +kernel
theorem dX9_start_52 : decode cX9_start 52 = .ok (.aload_n 0, 1) := by decide +kernel
theorem dX9_start_53 : decode cX9_start 53 = .ok (.getfield 35, 3) := by decide +kernel
theorem dX9_start_56 : decode cX9_start 56 = .ok (.ireturn, 1) := by decide +kernel
set_option maxRecDepth 100000 in
set_option maxHeartbeats 4000000 in
theorem bX9_start_0 {l : Launch} {g : xG} (a0 : Nat) {M : xM} {Q : Option Value → xM → Prop} (h : (xat M a0 6 ∧ ((¬ (xI M a0 5) = 0 → (∃ a2, (xR (xsI M a0 5 0) a0 3) = some a2 ∧ xat (xsI M a0 5 0) a2 3 ∧ (∃ a9, (xR (xsI M a0 5 0) a2 0) = some a9 ∧ xat (xsI M a0 5 0) a9 0 ∧ xSp l g mX0_setPower 0 0 [va_rf (xR (xsI M a0 5 0) a2 0), .int (-1), .int 0] (xsI M a0 5 0) (fun ρ7 M6 => ρ7 = none ∧ (xat M6 a0 6 ∧ (∃ a17, (xR M6 a0 3) = some a17 ∧ xat M6 a17 3 ∧ xSp l g mX6_load 0 0 [va_rf (xR M6 a0 3), va_rf (xR M6 a0 1)] M6 (fun ρ15 M14 => ∃ v13 : Int32, ρ15 = some (.int v13) ∧ (xat M14 a0 6 ∧ (∃ a25, (xR (xsI M14 a0 4 v13) a0 2) = some a25 ∧ xat (xsI M14 a0 4 v13) a25 5 ∧ xSp l g mX8_become 0 0 [va_rf (xR (xsI M14 a0 4 v13) a0 2), va_rf (xR (xsI M14 a0 4 v13) a0 1)] (xsI M14 a0 4 v13) (fun ρ23 M22 => ρ23 = none ∧ (xat M22 a0 6 ∧ (Q (some (.int (xI M22 a0 4))) M22)))))))))))) ∧ ((xI M a0 5) = 0 → (Q (some (.int (-1))) M))))) : xWp l g mX9_start 0 0 0 [(1, va_rf (some a0))] [] (0, 0) M Q := by
  refine xr_aload_n 0 dX9_start_0 rfl rfl ?_
  obtain ⟨t1, h⟩ := h
  refine yr_getZ dX9_start_1 fl_RX9_39 rfl t1 ?_
  obtain ⟨ht, hf⟩ := h
  refine xr_if_ne 9 dX9_start_4 (by decide) (fun c29 => ?_) (fun c29 => ?_)
  · replace h := ht c29
    clear ht hf
    refine xr_aload_n 0 dX9_start_9 rfl rfl ?_
    refine xr_iconst 0 dX9_start_10 (by decide) ?_
    refine yr_putZ dX9_start_11 fp_RX9_39 rfl t1 (by decide) ?_
    refine xr_aload_n 0 dX9_start_14 rfl rfl ?_
    refine yr_getR dX9_start_15 fl_RX9_31 rfl t1 ?_
    obtain ⟨a2, e3, h⟩ := h
    obtain ⟨t4, h⟩ := h
    refine yr_getR dX9_start_18 fl_RX9_162 e3 t4 ?_
    refine xr_iconst (-1) dX9_start_21 (by decide) ?_
    refine xr_iconst 0 dX9_start_22 (by decide) ?_
    obtain ⟨a9, e10, h⟩ := h
    obtain ⟨t11, h⟩ := h
    refine yr_callV (r := (xR (xsI M a0 5 0) a2 0)) [.int (-1), .int 0] dX9_start_23 cv_X9_start_166 e10 t11 rfl (Nat.le_trans wt_0 (by decide)) (by decide) (xSp.mono h ?_)
    clear h
    intro ρ7 M6 h
    obtain ⟨rfl, h⟩ := h
    refine xr_aload_n 0 dX9_start_26 rfl rfl ?_
    refine xr_aload_n 0 dX9_start_27 rfl rfl ?_
    obtain ⟨t12, h⟩ := h
    refine yr_getR dX9_start_28 fl_RX9_31 rfl t12 ?_
    refine xr_aload_n 0 dX9_start_31 rfl rfl ?_
    refine yr_getR dX9_start_32 fl_RX9_21 rfl t12 ?_
    obtain ⟨a17, e18, h⟩ := h
    obtain ⟨t19, h⟩ := h
    refine yr_callV (r := (xR M6 a0 3)) [va_rf (xR M6 a0 1)] dX9_start_35 cv_X9_start_170 e18 t19 rfl (Nat.le_trans (wt_r wt_0) (by decide)) (by decide) (xSp.mono h ?_)
    clear h
    intro ρ15 M14 h
    obtain ⟨v13, rfl, h⟩ := h
    obtain ⟨t20, h⟩ := h
    refine yr_putI dX9_start_38 fp_RX9_35 rfl t20 ?_
    refine xr_aload_n 0 dX9_start_41 rfl rfl ?_
    refine yr_getR dX9_start_42 fl_RX9_25 rfl t20 ?_
    refine xr_aload_n 0 dX9_start_45 rfl rfl ?_
    refine yr_getR dX9_start_46 fl_RX9_21 rfl t20 ?_
    obtain ⟨a25, e26, h⟩ := h
    obtain ⟨t27, h⟩ := h
    refine yr_callV (r := (xR (xsI M14 a0 4 v13) a0 2)) [va_rf (xR (xsI M14 a0 4 v13) a0 1)] dX9_start_49 cv_X9_start_119 e26 t27 rfl (Nat.le_trans wt_0 (by decide)) (by decide) (xSp.mono h ?_)
    clear h
    intro ρ23 M22 h
    obtain ⟨rfl, h⟩ := h
    refine xr_aload_n 0 dX9_start_52 rfl rfl ?_
    obtain ⟨t28, h⟩ := h
    refine yr_getI dX9_start_53 fl_RX9_35 rfl t28 ?_
    exact xr_retv (by decide) (xRi rfl rfl dX9_start_56) h
  · replace h := hf c29
    clear ht hf
    refine xr_iconst (-1) dX9_start_7 (by decide) ?_
    exact xr_retv (by decide) (xRi rfl rfl dX9_start_8) h
theorem dX9_halt_0 : decode cX9_halt 0 = .ok (.aload_n 0, 1) := by decide +kernel
theorem dX9_halt_1 : decode cX9_halt 1 = .ok (.getfield 39, 3) := by decide +kernel
theorem dX9_halt_4 : decode cX9_halt 4 = .ok (.ifCond .eq 6, 3) := by decide +kernel
theorem dX9_halt_7 : decode cX9_halt 7 = .ok (.bipush (-4), 2) := by decide +kernel
theorem dX9_halt_9 : decode cX9_halt 9 = .ok (.ireturn, 1) := by decide +kernel
theorem dX9_halt_10 : decode cX9_halt 10 = .ok (.aload_n 0, 1) := by decide +kernel
theorem dX9_halt_11 : decode cX9_halt 11 = .ok (.iconst 1, 1) := by decide +kernel
theorem dX9_halt_12 : decode cX9_halt 12 = .ok (.putfield 39, 3) := by decide +kernel
theorem dX9_halt_15 : decode cX9_halt 15 = .ok (.iconst 1, 1) := by decide +kernel
theorem dX9_halt_16 : decode cX9_halt 16 = .ok (.ireturn, 1) := by decide +kernel
set_option maxRecDepth 100000 in
set_option maxHeartbeats 4000000 in
theorem bX9_halt_0 {l : Launch} {g : xG} (a0 : Nat) {M : xM} {Q : Option Value → xM → Prop} (h : (xat M a0 6 ∧ (((xI M a0 5) = 0 → (Q (some (.int 1)) (xsI M a0 5 1))) ∧ (¬ (xI M a0 5) = 0 → (Q (some (.int (-4))) M))))) : xWp l g mX9_halt 0 0 0 [(1, va_rf (some a0))] [] (0, 0) M Q := by
  refine xr_aload_n 0 dX9_halt_0 rfl rfl ?_
  obtain ⟨t1, h⟩ := h
  refine yr_getZ dX9_halt_1 fl_RX9_39 rfl t1 ?_
  obtain ⟨ht, hf⟩ := h
  refine xr_if_eq 10 dX9_halt_4 (by decide) (fun c2 => ?_) (fun c2 => ?_)
  · replace h := ht c2
    clear ht hf
    refine xr_aload_n 0 dX9_halt_10 rfl rfl ?_
    refine xr_iconst 1 dX9_halt_11 (by decide) ?_
    refine yr_putZ dX9_halt_12 fp_RX9_39 rfl t1 (by decide) ?_
    refine xr_iconst 1 dX9_halt_15 (by decide) ?_
    exact xr_retv (by decide) (xRi rfl rfl dX9_halt_16) h
  · replace h := hf c2
    clear ht hf
    refine xr_bipush (-4) dX9_halt_7 (by decide) ?_
    exact xr_retv (by decide) (xRi rfl rfl dX9_halt_9) h
theorem dX9_octet_0 : decode cX9_octet 0 = .ok (.iload_n 1, 1) := by decide +kernel
theorem dX9_octet_1 : decode cX9_octet 1 = .ok (.iload_n 2, 1) := by decide +kernel
theorem dX9_octet_2 : decode cX9_octet 2 = .ok (.invokestatic 174, 3) := by decide +kernel
theorem dX9_octet_5 : decode cX9_octet 5 = .ok (.ifCond .ne 13, 3) := by decide +kernel
theorem dX9_octet_8 : decode cX9_octet 8 = .ok (.new 178, 3) := by decide +kernel
theorem dX9_octet_11 : decode cX9_octet 11 = .ok (.dup, 1) := by decide +kernel
theorem dX9_octet_12 : decode cX9_octet 12 = .ok (.ldc 180, 2) := by decide +kernel
theorem dX9_octet_14 : decode cX9_octet 14 = .ok (.invokespecial 182, 3) := by decide +kernel
theorem dX9_octet_17 : decode cX9_octet 17 = .ok (.athrow, 1) := by decide +kernel
theorem dX9_octet_18 : decode cX9_octet 18 = .ok (.aload_n 0, 1) := by decide +kernel
theorem dX9_octet_19 : decode cX9_octet 19 = .ok (.getfield 31, 3) := by decide +kernel
theorem dX9_octet_22 : decode cX9_octet 22 = .ok (.getfield 162, 3) := by decide +kernel
theorem dX9_octet_25 : decode cX9_octet 25 = .ok (.iload_n 1, 1) := by decide +kernel
theorem dX9_octet_26 : decode cX9_octet 26 = .ok (.iload_n 2, 1) := by decide +kernel
theorem dX9_octet_27 : decode cX9_octet 27 = .ok (.invokevirtual 183, 3) := by decide +kernel
theorem dX9_octet_30 : decode cX9_octet 30 = .ok (.ireturn, 1) := by decide +kernel
set_option maxRecDepth 100000 in
set_option maxHeartbeats 4000000 in
theorem bX9_octet_0 {l : Launch} {g : xG} (a0 : Nat) (x1 : Int32) (x2 : Int32) {M : xM} {Q : Option Value → xM → Prop} (h : (xSp l g mX0_has 0 0 [.int x1, .int x2] M (fun ρ3 M2 => ∃ v1 : Int32, ρ3 = some (.int v1) ∧ ((¬ v1 = 0 → (xat M2 a0 6 ∧ (∃ a6, (xR M2 a0 3) = some a6 ∧ xat M2 a6 3 ∧ (∃ a13, (xR M2 a6 0) = some a13 ∧ xat M2 a13 0 ∧ xSp l g mX0_byteAt 0 0 [va_rf (xR M2 a6 0), .int x1, .int x2] M2 (fun ρ11 M10 => ∃ v9 : Int32, ρ11 = some (.int v9) ∧ (Q (some (.int v9)) M10)))))) ∧ (v1 = 0 → False))))) : xWp l g mX9_octet 0 0 0 [(1, va_rf (some a0)), (1, .int x1), (1, .int x2)] [] (0, 0) M Q := by
  refine xr_iload_n 1 dX9_octet_0 rfl rfl ?_
  refine xr_iload_n 2 dX9_octet_1 rfl rfl ?_
  refine xr_callS [.int x1, .int x2] dX9_octet_2 cs_X9_octet_174 rfl (Nat.le_trans wt_0 (by decide)) (by decide) (xSp.mono h ?_)
  clear h
  intro ρ3 M2 h
  obtain ⟨v1, rfl, h⟩ := h
  obtain ⟨ht, hf⟩ := h
  refine xr_if_ne 18 dX9_octet_5 (by decide) (fun c16 => ?_) (fun c16 => ?_)
  · replace h := ht c16
    clear ht hf
    refine xr_aload_n 0 dX9_octet_18 rfl rfl ?_
    obtain ⟨t5, h⟩ := h
    refine yr_getR dX9_octet_19 fl_RX9_31 rfl t5 ?_
    obtain ⟨a6, e7, h⟩ := h
    obtain ⟨t8, h⟩ := h
    refine yr_getR dX9_octet_22 fl_RX9_162 e7 t8 ?_
    refine xr_iload_n 1 dX9_octet_25 rfl rfl ?_
    refine xr_iload_n 2 dX9_octet_26 rfl rfl ?_
    obtain ⟨a13, e14, h⟩ := h
    obtain ⟨t15, h⟩ := h
    refine yr_callV (r := (xR M2 a6 0)) [.int x1, .int x2] dX9_octet_27 cv_X9_octet_183 e14 t15 rfl (Nat.le_trans wt_0 (by decide)) (by decide) (xSp.mono h ?_)
    clear h
    intro ρ11 M10 h
    obtain ⟨v9, rfl, h⟩ := h
    exact xr_retv (by decide) (xRi rfl rfl dX9_octet_30) h
  · replace h := hf c16
    clear ht hf
    exact h.elim
theorem dX9_poke_0 : decode cX9_poke 0 = .ok (.iload_n 1, 1) := by decide +kernel
theorem dX9_poke_1 : decode cX9_poke 1 = .ok (.iload_n 2, 1) := by decide +kernel
theorem dX9_poke_2 : decode cX9_poke 2 = .ok (.invokestatic 174, 3) := by decide +kernel
theorem dX9_poke_5 : decode cX9_poke 5 = .ok (.ifCond .ne 13, 3) := by decide +kernel
theorem dX9_poke_8 : decode cX9_poke 8 = .ok (.new 178, 3) := by decide +kernel
theorem dX9_poke_11 : decode cX9_poke 11 = .ok (.dup, 1) := by decide +kernel
theorem dX9_poke_12 : decode cX9_poke 12 = .ok (.ldc 180, 2) := by decide +kernel
theorem dX9_poke_14 : decode cX9_poke 14 = .ok (.invokespecial 182, 3) := by decide +kernel
theorem dX9_poke_17 : decode cX9_poke 17 = .ok (.athrow, 1) := by decide +kernel
theorem dX9_poke_18 : decode cX9_poke 18 = .ok (.aload_n 0, 1) := by decide +kernel
theorem dX9_poke_19 : decode cX9_poke 19 = .ok (.getfield 31, 3) := by decide +kernel
theorem dX9_poke_22 : decode cX9_poke 22 = .ok (.getfield 162, 3) := by decide +kernel
theorem dX9_poke_25 : decode cX9_poke 25 = .ok (.iload_n 1, 1) := by decide +kernel
theorem dX9_poke_26 : decode cX9_poke 26 = .ok (.iload_n 2, 1) := by decide +kernel
theorem dX9_poke_27 : decode cX9_poke 27 = .ok (.aload_n 0, 1) := by decide +kernel
theorem dX9_poke_28 : decode cX9_poke 28 = .ok (.getfield 31, 3) := by decide +kernel
theorem dX9_poke_31 : decode cX9_poke 31 = .ok (.getfield 162, 3) := by decide +kernel
theorem dX9_poke_34 : decode cX9_poke 34 = .ok (.iload_n 1, 1) := by decide +kernel
theorem dX9_poke_35 : decode cX9_poke 35 = .ok (.iload_n 2, 1) := by decide +kernel
theorem dX9_poke_36 : decode cX9_poke 36 = .ok (.invokevirtual 183, 3) := by decide +kernel
theorem dX9_poke_39 : decode cX9_poke 39 = .ok (.iload_n 3, 1) := by decide +kernel
theorem dX9_poke_40 : decode cX9_poke 40 = .ok (.ixor, 1) := by decide +kernel
theorem dX9_poke_41 : decode cX9_poke 41 = .ok (.invokevirtual 186, 3) := by decide +kernel
theorem dX9_poke_44 : decode cX9_poke 44 = .ok (.aload_n 0, 1) := by decide +kernel
theorem dX9_poke_45 : decode cX9_poke 45 = .ok (.getfield 31, 3) := by decide +kernel
theorem dX9_poke_48 : decode cX9_poke 48 = .ok (.getfield 162, 3) := by decide +kernel
theorem dX9_poke_51 : decode cX9_poke 51 = .ok (.iload_n 1, 1) := by decide +kernel
theorem dX9_poke_52 : decode cX9_poke 52 = .ok (.iload_n 2, 1) := by decide +kernel
theorem dX9_poke_53 : decode cX9_poke 53 = .ok (.invokevirtual 183, 3) := by decide +kernel
theorem dX9_poke_56 : decode cX9_poke 56 = .ok (.ireturn, 1) := by decide +kernel
set_option maxRecDepth 100000 in
set_option maxHeartbeats 4000000 in
theorem bX9_poke_0 {l : Launch} {g : xG} (a0 : Nat) (x1 : Int32) (x2 : Int32) (x3 : Int32) {M : xM} {Q : Option Value → xM → Prop} (h : (xSp l g mX0_has 0 0 [.int x1, .int x2] M (fun ρ3 M2 => ∃ v1 : Int32, ρ3 = some (.int v1) ∧ ((¬ v1 = 0 → (xat M2 a0 6 ∧ (∃ a6, (xR M2 a0 3) = some a6 ∧ xat M2 a6 3 ∧ (∃ a13, (xR M2 a6 0) = some a13 ∧ xat M2 a13 0 ∧ xSp l g mX0_byteAt 0 0 [va_rf (xR M2 a6 0), .int x1, .int x2] M2 (fun ρ11 M10 => ∃ v9 : Int32, ρ11 = some (.int v9) ∧ (∃ a20, (xR M2 a6 0) = some a20 ∧ xat M10 a20 0 ∧ xSp l g mX0_setByte 0 0 [va_rf (xR M2 a6 0), .int x1, .int x2, .int (v9 ^^^ x3)] M10 (fun ρ18 M17 => ρ18 = none ∧ (xat M17 a0 6 ∧ (∃ a24, (xR M17 a0 3) = some a24 ∧ xat M17 a24 3 ∧ (∃ a31, (xR M17 a24 0) = some a31 ∧ xat M17 a31 0 ∧ xSp l g mX0_byteAt 0 0 [va_rf (xR M17 a24 0), .int x1, .int x2] M17 (fun ρ29 M28 => ∃ v27 : Int32, ρ29 = some (.int v27) ∧ (Q (some (.int v27)) M28)))))))))))) ∧ (v1 = 0 → False))))) : xWp l g mX9_poke 0 0 0 [(1, va_rf (some a0)), (1, .int x1), (1, .int x2), (1, .int x3)] [] (0, 0) M Q := by
  refine xr_iload_n 1 dX9_poke_0 rfl rfl ?_
  refine xr_iload_n 2 dX9_poke_1 rfl rfl ?_
  refine xr_callS [.int x1, .int x2] dX9_poke_2 cs_X9_poke_174 rfl (Nat.le_trans wt_0 (by decide)) (by decide) (xSp.mono h ?_)
  clear h
  intro ρ3 M2 h
  obtain ⟨v1, rfl, h⟩ := h
  obtain ⟨ht, hf⟩ := h
  refine xr_if_ne 18 dX9_poke_5 (by decide) (fun c34 => ?_) (fun c34 => ?_)
  · replace h := ht c34
    clear ht hf
    refine xr_aload_n 0 dX9_poke_18 rfl rfl ?_
    obtain ⟨t5, h⟩ := h
    refine yr_getR dX9_poke_19 fl_RX9_31 rfl t5 ?_
    obtain ⟨a6, e7, h⟩ := h
    obtain ⟨t8, h⟩ := h
    refine yr_getR dX9_poke_22 fl_RX9_162 e7 t8 ?_
    refine xr_iload_n 1 dX9_poke_25 rfl rfl ?_
    refine xr_iload_n 2 dX9_poke_26 rfl rfl ?_
    refine xr_aload_n 0 dX9_poke_27 rfl rfl ?_
    refine yr_getR dX9_poke_28 fl_RX9_31 rfl t5 ?_
    refine yr_getR dX9_poke_31 fl_RX9_162 e7 t8 ?_
    refine xr_iload_n 1 dX9_poke_34 rfl rfl ?_
    refine xr_iload_n 2 dX9_poke_35 rfl rfl ?_
    obtain ⟨a13, e14, h⟩ := h
    obtain ⟨t15, h⟩ := h
    refine yr_callV (r := (xR M2 a6 0)) [.int x1, .int x2] dX9_poke_36 cv_X9_poke_183 e14 t15 rfl (Nat.le_trans (wt_i (wt_i (wt_r wt_0))) (by decide)) (by decide) (xSp.mono h ?_)
    clear h
    intro ρ11 M10 h
    obtain ⟨v9, rfl, h⟩ := h
    refine xr_iload_n 3 dX9_poke_39 rfl rfl ?_
    refine xr_ixor dX9_poke_40 ?_
    obtain ⟨a20, e21, h⟩ := h
    obtain ⟨t22, h⟩ := h
    refine yr_callV (r := (xR M2 a6 0)) [.int x1, .int x2, .int (v9 ^^^ x3)] dX9_poke_41 cv_X9_poke_186 e21 t22 rfl (Nat.le_trans wt_0 (by decide)) (by decide) (xSp.mono h ?_)
    clear h
    intro ρ18 M17 h
    obtain ⟨rfl, h⟩ := h
    refine xr_aload_n 0 dX9_poke_44 rfl rfl ?_
    obtain ⟨t23, h⟩ := h
    refine yr_getR dX9_poke_45 fl_RX9_31 rfl t23 ?_
    obtain ⟨a24, e25, h⟩ := h
    obtain ⟨t26, h⟩ := h
    refine yr_getR dX9_poke_48 fl_RX9_162 e25 t26 ?_
    refine xr_iload_n 1 dX9_poke_51 rfl rfl ?_
    refine xr_iload_n 2 dX9_poke_52 rfl rfl ?_
    obtain ⟨a31, e32, h⟩ := h
    obtain ⟨t33, h⟩ := h
    refine yr_callV (r := (xR M17 a24 0)) [.int x1, .int x2] dX9_poke_53 cv_X9_poke_183 e32 t33 rfl (Nat.le_trans wt_0 (by decide)) (by decide) (xSp.mono h ?_)
    clear h
    intro ρ29 M28 h
    obtain ⟨v27, rfl, h⟩ := h
    exact xr_retv (by decide) (xRi rfl rfl dX9_poke_56) h
  · replace h := hf c34
    clear ht hf
    exact h.elim
theorem dX9_freePages_0 : decode cX9_freePages 0 = .ok (.sipush 254, 3) := by decide +kernel
theorem dX9_freePages_3 : decode cX9_freePages 3 = .ok (.aload_n 0, 1) := by decide +kernel
theorem dX9_freePages_4 : decode cX9_freePages 4 = .ok (.getfield 25, 3) := by decide +kernel
theorem dX9_freePages_7 : decode cX9_freePages 7 = .ok (.invokevirtual 190, 3) := by decide +kernel
theorem dX9_freePages_10 : decode cX9_freePages 10 = .ok (.isub, 1) := by decide +kernel
theorem dX9_freePages_11 : decode cX9_freePages 11 = .ok (.ireturn, 1) := by decide +kernel
set_option maxRecDepth 100000 in
set_option maxHeartbeats 4000000 in
theorem bX9_freePages_0 {l : Launch} {g : xG} (a0 : Nat) {M : xM} {Q : Option Value → xM → Prop} (h : (xat M a0 6 ∧ (∃ a6, (xR M a0 2) = some a6 ∧ xat M a6 5 ∧ xSp l g mX8_nodesOnPages 0 0 [va_rf (xR M a0 2)] M (fun ρ4 M3 => ∃ v2 : Int32, ρ4 = some (.int v2) ∧ (Q (some (.int (254 - v2))) M3))))) : xWp l g mX9_freePages 0 0 0 [(1, va_rf (some a0))] [] (0, 0) M Q := by
  refine xr_sipush 254 dX9_freePages_0 (by decide) ?_
  refine xr_aload_n 0 dX9_freePages_3 rfl rfl ?_
  obtain ⟨t1, h⟩ := h
  refine yr_getR dX9_freePages_4 fl_RX9_25 rfl t1 ?_
  obtain ⟨a6, e7, h⟩ := h
  obtain ⟨t8, h⟩ := h
  refine yr_callV (r := (xR M a0 2)) [] dX9_freePages_7 cv_X9_freePages_190 e7 t8 rfl (Nat.le_trans (wt_i wt_0) (by decide)) (by decide) (xSp.mono h ?_)
  clear h
  intro ρ4 M3 h
  obtain ⟨v2, rfl, h⟩ := h
  refine xr_isub dX9_freePages_10 ?_
  exact xr_retv (by decide) (xRi rfl rfl dX9_freePages_11) h
