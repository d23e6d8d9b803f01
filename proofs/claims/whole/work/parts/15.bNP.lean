/-! Decode rows and blocks: 15.bNP -/
theorem dX4_fill_0 : decode cX4_fill 0 = .ok (.aload_n 0, 1) := by decide +kernel
theorem dX4_fill_1 : decode cX4_fill 1 = .ok (.invokevirtual 11, 3) := by decide +kernel
theorem dX4_fill_4 : decode cX4_fill 4 = .ok (.aload_n 0, 1) := by decide +kernel
theorem dX4_fill_5 : decode cX4_fill 5 = .ok (.iconst 0, 1) := by decide +kernel
theorem dX4_fill_6 : decode cX4_fill 6 = .ok (.aload_n 1, 1) := by decide +kernel
theorem dX4_fill_7 : decode cX4_fill 7 = .ok (.getfield 16, 3) := by decide +kernel
theorem dX4_fill_10 : decode cX4_fill 10 = .ok (.invokevirtual 22, 3) := by decide +kernel
theorem dX4_fill_13 : decode cX4_fill 13 = .ok (.aload_n 0, 1) := by decide +kernel
theorem dX4_fill_14 : decode cX4_fill 14 = .ok (.iconst 1, 1) := by decide +kernel
theorem dX4_fill_15 : decode cX4_fill 15 = .ok (.aload_n 1, 1) := by decide +kernel
theorem dX4_fill_16 : decode cX4_fill 16 = .ok (.getfield 26, 3) := by decide +kernel
theorem dX4_fill_19 : decode cX4_fill 19 = .ok (.ifCond .eq 7, 3) := by decide +kernel
theorem dX4_fill_22 : decode cX4_fill 22 = .ok (.iconst 1, 1) := by decide +kernel
theorem dX4_fill_23 : decode cX4_fill 23 = .ok (.goto 4, 3) := by decide +kernel
theorem dX4_fill_26 : decode cX4_fill 26 = .ok (.iconst 0, 1) := by decide +kernel
theorem dX4_fill_27 : decode cX4_fill 27 = .ok (.invokevirtual 22, 3) := by decide +kernel
theorem dX4_fill_30 : decode cX4_fill 30 = .ok (.aload_n 0, 1) := by decide +kernel
theorem dX4_fill_31 : decode cX4_fill 31 = .ok (.iconst 2, 1) := by decide +kernel
theorem dX4_fill_32 : decode cX4_fill 32 = .ok (.aload_n 1, 1) := by decide +kernel
theorem dX4_fill_33 : decode cX4_fill 33 = .ok (.getfield 30, 3) := by decide +kernel
theorem dX4_fill_36 : decode cX4_fill 36 = .ok (.invokevirtual 34, 3) := by decide +kernel
theorem dX4_fill_39 : decode cX4_fill 39 = .ok (.aload_n 0, 1) := by decide +kernel
theorem dX4_fill_40 : decode cX4_fill 40 = .ok (.bipush 10, 2) := by decide +kernel
theorem dX4_fill_42 : decode cX4_fill 42 = .ok (.aload_n 1, 1) := by decide +kernel
theorem dX4_fill_43 : decode cX4_fill 43 = .ok (.getfield 38, 3) := by decide +kernel
theorem dX4_fill_46 : decode cX4_fill 46 = .ok (.invokevirtual 22, 3) := by decide +kernel
theorem dX4_fill_49 : decode cX4_fill 49 = .ok (.iconst 0, 1) := by decide +kernel
theorem dX4_fill_50 : decode cX4_fill 50 = .ok (.istore_n 2, 1) := by decide +kernel
theorem dX4_fill_51 : decode cX4_fill 51 = .ok (.iload_n 2, 1) := by decide +kernel
theorem dX4_fill_52 : decode cX4_fill 52 = .ok (.aload_n 1, 1) := by decide +kernel
theorem dX4_fill_53 : decode cX4_fill 53 = .ok (.getfield 38, 3) := by decide +kernel
theorem dX4_fill_56 : decode cX4_fill 56 = .ok (.if_icmp .ge 22, 3) := by decide +kernel
theorem dX4_fill_59 : decode cX4_fill 59 = .ok (.aload_n 0, 1) := by decide +kernel
theorem dX4_fill_60 : decode cX4_fill 60 = .ok (.bipush 11, 2) := by decide +kernel
theorem dX4_fill_62 : decode cX4_fill 62 = .ok (.iload_n 2, 1) := by decide +kernel
theorem dX4_fill_63 : decode cX4_fill 63 = .ok (.iadd, 1) := by decide +kernel
theorem dX4_fill_64 : decode cX4_fill 64 = .ok (.aload_n 1, 1) := by decide +kernel
theorem dX4_fill_65 : decode cX4_fill 65 = .ok (.iload_n 2, 1) := by decide +kernel
theorem dX4_fill_66 : decode cX4_fill 66 = .ok (.invokevirtual 41, 3) := by decide +kernel
theorem dX4_fill_69 : decode cX4_fill 69 = .ok (.invokevirtual 22, 3) := by decide +kernel
theorem dX4_fill_72 : decode cX4_fill 72 = .ok (.iinc 2 1, 3) := by decide +kernel
theorem dX4_fill_75 : decode cX4_fill 75 = .ok (.goto (-24), 3) := by decide +kernel
theorem dX4_fill_78 : decode cX4_fill 78 = .ok (.aload_n 0, 1) := by decide +kernel
theorem dX4_fill_79 : decode cX4_fill 79 = .ok (.bipush 23, 2) := by decide +kernel
theorem dX4_fill_81 : decode cX4_fill 81 = .ok (.aload_n 1, 1) := by decide +kernel
theorem dX4_fill_82 : decode cX4_fill 82 = .ok (.getfield 45, 3) := by decide +kernel
theorem dX4_fill_85 : decode cX4_fill 85 = .ok (.invokevirtual 22, 3) := by decide +kernel
theorem dX4_fill_88 : decode cX4_fill 88 = .ok (.aload_n 0, 1) := by decide +kernel
theorem dX4_fill_89 : decode cX4_fill 89 = .ok (.aload_n 1, 1) := by decide +kernel
theorem dX4_fill_90 : decode cX4_fill 90 = .ok (.invokestatic 48, 3) := by decide +kernel
theorem dX4_fill_93 : decode cX4_fill 93 = .ok (.aload_n 0, 1) := by decide +kernel
theorem dX4_fill_94 : decode cX4_fill 94 = .ok (.invokevirtual 52, 3) := by decide +kernel
theorem dX4_fill_97 : decode cX4_fill 97 = .ok (.return_, 1) := by decide +kernel
set_option maxRecDepth 100000 in
set_option maxHeartbeats 4000000 in
theorem bX4_fill_51 {l : Launch} {g : xG} (r0 : Option Nat) (r1 : Option Nat) (x2 : Int32) {M : xM} {Q : Option Value → xM → Prop} (h : (∃ a1, r1 = some a1 ∧ xat M a1 1 ∧ (((xI M a1 1) ≤ x2 → (∃ a8, r0 = some a8 ∧ xat M a8 2 ∧ xSp l g mX5_set 0 0 [va_rf r0, .int 23, .int (xI M a1 5)] M (fun ρ6 M5 => ρ6 = none ∧ (xSp l g mX4_fillTable 0 0 [va_rf r0, va_rf r1] M5 (fun ρ13 M12 => ρ13 = none ∧ (xat M12 a8 2 ∧ xSp l g mX5_seal 0 0 [va_rf r0] M12 (fun ρ17 M16 => ρ17 = none ∧ (Q none M16)))))))) ∧ (¬ (xI M a1 1) ≤ x2 → (xSp l g mX3_prefixAt 0 0 [va_rf r1, .int x2] M (fun ρ22 M21 => ∃ v20 : Int32, ρ22 = some (.int v20) ∧ (∃ a28, r0 = some a28 ∧ xat M21 a28 2 ∧ xSp l g mX5_set 0 0 [va_rf r0, .int (11 + x2), .int v20] M21 (fun ρ26 M25 => ρ26 = none ∧ xWp l g mX4_fill 0 0 51 [(1, va_rf r0), (1, va_rf r1), (1, .int (x2 + 1))] [] (0, 0) M25 Q)))))))) : xWp l g mX4_fill 0 0 51 [(1, va_rf r0), (1, va_rf r1), (1, .int x2)] [] (0, 0) M Q := by
  refine xr_iload_n 2 dX4_fill_51 rfl rfl ?_
  refine xr_aload_n 1 dX4_fill_52 rfl rfl ?_
  obtain ⟨a1, e2, h⟩ := h
  obtain ⟨t3, h⟩ := h
  refine yr_getI dX4_fill_53 fl_RX4_38 e2 t3 ?_
  obtain ⟨ht, hf⟩ := h
  refine xr_icmp_ge 78 dX4_fill_56 (by decide) (fun c31 => ?_) (fun c31 => ?_)
  · replace h := ht c31
    clear ht hf
    refine xr_aload_n 0 dX4_fill_78 rfl rfl ?_
    refine xr_bipush 23 dX4_fill_79 (by decide) ?_
    refine xr_aload_n 1 dX4_fill_81 rfl rfl ?_
    refine yr_getI dX4_fill_82 fl_RX4_45 e2 t3 ?_
    obtain ⟨a8, e9, h⟩ := h
    obtain ⟨t10, h⟩ := h
    refine yr_callV (r := r0) [.int 23, .int (xI M a1 5)] dX4_fill_85 cv_X4_fill_22 e9 t10 rfl (Nat.le_trans wt_0 (by decide)) (by decide) (xSp.mono h ?_)
    clear h
    intro ρ6 M5 h
    obtain ⟨rfl, h⟩ := h
    refine xr_aload_n 0 dX4_fill_88 rfl rfl ?_
    refine xr_aload_n 1 dX4_fill_89 rfl rfl ?_
    refine xr_callS [va_rf r0, va_rf r1] dX4_fill_90 cs_X4_fill_48 rfl (Nat.le_trans wt_0 (by decide)) (by decide) (xSp.mono h ?_)
    clear h
    intro ρ13 M12 h
    obtain ⟨rfl, h⟩ := h
    refine xr_aload_n 0 dX4_fill_93 rfl rfl ?_
    obtain ⟨t19, h⟩ := h
    refine yr_callV (r := r0) [] dX4_fill_94 cv_X4_fill_52 e9 t19 rfl (Nat.le_trans wt_0 (by decide)) (by decide) (xSp.mono h ?_)
    clear h
    intro ρ17 M16 h
    obtain ⟨rfl, h⟩ := h
    exact xr_ret (by decide) (xRv rfl dX4_fill_97) h
  · replace h := hf c31
    clear ht hf
    refine xr_aload_n 0 dX4_fill_59 rfl rfl ?_
    refine xr_bipush 11 dX4_fill_60 (by decide) ?_
    refine xr_iload_n 2 dX4_fill_62 rfl rfl ?_
    refine xr_iadd dX4_fill_63 ?_
    refine xr_aload_n 1 dX4_fill_64 rfl rfl ?_
    refine xr_iload_n 2 dX4_fill_65 rfl rfl ?_
    refine yr_callV (r := r1) [.int x2] dX4_fill_66 cv_X4_fill_41 e2 t3 rfl (Nat.le_trans (wt_i (wt_r wt_0)) (by decide)) (by decide) (xSp.mono h ?_)
    clear h
    intro ρ22 M21 h
    obtain ⟨v20, rfl, h⟩ := h
    obtain ⟨a28, e29, h⟩ := h
    obtain ⟨t30, h⟩ := h
    refine yr_callV (r := r0) [.int (11 + x2), .int v20] dX4_fill_69 cv_X4_fill_22 e29 t30 rfl (Nat.le_trans wt_0 (by decide)) (by decide) (xSp.mono h ?_)
    clear h
    intro ρ26 M25 h
    obtain ⟨rfl, h⟩ := h
    refine ziinc (x2 + 1) dX4_fill_72 rfl rfl (L1 := [(1, va_rf r0), (1, va_rf r1), (1, .int (x2 + 1))]) (by decide) rfl ?_
    refine xr_goto 51 dX4_fill_75 (by decide) ?_
    exact h
set_option maxRecDepth 100000 in
set_option maxHeartbeats 4000000 in
theorem bX4_fill_0 {l : Launch} {g : xG} (r0 : Option Nat) (r1 : Option Nat) {M : xM} {Q : Option Value → xM → Prop} (h : (∃ a5, r0 = some a5 ∧ xat M a5 2 ∧ xSp l g mX5_wipe 0 0 [va_rf r0] M (fun ρ3 M2 => ρ3 = none ∧ (∃ a8, r1 = some a8 ∧ xat M2 a8 1 ∧ (xat M2 a5 2 ∧ xSp l g mX5_set 0 0 [va_rf r0, .int 0, .int (xI M2 a8 2)] M2 (fun ρ13 M12 => ρ13 = none ∧ (xat M12 a8 1 ∧ (((xI M12 a8 3) = 0 → (xat M12 a5 2 ∧ xSp l g mX5_set 0 0 [va_rf r0, .int 1, .int 0] M12 (fun ρ19 M18 => ρ19 = none ∧ (xat M18 a8 1 ∧ (xat M18 a5 2 ∧ xSp l g mX5_setLong 0 0 [va_rf r0, .int 2, .long (xJ M18 a8 4)] M18 (fun ρ25 M24 => ρ25 = none ∧ (xat M24 a8 1 ∧ (xat M24 a5 2 ∧ xSp l g mX5_set 0 0 [va_rf r0, .int 10, .int (xI M24 a8 1)] M24 (fun ρ31 M30 => ρ31 = none ∧ xWp l g mX4_fill 0 0 51 [(1, va_rf r0), (1, va_rf r1), (1, .int 0)] [] (0, 0) M30 Q))))))))) ∧ (¬ (xI M12 a8 3) = 0 → (xat M12 a5 2 ∧ xSp l g mX5_set 0 0 [va_rf r0, .int 1, .int 1] M12 (fun ρ36 M35 => ρ36 = none ∧ (xat M35 a8 1 ∧ (xat M35 a5 2 ∧ xSp l g mX5_setLong 0 0 [va_rf r0, .int 2, .long (xJ M35 a8 4)] M35 (fun ρ42 M41 => ρ42 = none ∧ (xat M41 a8 1 ∧ (xat M41 a5 2 ∧ xSp l g mX5_set 0 0 [va_rf r0, .int 10, .int (xI M41 a8 1)] M41 (fun ρ48 M47 => ρ48 = none ∧ xWp l g mX4_fill 0 0 51 [(1, va_rf r0), (1, va_rf r1), (1, .int 0)] [] (0, 0) M47 Q))))))))))))))))) : xWp l g mX4_fill 0 0 0 [(1, va_rf r0), (1, va_rf r1), (0, .null)] [] (0, 0) M Q := by
  refine xr_aload_n 0 dX4_fill_0 rfl rfl ?_
  obtain ⟨a5, e6, h⟩ := h
  obtain ⟨t7, h⟩ := h
  refine yr_callV (r := r0) [] dX4_fill_1 cv_X4_fill_11 e6 t7 rfl (Nat.le_trans wt_0 (by decide)) (by decide) (xSp.mono h ?_)
  clear h
  intro ρ3 M2 h
  obtain ⟨rfl, h⟩ := h
  refine xr_aload_n 0 dX4_fill_4 rfl rfl ?_
  refine xr_iconst 0 dX4_fill_5 (by decide) ?_
  refine xr_aload_n 1 dX4_fill_6 rfl rfl ?_
  obtain ⟨a8, e9, h⟩ := h
  obtain ⟨t10, h⟩ := h
  refine yr_getI dX4_fill_7 fl_RX4_16 e9 t10 ?_
  obtain ⟨t15, h⟩ := h
  refine yr_callV (r := r0) [.int 0, .int (xI M2 a8 2)] dX4_fill_10 cv_X4_fill_22 e6 t15 rfl (Nat.le_trans wt_0 (by decide)) (by decide) (xSp.mono h ?_)
  clear h
  intro ρ13 M12 h
  obtain ⟨rfl, h⟩ := h
  refine xr_aload_n 0 dX4_fill_13 rfl rfl ?_
  refine xr_iconst 1 dX4_fill_14 (by decide) ?_
  refine xr_aload_n 1 dX4_fill_15 rfl rfl ?_
  obtain ⟨t16, h⟩ := h
  refine yr_getZ dX4_fill_16 fl_RX4_26 e9 t16 ?_
  obtain ⟨ht, hf⟩ := h
  refine xr_if_eq 26 dX4_fill_19 (by decide) (fun c51 => ?_) (fun c51 => ?_)
  · replace h := ht c51
    clear ht hf
    refine xr_iconst 0 dX4_fill_26 (by decide) ?_
    obtain ⟨t21, h⟩ := h
    refine yr_callV (r := r0) [.int 1, .int 0] dX4_fill_27 cv_X4_fill_22 e6 t21 rfl (Nat.le_trans wt_0 (by decide)) (by decide) (xSp.mono h ?_)
    clear h
    intro ρ19 M18 h
    obtain ⟨rfl, h⟩ := h
    refine xr_aload_n 0 dX4_fill_30 rfl rfl ?_
    refine xr_iconst 2 dX4_fill_31 (by decide) ?_
    refine xr_aload_n 1 dX4_fill_32 rfl rfl ?_
    obtain ⟨t22, h⟩ := h
    refine yr_getJ dX4_fill_33 fl_RX4_30 e9 t22 ?_
    obtain ⟨t27, h⟩ := h
    refine yr_callV (r := r0) [.int 2, .long (xJ M18 a8 4)] dX4_fill_36 cv_X4_fill_34 e6 t27 rfl (Nat.le_trans wt_0 (by decide)) (by decide) (xSp.mono h ?_)
    clear h
    intro ρ25 M24 h
    obtain ⟨rfl, h⟩ := h
    refine xr_aload_n 0 dX4_fill_39 rfl rfl ?_
    refine xr_bipush 10 dX4_fill_40 (by decide) ?_
    refine xr_aload_n 1 dX4_fill_42 rfl rfl ?_
    obtain ⟨t28, h⟩ := h
    refine yr_getI dX4_fill_43 fl_RX4_38 e9 t28 ?_
    obtain ⟨t33, h⟩ := h
    refine yr_callV (r := r0) [.int 10, .int (xI M24 a8 1)] dX4_fill_46 cv_X4_fill_22 e6 t33 rfl (Nat.le_trans wt_0 (by decide)) (by decide) (xSp.mono h ?_)
    clear h
    intro ρ31 M30 h
    obtain ⟨rfl, h⟩ := h
    refine xr_iconst 0 dX4_fill_49 (by decide) ?_
    refine zistore_n 2 dX4_fill_50 rfl (L1 := [(1, va_rf r0), (1, va_rf r1), (1, .int 0)]) (by decide) rfl ?_
    exact h
  · replace h := hf c51
    clear ht hf
    refine xr_iconst 1 dX4_fill_22 (by decide) ?_
    refine xr_goto 27 dX4_fill_23 (by decide) ?_
    obtain ⟨t38, h⟩ := h
    refine yr_callV (r := r0) [.int 1, .int 1] dX4_fill_27 cv_X4_fill_22 e6 t38 rfl (Nat.le_trans wt_0 (by decide)) (by decide) (xSp.mono h ?_)
    clear h
    intro ρ36 M35 h
    obtain ⟨rfl, h⟩ := h
    refine xr_aload_n 0 dX4_fill_30 rfl rfl ?_
    refine xr_iconst 2 dX4_fill_31 (by decide) ?_
    refine xr_aload_n 1 dX4_fill_32 rfl rfl ?_
    obtain ⟨t39, h⟩ := h
    refine yr_getJ dX4_fill_33 fl_RX4_30 e9 t39 ?_
    obtain ⟨t44, h⟩ := h
    refine yr_callV (r := r0) [.int 2, .long (xJ M35 a8 4)] dX4_fill_36 cv_X4_fill_34 e6 t44 rfl (Nat.le_trans wt_0 (by decide)) (by decide) (xSp.mono h ?_)
    clear h
    intro ρ42 M41 h
    obtain ⟨rfl, h⟩ := h
    refine xr_aload_n 0 dX4_fill_39 rfl rfl ?_
    refine xr_bipush 10 dX4_fill_40 (by decide) ?_
    refine xr_aload_n 1 dX4_fill_42 rfl rfl ?_
    obtain ⟨t45, h⟩ := h
    refine yr_getI dX4_fill_43 fl_RX4_38 e9 t45 ?_
    obtain ⟨t50, h⟩ := h
    refine yr_callV (r := r0) [.int 10, .int (xI M41 a8 1)] dX4_fill_46 cv_X4_fill_22 e6 t50 rfl (Nat.le_trans wt_0 (by decide)) (by decide) (xSp.mono h ?_)
    clear h
    intro ρ48 M47 h
    obtain ⟨rfl, h⟩ := h
    refine xr_iconst 0 dX4_fill_49 (by decide) ?_
    refine zistore_n 2 dX4_fill_50 rfl (L1 := [(1, va_rf r0), (1, va_rf r1), (1, .int 0)]) (by decide) rfl ?_
    exact h
theorem dX4_fillTable_0 : decode cX4_fillTable 0 = .ok (.iconst 0, 1) := by decide +kernel
theorem dX4_fillTable_1 : decode cX4_fillTable 1 = .ok (.istore_n 2, 1) := by decide +kernel
theorem dX4_fillTable_2 : decode cX4_fillTable 2 = .ok (.aload_n 1, 1) := by decide +kernel
theorem dX4_fillTable_3 : decode cX4_fillTable 3 = .ok (.getfield 55, 3) := by decide +kernel
theorem dX4_fillTable_6 : decode cX4_fillTable 6 = .ok (.astore_n 3, 1) := by decide +kernel
theorem dX4_fillTable_7 : decode cX4_fillTable 7 = .ok (.aload_n 3, 1) := by decide +kernel
theorem dX4_fillTable_8 : decode cX4_fillTable 8 = .ok (.ifnull 110, 3) := by decide +kernel
theorem dX4_fillTable_11 : decode cX4_fillTable 11 = .ok (.aload_n 1, 1) := by decide +kernel
theorem dX4_fillTable_12 : decode cX4_fillTable 12 = .ok (.getfield 16, 3) := by decide +kernel
theorem dX4_fillTable_15 : decode cX4_fillTable 15 = .ok (.iconst 4, 1) := by decide +kernel
theorem dX4_fillTable_16 : decode cX4_fillTable 16 = .ok (.if_icmp .ne 21, 3) := by decide +kernel
theorem dX4_fillTable_19 : decode cX4_fillTable 19 = .ok (.aload_n 0, 1) := by decide +kernel
theorem dX4_fillTable_20 : decode cX4_fillTable 20 = .ok (.bipush 24, 2) := by decide +kernel
theorem dX4_fillTable_22 : decode cX4_fillTable 22 = .ok (.aload_n 3, 1) := by decide +kernel
theorem dX4_fillTable_23 : decode cX4_fillTable 23 = .ok (.getfield 61, 3) := by decide +kernel
theorem dX4_fillTable_26 : decode cX4_fillTable 26 = .ok (.iadd, 1) := by decide +kernel
theorem dX4_fillTable_27 : decode cX4_fillTable 27 = .ok (.aload_n 3, 1) := by decide +kernel
theorem dX4_fillTable_28 : decode cX4_fillTable 28 = .ok (.getfield 64, 3) := by decide +kernel
theorem dX4_fillTable_31 : decode cX4_fillTable 31 = .ok (.invokevirtual 22, 3) := by decide +kernel
theorem dX4_fillTable_34 : decode cX4_fillTable 34 = .ok (.goto 73, 3) := by decide +kernel
theorem dX4_fillTable_37 : decode cX4_fillTable 37 = .ok (.aload_n 1, 1) := by decide +kernel
theorem dX4_fillTable_38 : decode cX4_fillTable 38 = .ok (.getfield 16, 3) := by decide +kernel
theorem dX4_fillTable_41 : decode cX4_fillTable 41 = .ok (.iconst 3, 1) := by decide +kernel
theorem dX4_fillTable_42 : decode cX4_fillTable 42 = .ok (.if_icmp .ne 33, 3) := by decide +kernel
theorem dX4_fillTable_45 : decode cX4_fillTable 45 = .ok (.aload_n 0, 1) := by decide +kernel
theorem dX4_fillTable_46 : decode cX4_fillTable 46 = .ok (.bipush 24, 2) := by decide +kernel
theorem dX4_fillTable_48 : decode cX4_fillTable 48 = .ok (.aload_n 3, 1) := by decide +kernel
theorem dX4_fillTable_49 : decode cX4_fillTable 49 = .ok (.getfield 61, 3) := by decide +kernel
theorem dX4_fillTable_52 : decode cX4_fillTable 52 = .ok (.iadd, 1) := by decide +kernel
theorem dX4_fillTable_53 : decode cX4_fillTable 53 = .ok (.iload_n 2, 1) := by decide +kernel
theorem dX4_fillTable_54 : decode cX4_fillTable 54 = .ok (.iconst 1, 1) := by decide +kernel
theorem dX4_fillTable_55 : decode cX4_fillTable 55 = .ok (.iadd, 1) := by decide +kernel
theorem dX4_fillTable_56 : decode cX4_fillTable 56 = .ok (.invokevirtual 22, 3) := by decide +kernel
theorem dX4_fillTable_59 : decode cX4_fillTable 59 = .ok (.aload_n 0, 1) := by decide +kernel
theorem dX4_fillTable_60 : decode cX4_fillTable 60 = .ok (.sipush 280, 3) := by decide +kernel
theorem dX4_fillTable_63 : decode cX4_fillTable 63 = .ok (.iload_n 2, 1) := by decide +kernel
theorem dX4_fillTable_64 : decode cX4_fillTable 64 = .ok (.iadd, 1) := by decide +kernel
theorem dX4_fillTable_65 : decode cX4_fillTable 65 = .ok (.aload_n 3, 1) := by decide +kernel
theorem dX4_fillTable_66 : decode cX4_fillTable 66 = .ok (.getfield 64, 3) := by decide +kernel
theorem dX4_fillTable_69 : decode cX4_fillTable 69 = .ok (.invokevirtual 22, 3) := by decide +kernel
theorem dX4_fillTable_72 : decode cX4_fillTable 72 = .ok (.goto 35, 3) := by decide +kernel
theorem dX4_fillTable_75 : decode cX4_fillTable 75 = .ok (.aload_n 0, 1) := by decide +kernel
theorem dX4_fillTable_76 : decode cX4_fillTable 76 = .ok (.bipush 24, 2) := by decide +kernel
theorem dX4_fillTable_78 : decode cX4_fillTable 78 = .ok (.iload_n 2, 1) := by decide +kernel
theorem dX4_fillTable_79 : decode cX4_fillTable 79 = .ok (.iadd, 1) := by decide +kernel
theorem dX4_fillTable_80 : decode cX4_fillTable 80 = .ok (.aload_n 3, 1) := by decide +kernel
theorem dX4_fillTable_81 : decode cX4_fillTable 81 = .ok (.getfield 61, 3) := by decide +kernel
theorem dX4_fillTable_84 : decode cX4_fillTable 84 = .ok (.invokevirtual 22, 3) := by decide +kernel
theorem dX4_fillTable_87 : decode cX4_fillTable 87 = .ok (.aload_n 0, 1) := by decide +kernel
theorem dX4_fillTable_88 : decode cX4_fillTable 88 = .ok (.bipush 24, 2) := by decide +kernel
theorem dX4_fillTable_90 : decode cX4_fillTable 90 = .ok (.aload_n 1, 1) := by decide +kernel
theorem dX4_fillTable_91 : decode cX4_fillTable 91 = .ok (.getfield 16, 3) := by decide +kernel
theorem dX4_fillTable_94 : decode cX4_fillTable 94 = .ok (.invokestatic 67, 3) := by decide +kernel
theorem dX4_fillTable_97 : decode cX4_fillTable 97 = .ok (.iadd, 1) := by decide +kernel
theorem dX4_fillTable_98 : decode cX4_fillTable 98 = .ok (.iload_n 2, 1) := by decide +kernel
theorem dX4_fillTable_99 : decode cX4_fillTable 99 = .ok (.iadd, 1) := by decide +kernel
theorem dX4_fillTable_100 : decode cX4_fillTable 100 = .ok (.aload_n 3, 1) := by decide +kernel
theorem dX4_fillTable_101 : decode cX4_fillTable 101 = .ok (.getfield 64, 3) := by decide +kernel
theorem dX4_fillTable_104 : decode cX4_fillTable 104 = .ok (.invokevirtual 22, 3) := by decide +kernel
theorem dX4_fillTable_107 : decode cX4_fillTable 107 = .ok (.iinc 2 1, 3) := by decide +kernel
theorem dX4_fillTable_110 : decode cX4_fillTable 110 = .ok (.aload_n 3, 1) := by decide +kernel
theorem dX4_fillTable_111 : decode cX4_fillTable 111 = .ok (.getfield 70, 3) := by decide +kernel
theorem dX4_fillTable_114 : decode cX4_fillTable 114 = .ok (.astore_n 3, 1) := by decide +kernel
theorem dX4_fillTable_115 : decode cX4_fillTable 115 = .ok (.goto (-108), 3) := by decide +kernel
theorem dX4_fillTable_118 : decode cX4_fillTable 118 = .ok (.return_, 1) := by decide +kernel
set_option maxRecDepth 100000 in
set_option maxHeartbeats 4000000 in
theorem bX4_fillTable_7 {l : Launch} {g : xG} (r0 : Option Nat) (r1 : Option Nat) (x2 : Int32) (r3 : Option Nat) {M : xM} {Q : Option Value → xM → Prop} (h : ((r3 = none → (Q none M)) ∧ (¬ r3 = none → (∃ a1, r1 = some a1 ∧ xat M a1 1 ∧ ((¬ (xI M a1 2) = 4 → ((¬ (xI M a1 2) = 3 → (∃ a4, r3 = some a4 ∧ xat M a4 1 ∧ (∃ a11, r0 = some a11 ∧ xat M a11 2 ∧ xSp l g mX5_set 0 0 [va_rf r0, .int (24 + x2), .int (xI M a4 6)] M (fun ρ9 M8 => ρ9 = none ∧ (xat M8 a1 1 ∧ (xSp l g mX1_mostChildren 0 0 [.int (xI M8 a1 2)] M8 (fun ρ17 M16 => ∃ v15 : Int32, ρ17 = some (.int v15) ∧ (xat M16 a4 1 ∧ (xat M16 a11 2 ∧ xSp l g mX5_set 0 0 [va_rf r0, .int ((24 + v15) + x2), .int (xI M16 a4 7)] M16 (fun ρ22 M21 => ρ22 = none ∧ (xat M21 a4 1 ∧ xWp l g mX4_fillTable 0 0 7 [(1, va_rf r0), (1, va_rf r1), (1, .int (x2 + 1)), (1, va_rf (xR M21 a4 11))] [] (0, 0) M21 Q))))))))))) ∧ ((xI M a1 2) = 3 → (∃ a26, r3 = some a26 ∧ xat M a26 1 ∧ (∃ a33, r0 = some a33 ∧ xat M a33 2 ∧ xSp l g mX5_set 0 0 [va_rf r0, .int (24 + (xI M a26 6)), .int (x2 + 1)] M (fun ρ31 M30 => ρ31 = none ∧ (xat M30 a26 1 ∧ (xat M30 a33 2 ∧ xSp l g mX5_set 0 0 [va_rf r0, .int (280 + x2), .int (xI M30 a26 7)] M30 (fun ρ39 M38 => ρ39 = none ∧ (xat M38 a26 1 ∧ xWp l g mX4_fillTable 0 0 7 [(1, va_rf r0), (1, va_rf r1), (1, .int (x2 + 1)), (1, va_rf (xR M38 a26 11))] [] (0, 0) M38 Q)))))))))) ∧ ((xI M a1 2) = 4 → (∃ a44, r3 = some a44 ∧ xat M a44 1 ∧ (∃ a51, r0 = some a51 ∧ xat M a51 2 ∧ xSp l g mX5_set 0 0 [va_rf r0, .int (24 + (xI M a44 6)), .int (xI M a44 7)] M (fun ρ49 M48 => ρ49 = none ∧ (xat M48 a44 1 ∧ xWp l g mX4_fillTable 0 0 7 [(1, va_rf r0), (1, va_rf r1), (1, .int (x2 + 1)), (1, va_rf (xR M48 a44 11))] [] (0, 0) M48 Q)))))))))) : xWp l g mX4_fillTable 0 0 7 [(1, va_rf r0), (1, va_rf r1), (1, .int x2), (1, va_rf r3)] [] (0, 0) M Q := by
  refine xr_aload_n 3 dX4_fillTable_7 rfl rfl ?_
  obtain ⟨ht, hf⟩ := h
  refine xr_ifnull 118 dX4_fillTable_8 (by decide) (fun c56 => ?_) (fun c56 => ?_)
  · replace h := ht c56
    clear ht hf
    exact xr_ret (by decide) (xRv rfl dX4_fillTable_118) h
  · replace h := hf c56
    clear ht hf
    refine xr_aload_n 1 dX4_fillTable_11 rfl rfl ?_
    obtain ⟨a1, e2, h⟩ := h
    obtain ⟨t3, h⟩ := h
    refine yr_getI dX4_fillTable_12 fl_RX4_16 e2 t3 ?_
    refine xr_iconst 4 dX4_fillTable_15 (by decide) ?_
    obtain ⟨ht, hf⟩ := h
    refine xr_icmp_ne 37 dX4_fillTable_16 (by decide) (fun c55 => ?_) (fun c55 => ?_)
    · replace h := ht c55
      clear ht hf
      refine xr_aload_n 1 dX4_fillTable_37 rfl rfl ?_
      refine yr_getI dX4_fillTable_38 fl_RX4_16 e2 t3 ?_
      refine xr_iconst 3 dX4_fillTable_41 (by decide) ?_
      obtain ⟨ht, hf⟩ := h
      refine xr_icmp_ne 75 dX4_fillTable_42 (by decide) (fun c43 => ?_) (fun c43 => ?_)
      · replace h := ht c43
        clear ht hf
        refine xr_aload_n 0 dX4_fillTable_75 rfl rfl ?_
        refine xr_bipush 24 dX4_fillTable_76 (by decide) ?_
        refine xr_iload_n 2 dX4_fillTable_78 rfl rfl ?_
        refine xr_iadd dX4_fillTable_79 ?_
        refine xr_aload_n 3 dX4_fillTable_80 rfl rfl ?_
        obtain ⟨a4, e5, h⟩ := h
        obtain ⟨t6, h⟩ := h
        refine yr_getI dX4_fillTable_81 fl_RX4_61 e5 t6 ?_
        obtain ⟨a11, e12, h⟩ := h
        obtain ⟨t13, h⟩ := h
        refine yr_callV (r := r0) [.int (24 + x2), .int (xI M a4 6)] dX4_fillTable_84 cv_X4_fillTable_22 e12 t13 rfl (Nat.le_trans wt_0 (by decide)) (by decide) (xSp.mono h ?_)
        clear h
        intro ρ9 M8 h
        obtain ⟨rfl, h⟩ := h
        refine xr_aload_n 0 dX4_fillTable_87 rfl rfl ?_
        refine xr_bipush 24 dX4_fillTable_88 (by decide) ?_
        refine xr_aload_n 1 dX4_fillTable_90 rfl rfl ?_
        obtain ⟨t14, h⟩ := h
        refine yr_getI dX4_fillTable_91 fl_RX4_16 e2 t14 ?_
        refine xr_callS [.int (xI M8 a1 2)] dX4_fillTable_94 cs_X4_fillTable_67 rfl (Nat.le_trans (wt_i (wt_r wt_0)) (by decide)) (by decide) (xSp.mono h ?_)
        clear h
        intro ρ17 M16 h
        obtain ⟨v15, rfl, h⟩ := h
        refine xr_iadd dX4_fillTable_97 ?_
        refine xr_iload_n 2 dX4_fillTable_98 rfl rfl ?_
        refine xr_iadd dX4_fillTable_99 ?_
        refine xr_aload_n 3 dX4_fillTable_100 rfl rfl ?_
        obtain ⟨t19, h⟩ := h
        refine yr_getI dX4_fillTable_101 fl_RX4_64 e5 t19 ?_
        obtain ⟨t24, h⟩ := h
        refine yr_callV (r := r0) [.int ((24 + v15) + x2), .int (xI M16 a4 7)] dX4_fillTable_104 cv_X4_fillTable_22 e12 t24 rfl (Nat.le_trans wt_0 (by decide)) (by decide) (xSp.mono h ?_)
        clear h
        intro ρ22 M21 h
        obtain ⟨rfl, h⟩ := h
        refine ziinc (x2 + 1) dX4_fillTable_107 rfl rfl (L1 := [(1, va_rf r0), (1, va_rf r1), (1, .int (x2 + 1)), (1, va_rf r3)]) (by decide) rfl ?_
        refine xr_aload_n 3 dX4_fillTable_110 rfl rfl ?_
        obtain ⟨t25, h⟩ := h
        refine yr_getR dX4_fillTable_111 fl_RX4_70 e5 t25 ?_
        refine zastore_n 3 dX4_fillTable_114 rfl (L1 := [(1, va_rf r0), (1, va_rf r1), (1, .int (x2 + 1)), (1, va_rf (xR M21 a4 11))]) (by decide) rfl ?_
        refine xr_goto 7 dX4_fillTable_115 (by decide) ?_
        exact h
      · replace h := hf c43
        clear ht hf
        refine xr_aload_n 0 dX4_fillTable_45 rfl rfl ?_
        refine xr_bipush 24 dX4_fillTable_46 (by decide) ?_
        refine xr_aload_n 3 dX4_fillTable_48 rfl rfl ?_
        obtain ⟨a26, e27, h⟩ := h
        obtain ⟨t28, h⟩ := h
        refine yr_getI dX4_fillTable_49 fl_RX4_61 e27 t28 ?_
        refine xr_iadd dX4_fillTable_52 ?_
        refine xr_iload_n 2 dX4_fillTable_53 rfl rfl ?_
        refine xr_iconst 1 dX4_fillTable_54 (by decide) ?_
        refine xr_iadd dX4_fillTable_55 ?_
        obtain ⟨a33, e34, h⟩ := h
        obtain ⟨t35, h⟩ := h
        refine yr_callV (r := r0) [.int (24 + (xI M a26 6)), .int (x2 + 1)] dX4_fillTable_56 cv_X4_fillTable_22 e34 t35 rfl (Nat.le_trans wt_0 (by decide)) (by decide) (xSp.mono h ?_)
        clear h
        intro ρ31 M30 h
        obtain ⟨rfl, h⟩ := h
        refine xr_aload_n 0 dX4_fillTable_59 rfl rfl ?_
        refine xr_sipush 280 dX4_fillTable_60 (by decide) ?_
        refine xr_iload_n 2 dX4_fillTable_63 rfl rfl ?_
        refine xr_iadd dX4_fillTable_64 ?_
        refine xr_aload_n 3 dX4_fillTable_65 rfl rfl ?_
        obtain ⟨t36, h⟩ := h
        refine yr_getI dX4_fillTable_66 fl_RX4_64 e27 t36 ?_
        obtain ⟨t41, h⟩ := h
        refine yr_callV (r := r0) [.int (280 + x2), .int (xI M30 a26 7)] dX4_fillTable_69 cv_X4_fillTable_22 e34 t41 rfl (Nat.le_trans wt_0 (by decide)) (by decide) (xSp.mono h ?_)
        clear h
        intro ρ39 M38 h
        obtain ⟨rfl, h⟩ := h
        refine xr_goto 107 dX4_fillTable_72 (by decide) ?_
        refine ziinc (x2 + 1) dX4_fillTable_107 rfl rfl (L1 := [(1, va_rf r0), (1, va_rf r1), (1, .int (x2 + 1)), (1, va_rf r3)]) (by decide) rfl ?_
        refine xr_aload_n 3 dX4_fillTable_110 rfl rfl ?_
        obtain ⟨t42, h⟩ := h
        refine yr_getR dX4_fillTable_111 fl_RX4_70 e27 t42 ?_
        refine zastore_n 3 dX4_fillTable_114 rfl (L1 := [(1, va_rf r0), (1, va_rf r1), (1, .int (x2 + 1)), (1, va_rf (xR M38 a26 11))]) (by decide) rfl ?_
        refine xr_goto 7 dX4_fillTable_115 (by decide) ?_
        exact h
    · replace h := hf c55
      clear ht hf
      refine xr_aload_n 0 dX4_fillTable_19 rfl rfl ?_
      refine xr_bipush 24 dX4_fillTable_20 (by decide) ?_
      refine xr_aload_n 3 dX4_fillTable_22 rfl rfl ?_
      obtain ⟨a44, e45, h⟩ := h
      obtain ⟨t46, h⟩ := h
      refine yr_getI dX4_fillTable_23 fl_RX4_61 e45 t46 ?_
      refine xr_iadd dX4_fillTable_26 ?_
      refine xr_aload_n 3 dX4_fillTable_27 rfl rfl ?_
      refine yr_getI dX4_fillTable_28 fl_RX4_64 e45 t46 ?_
      obtain ⟨a51, e52, h⟩ := h
      obtain ⟨t53, h⟩ := h
      refine yr_callV (r := r0) [.int (24 + (xI M a44 6)), .int (xI M a44 7)] dX4_fillTable_31 cv_X4_fillTable_22 e52 t53 rfl (Nat.le_trans wt_0 (by decide)) (by decide) (xSp.mono h ?_)
      clear h
      intro ρ49 M48 h
      obtain ⟨rfl, h⟩ := h
      refine xr_goto 107 dX4_fillTable_34 (by decide) ?_
      refine ziinc (x2 + 1) dX4_fillTable_107 rfl rfl (L1 := [(1, va_rf r0), (1, va_rf r1), (1, .int (x2 + 1)), (1, va_rf r3)]) (by decide) rfl ?_
      refine xr_aload_n 3 dX4_fillTable_110 rfl rfl ?_
      obtain ⟨t54, h⟩ := h
      refine yr_getR dX4_fillTable_111 fl_RX4_70 e45 t54 ?_
      refine zastore_n 3 dX4_fillTable_114 rfl (L1 := [(1, va_rf r0), (1, va_rf r1), (1, .int (x2 + 1)), (1, va_rf (xR M48 a44 11))]) (by decide) rfl ?_
      refine xr_goto 7 dX4_fillTable_115 (by decide) ?_
      exact h
set_option maxRecDepth 100000 in
set_option maxHeartbeats 4000000 in
theorem bX4_fillTable_0 {l : Launch} {g : xG} (r0 : Option Nat) (r1 : Option Nat) {M : xM} {Q : Option Value → xM → Prop} (h : (∃ a1, r1 = some a1 ∧ xat M a1 1 ∧ xWp l g mX4_fillTable 0 0 7 [(1, va_rf r0), (1, va_rf r1), (1, .int 0), (1, va_rf (xR M a1 10))] [] (0, 0) M Q)) : xWp l g mX4_fillTable 0 0 0 [(1, va_rf r0), (1, va_rf r1), (0, .null), (0, .null)] [] (0, 0) M Q := by
  refine xr_iconst 0 dX4_fillTable_0 (by decide) ?_
  refine zistore_n 2 dX4_fillTable_1 rfl (L1 := [(1, va_rf r0), (1, va_rf r1), (1, .int 0), (0, .null)]) (by decide) rfl ?_
  refine xr_aload_n 1 dX4_fillTable_2 rfl rfl ?_
  obtain ⟨a1, e2, h⟩ := h
  obtain ⟨t3, h⟩ := h
  refine yr_getR dX4_fillTable_3 fl_RX4_55 e2 t3 ?_
  refine zastore_n 3 dX4_fillTable_6 rfl (L1 := [(1, va_rf r0), (1, va_rf r1), (1, .int 0), (1, va_rf (xR M a1 10))]) (by decide) rfl ?_
  exact h
