/-! Decode rows and blocks: 17.bStore -/
theorem dX6_init_0 : decode cX6_init 0 = .ok (.aload_n 0, 1) := by decide +kernel
theorem dX6_init_1 : decode cX6_init 1 = .ok (.invokespecial 3, 3) := by decide +kernel
theorem dX6_init_4 : decode cX6_init 4 = .ok (.aload_n 0, 1) := by decide +kernel
theorem dX6_init_5 : decode cX6_init 5 = .ok (.new 9, 3) := by decide +kernel
theorem dX6_init_8 : decode cX6_init 8 = .ok (.dup, 1) := by decide +kernel
theorem dX6_init_9 : decode cX6_init 9 = .ok (.invokespecial 11, 3) := by decide +kernel
theorem dX6_init_12 : decode cX6_init 12 = .ok (.putfield 12, 3) := by decide +kernel
theorem dX6_init_15 : decode cX6_init 15 = .ok (.aload_n 0, 1) := by decide +kernel
theorem dX6_init_16 : decode cX6_init 16 = .ok (.new 18, 3) := by decide +kernel
theorem dX6_init_19 : decode cX6_init 19 = .ok (.dup, 1) := by decide +kernel
theorem dX6_init_20 : decode cX6_init 20 = .ok (.invokespecial 20, 3) := by decide +kernel
theorem dX6_init_23 : decode cX6_init 23 = .ok (.putfield 21, 3) := by decide +kernel
theorem dX6_init_26 : decode cX6_init 26 = .ok (.aload_n 0, 1) := by decide +kernel
theorem dX6_init_27 : decode cX6_init 27 = .ok (.new 18, 3) := by decide +kernel
theorem dX6_init_30 : decode cX6_init 30 = .ok (.dup, 1) := by decide +kernel
theorem dX6_init_31 : decode cX6_init 31 = .ok (.invokespecial 20, 3) := by decide +kernel
theorem dX6_init_34 : decode cX6_init 34 = .ok (.putfield 25, 3) := by decide +kernel
theorem dX6_init_37 : decode cX6_init 37 = .ok (.aload_n 0, 1) := by decide +kernel
theorem dX6_init_38 : decode cX6_init 38 = .ok (.sipush 256, 3) := by decide +kernel
theorem dX6_init_41 : decode cX6_init 41 = .ok (.newarray .boolean, 2) := by decide +kernel
theorem dX6_init_43 : decode cX6_init 43 = .ok (.putfield 28, 3) := by decide +kernel
theorem dX6_init_46 : decode cX6_init 46 = .ok (.return_, 1) := by decide +kernel
set_option maxRecDepth 100000 in
set_option maxHeartbeats 4000000 in
theorem bX6_init_0 {l : Launch} {g : xG} {mc ms : Nat} (a0 : Nat) {M : xM} {Q : Option Value → xM → Prop} (h : ((0 + 1 ≤ mc ∧ 0 + 3 ≤ ms) ∧ ∀ q1, q1 ∉ xL M → (∃ mc8 ms9, ((0 + 1) + mc8 ≤ mc ∧ (0 + 3) + ms9 ≤ ms) ∧ xSp l g mX0_init mc8 ms9 [va_rf (some q1)] (xnew M q1 0 0) (fun ρ6 M5 => ρ6 = none ∧ (xat M5 a0 3 ∧ ((((0 + 1) + mc8) + 1 ≤ mc ∧ ((0 + 3) + ms9) + 1 ≤ ms) ∧ ∀ q11, q11 ∉ xL (xsR M5 a0 0 (some q1)) → (∃ mc18 ms19, ((((0 + 1) + mc8) + 1) + mc18 ≤ mc ∧ (((0 + 3) + ms9) + 1) + ms19 ≤ ms) ∧ xSp l g mX5_init mc18 ms19 [va_rf (some q11)] (xnew (xsR M5 a0 0 (some q1)) q11 2 0) (fun ρ16 M15 => ρ16 = none ∧ (xat M15 a0 3 ∧ ((((((0 + 1) + mc8) + 1) + mc18) + 1 ≤ mc ∧ ((((0 + 3) + ms9) + 1) + ms19) + 1 ≤ ms) ∧ ∀ q21, q21 ∉ xL (xsR M15 a0 1 (some q11)) → (∃ mc28 ms29, ((((((0 + 1) + mc8) + 1) + mc18) + 1) + mc28 ≤ mc ∧ (((((0 + 3) + ms9) + 1) + ms19) + 1) + ms29 ≤ ms) ∧ xSp l g mX5_init mc28 ms29 [va_rf (some q21)] (xnew (xsR M15 a0 1 (some q11)) q21 2 0) (fun ρ26 M25 => ρ26 = none ∧ (xat M25 a0 3 ∧ ((((((((0 + 1) + mc8) + 1) + mc18) + 1) + mc28) + 1 ≤ mc ∧ ((((((0 + 3) + ms9) + 1) + ms19) + 1) + ms29) + 256 ≤ ms) ∧ ∀ q34, q34 ∉ xL (xsR M25 a0 2 (some q21)) → (((((((((0 + 1) + mc8) + 1) + mc18) + 1) + mc28) + 1) ≤ mc ∧ (((((((0 + 3) + ms9) + 1) + ms19) + 1) + ms29) + 256) ≤ ms) ∧ Q none (xsR (xnew (xsR M25 a0 2 (some q21)) q34 11 256) a0 3 (some q34))))))))))))))))) : xWp l g mX6_init mc ms 0 [(1, va_rf (some a0))] [] (0, 0) M Q := by
  refine xr_aload_n 0 dX6_init_0 rfl rfl ?_
  refine xr_obj dX6_init_1 ml_RX6_3 obj_inst obj_code (by decide) (by decide) ?_
  refine xr_aload_n 0 dX6_init_4 rfl rfl ?_
  obtain ⟨hm3, h⟩ := h
  refine xr_new dX6_init_5 cn_RX6_9 hm3 (fun q1 hq2 => ?_)
  replace h := h q1 hq2
  refine xr_dup dX6_init_8 (va_rf_cat _) ?_
  obtain ⟨mc8, ms9, hm40, h⟩ := h
  refine xr_callIN (a := q1) [] dX6_init_9 ci_X6_init_11 rfl (Nat.le_trans (wt_r (wt_r wt_0)) (by decide)) hm40 (xSp.mono h ?_)
  clear h
  intro ρ6 M5 h
  obtain ⟨rfl, h⟩ := h
  obtain ⟨t10, h⟩ := h
  refine yr_putRF dX6_init_12 rfl fp_RX6_12 (Or.inl ⟨_, rfl⟩) rfl t10 ?_
  refine xr_aload_n 0 dX6_init_15 rfl rfl ?_
  obtain ⟨hm13, h⟩ := h
  refine xr_new dX6_init_16 cn_RX6_18 hm13 (fun q11 hq12 => ?_)
  replace h := h q11 hq12
  refine xr_dup dX6_init_19 (va_rf_cat _) ?_
  obtain ⟨mc18, ms19, hm39, h⟩ := h
  refine xr_callIN (a := q11) [] dX6_init_20 ci_X6_init_20 rfl (Nat.le_trans (wt_r (wt_r wt_0)) (by decide)) hm39 (xSp.mono h ?_)
  clear h
  intro ρ16 M15 h
  obtain ⟨rfl, h⟩ := h
  obtain ⟨t20, h⟩ := h
  refine yr_putRF dX6_init_23 rfl fp_RX6_21 (Or.inl ⟨_, rfl⟩) rfl t20 ?_
  refine xr_aload_n 0 dX6_init_26 rfl rfl ?_
  obtain ⟨hm23, h⟩ := h
  refine xr_new dX6_init_27 cn_RX6_18 hm23 (fun q21 hq22 => ?_)
  replace h := h q21 hq22
  refine xr_dup dX6_init_30 (va_rf_cat _) ?_
  obtain ⟨mc28, ms29, hm38, h⟩ := h
  refine xr_callIN (a := q21) [] dX6_init_31 ci_X6_init_20 rfl (Nat.le_trans (wt_r (wt_r wt_0)) (by decide)) hm38 (xSp.mono h ?_)
  clear h
  intro ρ26 M25 h
  obtain ⟨rfl, h⟩ := h
  obtain ⟨t30, h⟩ := h
  refine yr_putRF dX6_init_34 rfl fp_RX6_25 (Or.inl ⟨_, rfl⟩) rfl t30 ?_
  refine xr_aload_n 0 dX6_init_37 rfl rfl ?_
  refine xr_sipush 256 dX6_init_38 (by decide) ?_
  obtain ⟨hm36, h⟩ := h
  refine xr_newa (kd := 11) (t := 3) (n := 256) dX6_init_41 rfl arr_boolean (fun _ => rfl) (by decide) (by decide) rfl (by decide) (by decide) (by decide) hm36 (fun q34 hq35 => ?_)
  replace h := h q34 hq35
  refine yr_putRF dX6_init_43 rfl fp_RX6_28 (Or.inr ⟨_, rfl⟩) rfl (xat_old hq35 t30) ?_
  obtain ⟨hm37, h⟩ := h
  exact xr_ret hm37 (xRv rfl dX6_init_46) h
theorem dX6_save_0 : decode cX6_save 0 = .ok (.aload_n 0, 1) := by decide +kernel
theorem dX6_save_1 : decode cX6_save 1 = .ok (.aload_n 2, 1) := by decide +kernel
theorem dX6_save_2 : decode cX6_save 2 = .ok (.invokevirtual 32, 3) := by decide +kernel
theorem dX6_save_5 : decode cX6_save 5 = .ok (.aload_n 1, 1) := by decide +kernel
theorem dX6_save_6 : decode cX6_save 6 = .ok (.getfield 36, 3) := by decide +kernel
theorem dX6_save_9 : decode cX6_save 9 = .ok (.invokevirtual 42, 3) := by decide +kernel
theorem dX6_save_12 : decode cX6_save 12 = .ok (.astore 4, 2) := by decide +kernel
theorem dX6_save_14 : decode cX6_save 14 = .ok (.aload 4, 2) := by decide +kernel
theorem dX6_save_16 : decode cX6_save 16 = .ok (.ifnull 32, 3) := by decide +kernel
theorem dX6_save_19 : decode cX6_save 19 = .ok (.aload 4, 2) := by decide +kernel
theorem dX6_save_21 : decode cX6_save 21 = .ok (.getfield 48, 3) := by decide +kernel
theorem dX6_save_24 : decode cX6_save 24 = .ok (.ifCond .eq 14, 3) := by decide +kernel
theorem dX6_save_27 : decode cX6_save 27 = .ok (.aload_n 0, 1) := by decide +kernel
theorem dX6_save_28 : decode cX6_save 28 = .ok (.aload 4, 2) := by decide +kernel
theorem dX6_save_30 : decode cX6_save 30 = .ok (.invokevirtual 52, 3) := by decide +kernel
theorem dX6_save_33 : decode cX6_save 33 = .ok (.ifCond .ne 5, 3) := by decide +kernel
theorem dX6_save_36 : decode cX6_save 36 = .ok (.iconst 0, 1) := by decide +kernel
theorem dX6_save_37 : decode cX6_save 37 = .ok (.ireturn, 1) := by decide +kernel
theorem dX6_save_38 : decode cX6_save 38 = .ok (.aload 4, 2) := by decide +kernel
theorem dX6_save_40 : decode cX6_save 40 = .ok (.invokevirtual 56, 3) := by decide +kernel
theorem dX6_save_43 : decode cX6_save 43 = .ok (.astore 4, 2) := by decide +kernel
theorem dX6_save_45 : decode cX6_save 45 = .ok (.goto (-31), 3) := by decide +kernel
theorem dX6_save_48 : decode cX6_save 48 = .ok (.aload_n 0, 1) := by decide +kernel
theorem dX6_save_49 : decode cX6_save 49 = .ok (.getfield 21, 3) := by decide +kernel
theorem dX6_save_52 : decode cX6_save 52 = .ok (.iload_n 3, 1) := by decide +kernel
theorem dX6_save_53 : decode cX6_save 53 = .ok (.i2l, 1) := by decide +kernel
theorem dX6_save_54 : decode cX6_save 54 = .ok (.aload_n 1, 1) := by decide +kernel
theorem dX6_save_55 : decode cX6_save 55 = .ok (.getfield 36, 3) := by decide +kernel
theorem dX6_save_58 : decode cX6_save 58 = .ok (.getfield 59, 3) := by decide +kernel
theorem dX6_save_61 : decode cX6_save 61 = .ok (.aload_n 1, 1) := by decide +kernel
theorem dX6_save_62 : decode cX6_save 62 = .ok (.getfield 63, 3) := by decide +kernel
theorem dX6_save_65 : decode cX6_save 65 = .ok (.invokestatic 66, 3) := by decide +kernel
theorem dX6_save_68 : decode cX6_save 68 = .ok (.aload_n 0, 1) := by decide +kernel
theorem dX6_save_69 : decode cX6_save 69 = .ok (.getfield 12, 3) := by decide +kernel
theorem dX6_save_72 : decode cX6_save 72 = .ok (.iload_n 3, 1) := by decide +kernel
theorem dX6_save_73 : decode cX6_save 73 = .ok (.iconst 2, 1) := by decide +kernel
theorem dX6_save_74 : decode cX6_save 74 = .ok (.irem, 1) := by decide +kernel
theorem dX6_save_75 : decode cX6_save 75 = .ok (.aload_n 0, 1) := by decide +kernel
theorem dX6_save_76 : decode cX6_save 76 = .ok (.getfield 21, 3) := by decide +kernel
theorem dX6_save_79 : decode cX6_save 79 = .ok (.invokevirtual 72, 3) := by decide +kernel
theorem dX6_save_82 : decode cX6_save 82 = .ok (.ireturn, 1) := by decide +kernel
set_option maxRecDepth 100000 in
set_option maxHeartbeats 4000000 in
theorem bX6_save_14 {l : Launch} {g : xG} (a0 : Nat) (r1 : Option Nat) (r2 : Option Nat) (x3 : Int32) (r4 : Option Nat) {M : xM} {Q : Option Value → xM → Prop} (h : ((r4 = none → (xat M a0 3 ∧ (∃ a2, r1 = some a2 ∧ xat M a2 5 ∧ (∃ a5, (xR M a2 2) = some a5 ∧ xat M a5 1 ∧ (xSp l g mX2_fill 0 0 [va_rf (xR M a0 1), .long x3.toInt64, .int (xI M a5 7), .int (xI M a2 4)] M (fun ρ10 M9 => ρ10 = none ∧ (xat M9 a0 3 ∧ (∃ a17, (xR M9 a0 0) = some a17 ∧ xat M9 a17 0 ∧ xSp l g mX0_write 0 0 [va_rf (xR M9 a0 0), .int (x3 - x3 / 2 * 2), va_rf (xR M9 a0 1)] M9 (fun ρ15 M14 => ∃ v13 : Int32, ρ15 = some (.int v13) ∧ ((v13 = 0 ∨ v13 = 1) ∧ Q (some (.int v13)) M14)))))))))) ∧ (¬ r4 = none → (∃ a21, r4 = some a21 ∧ xat M a21 1 ∧ (((xI M a21 8) = 0 → (xSp l g mX3_above 0 0 [va_rf r4] M (fun ρ26 M25 => ∃ v24 : Option Nat, ρ26 = some (va_rf v24) ∧ xWp l g mX6_save 0 0 14 [(1, va_rf (some a0)), (1, va_rf r1), (1, va_rf r2), (1, .int x3), (1, va_rf v24)] [] (0, 0) M25 Q))) ∧ (¬ (xI M a21 8) = 0 → (xat M a0 3 ∧ xSp l g mX6_saveNode 0 0 [va_rf (some a0), va_rf r4] M (fun ρ30 M29 => ∃ v28 : Int32, ρ30 = some (.int v28) ∧ ((¬ v28 = 0 → (xat M29 a21 1 ∧ xSp l g mX3_above 0 0 [va_rf r4] M29 (fun ρ35 M34 => ∃ v33 : Option Nat, ρ35 = some (va_rf v33) ∧ xWp l g mX6_save 0 0 14 [(1, va_rf (some a0)), (1, va_rf r1), (1, va_rf r2), (1, .int x3), (1, va_rf v33)] [] (0, 0) M34 Q))) ∧ (v28 = 0 → (Q (some (.int 0)) M29))))))))))) : xWp l g mX6_save 0 0 14 [(1, va_rf (some a0)), (1, va_rf r1), (1, va_rf r2), (1, .int x3), (1, va_rf r4)] [] (0, 0) M Q := by
  refine xr_aload dX6_save_14 rfl ?_
  obtain ⟨ht, hf⟩ := h
  refine xr_ifnull 48 dX6_save_16 (by decide) (fun c40 => ?_) (fun c40 => ?_)
  · replace h := ht c40
    clear ht hf
    refine xr_aload_n 0 dX6_save_48 rfl rfl ?_
    obtain ⟨t1, h⟩ := h
    refine yr_getR dX6_save_49 fl_RX6_21 rfl t1 ?_
    refine xr_iload_n 3 dX6_save_52 rfl rfl ?_
    refine xr_i2l dX6_save_53 ?_
    refine xr_aload_n 1 dX6_save_54 rfl rfl ?_
    obtain ⟨a2, e3, h⟩ := h
    obtain ⟨t4, h⟩ := h
    refine yr_getR dX6_save_55 fl_RX6_36 e3 t4 ?_
    obtain ⟨a5, e6, h⟩ := h
    obtain ⟨t7, h⟩ := h
    refine yr_getI dX6_save_58 fl_RX6_59 e6 t7 ?_
    refine xr_aload_n 1 dX6_save_61 rfl rfl ?_
    refine yr_getI dX6_save_62 fl_RX6_63 e3 t4 ?_
    refine xr_callS [va_rf (xR M a0 1), .long x3.toInt64, .int (xI M a5 7), .int (xI M a2 4)] dX6_save_65 cs_X6_save_66 rfl (Nat.le_trans wt_0 (by decide)) (by decide) (xSp.mono h ?_)
    clear h
    intro ρ10 M9 h
    obtain ⟨rfl, h⟩ := h
    refine xr_aload_n 0 dX6_save_68 rfl rfl ?_
    obtain ⟨t12, h⟩ := h
    refine yr_getR dX6_save_69 fl_RX6_12 rfl t12 ?_
    refine xr_iload_n 3 dX6_save_72 rfl rfl ?_
    refine xr_iconst 2 dX6_save_73 (by decide) ?_
    refine xr_irem dX6_save_74 (by decide) ?_
    refine xr_aload_n 0 dX6_save_75 rfl rfl ?_
    refine yr_getR dX6_save_76 fl_RX6_21 rfl t12 ?_
    obtain ⟨a17, e18, h⟩ := h
    obtain ⟨t19, h⟩ := h
    refine yr_callV (r := (xR M9 a0 0)) [.int (x3 - x3 / 2 * 2), va_rf (xR M9 a0 1)] dX6_save_79 cv_X6_save_72 e18 t19 rfl (Nat.le_trans wt_0 (by decide)) (by decide) (xSp.mono h ?_)
    clear h
    intro ρ15 M14 h
    obtain ⟨v13, rfl, h⟩ := h
    obtain ⟨z20, h⟩ := h
    exact xr_retv (by decide) (xRi rfl (nar_z z20) dX6_save_82) h
  · replace h := hf c40
    clear ht hf
    refine xr_aload dX6_save_19 rfl ?_
    obtain ⟨a21, e22, h⟩ := h
    obtain ⟨t23, h⟩ := h
    refine yr_getZ dX6_save_21 fl_RX6_48 e22 t23 ?_
    obtain ⟨ht, hf⟩ := h
    refine xr_if_eq 38 dX6_save_24 (by decide) (fun c39 => ?_) (fun c39 => ?_)
    · replace h := ht c39
      clear ht hf
      refine xr_aload dX6_save_38 rfl ?_
      refine yr_callV (r := r4) [] dX6_save_40 cv_X6_save_56 e22 t23 rfl (Nat.le_trans wt_0 (by decide)) (by decide) (xSp.mono h ?_)
      clear h
      intro ρ26 M25 h
      obtain ⟨v24, rfl, h⟩ := h
      refine zastore dX6_save_43 (L1 := [(1, va_rf (some a0)), (1, va_rf r1), (1, va_rf r2), (1, .int x3), (1, va_rf v24)]) (by decide) rfl ?_
      refine xr_goto 14 dX6_save_45 (by decide) ?_
      exact h
    · replace h := hf c39
      clear ht hf
      refine xr_aload_n 0 dX6_save_27 rfl rfl ?_
      refine xr_aload dX6_save_28 rfl ?_
      obtain ⟨t32, h⟩ := h
      refine yr_callV (r := (some a0)) [va_rf r4] dX6_save_30 cv_X6_save_52 rfl t32 rfl (Nat.le_trans wt_0 (by decide)) (by decide) (xSp.mono h ?_)
      clear h
      intro ρ30 M29 h
      obtain ⟨v28, rfl, h⟩ := h
      obtain ⟨ht, hf⟩ := h
      refine xr_if_ne 38 dX6_save_33 (by decide) (fun c38 => ?_) (fun c38 => ?_)
      · replace h := ht c38
        clear ht hf
        refine xr_aload dX6_save_38 rfl ?_
        obtain ⟨t37, h⟩ := h
        refine yr_callV (r := r4) [] dX6_save_40 cv_X6_save_56 e22 t37 rfl (Nat.le_trans wt_0 (by decide)) (by decide) (xSp.mono h ?_)
        clear h
        intro ρ35 M34 h
        obtain ⟨v33, rfl, h⟩ := h
        refine zastore dX6_save_43 (L1 := [(1, va_rf (some a0)), (1, va_rf r1), (1, va_rf r2), (1, .int x3), (1, va_rf v33)]) (by decide) rfl ?_
        refine xr_goto 14 dX6_save_45 (by decide) ?_
        exact h
      · replace h := hf c38
        clear ht hf
        refine xr_iconst 0 dX6_save_36 (by decide) ?_
        exact xr_retv (by decide) (xRi rfl rfl dX6_save_37) h
set_option maxRecDepth 100000 in
set_option maxHeartbeats 4000000 in
theorem bX6_save_0 {l : Launch} {g : xG} (a0 : Nat) (r1 : Option Nat) (r2 : Option Nat) (x3 : Int32) {M : xM} {Q : Option Value → xM → Prop} (h : (xat M a0 3 ∧ xSp l g mX6_markPagesOf 0 0 [va_rf (some a0), va_rf r2] M (fun ρ3 M2 => ρ3 = none ∧ (∃ a6, r1 = some a6 ∧ xat M2 a6 5 ∧ (∃ a13, (xR M2 a6 2) = some a13 ∧ xat M2 a13 1 ∧ xSp l g mX3_lowest 0 0 [va_rf (xR M2 a6 2)] M2 (fun ρ11 M10 => ∃ v9 : Option Nat, ρ11 = some (va_rf v9) ∧ xWp l g mX6_save 0 0 14 [(1, va_rf (some a0)), (1, va_rf r1), (1, va_rf r2), (1, .int x3), (1, va_rf v9)] [] (0, 0) M10 Q)))))) : xWp l g mX6_save 0 0 0 [(1, va_rf (some a0)), (1, va_rf r1), (1, va_rf r2), (1, .int x3), (0, .null)] [] (0, 0) M Q := by
  refine xr_aload_n 0 dX6_save_0 rfl rfl ?_
  refine xr_aload_n 2 dX6_save_1 rfl rfl ?_
  obtain ⟨t5, h⟩ := h
  refine yr_callV (r := (some a0)) [va_rf r2] dX6_save_2 cv_X6_save_32 rfl t5 rfl (Nat.le_trans wt_0 (by decide)) (by decide) (xSp.mono h ?_)
  clear h
  intro ρ3 M2 h
  obtain ⟨rfl, h⟩ := h
  refine xr_aload_n 1 dX6_save_5 rfl rfl ?_
  obtain ⟨a6, e7, h⟩ := h
  obtain ⟨t8, h⟩ := h
  refine yr_getR dX6_save_6 fl_RX6_36 e7 t8 ?_
  obtain ⟨a13, e14, h⟩ := h
  obtain ⟨t15, h⟩ := h
  refine yr_callV (r := (xR M2 a6 2)) [] dX6_save_9 cv_X6_save_42 e14 t15 rfl (Nat.le_trans wt_0 (by decide)) (by decide) (xSp.mono h ?_)
  clear h
  intro ρ11 M10 h
  obtain ⟨v9, rfl, h⟩ := h
  refine zastore dX6_save_12 (L1 := [(1, va_rf (some a0)), (1, va_rf r1), (1, va_rf r2), (1, .int x3), (1, va_rf v9)]) (by decide) rfl ?_
  exact h
theorem dX6_saveNode_0 : decode cX6_saveNode 0 = .ok (.aload_n 1, 1) := by decide +kernel
theorem dX6_saveNode_1 : decode cX6_saveNode 1 = .ok (.aload_n 0, 1) := by decide +kernel
theorem dX6_saveNode_2 : decode cX6_saveNode 2 = .ok (.invokevirtual 76, 3) := by decide +kernel
theorem dX6_saveNode_5 : decode cX6_saveNode 5 = .ok (.putfield 59, 3) := by decide +kernel
theorem dX6_saveNode_8 : decode cX6_saveNode 8 = .ok (.aload_n 0, 1) := by decide +kernel
theorem dX6_saveNode_9 : decode cX6_saveNode 9 = .ok (.getfield 21, 3) := by decide +kernel
theorem dX6_saveNode_12 : decode cX6_saveNode 12 = .ok (.aload_n 1, 1) := by decide +kernel
theorem dX6_saveNode_13 : decode cX6_saveNode 13 = .ok (.invokestatic 80, 3) := by decide +kernel
theorem dX6_saveNode_16 : decode cX6_saveNode 16 = .ok (.aload_n 0, 1) := by decide +kernel
theorem dX6_saveNode_17 : decode cX6_saveNode 17 = .ok (.getfield 12, 3) := by decide +kernel
theorem dX6_saveNode_20 : decode cX6_saveNode 20 = .ok (.aload_n 1, 1) := by decide +kernel
theorem dX6_saveNode_21 : decode cX6_saveNode 21 = .ok (.getfield 59, 3) := by decide +kernel
theorem dX6_saveNode_24 : decode cX6_saveNode 24 = .ok (.aload_n 0, 1) := by decide +kernel
theorem dX6_saveNode_25 : decode cX6_saveNode 25 = .ok (.getfield 21, 3) := by decide +kernel
theorem dX6_saveNode_28 : decode cX6_saveNode 28 = .ok (.invokevirtual 72, 3) := by decide +kernel
theorem dX6_saveNode_31 : decode cX6_saveNode 31 = .ok (.ireturn, 1) := by decide +kernel
set_option maxRecDepth 100000 in
set_option maxHeartbeats 4000000 in
theorem bX6_saveNode_0 {l : Launch} {g : xG} (a0 : Nat) (r1 : Option Nat) {M : xM} {Q : Option Value → xM → Prop} (h : (xat M a0 3 ∧ xSp l g mX6_takeLeastPage 0 0 [va_rf (some a0)] M (fun ρ3 M2 => ∃ v1 : Int32, ρ3 = some (.int v1) ∧ (∃ a6, r1 = some a6 ∧ xat M2 a6 1 ∧ (xat (xsI M2 a6 7 v1) a0 3 ∧ (xSp l g mX4_fill 0 0 [va_rf (xR (xsI M2 a6 7 v1) a0 1), va_rf r1] (xsI M2 a6 7 v1) (fun ρ12 M11 => ρ12 = none ∧ (xat M11 a0 3 ∧ (xat M11 a6 1 ∧ (∃ a20, (xR M11 a0 0) = some a20 ∧ xat M11 a20 0 ∧ xSp l g mX0_write 0 0 [va_rf (xR M11 a0 0), .int (xI M11 a6 7), va_rf (xR M11 a0 1)] M11 (fun ρ18 M17 => ∃ v16 : Int32, ρ18 = some (.int v16) ∧ ((v16 = 0 ∨ v16 = 1) ∧ Q (some (.int v16)) M17)))))))))))) : xWp l g mX6_saveNode 0 0 0 [(1, va_rf (some a0)), (1, va_rf r1)] [] (0, 0) M Q := by
  refine xr_aload_n 1 dX6_saveNode_0 rfl rfl ?_
  refine xr_aload_n 0 dX6_saveNode_1 rfl rfl ?_
  obtain ⟨t5, h⟩ := h
  refine yr_callV (r := (some a0)) [] dX6_saveNode_2 cv_X6_saveNode_76 rfl t5 rfl (Nat.le_trans (wt_r wt_0) (by decide)) (by decide) (xSp.mono h ?_)
  clear h
  intro ρ3 M2 h
  obtain ⟨v1, rfl, h⟩ := h
  obtain ⟨a6, e7, h⟩ := h
  obtain ⟨t8, h⟩ := h
  refine yr_putI dX6_saveNode_5 fp_RX6_59 e7 t8 ?_
  refine xr_aload_n 0 dX6_saveNode_8 rfl rfl ?_
  obtain ⟨t9, h⟩ := h
  refine yr_getR dX6_saveNode_9 fl_RX6_21 rfl t9 ?_
  refine xr_aload_n 1 dX6_saveNode_12 rfl rfl ?_
  refine xr_callS [va_rf (xR (xsI M2 a6 7 v1) a0 1), va_rf r1] dX6_saveNode_13 cs_X6_saveNode_80 rfl (Nat.le_trans wt_0 (by decide)) (by decide) (xSp.mono h ?_)
  clear h
  intro ρ12 M11 h
  obtain ⟨rfl, h⟩ := h
  refine xr_aload_n 0 dX6_saveNode_16 rfl rfl ?_
  obtain ⟨t14, h⟩ := h
  refine yr_getR dX6_saveNode_17 fl_RX6_12 rfl t14 ?_
  refine xr_aload_n 1 dX6_saveNode_20 rfl rfl ?_
  obtain ⟨t15, h⟩ := h
  refine yr_getI dX6_saveNode_21 fl_RX6_59 e7 t15 ?_
  refine xr_aload_n 0 dX6_saveNode_24 rfl rfl ?_
  refine yr_getR dX6_saveNode_25 fl_RX6_21 rfl t14 ?_
  obtain ⟨a20, e21, h⟩ := h
  obtain ⟨t22, h⟩ := h
  refine yr_callV (r := (xR M11 a0 0)) [.int (xI M11 a6 7), va_rf (xR M11 a0 1)] dX6_saveNode_28 cv_X6_saveNode_72 e21 t22 rfl (Nat.le_trans wt_0 (by decide)) (by decide) (xSp.mono h ?_)
  clear h
  intro ρ18 M17 h
  obtain ⟨v16, rfl, h⟩ := h
  obtain ⟨z23, h⟩ := h
  exact xr_retv (by decide) (xRi rfl (nar_z z23) dX6_saveNode_31) h
theorem dX6_freeAllPages_0 : decode cX6_freeAllPages 0 = .ok (.iconst 0, 1) := by decide +kernel
theorem dX6_freeAllPages_1 : decode cX6_freeAllPages 1 = .ok (.istore_n 1, 1) := by decide +kernel
theorem dX6_freeAllPages_2 : decode cX6_freeAllPages 2 = .ok (.iload_n 1, 1) := by decide +kernel
theorem dX6_freeAllPages_3 : decode cX6_freeAllPages 3 = .ok (.aload_n 0, 1) := by decide +kernel
theorem dX6_freeAllPages_4 : decode cX6_freeAllPages 4 = .ok (.getfield 28, 3) := by decide +kernel
theorem dX6_freeAllPages_7 : decode cX6_freeAllPages 7 = .ok (.arraylength, 1) := by decide +kernel
theorem dX6_freeAllPages_8 : decode cX6_freeAllPages 8 = .ok (.if_icmp .ge 16, 3) := by decide +kernel
theorem dX6_freeAllPages_11 : decode cX6_freeAllPages 11 = .ok (.aload_n 0, 1) := by decide +kernel
theorem dX6_freeAllPages_12 : decode cX6_freeAllPages 12 = .ok (.getfield 28, 3) := by decide +kernel
theorem dX6_freeAllPages_15 : decode cX6_freeAllPages 15 = .ok (.iload_n 1, 1) := by decide +kernel
theorem dX6_freeAllPages_16 : decode cX6_freeAllPages 16 = .ok (.iconst 0, 1) := by decide +kernel
theorem dX6_freeAllPages_17 : decode cX6_freeAllPages 17 = .ok (.bastore, 1) := by decide +kernel
theorem dX6_freeAllPages_18 : decode cX6_freeAllPages 18 = .ok (.iinc 1 1, 3) := by decide +kernel
theorem dX6_freeAllPages_21 : decode cX6_freeAllPages 21 = .ok (.goto (-19), 3) := by decide +kernel
theorem dX6_freeAllPages_24 : decode cX6_freeAllPages 24 = .ok (.return_, 1) := by decide +kernel
set_option maxRecDepth 100000 in
set_option maxHeartbeats 4000000 in
theorem bX6_freeAllPages_2 {l : Launch} {g : xG} (a0 : Nat) (x1 : Int32) {M : xM} {Q : Option Value → xM → Prop} (h : (xat M a0 3 ∧ (∃ a2, (xR M a0 3) = some a2 ∧ xat M a2 11 ∧ (((nI (xN M a2)) ≤ x1 → (Q none M)) ∧ (¬ (nI (xN M a2)) ≤ x1 → (∃ i5, xai M a2 11 x1 i5 ∧ xWp l g mX6_freeAllPages 0 0 2 [(1, va_rf (some a0)), (1, .int (x1 + 1))] [] (0, 0) (xsI M a2 i5 ((0 : Int32) &&& 1)) Q)))))) : xWp l g mX6_freeAllPages 0 0 2 [(1, va_rf (some a0)), (1, .int x1)] [] (0, 0) M Q := by
  refine xr_iload_n 1 dX6_freeAllPages_2 rfl rfl ?_
  refine xr_aload_n 0 dX6_freeAllPages_3 rfl rfl ?_
  obtain ⟨t1, h⟩ := h
  refine yr_getR dX6_freeAllPages_4 fl_RX6_28 rfl t1 ?_
  obtain ⟨a2, e3, h⟩ := h
  obtain ⟨t4, h⟩ := h
  refine yr_alen11 dX6_freeAllPages_7 e3 t4 ?_
  obtain ⟨ht, hf⟩ := h
  refine xr_icmp_ge 24 dX6_freeAllPages_8 (by decide) (fun c7 => ?_) (fun c7 => ?_)
  · replace h := ht c7
    clear ht hf
    exact xr_ret (by decide) (xRv rfl dX6_freeAllPages_24) h
  · replace h := hf c7
    clear ht hf
    refine xr_aload_n 0 dX6_freeAllPages_11 rfl rfl ?_
    refine yr_getR dX6_freeAllPages_12 fl_RX6_28 rfl t1 ?_
    refine xr_iload_n 1 dX6_freeAllPages_15 rfl rfl ?_
    refine xr_iconst 0 dX6_freeAllPages_16 (by decide) ?_
    obtain ⟨i5, t6, h⟩ := h
    refine yr_zast dX6_freeAllPages_17 e3 t6 ?_
    refine ziinc (x1 + 1) dX6_freeAllPages_18 rfl rfl (L1 := [(1, va_rf (some a0)), (1, .int (x1 + 1))]) (by decide) rfl ?_
    refine xr_goto 2 dX6_freeAllPages_21 (by decide) ?_
    exact h
set_option maxRecDepth 100000 in
set_option maxHeartbeats 4000000 in
theorem bX6_freeAllPages_0 {l : Launch} {g : xG} (a0 : Nat) {M : xM} {Q : Option Value → xM → Prop} (h : xWp l g mX6_freeAllPages 0 0 2 [(1, va_rf (some a0)), (1, .int 0)] [] (0, 0) M Q) : xWp l g mX6_freeAllPages 0 0 0 [(1, va_rf (some a0)), (0, .null)] [] (0, 0) M Q := by
  refine xr_iconst 0 dX6_freeAllPages_0 (by decide) ?_
  refine zistore_n 1 dX6_freeAllPages_1 rfl (L1 := [(1, va_rf (some a0)), (1, .int 0)]) (by decide) rfl ?_
  exact h
theorem dX6_markPagesOf_0 : decode cX6_markPagesOf 0 = .ok (.aload_n 0, 1) := by decide +kernel
theorem dX6_markPagesOf_1 : decode cX6_markPagesOf 1 = .ok (.invokevirtual 85, 3) := by decide +kernel
theorem dX6_markPagesOf_4 : decode cX6_markPagesOf 4 = .ok (.aload_n 1, 1) := by decide +kernel
theorem dX6_markPagesOf_5 : decode cX6_markPagesOf 5 = .ok (.getfield 36, 3) := by decide +kernel
theorem dX6_markPagesOf_8 : decode cX6_markPagesOf 8 = .ok (.astore_n 2, 1) := by decide +kernel
theorem dX6_markPagesOf_9 : decode cX6_markPagesOf 9 = .ok (.aload_n 2, 1) := by decide +kernel
theorem dX6_markPagesOf_10 : decode cX6_markPagesOf 10 = .ok (.ifnull 20, 3) := by decide +kernel
theorem dX6_markPagesOf_13 : decode cX6_markPagesOf 13 = .ok (.aload_n 0, 1) := by decide +kernel
theorem dX6_markPagesOf_14 : decode cX6_markPagesOf 14 = .ok (.aload_n 2, 1) := by decide +kernel
theorem dX6_markPagesOf_15 : decode cX6_markPagesOf 15 = .ok (.getfield 59, 3) := by decide +kernel
theorem dX6_markPagesOf_18 : decode cX6_markPagesOf 18 = .ok (.invokevirtual 88, 3) := by decide +kernel
theorem dX6_markPagesOf_21 : decode cX6_markPagesOf 21 = .ok (.pop, 1) := by decide +kernel
theorem dX6_markPagesOf_22 : decode cX6_markPagesOf 22 = .ok (.aload_n 2, 1) := by decide +kernel
theorem dX6_markPagesOf_23 : decode cX6_markPagesOf 23 = .ok (.invokevirtual 92, 3) := by decide +kernel
theorem dX6_markPagesOf_26 : decode cX6_markPagesOf 26 = .ok (.astore_n 2, 1) := by decide +kernel
theorem dX6_markPagesOf_27 : decode cX6_markPagesOf 27 = .ok (.goto (-18), 3) := by decide +kernel
theorem dX6_markPagesOf_30 : decode cX6_markPagesOf 30 = .ok (.return_, 1) := by decide +kernel
set_option maxRecDepth 100000 in
set_option maxHeartbeats 4000000 in
theorem bX6_markPagesOf_9 {l : Launch} {g : xG} (a0 : Nat) (r1 : Option Nat) (r2 : Option Nat) {M : xM} {Q : Option Value → xM → Prop} (h : ((r2 = none → (Q none M)) ∧ (¬ r2 = none → (∃ a1, r2 = some a1 ∧ xat M a1 1 ∧ (xat M a0 3 ∧ xSp l g mX6_takePage 0 0 [va_rf (some a0), .int (xI M a1 7)] M (fun ρ6 M5 => ∃ v4 : Int32, ρ6 = some (.int v4) ∧ (xat M5 a1 1 ∧ xSp l g mX3_following 0 0 [va_rf r2] M5 (fun ρ11 M10 => ∃ v9 : Option Nat, ρ11 = some (va_rf v9) ∧ xWp l g mX6_markPagesOf 0 0 9 [(1, va_rf (some a0)), (1, va_rf r1), (1, va_rf v9)] [] (0, 0) M10 Q)))))))) : xWp l g mX6_markPagesOf 0 0 9 [(1, va_rf (some a0)), (1, va_rf r1), (1, va_rf r2)] [] (0, 0) M Q := by
  refine xr_aload_n 2 dX6_markPagesOf_9 rfl rfl ?_
  obtain ⟨ht, hf⟩ := h
  refine xr_ifnull 30 dX6_markPagesOf_10 (by decide) (fun c14 => ?_) (fun c14 => ?_)
  · replace h := ht c14
    clear ht hf
    exact xr_ret (by decide) (xRv rfl dX6_markPagesOf_30) h
  · replace h := hf c14
    clear ht hf
    refine xr_aload_n 0 dX6_markPagesOf_13 rfl rfl ?_
    refine xr_aload_n 2 dX6_markPagesOf_14 rfl rfl ?_
    obtain ⟨a1, e2, h⟩ := h
    obtain ⟨t3, h⟩ := h
    refine yr_getI dX6_markPagesOf_15 fl_RX6_59 e2 t3 ?_
    obtain ⟨t8, h⟩ := h
    refine yr_callV (r := (some a0)) [.int (xI M a1 7)] dX6_markPagesOf_18 cv_X6_markPagesOf_88 rfl t8 rfl (Nat.le_trans wt_0 (by decide)) (by decide) (xSp.mono h ?_)
    clear h
    intro ρ6 M5 h
    obtain ⟨v4, rfl, h⟩ := h
    refine xr_pop dX6_markPagesOf_21 rfl ?_
    refine xr_aload_n 2 dX6_markPagesOf_22 rfl rfl ?_
    obtain ⟨t13, h⟩ := h
    refine yr_callV (r := r2) [] dX6_markPagesOf_23 cv_X6_markPagesOf_92 e2 t13 rfl (Nat.le_trans wt_0 (by decide)) (by decide) (xSp.mono h ?_)
    clear h
    intro ρ11 M10 h
    obtain ⟨v9, rfl, h⟩ := h
    refine zastore_n 2 dX6_markPagesOf_26 rfl (L1 := [(1, va_rf (some a0)), (1, va_rf r1), (1, va_rf v9)]) (by decide) rfl ?_
    refine xr_goto 9 dX6_markPagesOf_27 (by decide) ?_
    exact h
set_option maxRecDepth 100000 in
set_option maxHeartbeats 4000000 in
theorem bX6_markPagesOf_0 {l : Launch} {g : xG} (a0 : Nat) (r1 : Option Nat) {M : xM} {Q : Option Value → xM → Prop} (h : (xat M a0 3 ∧ xSp l g mX6_freeAllPages 0 0 [va_rf (some a0)] M (fun ρ3 M2 => ρ3 = none ∧ (∃ a6, r1 = some a6 ∧ xat M2 a6 5 ∧ xWp l g mX6_markPagesOf 0 0 9 [(1, va_rf (some a0)), (1, va_rf r1), (1, va_rf (xR M2 a6 2))] [] (0, 0) M2 Q)))) : xWp l g mX6_markPagesOf 0 0 0 [(1, va_rf (some a0)), (1, va_rf r1), (0, .null)] [] (0, 0) M Q := by
  refine xr_aload_n 0 dX6_markPagesOf_0 rfl rfl ?_
  obtain ⟨t5, h⟩ := h
  refine yr_callV (r := (some a0)) [] dX6_markPagesOf_1 cv_X6_markPagesOf_85 rfl t5 rfl (Nat.le_trans wt_0 (by decide)) (by decide) (xSp.mono h ?_)
  clear h
  intro ρ3 M2 h
  obtain ⟨rfl, h⟩ := h
  refine xr_aload_n 1 dX6_markPagesOf_4 rfl rfl ?_
  obtain ⟨a6, e7, h⟩ := h
  obtain ⟨t8, h⟩ := h
  refine yr_getR dX6_markPagesOf_5 fl_RX6_36 e7 t8 ?_
  refine zastore_n 2 dX6_markPagesOf_8 rfl (L1 := [(1, va_rf (some a0)), (1, va_rf r1), (1, va_rf (xR M2 a6 2))]) (by decide) rfl ?_
  exact h
theorem dX6_takePage_0 : decode cX6_takePage 0 = .ok (.iload_n 1, 1) := by decide +kernel
theorem dX6_takePage_1 : decode cX6_takePage 1 = .ok (.iconst 2, 1) := by decide +kernel
theorem dX6_takePage_2 : decode cX6_takePage 2 = .ok (.if_icmp .lt 21, 3) := by decide +kernel
theorem dX6_takePage_5 : decode cX6_takePage 5 = .ok (.iload_n 1, 1) := by decide +kernel
theorem dX6_takePage_6 : decode cX6_takePage 6 = .ok (.aload_n 0, 1) := by decide +kernel
theorem dX6_takePage_7 : decode cX6_takePage 7 = .ok (.getfield 28, 3) := by decide +kernel
theorem dX6_takePage_10 : decode cX6_takePage 10 = .ok (.arraylength, 1) := by decide +kernel
theorem dX6_takePage_11 : decode cX6_takePage 11 = .ok (.if_icmp .ge 12, 3) := by decide +kernel
theorem dX6_takePage_14 : decode cX6_takePage 14 = .ok (.aload_n 0, 1) := by decide +kernel
theorem dX6_takePage_15 : decode cX6_takePage 15 = .ok (.getfield 28, 3) := by decide +kernel
theorem dX6_takePage_18 : decode cX6_takePage 18 = .ok (.iload_n 1, 1) := by decide +kernel
theorem dX6_takePage_19 : decode cX6_takePage 19 = .ok (.baload, 1) := by decide +kernel
theorem dX6_takePage_20 : decode cX6_takePage 20 = .ok (.ifCond .eq 5, 3) := by decide +kernel
theorem dX6_takePage_23 : decode cX6_takePage 23 = .ok (.iconst 0, 1) := by decide +kernel
theorem dX6_takePage_24 : decode cX6_takePage 24 = .ok (.ireturn, 1) := by decide +kernel
theorem dX6_takePage_25 : decode cX6_takePage 25 = .ok (.aload_n 0, 1) := by decide +kernel
theorem dX6_takePage_26 : decode cX6_takePage 26 = .ok (.getfield 28, 3) := by decide +kernel
theorem dX6_takePage_29 : decode cX6_takePage 29 = .ok (.iload_n 1, 1) := by decide +kernel
theorem dX6_takePage_30 : decode cX6_takePage 30 = .ok (.iconst 1, 1) := by decide +kernel
theorem dX6_takePage_31 : decode cX6_takePage 31 = .ok (.bastore, 1) := by decide +kernel
theorem dX6_takePage_32 : decode cX6_takePage 32 = .ok (.iconst 1, 1) := by decide +kernel
theorem dX6_takePage_33 : decode cX6_takePage 33 = .ok (.ireturn, 1) := by decide +kernel
set_option maxRecDepth 100000 in
set_option maxHeartbeats 4000000 in
theorem bX6_takePage_0 {l : Launch} {g : xG} (a0 : Nat) (x1 : Int32) {M : xM} {Q : Option Value → xM → Prop} (h : ((x1 < 2 → (Q (some (.int 0)) M)) ∧ (¬ x1 < 2 → (xat M a0 3 ∧ (∃ a2, (xR M a0 3) = some a2 ∧ xat M a2 11 ∧ (((nI (xN M a2)) ≤ x1 → (Q (some (.int 0)) M)) ∧ (¬ (nI (xN M a2)) ≤ x1 → (∃ i5, xai M a2 11 x1 i5 ∧ (((xI M a2 i5) = 0 → (∃ i7, xai M a2 11 x1 i7 ∧ (Q (some (.int 1)) (xsI M a2 i7 ((1 : Int32) &&& 1))))) ∧ (¬ (xI M a2 i5) = 0 → (Q (some (.int 0)) M))))))))))) : xWp l g mX6_takePage 0 0 0 [(1, va_rf (some a0)), (1, .int x1)] [] (0, 0) M Q := by
  refine xr_iload_n 1 dX6_takePage_0 rfl rfl ?_
  refine xr_iconst 2 dX6_takePage_1 (by decide) ?_
  obtain ⟨ht, hf⟩ := h
  refine xr_icmp_lt 23 dX6_takePage_2 (by decide) (fun c11 => ?_) (fun c11 => ?_)
  · replace h := ht c11
    clear ht hf
    refine xr_iconst 0 dX6_takePage_23 (by decide) ?_
    exact xr_retv (by decide) (xRi rfl rfl dX6_takePage_24) h
  · replace h := hf c11
    clear ht hf
    refine xr_iload_n 1 dX6_takePage_5 rfl rfl ?_
    refine xr_aload_n 0 dX6_takePage_6 rfl rfl ?_
    obtain ⟨t1, h⟩ := h
    refine yr_getR dX6_takePage_7 fl_RX6_28 rfl t1 ?_
    obtain ⟨a2, e3, h⟩ := h
    obtain ⟨t4, h⟩ := h
    refine yr_alen11 dX6_takePage_10 e3 t4 ?_
    obtain ⟨ht, hf⟩ := h
    refine xr_icmp_ge 23 dX6_takePage_11 (by decide) (fun c10 => ?_) (fun c10 => ?_)
    · replace h := ht c10
      clear ht hf
      refine xr_iconst 0 dX6_takePage_23 (by decide) ?_
      exact xr_retv (by decide) (xRi rfl rfl dX6_takePage_24) h
    · replace h := hf c10
      clear ht hf
      refine xr_aload_n 0 dX6_takePage_14 rfl rfl ?_
      refine yr_getR dX6_takePage_15 fl_RX6_28 rfl t1 ?_
      refine xr_iload_n 1 dX6_takePage_18 rfl rfl ?_
      obtain ⟨i5, t6, h⟩ := h
      refine yr_zald dX6_takePage_19 e3 t6 ?_
      obtain ⟨ht, hf⟩ := h
      refine xr_if_eq 25 dX6_takePage_20 (by decide) (fun c9 => ?_) (fun c9 => ?_)
      · replace h := ht c9
        clear ht hf
        refine xr_aload_n 0 dX6_takePage_25 rfl rfl ?_
        refine yr_getR dX6_takePage_26 fl_RX6_28 rfl t1 ?_
        refine xr_iload_n 1 dX6_takePage_29 rfl rfl ?_
        refine xr_iconst 1 dX6_takePage_30 (by decide) ?_
        obtain ⟨i7, t8, h⟩ := h
        refine yr_zast dX6_takePage_31 e3 t8 ?_
        refine xr_iconst 1 dX6_takePage_32 (by decide) ?_
        exact xr_retv (by decide) (xRi rfl rfl dX6_takePage_33) h
      · replace h := hf c9
        clear ht hf
        refine xr_iconst 0 dX6_takePage_23 (by decide) ?_
        exact xr_retv (by decide) (xRi rfl rfl dX6_takePage_24) h
theorem dX6_takeLeastPage_0 : decode cX6_takeLeastPage 0 = .ok (.iconst 2, 1) := by decide +kernel
theorem dX6_takeLeastPage_1 : decode cX6_takeLeastPage 1 = .ok (.istore_n 1, 1) := by decide +kernel
theorem dX6_takeLeastPage_2 : decode cX6_takeLeastPage 2 = .ok (.iload_n 1, 1) := by decide +kernel
theorem dX6_takeLeastPage_3 : decode cX6_takeLeastPage 3 = .ok (.aload_n 0, 1) := by decide +kernel
theorem dX6_takeLeastPage_4 : decode cX6_takeLeastPage 4 = .ok (.getfield 28, 3) := by decide +kernel
theorem dX6_takeLeastPage_7 : decode cX6_takeLeastPage 7 = .ok (.arraylength, 1) := by decide +kernel
theorem dX6_takeLeastPage_8 : decode cX6_takeLeastPage 8 = .ok (.if_icmp .ge 19, 3) := by decide +kernel
theorem dX6_takeLeastPage_11 : decode cX6_takeLeastPage 11 = .ok (.aload_n 0, 1) := by decide +kernel
theorem dX6_takeLeastPage_12 : decode cX6_takeLeastPage 12 = .ok (.iload_n 1, 1) := by decide +kernel
theorem dX6_takeLeastPage_13 : decode cX6_takeLeastPage 13 = .ok (.invokevirtual 88, 3) := by decide +kernel
theorem dX6_takeLeastPage_16 : decode cX6_takeLeastPage 16 = .ok (.ifCond .eq 5, 3) := by decide +kernel
theorem dX6_takeLeastPage_19 : decode cX6_takeLeastPage 19 = .ok (.iload_n 1, 1) := by decide +kernel
theorem dX6_takeLeastPage_20 : decode cX6_takeLeastPage 20 = .ok (.ireturn, 1) := by decide +kernel
theorem dX6_takeLeastPage_21 : decode cX6_takeLeastPage 21 = .ok (.iinc 1 1, 3) := by decide +kernel
theorem dX6_takeLeastPage_24 : decode cX6_takeLeastPage 24 = .ok (.goto (-22), 3) := by decide +kernel
theorem dX6_takeLeastPage_27 : decode cX6_takeLeastPage 27 = .ok (.iconst (-1), 1) := by decide +kernel
theorem dX6_takeLeastPage_28 : decode cX6_takeLeastPage 28 = .ok (.ireturn, 1) := by decide +kernel
set_option maxRecDepth 100000 in
set_option maxHeartbeats 4000000 in
theorem bX6_takeLeastPage_2 {l : Launch} {g : xG} (a0 : Nat) (x1 : Int32) {M : xM} {Q : Option Value → xM → Prop} (h : (xat M a0 3 ∧ (∃ a2, (xR M a0 3) = some a2 ∧ xat M a2 11 ∧ (((nI (xN M a2)) ≤ x1 → (Q (some (.int (-1))) M)) ∧ (¬ (nI (xN M a2)) ≤ x1 → (xSp l g mX6_takePage 0 0 [va_rf (some a0), .int x1] M (fun ρ7 M6 => ∃ v5 : Int32, ρ7 = some (.int v5) ∧ ((v5 = 0 → xWp l g mX6_takeLeastPage 0 0 2 [(1, va_rf (some a0)), (1, .int (x1 + 1))] [] (0, 0) M6 Q) ∧ (¬ v5 = 0 → (Q (some (.int x1)) M6)))))))))) : xWp l g mX6_takeLeastPage 0 0 2 [(1, va_rf (some a0)), (1, .int x1)] [] (0, 0) M Q := by
  refine xr_iload_n 1 dX6_takeLeastPage_2 rfl rfl ?_
  refine xr_aload_n 0 dX6_takeLeastPage_3 rfl rfl ?_
  obtain ⟨t1, h⟩ := h
  refine yr_getR dX6_takeLeastPage_4 fl_RX6_28 rfl t1 ?_
  obtain ⟨a2, e3, h⟩ := h
  obtain ⟨t4, h⟩ := h
  refine yr_alen11 dX6_takeLeastPage_7 e3 t4 ?_
  obtain ⟨ht, hf⟩ := h
  refine xr_icmp_ge 27 dX6_takeLeastPage_8 (by decide) (fun c10 => ?_) (fun c10 => ?_)
  · replace h := ht c10
    clear ht hf
    refine xr_iconst (-1) dX6_takeLeastPage_27 (by decide) ?_
    exact xr_retv (by decide) (xRi rfl rfl dX6_takeLeastPage_28) h
  · replace h := hf c10
    clear ht hf
    refine xr_aload_n 0 dX6_takeLeastPage_11 rfl rfl ?_
    refine xr_iload_n 1 dX6_takeLeastPage_12 rfl rfl ?_
    refine yr_callV (r := (some a0)) [.int x1] dX6_takeLeastPage_13 cv_X6_takeLeastPage_88 rfl t1 rfl (Nat.le_trans wt_0 (by decide)) (by decide) (xSp.mono h ?_)
    clear h
    intro ρ7 M6 h
    obtain ⟨v5, rfl, h⟩ := h
    obtain ⟨ht, hf⟩ := h
    refine xr_if_eq 21 dX6_takeLeastPage_16 (by decide) (fun c9 => ?_) (fun c9 => ?_)
    · replace h := ht c9
      clear ht hf
      refine ziinc (x1 + 1) dX6_takeLeastPage_21 rfl rfl (L1 := [(1, va_rf (some a0)), (1, .int (x1 + 1))]) (by decide) rfl ?_
      refine xr_goto 2 dX6_takeLeastPage_24 (by decide) ?_
      exact h
    · replace h := hf c9
      clear ht hf
      refine xr_iload_n 1 dX6_takeLeastPage_19 rfl rfl ?_
      exact xr_retv (by decide) (xRi rfl rfl dX6_takeLeastPage_20) h
set_option maxRecDepth 100000 in
set_option maxHeartbeats 4000000 in
theorem bX6_takeLeastPage_0 {l : Launch} {g : xG} (a0 : Nat) {M : xM} {Q : Option Value → xM → Prop} (h : xWp l g mX6_takeLeastPage 0 0 2 [(1, va_rf (some a0)), (1, .int 2)] [] (0, 0) M Q) : xWp l g mX6_takeLeastPage 0 0 0 [(1, va_rf (some a0)), (0, .null)] [] (0, 0) M Q := by
  refine xr_iconst 2 dX6_takeLeastPage_0 (by decide) ?_
  refine zistore_n 1 dX6_takeLeastPage_1 rfl (L1 := [(1, va_rf (some a0)), (1, .int 2)]) (by decide) rfl ?_
  exact h
theorem dX6_load_0 : decode cX6_load 0 = .ok (.aload_n 0, 1) := by decide +kernel
theorem dX6_load_1 : decode cX6_load 1 = .ok (.iconst 0, 1) := by decide +kernel
theorem dX6_load_2 : decode cX6_load 2 = .ok (.invokevirtual 95, 3) := by decide +kernel
theorem dX6_load_5 : decode cX6_load 5 = .ok (.istore_n 2, 1) := by decide +kernel
theorem dX6_load_6 : decode cX6_load 6 = .ok (.aload_n 0, 1) := by decide +kernel
theorem dX6_load_7 : decode cX6_load 7 = .ok (.iconst 1, 1) := by decide +kernel
theorem dX6_load_8 : decode cX6_load 8 = .ok (.invokevirtual 95, 3) := by decide +kernel
theorem dX6_load_11 : decode cX6_load 11 = .ok (.istore_n 3, 1) := by decide +kernel
theorem dX6_load_12 : decode cX6_load 12 = .ok (.iload_n 2, 1) := by decide +kernel
theorem dX6_load_13 : decode cX6_load 13 = .ok (.iload_n 3, 1) := by decide +kernel
theorem dX6_load_14 : decode cX6_load 14 = .ok (.if_icmp .le 7, 3) := by decide +kernel
theorem dX6_load_17 : decode cX6_load 17 = .ok (.iconst 0, 1) := by decide +kernel
theorem dX6_load_18 : decode cX6_load 18 = .ok (.goto 4, 3) := by decide +kernel
theorem dX6_load_21 : decode cX6_load 21 = .ok (.iconst 1, 1) := by decide +kernel
theorem dX6_load_22 : decode cX6_load 22 = .ok (.istore 4, 2) := by decide +kernel
theorem dX6_load_24 : decode cX6_load 24 = .ok (.iload_n 2, 1) := by decide +kernel
theorem dX6_load_25 : decode cX6_load 25 = .ok (.iload_n 3, 1) := by decide +kernel
theorem dX6_load_26 : decode cX6_load 26 = .ok (.invokestatic 99, 3) := by decide +kernel
theorem dX6_load_29 : decode cX6_load 29 = .ok (.ifCond .le 19, 3) := by decide +kernel
theorem dX6_load_32 : decode cX6_load 32 = .ok (.aload_n 0, 1) := by decide +kernel
theorem dX6_load_33 : decode cX6_load 33 = .ok (.iload 4, 2) := by decide +kernel
theorem dX6_load_35 : decode cX6_load 35 = .ok (.aload_n 1, 1) := by decide +kernel
theorem dX6_load_36 : decode cX6_load 36 = .ok (.invokevirtual 105, 3) := by decide +kernel
theorem dX6_load_39 : decode cX6_load 39 = .ok (.ifCond .eq 9, 3) := by decide +kernel
theorem dX6_load_42 : decode cX6_load 42 = .ok (.iload_n 2, 1) := by decide +kernel
theorem dX6_load_43 : decode cX6_load 43 = .ok (.iload_n 3, 1) := by decide +kernel
theorem dX6_load_44 : decode cX6_load 44 = .ok (.invokestatic 99, 3) := by decide +kernel
theorem dX6_load_47 : decode cX6_load 47 = .ok (.ireturn, 1) := by decide +kernel
theorem dX6_load_48 : decode cX6_load 48 = .ok (.iload_n 2, 1) := by decide +kernel
theorem dX6_load_49 : decode cX6_load 49 = .ok (.iload_n 3, 1) := by decide +kernel
theorem dX6_load_50 : decode cX6_load 50 = .ok (.invokestatic 109, 3) := by decide +kernel
theorem dX6_load_53 : decode cX6_load 53 = .ok (.ifCond .le 21, 3) := by decide +kernel
theorem dX6_load_56 : decode cX6_load 56 = .ok (.aload_n 0, 1) := by decide +kernel
theorem dX6_load_57 : decode cX6_load 57 = .ok (.iconst 1, 1) := by decide +kernel
theorem dX6_load_58 : decode cX6_load 58 = .ok (.iload 4, 2) := by decide +kernel
theorem dX6_load_60 : decode cX6_load 60 = .ok (.isub, 1) := by decide +kernel
theorem dX6_load_61 : decode cX6_load 61 = .ok (.aload_n 1, 1) := by decide +kernel
theorem dX6_load_62 : decode cX6_load 62 = .ok (.invokevirtual 105, 3) := by decide +kernel
theorem dX6_load_65 : decode cX6_load 65 = .ok (.ifCond .eq 9, 3) := by decide +kernel
theorem dX6_load_68 : decode cX6_load 68 = .ok (.iload_n 2, 1) := by decide +kernel
theorem dX6_load_69 : decode cX6_load 69 = .ok (.iload_n 3, 1) := by decide +kernel
theorem dX6_load_70 : decode cX6_load 70 = .ok (.invokestatic 109, 3) := by decide +kernel
theorem dX6_load_73 : decode cX6_load 73 = .ok (.ireturn, 1) := by decide +kernel
theorem dX6_load_74 : decode cX6_load 74 = .ok (.aload_n 1, 1) := by decide +kernel
theorem dX6_load_75 : decode cX6_load 75 = .ok (.invokevirtual 112, 3) := by decide +kernel
theorem dX6_load_78 : decode cX6_load 78 = .ok (.iconst 0, 1) := by decide +kernel
theorem dX6_load_79 : decode cX6_load 79 = .ok (.ireturn, 1) := by decide +kernel
set_option maxRecDepth 100000 in
set_option maxHeartbeats 4000000 in
theorem bX6_load_48 {l : Launch} {g : xG} (a0 : Nat) (r1 : Option Nat) (x2 : Int32) (x3 : Int32) (x4 : Int32) {M : xM} {Q : Option Value → xM → Prop} (h : (((if x3 < x2 then x3 else x2) ≤ 0 → (∃ a5, r1 = some a5 ∧ xat M a5 5 ∧ xSp l g mX8_clear 0 0 [va_rf r1] M (fun ρ3 M2 => ρ3 = none ∧ (Q (some (.int 0)) M2)))) ∧ (¬ (if x3 < x2 then x3 else x2) ≤ 0 → (xat M a0 3 ∧ xSp l g mX6_loadBy 0 0 [va_rf (some a0), .int (1 - x4), va_rf r1] M (fun ρ10 M9 => ∃ v8 : Int32, ρ10 = some (.int v8) ∧ ((v8 = 0 → (∃ a17, r1 = some a17 ∧ xat M9 a17 5 ∧ xSp l g mX8_clear 0 0 [va_rf r1] M9 (fun ρ15 M14 => ρ15 = none ∧ (Q (some (.int 0)) M14)))) ∧ (¬ v8 = 0 → (Q (some (.int (if x3 < x2 then x3 else x2))) M9)))))))) : xWp l g mX6_load 0 0 48 [(1, va_rf (some a0)), (1, va_rf r1), (1, .int x2), (1, .int x3), (1, .int x4)] [] (0, 0) M Q := by
  refine xr_iload_n 2 dX6_load_48 rfl rfl ?_
  refine xr_iload_n 3 dX6_load_49 rfl rfl ?_
  refine xr_mmin dX6_load_50 ml_RX6_109 stat_min ini_Math code_min (by decide) (wt_13 (Nat.le_of_ble_eq_true rfl) (by decide)) (by decide) ?_
  obtain ⟨ht, hf⟩ := h
  refine xr_if_le 74 dX6_load_53 (by decide) (fun c21 => ?_) (fun c21 => ?_)
  · replace h := ht c21
    clear ht hf
    refine xr_aload_n 1 dX6_load_74 rfl rfl ?_
    obtain ⟨a5, e6, h⟩ := h
    obtain ⟨t7, h⟩ := h
    refine yr_callV (r := r1) [] dX6_load_75 cv_X6_load_112 e6 t7 rfl (Nat.le_trans wt_0 (by decide)) (by decide) (xSp.mono h ?_)
    clear h
    intro ρ3 M2 h
    obtain ⟨rfl, h⟩ := h
    refine xr_iconst 0 dX6_load_78 (by decide) ?_
    exact xr_retv (by decide) (xRi rfl rfl dX6_load_79) h
  · replace h := hf c21
    clear ht hf
    refine xr_aload_n 0 dX6_load_56 rfl rfl ?_
    refine xr_iconst 1 dX6_load_57 (by decide) ?_
    refine xr_iload dX6_load_58 rfl ?_
    refine xr_isub dX6_load_60 ?_
    refine xr_aload_n 1 dX6_load_61 rfl rfl ?_
    obtain ⟨t12, h⟩ := h
    refine yr_callV (r := (some a0)) [.int (1 - x4), va_rf r1] dX6_load_62 cv_X6_load_105 rfl t12 rfl (Nat.le_trans wt_0 (by decide)) (by decide) (xSp.mono h ?_)
    clear h
    intro ρ10 M9 h
    obtain ⟨v8, rfl, h⟩ := h
    obtain ⟨ht, hf⟩ := h
    refine xr_if_eq 74 dX6_load_65 (by decide) (fun c20 => ?_) (fun c20 => ?_)
    · replace h := ht c20
      clear ht hf
      refine xr_aload_n 1 dX6_load_74 rfl rfl ?_
      obtain ⟨a17, e18, h⟩ := h
      obtain ⟨t19, h⟩ := h
      refine yr_callV (r := r1) [] dX6_load_75 cv_X6_load_112 e18 t19 rfl (Nat.le_trans wt_0 (by decide)) (by decide) (xSp.mono h ?_)
      clear h
      intro ρ15 M14 h
      obtain ⟨rfl, h⟩ := h
      refine xr_iconst 0 dX6_load_78 (by decide) ?_
      exact xr_retv (by decide) (xRi rfl rfl dX6_load_79) h
    · replace h := hf c20
      clear ht hf
      refine xr_iload_n 2 dX6_load_68 rfl rfl ?_
      refine xr_iload_n 3 dX6_load_69 rfl rfl ?_
      refine xr_mmin dX6_load_70 ml_RX6_109 stat_min ini_Math code_min (by decide) (wt_13 (Nat.le_of_ble_eq_true rfl) (by decide)) (by decide) ?_
      exact xr_retv (by decide) (xRi rfl rfl dX6_load_73) h
set_option maxRecDepth 100000 in
set_option maxHeartbeats 4000000 in
theorem bX6_load_0 {l : Launch} {g : xG} (a0 : Nat) (r1 : Option Nat) {M : xM} {Q : Option Value → xM → Prop} (h : (xat M a0 3 ∧ xSp l g mX6_rightSequence 0 0 [va_rf (some a0), .int 0] M (fun ρ3 M2 => ∃ v1 : Int32, ρ3 = some (.int v1) ∧ (xat M2 a0 3 ∧ xSp l g mX6_rightSequence 0 0 [va_rf (some a0), .int 1] M2 (fun ρ8 M7 => ∃ v6 : Int32, ρ8 = some (.int v6) ∧ ((v1 ≤ v6 → (((if v1 < v6 then v6 else v1) ≤ 0 → xWp l g mX6_load 0 0 48 [(1, va_rf (some a0)), (1, va_rf r1), (1, .int v1), (1, .int v6), (1, .int 1)] [] (0, 0) M7 Q) ∧ (¬ (if v1 < v6 then v6 else v1) ≤ 0 → (xat M7 a0 3 ∧ xSp l g mX6_loadBy 0 0 [va_rf (some a0), .int 1, va_rf r1] M7 (fun ρ13 M12 => ∃ v11 : Int32, ρ13 = some (.int v11) ∧ ((v11 = 0 → xWp l g mX6_load 0 0 48 [(1, va_rf (some a0)), (1, va_rf r1), (1, .int v1), (1, .int v6), (1, .int 1)] [] (0, 0) M12 Q) ∧ (¬ v11 = 0 → (Q (some (.int (if v1 < v6 then v6 else v1))) M12)))))))) ∧ (¬ v1 ≤ v6 → (((if v1 < v6 then v6 else v1) ≤ 0 → xWp l g mX6_load 0 0 48 [(1, va_rf (some a0)), (1, va_rf r1), (1, .int v1), (1, .int v6), (1, .int 0)] [] (0, 0) M7 Q) ∧ (¬ (if v1 < v6 then v6 else v1) ≤ 0 → (xat M7 a0 3 ∧ xSp l g mX6_loadBy 0 0 [va_rf (some a0), .int 0, va_rf r1] M7 (fun ρ20 M19 => ∃ v18 : Int32, ρ20 = some (.int v18) ∧ ((v18 = 0 → xWp l g mX6_load 0 0 48 [(1, va_rf (some a0)), (1, va_rf r1), (1, .int v1), (1, .int v6), (1, .int 0)] [] (0, 0) M19 Q) ∧ (¬ v18 = 0 → (Q (some (.int (if v1 < v6 then v6 else v1))) M19)))))))))))))) : xWp l g mX6_load 0 0 0 [(1, va_rf (some a0)), (1, va_rf r1), (0, .null), (0, .null), (0, .null)] [] (0, 0) M Q := by
  refine xr_aload_n 0 dX6_load_0 rfl rfl ?_
  refine xr_iconst 0 dX6_load_1 (by decide) ?_
  obtain ⟨t5, h⟩ := h
  refine yr_callV (r := (some a0)) [.int 0] dX6_load_2 cv_X6_load_95 rfl t5 rfl (Nat.le_trans wt_0 (by decide)) (by decide) (xSp.mono h ?_)
  clear h
  intro ρ3 M2 h
  obtain ⟨v1, rfl, h⟩ := h
  refine zistore_n 2 dX6_load_5 rfl (L1 := [(1, va_rf (some a0)), (1, va_rf r1), (1, .int v1), (0, .null), (0, .null)]) (by decide) rfl ?_
  refine xr_aload_n 0 dX6_load_6 rfl rfl ?_
  refine xr_iconst 1 dX6_load_7 (by decide) ?_
  obtain ⟨t10, h⟩ := h
  refine yr_callV (r := (some a0)) [.int 1] dX6_load_8 cv_X6_load_95 rfl t10 rfl (Nat.le_trans wt_0 (by decide)) (by decide) (xSp.mono h ?_)
  clear h
  intro ρ8 M7 h
  obtain ⟨v6, rfl, h⟩ := h
  refine zistore_n 3 dX6_load_11 rfl (L1 := [(1, va_rf (some a0)), (1, va_rf r1), (1, .int v1), (1, .int v6), (0, .null)]) (by decide) rfl ?_
  refine xr_iload_n 2 dX6_load_12 rfl rfl ?_
  refine xr_iload_n 3 dX6_load_13 rfl rfl ?_
  obtain ⟨ht, hf⟩ := h
  refine xr_icmp_le 21 dX6_load_14 (by decide) (fun c25 => ?_) (fun c25 => ?_)
  · replace h := ht c25
    clear ht hf
    refine xr_iconst 1 dX6_load_21 (by decide) ?_
    refine zistore dX6_load_22 (L1 := [(1, va_rf (some a0)), (1, va_rf r1), (1, .int v1), (1, .int v6), (1, .int 1)]) (by decide) rfl ?_
    refine xr_iload_n 2 dX6_load_24 rfl rfl ?_
    refine xr_iload_n 3 dX6_load_25 rfl rfl ?_
    refine xr_mmax dX6_load_26 ml_RX6_99 stat_max ini_Math code_max (by decide) (wt_13 (Nat.le_of_ble_eq_true rfl) (by decide)) (by decide) ?_
    obtain ⟨ht, hf⟩ := h
    refine xr_if_le 48 dX6_load_29 (by decide) (fun c17 => ?_) (fun c17 => ?_)
    · replace h := ht c17
      clear ht hf
      exact h
    · replace h := hf c17
      clear ht hf
      refine xr_aload_n 0 dX6_load_32 rfl rfl ?_
      refine xr_iload dX6_load_33 rfl ?_
      refine xr_aload_n 1 dX6_load_35 rfl rfl ?_
      obtain ⟨t15, h⟩ := h
      refine yr_callV (r := (some a0)) [.int 1, va_rf r1] dX6_load_36 cv_X6_load_105 rfl t15 rfl (Nat.le_trans wt_0 (by decide)) (by decide) (xSp.mono h ?_)
      clear h
      intro ρ13 M12 h
      obtain ⟨v11, rfl, h⟩ := h
      obtain ⟨ht, hf⟩ := h
      refine xr_if_eq 48 dX6_load_39 (by decide) (fun c16 => ?_) (fun c16 => ?_)
      · replace h := ht c16
        clear ht hf
        exact h
      · replace h := hf c16
        clear ht hf
        refine xr_iload_n 2 dX6_load_42 rfl rfl ?_
        refine xr_iload_n 3 dX6_load_43 rfl rfl ?_
        refine xr_mmax dX6_load_44 ml_RX6_99 stat_max ini_Math code_max (by decide) (wt_13 (Nat.le_of_ble_eq_true rfl) (by decide)) (by decide) ?_
        exact xr_retv (by decide) (xRi rfl rfl dX6_load_47) h
  · replace h := hf c25
    clear ht hf
    refine xr_iconst 0 dX6_load_17 (by decide) ?_
    refine xr_goto 22 dX6_load_18 (by decide) ?_
    refine zistore dX6_load_22 (L1 := [(1, va_rf (some a0)), (1, va_rf r1), (1, .int v1), (1, .int v6), (1, .int 0)]) (by decide) rfl ?_
    refine xr_iload_n 2 dX6_load_24 rfl rfl ?_
    refine xr_iload_n 3 dX6_load_25 rfl rfl ?_
    refine xr_mmax dX6_load_26 ml_RX6_99 stat_max ini_Math code_max (by decide) (wt_13 (Nat.le_of_ble_eq_true rfl) (by decide)) (by decide) ?_
    obtain ⟨ht, hf⟩ := h
    refine xr_if_le 48 dX6_load_29 (by decide) (fun c24 => ?_) (fun c24 => ?_)
    · replace h := ht c24
      clear ht hf
      exact h
    · replace h := hf c24
      clear ht hf
      refine xr_aload_n 0 dX6_load_32 rfl rfl ?_
      refine xr_iload dX6_load_33 rfl ?_
      refine xr_aload_n 1 dX6_load_35 rfl rfl ?_
      obtain ⟨t22, h⟩ := h
      refine yr_callV (r := (some a0)) [.int 0, va_rf r1] dX6_load_36 cv_X6_load_105 rfl t22 rfl (Nat.le_trans wt_0 (by decide)) (by decide) (xSp.mono h ?_)
      clear h
      intro ρ20 M19 h
      obtain ⟨v18, rfl, h⟩ := h
      obtain ⟨ht, hf⟩ := h
      refine xr_if_eq 48 dX6_load_39 (by decide) (fun c23 => ?_) (fun c23 => ?_)
      · replace h := ht c23
        clear ht hf
        exact h
      · replace h := hf c23
        clear ht hf
        refine xr_iload_n 2 dX6_load_42 rfl rfl ?_
        refine xr_iload_n 3 dX6_load_43 rfl rfl ?_
        refine xr_mmax dX6_load_44 ml_RX6_99 stat_max ini_Math code_max (by decide) (wt_13 (Nat.le_of_ble_eq_true rfl) (by decide)) (by decide) ?_
        exact xr_retv (by decide) (xRi rfl rfl dX6_load_47) h
theorem dX6_rightSequence_0 : decode cX6_rightSequence 0 = .ok (.aload_n 0, 1) := by decide +kernel
theorem dX6_rightSequence_1 : decode cX6_rightSequence 1 = .ok (.getfield 12, 3) := by decide +kernel
theorem dX6_rightSequence_4 : decode cX6_rightSequence 4 = .ok (.iload_n 1, 1) := by decide +kernel
theorem dX6_rightSequence_5 : decode cX6_rightSequence 5 = .ok (.aload_n 0, 1) := by decide +kernel
theorem dX6_rightSequence_6 : decode cX6_rightSequence 6 = .ok (.getfield 21, 3) := by decide +kernel
theorem dX6_rightSequence_9 : decode cX6_rightSequence 9 = .ok (.invokevirtual 115, 3) := by decide +kernel
theorem dX6_rightSequence_12 : decode cX6_rightSequence 12 = .ok (.aload_n 0, 1) := by decide +kernel
theorem dX6_rightSequence_13 : decode cX6_rightSequence 13 = .ok (.getfield 21, 3) := by decide +kernel
theorem dX6_rightSequence_16 : decode cX6_rightSequence 16 = .ok (.invokestatic 119, 3) := by decide +kernel
theorem dX6_rightSequence_19 : decode cX6_rightSequence 19 = .ok (.lstore_n 2, 1) := by decide +kernel
theorem dX6_rightSequence_20 : decode cX6_rightSequence 20 = .ok (.lload_n 2, 1) := by decide +kernel
theorem dX6_rightSequence_21 : decode cX6_rightSequence 21 = .ok (.lconst 1, 1) := by decide +kernel
theorem dX6_rightSequence_22 : decode cX6_rightSequence 22 = .ok (.lcmp, 1) := by decide +kernel
theorem dX6_rightSequence_23 : decode cX6_rightSequence 23 = .ok (.ifCond .lt 22, 3) := by decide +kernel
theorem dX6_rightSequence_26 : decode cX6_rightSequence 26 = .ok (.lload_n 2, 1) := by decide +kernel
theorem dX6_rightSequence_27 : decode cX6_rightSequence 27 = .ok (.ldc2_w 123, 3) := by decide +kernel
theorem dX6_rightSequence_30 : decode cX6_rightSequence 30 = .ok (.lcmp, 1) := by decide +kernel
theorem dX6_rightSequence_31 : decode cX6_rightSequence 31 = .ok (.ifCond .gt 14, 3) := by decide +kernel
theorem dX6_rightSequence_34 : decode cX6_rightSequence 34 = .ok (.lload_n 2, 1) := by decide +kernel
theorem dX6_rightSequence_35 : decode cX6_rightSequence 35 = .ok (.ldc2_w 125, 3) := by decide +kernel
theorem dX6_rightSequence_38 : decode cX6_rightSequence 38 = .ok (.lrem, 1) := by decide +kernel
theorem dX6_rightSequence_39 : decode cX6_rightSequence 39 = .ok (.iload_n 1, 1) := by decide +kernel
theorem dX6_rightSequence_40 : decode cX6_rightSequence 40 = .ok (.i2l, 1) := by decide +kernel
theorem dX6_rightSequence_41 : decode cX6_rightSequence 41 = .ok (.lcmp, 1) := by decide +kernel
theorem dX6_rightSequence_42 : decode cX6_rightSequence 42 = .ok (.ifCond .eq 5, 3) := by decide +kernel
theorem dX6_rightSequence_45 : decode cX6_rightSequence 45 = .ok (.iconst 0, 1) := by decide +kernel
theorem dX6_rightSequence_46 : decode cX6_rightSequence 46 = .ok (.ireturn, 1) := by decide +kernel
theorem dX6_rightSequence_47 : decode cX6_rightSequence 47 = .ok (.aload_n 0, 1) := by decide +kernel
theorem dX6_rightSequence_48 : decode cX6_rightSequence 48 = .ok (.getfield 25, 3) := by decide +kernel
theorem dX6_rightSequence_51 : decode cX6_rightSequence 51 = .ok (.lload_n 2, 1) := by decide +kernel
theorem dX6_rightSequence_52 : decode cX6_rightSequence 52 = .ok (.aload_n 0, 1) := by decide +kernel
theorem dX6_rightSequence_53 : decode cX6_rightSequence 53 = .ok (.getfield 21, 3) := by decide +kernel
theorem dX6_rightSequence_56 : decode cX6_rightSequence 56 = .ok (.invokestatic 127, 3) := by decide +kernel
theorem dX6_rightSequence_59 : decode cX6_rightSequence 59 = .ok (.aload_n 0, 1) := by decide +kernel
theorem dX6_rightSequence_60 : decode cX6_rightSequence 60 = .ok (.getfield 21, 3) := by decide +kernel
theorem dX6_rightSequence_63 : decode cX6_rightSequence 63 = .ok (.invokestatic 131, 3) := by decide +kernel
theorem dX6_rightSequence_66 : decode cX6_rightSequence 66 = .ok (.invokestatic 66, 3) := by decide +kernel
theorem dX6_rightSequence_69 : decode cX6_rightSequence 69 = .ok (.aload_n 0, 1) := by decide +kernel
theorem dX6_rightSequence_70 : decode cX6_rightSequence 70 = .ok (.getfield 21, 3) := by decide +kernel
theorem dX6_rightSequence_73 : decode cX6_rightSequence 73 = .ok (.invokestatic 127, 3) := by decide +kernel
theorem dX6_rightSequence_76 : decode cX6_rightSequence 76 = .ok (.iconst 2, 1) := by decide +kernel
theorem dX6_rightSequence_77 : decode cX6_rightSequence 77 = .ok (.if_icmp .lt 22, 3) := by decide +kernel
theorem dX6_rightSequence_80 : decode cX6_rightSequence 80 = .ok (.aload_n 0, 1) := by decide +kernel
theorem dX6_rightSequence_81 : decode cX6_rightSequence 81 = .ok (.getfield 21, 3) := by decide +kernel
theorem dX6_rightSequence_84 : decode cX6_rightSequence 84 = .ok (.aload_n 0, 1) := by decide +kernel
theorem dX6_rightSequence_85 : decode cX6_rightSequence 85 = .ok (.getfield 25, 3) := by decide +kernel
theorem dX6_rightSequence_88 : decode cX6_rightSequence 88 = .ok (.invokevirtual 133, 3) := by decide +kernel
theorem dX6_rightSequence_91 : decode cX6_rightSequence 91 = .ok (.ifCond .eq 8, 3) := by decide +kernel
theorem dX6_rightSequence_94 : decode cX6_rightSequence 94 = .ok (.lload_n 2, 1) := by decide +kernel
theorem dX6_rightSequence_95 : decode cX6_rightSequence 95 = .ok (.l2i, 1) := by decide +kernel
theorem dX6_rightSequence_96 : decode cX6_rightSequence 96 = .ok (.goto 4, 3) := by decide +kernel
theorem dX6_rightSequence_99 : decode cX6_rightSequence 99 = .ok (.iconst 0, 1) := by decide +kernel
theorem dX6_rightSequence_100 : decode cX6_rightSequence 100 = .ok (.ireturn, 1) := by decide +kernel
set_option maxRecDepth 100000 in
set_option maxHeartbeats 4000000 in
theorem bX6_rightSequence_0 {l : Launch} {g : xG} (a0 : Nat) (x1 : Int32) {M : xM} {Q : Option Value → xM → Prop} (h : (xat M a0 3 ∧ (∃ a6, (xR M a0 0) = some a6 ∧ xat M a6 0 ∧ xSp l g mX0_read 0 0 [va_rf (xR M a0 0), .int x1, va_rf (xR M a0 1)] M (fun ρ4 M3 => ρ4 = none ∧ (xat M3 a0 3 ∧ (xSp l g mX2_sequence 0 0 [va_rf (xR M3 a0 1)] M3 (fun ρ12 M11 => ∃ v10 : Int64, ρ12 = some (.long v10) ∧ (((lg_cmp v10 1) < 0 → (Q (some (.int 0)) M11)) ∧ (¬ (lg_cmp v10 1) < 0 → ((0 < (lg_cmp v10 1000000000) → (Q (some (.int 0)) M11)) ∧ (¬ 0 < (lg_cmp v10 1000000000) → (((lg_cmp (v10 - v10 / 2 * 2) x1.toInt64) = 0 → (xat M11 a0 3 ∧ (xSp l g mX2_rootPage 0 0 [va_rf (xR M11 a0 1)] M11 (fun ρ17 M16 => ∃ v15 : Int32, ρ17 = some (.int v15) ∧ (xat M16 a0 3 ∧ (xSp l g mX2_keys 0 0 [va_rf (xR M16 a0 1)] M16 (fun ρ22 M21 => ∃ v20 : Int32, ρ22 = some (.int v20) ∧ (xSp l g mX2_fill 0 0 [va_rf (xR M11 a0 2), .long v10, .int v15, .int v20] M21 (fun ρ26 M25 => ρ26 = none ∧ (xat M25 a0 3 ∧ (xSp l g mX2_rootPage 0 0 [va_rf (xR M25 a0 1)] M25 (fun ρ31 M30 => ∃ v29 : Int32, ρ31 = some (.int v29) ∧ ((v29 < 2 → (Q (some (.int 0)) M30)) ∧ (¬ v29 < 2 → (xat M30 a0 3 ∧ (∃ a38, (xR M30 a0 1) = some a38 ∧ xat M30 a38 2 ∧ xSp l g mX5_same 0 0 [va_rf (xR M30 a0 1), va_rf (xR M30 a0 2)] M30 (fun ρ36 M35 => ∃ v34 : Int32, ρ36 = some (.int v34) ∧ ((v34 = 0 → (Q (some (.int 0)) M35)) ∧ (¬ v34 = 0 → (Q (some (.int v10.toInt32)) M35)))))))))))))))))))) ∧ (¬ (lg_cmp (v10 - v10 / 2 * 2) x1.toInt64) = 0 → (Q (some (.int 0)) M11)))))))))))))) : xWp l g mX6_rightSequence 0 0 0 [(1, va_rf (some a0)), (1, .int x1), (0, .null), (0, .null)] [] (0, 0) M Q := by
  refine xr_aload_n 0 dX6_rightSequence_0 rfl rfl ?_
  obtain ⟨t1, h⟩ := h
  refine yr_getR dX6_rightSequence_1 fl_RX6_12 rfl t1 ?_
  refine xr_iload_n 1 dX6_rightSequence_4 rfl rfl ?_
  refine xr_aload_n 0 dX6_rightSequence_5 rfl rfl ?_
  refine yr_getR dX6_rightSequence_6 fl_RX6_21 rfl t1 ?_
  obtain ⟨a6, e7, h⟩ := h
  obtain ⟨t8, h⟩ := h
  refine yr_callV (r := (xR M a0 0)) [.int x1, va_rf (xR M a0 1)] dX6_rightSequence_9 cv_X6_rightSequence_115 e7 t8 rfl (Nat.le_trans wt_0 (by decide)) (by decide) (xSp.mono h ?_)
  clear h
  intro ρ4 M3 h
  obtain ⟨rfl, h⟩ := h
  refine xr_aload_n 0 dX6_rightSequence_12 rfl rfl ?_
  obtain ⟨t9, h⟩ := h
  refine yr_getR dX6_rightSequence_13 fl_RX6_21 rfl t9 ?_
  refine xr_callS [va_rf (xR M3 a0 1)] dX6_rightSequence_16 cs_X6_rightSequence_119 rfl (Nat.le_trans wt_0 (by decide)) (by decide) (xSp.mono h ?_)
  clear h
  intro ρ12 M11 h
  obtain ⟨v10, rfl, h⟩ := h
  refine zlstore_n 2 dX6_rightSequence_19 rfl (L1 := [(1, va_rf (some a0)), (1, .int x1), (2, .long v10), (0, (.long v10))]) (by decide) rfl ?_
  refine xr_lload_n 2 dX6_rightSequence_20 rfl rfl ?_
  refine xr_lconst 1 dX6_rightSequence_21 (by decide) ?_
  refine xr_lcmp dX6_rightSequence_22 ?_
  obtain ⟨ht, hf⟩ := h
  refine xr_if_lt 45 dX6_rightSequence_23 (by decide) (fun c45 => ?_) (fun c45 => ?_)
  · replace h := ht c45
    clear ht hf
    refine xr_iconst 0 dX6_rightSequence_45 (by decide) ?_
    exact xr_retv (by decide) (xRi rfl rfl dX6_rightSequence_46) h
  · replace h := hf c45
    clear ht hf
    refine xr_lload_n 2 dX6_rightSequence_26 rfl rfl ?_
    refine xr_ldc2 1000000000 dX6_rightSequence_27 ct_RX6_123 ?_
    refine xr_lcmp dX6_rightSequence_30 ?_
    obtain ⟨ht, hf⟩ := h
    refine xr_if_gt 45 dX6_rightSequence_31 (by decide) (fun c44 => ?_) (fun c44 => ?_)
    · replace h := ht c44
      clear ht hf
      refine xr_iconst 0 dX6_rightSequence_45 (by decide) ?_
      exact xr_retv (by decide) (xRi rfl rfl dX6_rightSequence_46) h
    · replace h := hf c44
      clear ht hf
      refine xr_lload_n 2 dX6_rightSequence_34 rfl rfl ?_
      refine xr_ldc2 2 dX6_rightSequence_35 ct_RX6_125 ?_
      refine xr_lrem dX6_rightSequence_38 (by decide) ?_
      refine xr_iload_n 1 dX6_rightSequence_39 rfl rfl ?_
      refine xr_i2l dX6_rightSequence_40 ?_
      refine xr_lcmp dX6_rightSequence_41 ?_
      obtain ⟨ht, hf⟩ := h
      refine xr_if_eq 47 dX6_rightSequence_42 (by decide) (fun c43 => ?_) (fun c43 => ?_)
      · replace h := ht c43
        clear ht hf
        refine xr_aload_n 0 dX6_rightSequence_47 rfl rfl ?_
        obtain ⟨t14, h⟩ := h
        refine yr_getR dX6_rightSequence_48 fl_RX6_25 rfl t14 ?_
        refine xr_lload_n 2 dX6_rightSequence_51 rfl rfl ?_
        refine xr_aload_n 0 dX6_rightSequence_52 rfl rfl ?_
        refine yr_getR dX6_rightSequence_53 fl_RX6_21 rfl t14 ?_
        refine xr_callS [va_rf (xR M11 a0 1)] dX6_rightSequence_56 cs_X6_rightSequence_127 rfl (Nat.le_trans (wt_j (wt_r wt_0)) (by decide)) (by decide) (xSp.mono h ?_)
        clear h
        intro ρ17 M16 h
        obtain ⟨v15, rfl, h⟩ := h
        refine xr_aload_n 0 dX6_rightSequence_59 rfl rfl ?_
        obtain ⟨t19, h⟩ := h
        refine yr_getR dX6_rightSequence_60 fl_RX6_21 rfl t19 ?_
        refine xr_callS [va_rf (xR M16 a0 1)] dX6_rightSequence_63 cs_X6_rightSequence_131 rfl (Nat.le_trans (wt_i (wt_j (wt_r wt_0))) (by decide)) (by decide) (xSp.mono h ?_)
        clear h
        intro ρ22 M21 h
        obtain ⟨v20, rfl, h⟩ := h
        refine xr_callS [va_rf (xR M11 a0 2), .long v10, .int v15, .int v20] dX6_rightSequence_66 cs_X6_rightSequence_66 rfl (Nat.le_trans wt_0 (by decide)) (by decide) (xSp.mono h ?_)
        clear h
        intro ρ26 M25 h
        obtain ⟨rfl, h⟩ := h
        refine xr_aload_n 0 dX6_rightSequence_69 rfl rfl ?_
        obtain ⟨t28, h⟩ := h
        refine yr_getR dX6_rightSequence_70 fl_RX6_21 rfl t28 ?_
        refine xr_callS [va_rf (xR M25 a0 1)] dX6_rightSequence_73 cs_X6_rightSequence_127 rfl (Nat.le_trans wt_0 (by decide)) (by decide) (xSp.mono h ?_)
        clear h
        intro ρ31 M30 h
        obtain ⟨v29, rfl, h⟩ := h
        refine xr_iconst 2 dX6_rightSequence_76 (by decide) ?_
        obtain ⟨ht, hf⟩ := h
        refine xr_icmp_lt 99 dX6_rightSequence_77 (by decide) (fun c42 => ?_) (fun c42 => ?_)
        · replace h := ht c42
          clear ht hf
          refine xr_iconst 0 dX6_rightSequence_99 (by decide) ?_
          exact xr_retv (by decide) (xRi rfl rfl dX6_rightSequence_100) h
        · replace h := hf c42
          clear ht hf
          refine xr_aload_n 0 dX6_rightSequence_80 rfl rfl ?_
          obtain ⟨t33, h⟩ := h
          refine yr_getR dX6_rightSequence_81 fl_RX6_21 rfl t33 ?_
          refine xr_aload_n 0 dX6_rightSequence_84 rfl rfl ?_
          refine yr_getR dX6_rightSequence_85 fl_RX6_25 rfl t33 ?_
          obtain ⟨a38, e39, h⟩ := h
          obtain ⟨t40, h⟩ := h
          refine yr_callV (r := (xR M30 a0 1)) [va_rf (xR M30 a0 2)] dX6_rightSequence_88 cv_X6_rightSequence_133 e39 t40 rfl (Nat.le_trans wt_0 (by decide)) (by decide) (xSp.mono h ?_)
          clear h
          intro ρ36 M35 h
          obtain ⟨v34, rfl, h⟩ := h
          obtain ⟨ht, hf⟩ := h
          refine xr_if_eq 99 dX6_rightSequence_91 (by decide) (fun c41 => ?_) (fun c41 => ?_)
          · replace h := ht c41
            clear ht hf
            refine xr_iconst 0 dX6_rightSequence_99 (by decide) ?_
            exact xr_retv (by decide) (xRi rfl rfl dX6_rightSequence_100) h
          · replace h := hf c41
            clear ht hf
            refine xr_lload_n 2 dX6_rightSequence_94 rfl rfl ?_
            refine xr_l2i dX6_rightSequence_95 ?_
            refine xr_goto 100 dX6_rightSequence_96 (by decide) ?_
            exact xr_retv (by decide) (xRi rfl rfl dX6_rightSequence_100) h
      · replace h := hf c43
        clear ht hf
        refine xr_iconst 0 dX6_rightSequence_45 (by decide) ?_
        exact xr_retv (by decide) (xRi rfl rfl dX6_rightSequence_46) h
theorem dX6_loadBy_0 : decode cX6_loadBy 0 = .ok (.aload_n 0, 1) := by decide +kernel
theorem dX6_loadBy_1 : decode cX6_loadBy 1 = .ok (.getfield 12, 3) := by decide +kernel
theorem dX6_loadBy_4 : decode cX6_loadBy 4 = .ok (.iload_n 1, 1) := by decide +kernel
theorem dX6_loadBy_5 : decode cX6_loadBy 5 = .ok (.aload_n 0, 1) := by decide +kernel
theorem dX6_loadBy_6 : decode cX6_loadBy 6 = .ok (.getfield 21, 3) := by decide +kernel
theorem dX6_loadBy_9 : decode cX6_loadBy 9 = .ok (.invokevirtual 115, 3) := by decide +kernel
theorem dX6_loadBy_12 : decode cX6_loadBy 12 = .ok (.aload_n 0, 1) := by decide +kernel
theorem dX6_loadBy_13 : decode cX6_loadBy 13 = .ok (.getfield 21, 3) := by decide +kernel
theorem dX6_loadBy_16 : decode cX6_loadBy 16 = .ok (.invokestatic 131, 3) := by decide +kernel
theorem dX6_loadBy_19 : decode cX6_loadBy 19 = .ok (.istore_n 3, 1) := by decide +kernel
theorem dX6_loadBy_20 : decode cX6_loadBy 20 = .ok (.aload_n 2, 1) := by decide +kernel
theorem dX6_loadBy_21 : decode cX6_loadBy 21 = .ok (.invokevirtual 112, 3) := by decide +kernel
theorem dX6_loadBy_24 : decode cX6_loadBy 24 = .ok (.aload_n 0, 1) := by decide +kernel
theorem dX6_loadBy_25 : decode cX6_loadBy 25 = .ok (.invokevirtual 85, 3) := by decide +kernel
theorem dX6_loadBy_28 : decode cX6_loadBy 28 = .ok (.aload_n 2, 1) := by decide +kernel
theorem dX6_loadBy_29 : decode cX6_loadBy 29 = .ok (.getfield 36, 3) := by decide +kernel
theorem dX6_loadBy_32 : decode cX6_loadBy 32 = .ok (.aload_n 0, 1) := by decide +kernel
theorem dX6_loadBy_33 : decode cX6_loadBy 33 = .ok (.getfield 21, 3) := by decide +kernel
theorem dX6_loadBy_36 : decode cX6_loadBy 36 = .ok (.invokestatic 127, 3) := by decide +kernel
theorem dX6_loadBy_39 : decode cX6_loadBy 39 = .ok (.putfield 59, 3) := by decide +kernel
theorem dX6_loadBy_42 : decode cX6_loadBy 42 = .ok (.aload_n 0, 1) := by decide +kernel
theorem dX6_loadBy_43 : decode cX6_loadBy 43 = .ok (.aload_n 2, 1) := by decide +kernel
theorem dX6_loadBy_44 : decode cX6_loadBy 44 = .ok (.getfield 36, 3) := by decide +kernel
theorem dX6_loadBy_47 : decode cX6_loadBy 47 = .ok (.getfield 59, 3) := by decide +kernel
theorem dX6_loadBy_50 : decode cX6_loadBy 50 = .ok (.invokevirtual 88, 3) := by decide +kernel
theorem dX6_loadBy_53 : decode cX6_loadBy 53 = .ok (.pop, 1) := by decide +kernel
theorem dX6_loadBy_54 : decode cX6_loadBy 54 = .ok (.aload_n 2, 1) := by decide +kernel
theorem dX6_loadBy_55 : decode cX6_loadBy 55 = .ok (.getfield 36, 3) := by decide +kernel
theorem dX6_loadBy_58 : decode cX6_loadBy 58 = .ok (.astore 4, 2) := by decide +kernel
theorem dX6_loadBy_60 : decode cX6_loadBy 60 = .ok (.aload 4, 2) := by decide +kernel
theorem dX6_loadBy_62 : decode cX6_loadBy 62 = .ok (.ifnull 25, 3) := by decide +kernel
theorem dX6_loadBy_65 : decode cX6_loadBy 65 = .ok (.aload_n 0, 1) := by decide +kernel
theorem dX6_loadBy_66 : decode cX6_loadBy 66 = .ok (.aload 4, 2) := by decide +kernel
theorem dX6_loadBy_68 : decode cX6_loadBy 68 = .ok (.aload_n 2, 1) := by decide +kernel
theorem dX6_loadBy_69 : decode cX6_loadBy 69 = .ok (.invokevirtual 137, 3) := by decide +kernel
theorem dX6_loadBy_72 : decode cX6_loadBy 72 = .ok (.ifCond .ne 5, 3) := by decide +kernel
theorem dX6_loadBy_75 : decode cX6_loadBy 75 = .ok (.iconst 0, 1) := by decide +kernel
theorem dX6_loadBy_76 : decode cX6_loadBy 76 = .ok (.ireturn, 1) := by decide +kernel
theorem dX6_loadBy_77 : decode cX6_loadBy 77 = .ok (.aload 4, 2) := by decide +kernel
theorem dX6_loadBy_79 : decode cX6_loadBy 79 = .ok (.invokevirtual 92, 3) := by decide +kernel
theorem dX6_loadBy_82 : decode cX6_loadBy 82 = .ok (.astore 4, 2) := by decide +kernel
theorem dX6_loadBy_84 : decode cX6_loadBy 84 = .ok (.goto (-24), 3) := by decide +kernel
theorem dX6_loadBy_87 : decode cX6_loadBy 87 = .ok (.aload_n 2, 1) := by decide +kernel
theorem dX6_loadBy_88 : decode cX6_loadBy 88 = .ok (.getfield 63, 3) := by decide +kernel
theorem dX6_loadBy_91 : decode cX6_loadBy 91 = .ok (.iload_n 3, 1) := by decide +kernel
theorem dX6_loadBy_92 : decode cX6_loadBy 92 = .ok (.if_icmp .ne 7, 3) := by decide +kernel
theorem dX6_loadBy_95 : decode cX6_loadBy 95 = .ok (.iconst 1, 1) := by decide +kernel
theorem dX6_loadBy_96 : decode cX6_loadBy 96 = .ok (.goto 4, 3) := by decide +kernel
theorem dX6_loadBy_99 : decode cX6_loadBy 99 = .ok (.iconst 0, 1) := by decide +kernel
theorem dX6_loadBy_100 : decode cX6_loadBy 100 = .ok (.ireturn, 1) := by decide +kernel
set_option maxRecDepth 100000 in
set_option maxHeartbeats 4000000 in
theorem bX6_loadBy_60 {l : Launch} {g : xG} (a0 : Nat) (x1 : Int32) (r2 : Option Nat) (x3 : Int32) (r4 : Option Nat) {M : xM} {Q : Option Value → xM → Prop} (h : ((r4 = none → (∃ a1, r2 = some a1 ∧ xat M a1 5 ∧ ((¬ (xI M a1 4) = x3 → (Q (some (.int 0)) M)) ∧ ((xI M a1 4) = x3 → (Q (some (.int 1)) M))))) ∧ (¬ r4 = none → (xat M a0 3 ∧ xSp l g mX6_loadNode 0 0 [va_rf (some a0), va_rf r4, va_rf r2] M (fun ρ7 M6 => ∃ v5 : Int32, ρ7 = some (.int v5) ∧ ((¬ v5 = 0 → (∃ a14, r4 = some a14 ∧ xat M6 a14 1 ∧ xSp l g mX3_following 0 0 [va_rf r4] M6 (fun ρ12 M11 => ∃ v10 : Option Nat, ρ12 = some (va_rf v10) ∧ xWp l g mX6_loadBy 0 0 60 [(1, va_rf (some a0)), (1, .int x1), (1, va_rf r2), (1, .int x3), (1, va_rf v10)] [] (0, 0) M11 Q))) ∧ (v5 = 0 → (Q (some (.int 0)) M6)))))))) : xWp l g mX6_loadBy 0 0 60 [(1, va_rf (some a0)), (1, .int x1), (1, va_rf r2), (1, .int x3), (1, va_rf r4)] [] (0, 0) M Q := by
  refine xr_aload dX6_loadBy_60 rfl ?_
  obtain ⟨ht, hf⟩ := h
  refine xr_ifnull 87 dX6_loadBy_62 (by decide) (fun c18 => ?_) (fun c18 => ?_)
  · replace h := ht c18
    clear ht hf
    refine xr_aload_n 2 dX6_loadBy_87 rfl rfl ?_
    obtain ⟨a1, e2, h⟩ := h
    obtain ⟨t3, h⟩ := h
    refine yr_getI dX6_loadBy_88 fl_RX6_63 e2 t3 ?_
    refine xr_iload_n 3 dX6_loadBy_91 rfl rfl ?_
    obtain ⟨ht, hf⟩ := h
    refine xr_icmp_ne 99 dX6_loadBy_92 (by decide) (fun c4 => ?_) (fun c4 => ?_)
    · replace h := ht c4
      clear ht hf
      refine xr_iconst 0 dX6_loadBy_99 (by decide) ?_
      exact xr_retv (by decide) (xRi rfl rfl dX6_loadBy_100) h
    · replace h := hf c4
      clear ht hf
      refine xr_iconst 1 dX6_loadBy_95 (by decide) ?_
      refine xr_goto 100 dX6_loadBy_96 (by decide) ?_
      exact xr_retv (by decide) (xRi rfl rfl dX6_loadBy_100) h
  · replace h := hf c18
    clear ht hf
    refine xr_aload_n 0 dX6_loadBy_65 rfl rfl ?_
    refine xr_aload dX6_loadBy_66 rfl ?_
    refine xr_aload_n 2 dX6_loadBy_68 rfl rfl ?_
    obtain ⟨t9, h⟩ := h
    refine yr_callV (r := (some a0)) [va_rf r4, va_rf r2] dX6_loadBy_69 cv_X6_loadBy_137 rfl t9 rfl (Nat.le_trans wt_0 (by decide)) (by decide) (xSp.mono h ?_)
    clear h
    intro ρ7 M6 h
    obtain ⟨v5, rfl, h⟩ := h
    obtain ⟨ht, hf⟩ := h
    refine xr_if_ne 77 dX6_loadBy_72 (by decide) (fun c17 => ?_) (fun c17 => ?_)
    · replace h := ht c17
      clear ht hf
      refine xr_aload dX6_loadBy_77 rfl ?_
      obtain ⟨a14, e15, h⟩ := h
      obtain ⟨t16, h⟩ := h
      refine yr_callV (r := r4) [] dX6_loadBy_79 cv_X6_loadBy_92 e15 t16 rfl (Nat.le_trans wt_0 (by decide)) (by decide) (xSp.mono h ?_)
      clear h
      intro ρ12 M11 h
      obtain ⟨v10, rfl, h⟩ := h
      refine zastore dX6_loadBy_82 (L1 := [(1, va_rf (some a0)), (1, .int x1), (1, va_rf r2), (1, .int x3), (1, va_rf v10)]) (by decide) rfl ?_
      refine xr_goto 60 dX6_loadBy_84 (by decide) ?_
      exact h
    · replace h := hf c17
      clear ht hf
      refine xr_iconst 0 dX6_loadBy_75 (by decide) ?_
      exact xr_retv (by decide) (xRi rfl rfl dX6_loadBy_76) h
set_option maxRecDepth 100000 in
set_option maxHeartbeats 4000000 in
theorem bX6_loadBy_0 {l : Launch} {g : xG} (a0 : Nat) (x1 : Int32) (r2 : Option Nat) {M : xM} {Q : Option Value → xM → Prop} (h : (xat M a0 3 ∧ (∃ a6, (xR M a0 0) = some a6 ∧ xat M a6 0 ∧ xSp l g mX0_read 0 0 [va_rf (xR M a0 0), .int x1, va_rf (xR M a0 1)] M (fun ρ4 M3 => ρ4 = none ∧ (xat M3 a0 3 ∧ (xSp l g mX2_keys 0 0 [va_rf (xR M3 a0 1)] M3 (fun ρ12 M11 => ∃ v10 : Int32, ρ12 = some (.int v10) ∧ (∃ a18, r2 = some a18 ∧ xat M11 a18 5 ∧ xSp l g mX8_clear 0 0 [va_rf r2] M11 (fun ρ16 M15 => ρ16 = none ∧ (xat M15 a0 3 ∧ xSp l g mX6_freeAllPages 0 0 [va_rf (some a0)] M15 (fun ρ23 M22 => ρ23 = none ∧ (xat M22 a18 5 ∧ (xat M22 a0 3 ∧ (xSp l g mX2_rootPage 0 0 [va_rf (xR M22 a0 1)] M22 (fun ρ30 M29 => ∃ v28 : Int32, ρ30 = some (.int v28) ∧ (∃ a32, (xR M22 a18 2) = some a32 ∧ xat M29 a32 1 ∧ (xat (xsI M29 a32 7 v28) a18 5 ∧ (∃ a36, (xR (xsI M29 a32 7 v28) a18 2) = some a36 ∧ xat (xsI M29 a32 7 v28) a36 1 ∧ (xat (xsI M29 a32 7 v28) a0 3 ∧ xSp l g mX6_takePage 0 0 [va_rf (some a0), .int (xI (xsI M29 a32 7 v28) a36 7)] (xsI M29 a32 7 v28) (fun ρ41 M40 => ∃ v39 : Int32, ρ41 = some (.int v39) ∧ (xat M40 a18 5 ∧ xWp l g mX6_loadBy 0 0 60 [(1, va_rf (some a0)), (1, .int x1), (1, va_rf r2), (1, .int v10), (1, va_rf (xR M40 a18 2))] [] (0, 0) M40 Q))))))))))))))))))))) : xWp l g mX6_loadBy 0 0 0 [(1, va_rf (some a0)), (1, .int x1), (1, va_rf r2), (0, .null), (0, .null)] [] (0, 0) M Q := by
  refine xr_aload_n 0 dX6_loadBy_0 rfl rfl ?_
  obtain ⟨t1, h⟩ := h
  refine yr_getR dX6_loadBy_1 fl_RX6_12 rfl t1 ?_
  refine xr_iload_n 1 dX6_loadBy_4 rfl rfl ?_
  refine xr_aload_n 0 dX6_loadBy_5 rfl rfl ?_
  refine yr_getR dX6_loadBy_6 fl_RX6_21 rfl t1 ?_
  obtain ⟨a6, e7, h⟩ := h
  obtain ⟨t8, h⟩ := h
  refine yr_callV (r := (xR M a0 0)) [.int x1, va_rf (xR M a0 1)] dX6_loadBy_9 cv_X6_loadBy_115 e7 t8 rfl (Nat.le_trans wt_0 (by decide)) (by decide) (xSp.mono h ?_)
  clear h
  intro ρ4 M3 h
  obtain ⟨rfl, h⟩ := h
  refine xr_aload_n 0 dX6_loadBy_12 rfl rfl ?_
  obtain ⟨t9, h⟩ := h
  refine yr_getR dX6_loadBy_13 fl_RX6_21 rfl t9 ?_
  refine xr_callS [va_rf (xR M3 a0 1)] dX6_loadBy_16 cs_X6_loadBy_131 rfl (Nat.le_trans wt_0 (by decide)) (by decide) (xSp.mono h ?_)
  clear h
  intro ρ12 M11 h
  obtain ⟨v10, rfl, h⟩ := h
  refine zistore_n 3 dX6_loadBy_19 rfl (L1 := [(1, va_rf (some a0)), (1, .int x1), (1, va_rf r2), (1, .int v10), (0, .null)]) (by decide) rfl ?_
  refine xr_aload_n 2 dX6_loadBy_20 rfl rfl ?_
  obtain ⟨a18, e19, h⟩ := h
  obtain ⟨t20, h⟩ := h
  refine yr_callV (r := r2) [] dX6_loadBy_21 cv_X6_loadBy_112 e19 t20 rfl (Nat.le_trans wt_0 (by decide)) (by decide) (xSp.mono h ?_)
  clear h
  intro ρ16 M15 h
  obtain ⟨rfl, h⟩ := h
  refine xr_aload_n 0 dX6_loadBy_24 rfl rfl ?_
  obtain ⟨t25, h⟩ := h
  refine yr_callV (r := (some a0)) [] dX6_loadBy_25 cv_X6_loadBy_85 rfl t25 rfl (Nat.le_trans wt_0 (by decide)) (by decide) (xSp.mono h ?_)
  clear h
  intro ρ23 M22 h
  obtain ⟨rfl, h⟩ := h
  refine xr_aload_n 2 dX6_loadBy_28 rfl rfl ?_
  obtain ⟨t26, h⟩ := h
  refine yr_getR dX6_loadBy_29 fl_RX6_36 e19 t26 ?_
  refine xr_aload_n 0 dX6_loadBy_32 rfl rfl ?_
  obtain ⟨t27, h⟩ := h
  refine yr_getR dX6_loadBy_33 fl_RX6_21 rfl t27 ?_
  refine xr_callS [va_rf (xR M22 a0 1)] dX6_loadBy_36 cs_X6_loadBy_127 rfl (Nat.le_trans (wt_r wt_0) (by decide)) (by decide) (xSp.mono h ?_)
  clear h
  intro ρ30 M29 h
  obtain ⟨v28, rfl, h⟩ := h
  obtain ⟨a32, e33, h⟩ := h
  obtain ⟨t34, h⟩ := h
  refine yr_putI dX6_loadBy_39 fp_RX6_59 e33 t34 ?_
  refine xr_aload_n 0 dX6_loadBy_42 rfl rfl ?_
  refine xr_aload_n 2 dX6_loadBy_43 rfl rfl ?_
  obtain ⟨t35, h⟩ := h
  refine yr_getR dX6_loadBy_44 fl_RX6_36 e19 t35 ?_
  obtain ⟨a36, e37, h⟩ := h
  obtain ⟨t38, h⟩ := h
  refine yr_getI dX6_loadBy_47 fl_RX6_59 e37 t38 ?_
  obtain ⟨t43, h⟩ := h
  refine yr_callV (r := (some a0)) [.int (xI (xsI M29 a32 7 v28) a36 7)] dX6_loadBy_50 cv_X6_loadBy_88 rfl t43 rfl (Nat.le_trans wt_0 (by decide)) (by decide) (xSp.mono h ?_)
  clear h
  intro ρ41 M40 h
  obtain ⟨v39, rfl, h⟩ := h
  refine xr_pop dX6_loadBy_53 rfl ?_
  refine xr_aload_n 2 dX6_loadBy_54 rfl rfl ?_
  obtain ⟨t44, h⟩ := h
  refine yr_getR dX6_loadBy_55 fl_RX6_36 e19 t44 ?_
  refine zastore dX6_loadBy_58 (L1 := [(1, va_rf (some a0)), (1, .int x1), (1, va_rf r2), (1, .int v10), (1, va_rf (xR M40 a18 2))]) (by decide) rfl ?_
  exact h
theorem dX6_loadNode_0 : decode cX6_loadNode 0 = .ok (.aload_n 0, 1) := by decide +kernel
theorem dX6_loadNode_1 : decode cX6_loadNode 1 = .ok (.getfield 12, 3) := by decide +kernel
theorem dX6_loadNode_4 : decode cX6_loadNode 4 = .ok (.aload_n 1, 1) := by decide +kernel
theorem dX6_loadNode_5 : decode cX6_loadNode 5 = .ok (.getfield 59, 3) := by decide +kernel
theorem dX6_loadNode_8 : decode cX6_loadNode 8 = .ok (.aload_n 0, 1) := by decide +kernel
theorem dX6_loadNode_9 : decode cX6_loadNode 9 = .ok (.getfield 21, 3) := by decide +kernel
theorem dX6_loadNode_12 : decode cX6_loadNode 12 = .ok (.invokevirtual 115, 3) := by decide +kernel
theorem dX6_loadNode_15 : decode cX6_loadNode 15 = .ok (.aload_n 1, 1) := by decide +kernel
theorem dX6_loadNode_16 : decode cX6_loadNode 16 = .ok (.aload_n 0, 1) := by decide +kernel
theorem dX6_loadNode_17 : decode cX6_loadNode 17 = .ok (.getfield 21, 3) := by decide +kernel
theorem dX6_loadNode_20 : decode cX6_loadNode 20 = .ok (.iconst 0, 1) := by decide +kernel
theorem dX6_loadNode_21 : decode cX6_loadNode 21 = .ok (.invokevirtual 141, 3) := by decide +kernel
theorem dX6_loadNode_24 : decode cX6_loadNode 24 = .ok (.putfield 144, 3) := by decide +kernel
theorem dX6_loadNode_27 : decode cX6_loadNode 27 = .ok (.aload_n 1, 1) := by decide +kernel
theorem dX6_loadNode_28 : decode cX6_loadNode 28 = .ok (.getfield 144, 3) := by decide +kernel
theorem dX6_loadNode_31 : decode cX6_loadNode 31 = .ok (.invokestatic 147, 3) := by decide +kernel
theorem dX6_loadNode_34 : decode cX6_loadNode 34 = .ok (.istore_n 3, 1) := by decide +kernel
theorem dX6_loadNode_35 : decode cX6_loadNode 35 = .ok (.aload_n 0, 1) := by decide +kernel
theorem dX6_loadNode_36 : decode cX6_loadNode 36 = .ok (.getfield 21, 3) := by decide +kernel
theorem dX6_loadNode_39 : decode cX6_loadNode 39 = .ok (.bipush 10, 2) := by decide +kernel
theorem dX6_loadNode_41 : decode cX6_loadNode 41 = .ok (.invokevirtual 141, 3) := by decide +kernel
theorem dX6_loadNode_44 : decode cX6_loadNode 44 = .ok (.istore 4, 2) := by decide +kernel
theorem dX6_loadNode_46 : decode cX6_loadNode 46 = .ok (.aload_n 1, 1) := by decide +kernel
theorem dX6_loadNode_47 : decode cX6_loadNode 47 = .ok (.getfield 144, 3) := by decide +kernel
theorem dX6_loadNode_50 : decode cX6_loadNode 50 = .ok (.invokestatic 152, 3) := by decide +kernel
theorem dX6_loadNode_53 : decode cX6_loadNode 53 = .ok (.ifCond .eq 28, 3) := by decide +kernel
theorem dX6_loadNode_56 : decode cX6_loadNode 56 = .ok (.aload_n 0, 1) := by decide +kernel
theorem dX6_loadNode_57 : decode cX6_loadNode 57 = .ok (.getfield 21, 3) := by decide +kernel
theorem dX6_loadNode_60 : decode cX6_loadNode 60 = .ok (.bipush 23, 2) := by decide +kernel
theorem dX6_loadNode_62 : decode cX6_loadNode 62 = .ok (.invokevirtual 141, 3) := by decide +kernel
theorem dX6_loadNode_65 : decode cX6_loadNode 65 = .ok (.iload_n 3, 1) := by decide +kernel
theorem dX6_loadNode_66 : decode cX6_loadNode 66 = .ok (.if_icmp .gt 15, 3) := by decide +kernel
theorem dX6_loadNode_69 : decode cX6_loadNode 69 = .ok (.aload_n 1, 1) := by decide +kernel
theorem dX6_loadNode_70 : decode cX6_loadNode 70 = .ok (.invokevirtual 155, 3) := by decide +kernel
theorem dX6_loadNode_73 : decode cX6_loadNode 73 = .ok (.iload 4, 2) := by decide +kernel
theorem dX6_loadNode_75 : decode cX6_loadNode 75 = .ok (.iadd, 1) := by decide +kernel
theorem dX6_loadNode_76 : decode cX6_loadNode 76 = .ok (.bipush 12, 2) := by decide +kernel
theorem dX6_loadNode_78 : decode cX6_loadNode 78 = .ok (.if_icmp .le 5, 3) := by decide +kernel
theorem dX6_loadNode_81 : decode cX6_loadNode 81 = .ok (.iconst 0, 1) := by decide +kernel
theorem dX6_loadNode_82 : decode cX6_loadNode 82 = .ok (.ireturn, 1) := by decide +kernel
theorem dX6_loadNode_83 : decode cX6_loadNode 83 = .ok (.iconst 0, 1) := by decide +kernel
theorem dX6_loadNode_84 : decode cX6_loadNode 84 = .ok (.istore 5, 2) := by decide +kernel
theorem dX6_loadNode_86 : decode cX6_loadNode 86 = .ok (.iload 5, 2) := by decide +kernel
theorem dX6_loadNode_88 : decode cX6_loadNode 88 = .ok (.iload 4, 2) := by decide +kernel
theorem dX6_loadNode_90 : decode cX6_loadNode 90 = .ok (.if_icmp .ge 25, 3) := by decide +kernel
theorem dX6_loadNode_93 : decode cX6_loadNode 93 = .ok (.aload_n 1, 1) := by decide +kernel
theorem dX6_loadNode_94 : decode cX6_loadNode 94 = .ok (.aload_n 0, 1) := by decide +kernel
theorem dX6_loadNode_95 : decode cX6_loadNode 95 = .ok (.getfield 21, 3) := by decide +kernel
theorem dX6_loadNode_98 : decode cX6_loadNode 98 = .ok (.bipush 11, 2) := by decide +kernel
theorem dX6_loadNode_100 : decode cX6_loadNode 100 = .ok (.iload 5, 2) := by decide +kernel
theorem dX6_loadNode_102 : decode cX6_loadNode 102 = .ok (.iadd, 1) := by decide +kernel
theorem dX6_loadNode_103 : decode cX6_loadNode 103 = .ok (.invokevirtual 141, 3) := by decide +kernel
theorem dX6_loadNode_106 : decode cX6_loadNode 106 = .ok (.invokevirtual 158, 3) := by decide +kernel
theorem dX6_loadNode_109 : decode cX6_loadNode 109 = .ok (.iinc 5 1, 3) := by decide +kernel
theorem dX6_loadNode_112 : decode cX6_loadNode 112 = .ok (.goto (-26), 3) := by decide +kernel
theorem dX6_loadNode_115 : decode cX6_loadNode 115 = .ok (.aload_n 0, 1) := by decide +kernel
theorem dX6_loadNode_116 : decode cX6_loadNode 116 = .ok (.getfield 21, 3) := by decide +kernel
theorem dX6_loadNode_119 : decode cX6_loadNode 119 = .ok (.iconst 1, 1) := by decide +kernel
theorem dX6_loadNode_120 : decode cX6_loadNode 120 = .ok (.invokevirtual 141, 3) := by decide +kernel
theorem dX6_loadNode_123 : decode cX6_loadNode 123 = .ok (.iconst 1, 1) := by decide +kernel
theorem dX6_loadNode_124 : decode cX6_loadNode 124 = .ok (.if_icmp .ne 25, 3) := by decide +kernel
theorem dX6_loadNode_127 : decode cX6_loadNode 127 = .ok (.aload_n 1, 1) := by decide +kernel
theorem dX6_loadNode_128 : decode cX6_loadNode 128 = .ok (.aload_n 0, 1) := by decide +kernel
theorem dX6_loadNode_129 : decode cX6_loadNode 129 = .ok (.getfield 21, 3) := by decide +kernel
theorem dX6_loadNode_132 : decode cX6_loadNode 132 = .ok (.iconst 2, 1) := by decide +kernel
theorem dX6_loadNode_133 : decode cX6_loadNode 133 = .ok (.invokevirtual 162, 3) := by decide +kernel
theorem dX6_loadNode_136 : decode cX6_loadNode 136 = .ok (.invokevirtual 166, 3) := by decide +kernel
theorem dX6_loadNode_139 : decode cX6_loadNode 139 = .ok (.aload_n 2, 1) := by decide +kernel
theorem dX6_loadNode_140 : decode cX6_loadNode 140 = .ok (.dup, 1) := by decide +kernel
theorem dX6_loadNode_141 : decode cX6_loadNode 141 = .ok (.getfield 63, 3) := by decide +kernel
theorem dX6_loadNode_144 : decode cX6_loadNode 144 = .ok (.iconst 1, 1) := by decide +kernel
theorem dX6_loadNode_145 : decode cX6_loadNode 145 = .ok (.iadd, 1) := by decide +kernel
theorem dX6_loadNode_146 : decode cX6_loadNode 146 = .ok (.putfield 63, 3) := by decide +kernel
theorem dX6_loadNode_149 : decode cX6_loadNode 149 = .ok (.aload_n 1, 1) := by decide +kernel
theorem dX6_loadNode_150 : decode cX6_loadNode 150 = .ok (.getfield 144, 3) := by decide +kernel
theorem dX6_loadNode_153 : decode cX6_loadNode 153 = .ok (.iconst 3, 1) := by decide +kernel
theorem dX6_loadNode_154 : decode cX6_loadNode 154 = .ok (.if_icmp .ge 13, 3) := by decide +kernel
theorem dX6_loadNode_157 : decode cX6_loadNode 157 = .ok (.aload_n 0, 1) := by decide +kernel
theorem dX6_loadNode_158 : decode cX6_loadNode 158 = .ok (.aload_n 1, 1) := by decide +kernel
theorem dX6_loadNode_159 : decode cX6_loadNode 159 = .ok (.aload_n 2, 1) := by decide +kernel
theorem dX6_loadNode_160 : decode cX6_loadNode 160 = .ok (.iload_n 3, 1) := by decide +kernel
theorem dX6_loadNode_161 : decode cX6_loadNode 161 = .ok (.invokevirtual 170, 3) := by decide +kernel
theorem dX6_loadNode_164 : decode cX6_loadNode 164 = .ok (.goto 9, 3) := by decide +kernel
theorem dX6_loadNode_167 : decode cX6_loadNode 167 = .ok (.aload_n 0, 1) := by decide +kernel
theorem dX6_loadNode_168 : decode cX6_loadNode 168 = .ok (.aload_n 1, 1) := by decide +kernel
theorem dX6_loadNode_169 : decode cX6_loadNode 169 = .ok (.aload_n 2, 1) := by decide +kernel
theorem dX6_loadNode_170 : decode cX6_loadNode 170 = .ok (.invokevirtual 174, 3) := by decide +kernel
theorem dX6_loadNode_173 : decode cX6_loadNode 173 = .ok (.istore 5, 2) := by decide +kernel
theorem dX6_loadNode_175 : decode cX6_loadNode 175 = .ok (.iload 5, 2) := by decide +kernel
theorem dX6_loadNode_177 : decode cX6_loadNode 177 = .ok (.ifCond .eq 21, 3) := by decide +kernel
theorem dX6_loadNode_180 : decode cX6_loadNode 180 = .ok (.aload_n 1, 1) := by decide +kernel
theorem dX6_loadNode_181 : decode cX6_loadNode 181 = .ok (.getfield 177, 3) := by decide +kernel
theorem dX6_loadNode_184 : decode cX6_loadNode 184 = .ok (.ldc2_w 181, 3) := by decide +kernel
theorem dX6_loadNode_187 : decode cX6_loadNode 187 = .ok (.lcmp, 1) := by decide +kernel
theorem dX6_loadNode_188 : decode cX6_loadNode 188 = .ok (.ifCond .eq 10, 3) := by decide +kernel
theorem dX6_loadNode_191 : decode cX6_loadNode 191 = .ok (.aload_n 1, 1) := by decide +kernel
theorem dX6_loadNode_192 : decode cX6_loadNode 192 = .ok (.invokevirtual 183, 3) := by decide +kernel
theorem dX6_loadNode_195 : decode cX6_loadNode 195 = .ok (.ifCond .ne 5, 3) := by decide +kernel
theorem dX6_loadNode_198 : decode cX6_loadNode 198 = .ok (.iconst 0, 1) := by decide +kernel
theorem dX6_loadNode_199 : decode cX6_loadNode 199 = .ok (.ireturn, 1) := by decide +kernel
theorem dX6_loadNode_200 : decode cX6_loadNode 200 = .ok (.aload_n 0, 1) := by decide +kernel
theorem dX6_loadNode_201 : decode cX6_loadNode 201 = .ok (.getfield 25, 3) := by decide +kernel
theorem dX6_loadNode_204 : decode cX6_loadNode 204 = .ok (.aload_n 1, 1) := by decide +kernel
theorem dX6_loadNode_205 : decode cX6_loadNode 205 = .ok (.invokestatic 80, 3) := by decide +kernel
theorem dX6_loadNode_208 : decode cX6_loadNode 208 = .ok (.aload_n 0, 1) := by decide +kernel
theorem dX6_loadNode_209 : decode cX6_loadNode 209 = .ok (.getfield 21, 3) := by decide +kernel
theorem dX6_loadNode_212 : decode cX6_loadNode 212 = .ok (.aload_n 0, 1) := by decide +kernel
theorem dX6_loadNode_213 : decode cX6_loadNode 213 = .ok (.getfield 25, 3) := by decide +kernel
theorem dX6_loadNode_216 : decode cX6_loadNode 216 = .ok (.invokevirtual 133, 3) := by decide +kernel
theorem dX6_loadNode_219 : decode cX6_loadNode 219 = .ok (.ireturn, 1) := by decide +kernel
set_option maxRecDepth 100000 in
set_option maxHeartbeats 4000000 in
theorem bX6_loadNode_173 {l : Launch} {g : xG} (a0 : Nat) (r1 : Option Nat) (r2 : Option Nat) (x3 : Int32) (x4 : Int32) (x5 : Int32) (sx0 : Int32) {M : xM} {Q : Option Value → xM → Prop} (h : ((sx0 = 0 → (Q (some (.int 0)) M)) ∧ (¬ sx0 = 0 → (∃ a1, r1 = some a1 ∧ xat M a1 1 ∧ (((lg_cmp (xJ M a1 4) (-9223372036854775808)) = 0 → (Q (some (.int 0)) M)) ∧ (¬ (lg_cmp (xJ M a1 4) (-9223372036854775808)) = 0 → (xSp l g mX3_hasReason 0 0 [va_rf r1] M (fun ρ6 M5 => ∃ v4 : Int32, ρ6 = some (.int v4) ∧ ((¬ v4 = 0 → (xat M5 a0 3 ∧ (xSp l g mX4_fill 0 0 [va_rf (xR M5 a0 2), va_rf r1] M5 (fun ρ11 M10 => ρ11 = none ∧ (xat M10 a0 3 ∧ (∃ a18, (xR M10 a0 1) = some a18 ∧ xat M10 a18 2 ∧ xSp l g mX5_same 0 0 [va_rf (xR M10 a0 1), va_rf (xR M10 a0 2)] M10 (fun ρ16 M15 => ∃ v14 : Int32, ρ16 = some (.int v14) ∧ ((v14 = 0 ∨ v14 = 1) ∧ Q (some (.int v14)) M15)))))))) ∧ (v4 = 0 → (Q (some (.int 0)) M5))))))))))) : xWp l g mX6_loadNode 0 0 173 [(1, va_rf (some a0)), (1, va_rf r1), (1, va_rf r2), (1, .int x3), (1, .int x4), (1, .int x5)] [.int sx0] (0, 0) M Q := by
  refine zistore dX6_loadNode_173 (L1 := [(1, va_rf (some a0)), (1, va_rf r1), (1, va_rf r2), (1, .int x3), (1, .int x4), (1, .int sx0)]) (by decide) rfl ?_
  refine xr_iload dX6_loadNode_175 rfl ?_
  obtain ⟨ht, hf⟩ := h
  refine xr_if_eq 198 dX6_loadNode_177 (by decide) (fun c24 => ?_) (fun c24 => ?_)
  · replace h := ht c24
    clear ht hf
    refine xr_iconst 0 dX6_loadNode_198 (by decide) ?_
    exact xr_retv (by decide) (xRi rfl rfl dX6_loadNode_199) h
  · replace h := hf c24
    clear ht hf
    refine xr_aload_n 1 dX6_loadNode_180 rfl rfl ?_
    obtain ⟨a1, e2, h⟩ := h
    obtain ⟨t3, h⟩ := h
    refine yr_getJ dX6_loadNode_181 fl_RX6_177 e2 t3 ?_
    refine xr_ldc2 (-9223372036854775808) dX6_loadNode_184 ct_RX6_181 ?_
    refine xr_lcmp dX6_loadNode_187 ?_
    obtain ⟨ht, hf⟩ := h
    refine xr_if_eq 198 dX6_loadNode_188 (by decide) (fun c23 => ?_) (fun c23 => ?_)
    · replace h := ht c23
      clear ht hf
      refine xr_iconst 0 dX6_loadNode_198 (by decide) ?_
      exact xr_retv (by decide) (xRi rfl rfl dX6_loadNode_199) h
    · replace h := hf c23
      clear ht hf
      refine xr_aload_n 1 dX6_loadNode_191 rfl rfl ?_
      refine yr_callV (r := r1) [] dX6_loadNode_192 cv_X6_loadNode_183 e2 t3 rfl (Nat.le_trans wt_0 (by decide)) (by decide) (xSp.mono h ?_)
      clear h
      intro ρ6 M5 h
      obtain ⟨v4, rfl, h⟩ := h
      obtain ⟨ht, hf⟩ := h
      refine xr_if_ne 200 dX6_loadNode_195 (by decide) (fun c22 => ?_) (fun c22 => ?_)
      · replace h := ht c22
        clear ht hf
        refine xr_aload_n 0 dX6_loadNode_200 rfl rfl ?_
        obtain ⟨t8, h⟩ := h
        refine yr_getR dX6_loadNode_201 fl_RX6_25 rfl t8 ?_
        refine xr_aload_n 1 dX6_loadNode_204 rfl rfl ?_
        refine xr_callS [va_rf (xR M5 a0 2), va_rf r1] dX6_loadNode_205 cs_X6_loadNode_80 rfl (Nat.le_trans wt_0 (by decide)) (by decide) (xSp.mono h ?_)
        clear h
        intro ρ11 M10 h
        obtain ⟨rfl, h⟩ := h
        refine xr_aload_n 0 dX6_loadNode_208 rfl rfl ?_
        obtain ⟨t13, h⟩ := h
        refine yr_getR dX6_loadNode_209 fl_RX6_21 rfl t13 ?_
        refine xr_aload_n 0 dX6_loadNode_212 rfl rfl ?_
        refine yr_getR dX6_loadNode_213 fl_RX6_25 rfl t13 ?_
        obtain ⟨a18, e19, h⟩ := h
        obtain ⟨t20, h⟩ := h
        refine yr_callV (r := (xR M10 a0 1)) [va_rf (xR M10 a0 2)] dX6_loadNode_216 cv_X6_loadNode_133 e19 t20 rfl (Nat.le_trans wt_0 (by decide)) (by decide) (xSp.mono h ?_)
        clear h
        intro ρ16 M15 h
        obtain ⟨v14, rfl, h⟩ := h
        obtain ⟨z21, h⟩ := h
        exact xr_retv (by decide) (xRi rfl (nar_z z21) dX6_loadNode_219) h
      · replace h := hf c22
        clear ht hf
        refine xr_iconst 0 dX6_loadNode_198 (by decide) ?_
        exact xr_retv (by decide) (xRi rfl rfl dX6_loadNode_199) h
set_option maxRecDepth 100000 in
set_option maxHeartbeats 4000000 in
theorem bX6_loadNode_86 {l : Launch} {g : xG} (a0 : Nat) (r1 : Option Nat) (r2 : Option Nat) (x3 : Int32) (x4 : Int32) (x5 : Int32) {M : xM} {Q : Option Value → xM → Prop} (h : ((x4 ≤ x5 → (xat M a0 3 ∧ (∃ a6, (xR M a0 1) = some a6 ∧ xat M a6 2 ∧ xSp l g mX5_at 0 0 [va_rf (xR M a0 1), .int 1] M (fun ρ4 M3 => ∃ v2 : Int32, ρ4 = some (.int v2) ∧ ((¬ v2 = 1 → (∃ a9, r1 = some a9 ∧ xat M3 a9 1 ∧ ((3 ≤ (xI M3 a9 2) → (xat M3 a0 3 ∧ xSp l g mX6_hangMapped 0 0 [va_rf (some a0), va_rf r1, va_rf r2] M3 (fun ρ14 M13 => ∃ v12 : Int32, ρ14 = some (.int v12) ∧ xWp l g mX6_loadNode 0 0 173 [(1, va_rf (some a0)), (1, va_rf r1), (1, va_rf r2), (1, .int x3), (1, .int x4), (1, .int x5)] [.int v12] (0, 0) M13 Q))) ∧ (¬ 3 ≤ (xI M3 a9 2) → (xat M3 a0 3 ∧ xSp l g mX6_hangListed 0 0 [va_rf (some a0), va_rf r1, va_rf r2, .int x3] M3 (fun ρ19 M18 => ∃ v17 : Int32, ρ19 = some (.int v17) ∧ xWp l g mX6_loadNode 0 0 173 [(1, va_rf (some a0)), (1, va_rf r1), (1, va_rf r2), (1, .int x3), (1, .int x4), (1, .int x5)] [.int v17] (0, 0) M18 Q)))))) ∧ (v2 = 1 → (xat M3 a0 3 ∧ (∃ a28, (xR M3 a0 1) = some a28 ∧ xat M3 a28 2 ∧ xSp l g mX5_longAt 0 0 [va_rf (xR M3 a0 1), .int 2] M3 (fun ρ26 M25 => ∃ v24 : Int64, ρ26 = some (.long v24) ∧ (∃ a35, r1 = some a35 ∧ xat M25 a35 1 ∧ xSp l g mX3_setValue 0 0 [va_rf r1, .long v24] M25 (fun ρ33 M32 => ρ33 = none ∧ (∃ a38, r2 = some a38 ∧ xat M32 a38 5 ∧ (xat (xsI M32 a38 4 ((xI M32 a38 4) + 1)) a35 1 ∧ ((3 ≤ (xI (xsI M32 a38 4 ((xI M32 a38 4) + 1)) a35 2) → (xat (xsI M32 a38 4 ((xI M32 a38 4) + 1)) a0 3 ∧ xSp l g mX6_hangMapped 0 0 [va_rf (some a0), va_rf r1, va_rf r2] (xsI M32 a38 4 ((xI M32 a38 4) + 1)) (fun ρ44 M43 => ∃ v42 : Int32, ρ44 = some (.int v42) ∧ xWp l g mX6_loadNode 0 0 173 [(1, va_rf (some a0)), (1, va_rf r1), (1, va_rf r2), (1, .int x3), (1, .int x4), (1, .int x5)] [.int v42] (0, 0) M43 Q))) ∧ (¬ 3 ≤ (xI (xsI M32 a38 4 ((xI M32 a38 4) + 1)) a35 2) → (xat (xsI M32 a38 4 ((xI M32 a38 4) + 1)) a0 3 ∧ xSp l g mX6_hangListed 0 0 [va_rf (some a0), va_rf r1, va_rf r2, .int x3] (xsI M32 a38 4 ((xI M32 a38 4) + 1)) (fun ρ49 M48 => ∃ v47 : Int32, ρ49 = some (.int v47) ∧ xWp l g mX6_loadNode 0 0 173 [(1, va_rf (some a0)), (1, va_rf r1), (1, va_rf r2), (1, .int x3), (1, .int x4), (1, .int x5)] [.int v47] (0, 0) M48 Q))))))))))))))))) ∧ (¬ x4 ≤ x5 → (xat M a0 3 ∧ (∃ a59, (xR M a0 1) = some a59 ∧ xat M a59 2 ∧ xSp l g mX5_at 0 0 [va_rf (xR M a0 1), .int (11 + x5)] M (fun ρ57 M56 => ∃ v55 : Int32, ρ57 = some (.int v55) ∧ (∃ a66, r1 = some a66 ∧ xat M56 a66 1 ∧ xSp l g mX3_appendToPrefix 0 0 [va_rf r1, .int v55] M56 (fun ρ64 M63 => ρ64 = none ∧ xWp l g mX6_loadNode 0 0 86 [(1, va_rf (some a0)), (1, va_rf r1), (1, va_rf r2), (1, .int x3), (1, .int x4), (1, .int (x5 + 1))] [] (0, 0) M63 Q)))))))) : xWp l g mX6_loadNode 0 0 86 [(1, va_rf (some a0)), (1, va_rf r1), (1, va_rf r2), (1, .int x3), (1, .int x4), (1, .int x5)] [] (0, 0) M Q := by
  refine xr_iload dX6_loadNode_86 rfl ?_
  refine xr_iload dX6_loadNode_88 rfl ?_
  obtain ⟨ht, hf⟩ := h
  refine xr_icmp_ge 115 dX6_loadNode_90 (by decide) (fun c69 => ?_) (fun c69 => ?_)
  · replace h := ht c69
    clear ht hf
    refine xr_aload_n 0 dX6_loadNode_115 rfl rfl ?_
    obtain ⟨t1, h⟩ := h
    refine yr_getR dX6_loadNode_116 fl_RX6_21 rfl t1 ?_
    refine xr_iconst 1 dX6_loadNode_119 (by decide) ?_
    obtain ⟨a6, e7, h⟩ := h
    obtain ⟨t8, h⟩ := h
    refine yr_callV (r := (xR M a0 1)) [.int 1] dX6_loadNode_120 cv_X6_loadNode_141 e7 t8 rfl (Nat.le_trans wt_0 (by decide)) (by decide) (xSp.mono h ?_)
    clear h
    intro ρ4 M3 h
    obtain ⟨v2, rfl, h⟩ := h
    refine xr_iconst 1 dX6_loadNode_123 (by decide) ?_
    obtain ⟨ht, hf⟩ := h
    refine xr_icmp_ne 149 dX6_loadNode_124 (by decide) (fun c53 => ?_) (fun c53 => ?_)
    · replace h := ht c53
      clear ht hf
      refine xr_aload_n 1 dX6_loadNode_149 rfl rfl ?_
      obtain ⟨a9, e10, h⟩ := h
      obtain ⟨t11, h⟩ := h
      refine yr_getI dX6_loadNode_150 fl_RX6_144 e10 t11 ?_
      refine xr_iconst 3 dX6_loadNode_153 (by decide) ?_
      obtain ⟨ht, hf⟩ := h
      refine xr_icmp_ge 167 dX6_loadNode_154 (by decide) (fun c22 => ?_) (fun c22 => ?_)
      · replace h := ht c22
        clear ht hf
        refine xr_aload_n 0 dX6_loadNode_167 rfl rfl ?_
        refine xr_aload_n 1 dX6_loadNode_168 rfl rfl ?_
        refine xr_aload_n 2 dX6_loadNode_169 rfl rfl ?_
        obtain ⟨t16, h⟩ := h
        refine yr_callV (r := (some a0)) [va_rf r1, va_rf r2] dX6_loadNode_170 cv_X6_loadNode_174 rfl t16 rfl (Nat.le_trans wt_0 (by decide)) (by decide) (xSp.mono h ?_)
        clear h
        intro ρ14 M13 h
        obtain ⟨v12, rfl, h⟩ := h
        exact h
      · replace h := hf c22
        clear ht hf
        refine xr_aload_n 0 dX6_loadNode_157 rfl rfl ?_
        refine xr_aload_n 1 dX6_loadNode_158 rfl rfl ?_
        refine xr_aload_n 2 dX6_loadNode_159 rfl rfl ?_
        refine xr_iload_n 3 dX6_loadNode_160 rfl rfl ?_
        obtain ⟨t21, h⟩ := h
        refine yr_callV (r := (some a0)) [va_rf r1, va_rf r2, .int x3] dX6_loadNode_161 cv_X6_loadNode_170 rfl t21 rfl (Nat.le_trans wt_0 (by decide)) (by decide) (xSp.mono h ?_)
        clear h
        intro ρ19 M18 h
        obtain ⟨v17, rfl, h⟩ := h
        refine xr_goto 173 dX6_loadNode_164 (by decide) ?_
        exact h
    · replace h := hf c53
      clear ht hf
      refine xr_aload_n 1 dX6_loadNode_127 rfl rfl ?_
      refine xr_aload_n 0 dX6_loadNode_128 rfl rfl ?_
      obtain ⟨t23, h⟩ := h
      refine yr_getR dX6_loadNode_129 fl_RX6_21 rfl t23 ?_
      refine xr_iconst 2 dX6_loadNode_132 (by decide) ?_
      obtain ⟨a28, e29, h⟩ := h
      obtain ⟨t30, h⟩ := h
      refine yr_callV (r := (xR M3 a0 1)) [.int 2] dX6_loadNode_133 cv_X6_loadNode_162 e29 t30 rfl (Nat.le_trans (wt_r wt_0) (by decide)) (by decide) (xSp.mono h ?_)
      clear h
      intro ρ26 M25 h
      obtain ⟨v24, rfl, h⟩ := h
      obtain ⟨a35, e36, h⟩ := h
      obtain ⟨t37, h⟩ := h
      refine yr_callV (r := r1) [.long v24] dX6_loadNode_136 cv_X6_loadNode_166 e36 t37 rfl (Nat.le_trans wt_0 (by decide)) (by decide) (xSp.mono h ?_)
      clear h
      intro ρ33 M32 h
      obtain ⟨rfl, h⟩ := h
      refine xr_aload_n 2 dX6_loadNode_139 rfl rfl ?_
      refine xr_dup dX6_loadNode_140 (va_rf_cat _) ?_
      obtain ⟨a38, e39, h⟩ := h
      obtain ⟨t40, h⟩ := h
      refine yr_getI dX6_loadNode_141 fl_RX6_63 e39 t40 ?_
      refine xr_iconst 1 dX6_loadNode_144 (by decide) ?_
      refine xr_iadd dX6_loadNode_145 ?_
      refine yr_putI dX6_loadNode_146 fp_RX6_63 e39 t40 ?_
      refine xr_aload_n 1 dX6_loadNode_149 rfl rfl ?_
      obtain ⟨t41, h⟩ := h
      refine yr_getI dX6_loadNode_150 fl_RX6_144 e36 t41 ?_
      refine xr_iconst 3 dX6_loadNode_153 (by decide) ?_
      obtain ⟨ht, hf⟩ := h
      refine xr_icmp_ge 167 dX6_loadNode_154 (by decide) (fun c52 => ?_) (fun c52 => ?_)
      · replace h := ht c52
        clear ht hf
        refine xr_aload_n 0 dX6_loadNode_167 rfl rfl ?_
        refine xr_aload_n 1 dX6_loadNode_168 rfl rfl ?_
        refine xr_aload_n 2 dX6_loadNode_169 rfl rfl ?_
        obtain ⟨t46, h⟩ := h
        refine yr_callV (r := (some a0)) [va_rf r1, va_rf r2] dX6_loadNode_170 cv_X6_loadNode_174 rfl t46 rfl (Nat.le_trans wt_0 (by decide)) (by decide) (xSp.mono h ?_)
        clear h
        intro ρ44 M43 h
        obtain ⟨v42, rfl, h⟩ := h
        exact h
      · replace h := hf c52
        clear ht hf
        refine xr_aload_n 0 dX6_loadNode_157 rfl rfl ?_
        refine xr_aload_n 1 dX6_loadNode_158 rfl rfl ?_
        refine xr_aload_n 2 dX6_loadNode_159 rfl rfl ?_
        refine xr_iload_n 3 dX6_loadNode_160 rfl rfl ?_
        obtain ⟨t51, h⟩ := h
        refine yr_callV (r := (some a0)) [va_rf r1, va_rf r2, .int x3] dX6_loadNode_161 cv_X6_loadNode_170 rfl t51 rfl (Nat.le_trans wt_0 (by decide)) (by decide) (xSp.mono h ?_)
        clear h
        intro ρ49 M48 h
        obtain ⟨v47, rfl, h⟩ := h
        refine xr_goto 173 dX6_loadNode_164 (by decide) ?_
        exact h
  · replace h := hf c69
    clear ht hf
    refine xr_aload_n 1 dX6_loadNode_93 rfl rfl ?_
    refine xr_aload_n 0 dX6_loadNode_94 rfl rfl ?_
    obtain ⟨t54, h⟩ := h
    refine yr_getR dX6_loadNode_95 fl_RX6_21 rfl t54 ?_
    refine xr_bipush 11 dX6_loadNode_98 (by decide) ?_
    refine xr_iload dX6_loadNode_100 rfl ?_
    refine xr_iadd dX6_loadNode_102 ?_
    obtain ⟨a59, e60, h⟩ := h
    obtain ⟨t61, h⟩ := h
    refine yr_callV (r := (xR M a0 1)) [.int (11 + x5)] dX6_loadNode_103 cv_X6_loadNode_141 e60 t61 rfl (Nat.le_trans (wt_r wt_0) (by decide)) (by decide) (xSp.mono h ?_)
    clear h
    intro ρ57 M56 h
    obtain ⟨v55, rfl, h⟩ := h
    obtain ⟨a66, e67, h⟩ := h
    obtain ⟨t68, h⟩ := h
    refine yr_callV (r := r1) [.int v55] dX6_loadNode_106 cv_X6_loadNode_158 e67 t68 rfl (Nat.le_trans wt_0 (by decide)) (by decide) (xSp.mono h ?_)
    clear h
    intro ρ64 M63 h
    obtain ⟨rfl, h⟩ := h
    refine ziinc (x5 + 1) dX6_loadNode_109 rfl rfl (L1 := [(1, va_rf (some a0)), (1, va_rf r1), (1, va_rf r2), (1, .int x3), (1, .int x4), (1, .int (x5 + 1))]) (by decide) rfl ?_
    refine xr_goto 86 dX6_loadNode_112 (by decide) ?_
    exact h
set_option maxRecDepth 100000 in
set_option maxHeartbeats 4000000 in
theorem bX6_loadNode_0 {l : Launch} {g : xG} (a0 : Nat) (r1 : Option Nat) (r2 : Option Nat) {M : xM} {Q : Option Value → xM → Prop} (h : (xat M a0 3 ∧ (∃ a2, r1 = some a2 ∧ xat M a2 1 ∧ (∃ a9, (xR M a0 0) = some a9 ∧ xat M a9 0 ∧ xSp l g mX0_read 0 0 [va_rf (xR M a0 0), .int (xI M a2 7), va_rf (xR M a0 1)] M (fun ρ7 M6 => ρ7 = none ∧ (xat M6 a0 3 ∧ (∃ a17, (xR M6 a0 1) = some a17 ∧ xat M6 a17 2 ∧ xSp l g mX5_at 0 0 [va_rf (xR M6 a0 1), .int 0] M6 (fun ρ15 M14 => ∃ v13 : Int32, ρ15 = some (.int v13) ∧ (xat M14 a2 1 ∧ (xSp l g mX1_mostChildren 0 0 [.int (xI (xsI M14 a2 2 v13) a2 2)] (xsI M14 a2 2 v13) (fun ρ23 M22 => ∃ v21 : Int32, ρ23 = some (.int v21) ∧ (xat M22 a0 3 ∧ (∃ a30, (xR M22 a0 1) = some a30 ∧ xat M22 a30 2 ∧ xSp l g mX5_at 0 0 [va_rf (xR M22 a0 1), .int 10] M22 (fun ρ28 M27 => ∃ v26 : Int32, ρ28 = some (.int v26) ∧ (xat M27 a2 1 ∧ (xSp l g mX1_is 0 0 [.int (xI M27 a2 2)] M27 (fun ρ36 M35 => ∃ v34 : Int32, ρ36 = some (.int v34) ∧ ((v34 = 0 → (Q (some (.int 0)) M35)) ∧ (¬ v34 = 0 → (xat M35 a0 3 ∧ (∃ a43, (xR M35 a0 1) = some a43 ∧ xat M35 a43 2 ∧ xSp l g mX5_at 0 0 [va_rf (xR M35 a0 1), .int 23] M35 (fun ρ41 M40 => ∃ v39 : Int32, ρ41 = some (.int v39) ∧ ((v21 < v39 → (Q (some (.int 0)) M40)) ∧ (¬ v21 < v39 → (xat M40 a2 1 ∧ xSp l g mX3_lead 0 0 [va_rf r1] M40 (fun ρ48 M47 => ∃ v46 : Int32, ρ48 = some (.int v46) ∧ (((v46 + v26) ≤ 12 → xWp l g mX6_loadNode 0 0 86 [(1, va_rf (some a0)), (1, va_rf r1), (1, va_rf r2), (1, .int v21), (1, .int v26), (1, .int 0)] [] (0, 0) M47 Q) ∧ (¬ (v46 + v26) ≤ 12 → (Q (some (.int 0)) M47))))))))))))))))))))))))))))) : xWp l g mX6_loadNode 0 0 0 [(1, va_rf (some a0)), (1, va_rf r1), (1, va_rf r2), (0, .null), (0, .null), (0, .null)] [] (0, 0) M Q := by
  refine xr_aload_n 0 dX6_loadNode_0 rfl rfl ?_
  obtain ⟨t1, h⟩ := h
  refine yr_getR dX6_loadNode_1 fl_RX6_12 rfl t1 ?_
  refine xr_aload_n 1 dX6_loadNode_4 rfl rfl ?_
  obtain ⟨a2, e3, h⟩ := h
  obtain ⟨t4, h⟩ := h
  refine yr_getI dX6_loadNode_5 fl_RX6_59 e3 t4 ?_
  refine xr_aload_n 0 dX6_loadNode_8 rfl rfl ?_
  refine yr_getR dX6_loadNode_9 fl_RX6_21 rfl t1 ?_
  obtain ⟨a9, e10, h⟩ := h
  obtain ⟨t11, h⟩ := h
  refine yr_callV (r := (xR M a0 0)) [.int (xI M a2 7), va_rf (xR M a0 1)] dX6_loadNode_12 cv_X6_loadNode_115 e10 t11 rfl (Nat.le_trans wt_0 (by decide)) (by decide) (xSp.mono h ?_)
  clear h
  intro ρ7 M6 h
  obtain ⟨rfl, h⟩ := h
  refine xr_aload_n 1 dX6_loadNode_15 rfl rfl ?_
  refine xr_aload_n 0 dX6_loadNode_16 rfl rfl ?_
  obtain ⟨t12, h⟩ := h
  refine yr_getR dX6_loadNode_17 fl_RX6_21 rfl t12 ?_
  refine xr_iconst 0 dX6_loadNode_20 (by decide) ?_
  obtain ⟨a17, e18, h⟩ := h
  obtain ⟨t19, h⟩ := h
  refine yr_callV (r := (xR M6 a0 1)) [.int 0] dX6_loadNode_21 cv_X6_loadNode_141 e18 t19 rfl (Nat.le_trans (wt_r wt_0) (by decide)) (by decide) (xSp.mono h ?_)
  clear h
  intro ρ15 M14 h
  obtain ⟨v13, rfl, h⟩ := h
  obtain ⟨t20, h⟩ := h
  refine yr_putI dX6_loadNode_24 fp_RX6_144 e3 t20 ?_
  refine xr_aload_n 1 dX6_loadNode_27 rfl rfl ?_
  refine yr_getI dX6_loadNode_28 fl_RX6_144 e3 t20 ?_
  refine xr_callS [.int (xI (xsI M14 a2 2 v13) a2 2)] dX6_loadNode_31 cs_X6_loadNode_147 rfl (Nat.le_trans wt_0 (by decide)) (by decide) (xSp.mono h ?_)
  clear h
  intro ρ23 M22 h
  obtain ⟨v21, rfl, h⟩ := h
  refine zistore_n 3 dX6_loadNode_34 rfl (L1 := [(1, va_rf (some a0)), (1, va_rf r1), (1, va_rf r2), (1, .int v21), (0, .null), (0, .null)]) (by decide) rfl ?_
  refine xr_aload_n 0 dX6_loadNode_35 rfl rfl ?_
  obtain ⟨t25, h⟩ := h
  refine yr_getR dX6_loadNode_36 fl_RX6_21 rfl t25 ?_
  refine xr_bipush 10 dX6_loadNode_39 (by decide) ?_
  obtain ⟨a30, e31, h⟩ := h
  obtain ⟨t32, h⟩ := h
  refine yr_callV (r := (xR M22 a0 1)) [.int 10] dX6_loadNode_41 cv_X6_loadNode_141 e31 t32 rfl (Nat.le_trans wt_0 (by decide)) (by decide) (xSp.mono h ?_)
  clear h
  intro ρ28 M27 h
  obtain ⟨v26, rfl, h⟩ := h
  refine zistore dX6_loadNode_44 (L1 := [(1, va_rf (some a0)), (1, va_rf r1), (1, va_rf r2), (1, .int v21), (1, .int v26), (0, .null)]) (by decide) rfl ?_
  refine xr_aload_n 1 dX6_loadNode_46 rfl rfl ?_
  obtain ⟨t33, h⟩ := h
  refine yr_getI dX6_loadNode_47 fl_RX6_144 e3 t33 ?_
  refine xr_callS [.int (xI M27 a2 2)] dX6_loadNode_50 cs_X6_loadNode_152 rfl (Nat.le_trans wt_0 (by decide)) (by decide) (xSp.mono h ?_)
  clear h
  intro ρ36 M35 h
  obtain ⟨v34, rfl, h⟩ := h
  obtain ⟨ht, hf⟩ := h
  refine xr_if_eq 81 dX6_loadNode_53 (by decide) (fun c53 => ?_) (fun c53 => ?_)
  · replace h := ht c53
    clear ht hf
    refine xr_iconst 0 dX6_loadNode_81 (by decide) ?_
    exact xr_retv (by decide) (xRi rfl rfl dX6_loadNode_82) h
  · replace h := hf c53
    clear ht hf
    refine xr_aload_n 0 dX6_loadNode_56 rfl rfl ?_
    obtain ⟨t38, h⟩ := h
    refine yr_getR dX6_loadNode_57 fl_RX6_21 rfl t38 ?_
    refine xr_bipush 23 dX6_loadNode_60 (by decide) ?_
    obtain ⟨a43, e44, h⟩ := h
    obtain ⟨t45, h⟩ := h
    refine yr_callV (r := (xR M35 a0 1)) [.int 23] dX6_loadNode_62 cv_X6_loadNode_141 e44 t45 rfl (Nat.le_trans wt_0 (by decide)) (by decide) (xSp.mono h ?_)
    clear h
    intro ρ41 M40 h
    obtain ⟨v39, rfl, h⟩ := h
    refine xr_iload_n 3 dX6_loadNode_65 rfl rfl ?_
    obtain ⟨ht, hf⟩ := h
    refine xr_icmp_gt 81 dX6_loadNode_66 (by decide) (fun c52 => ?_) (fun c52 => ?_)
    · replace h := ht c52
      clear ht hf
      refine xr_iconst 0 dX6_loadNode_81 (by decide) ?_
      exact xr_retv (by decide) (xRi rfl rfl dX6_loadNode_82) h
    · replace h := hf c52
      clear ht hf
      refine xr_aload_n 1 dX6_loadNode_69 rfl rfl ?_
      obtain ⟨t50, h⟩ := h
      refine yr_callV (r := r1) [] dX6_loadNode_70 cv_X6_loadNode_155 e3 t50 rfl (Nat.le_trans wt_0 (by decide)) (by decide) (xSp.mono h ?_)
      clear h
      intro ρ48 M47 h
      obtain ⟨v46, rfl, h⟩ := h
      refine xr_iload dX6_loadNode_73 rfl ?_
      refine xr_iadd dX6_loadNode_75 ?_
      refine xr_bipush 12 dX6_loadNode_76 (by decide) ?_
      obtain ⟨ht, hf⟩ := h
      refine xr_icmp_le 83 dX6_loadNode_78 (by decide) (fun c51 => ?_) (fun c51 => ?_)
      · replace h := ht c51
        clear ht hf
        refine xr_iconst 0 dX6_loadNode_83 (by decide) ?_
        refine zistore dX6_loadNode_84 (L1 := [(1, va_rf (some a0)), (1, va_rf r1), (1, va_rf r2), (1, .int v21), (1, .int v26), (1, .int 0)]) (by decide) rfl ?_
        exact h
      · replace h := hf c51
        clear ht hf
        refine xr_iconst 0 dX6_loadNode_81 (by decide) ?_
        exact xr_retv (by decide) (xRi rfl rfl dX6_loadNode_82) h
theorem dX6_hangListed_0 : decode cX6_hangListed 0 = .ok (.aconst_null, 1) := by decide +kernel
theorem dX6_hangListed_1 : decode cX6_hangListed 1 = .ok (.astore 4, 2) := by decide +kernel
theorem dX6_hangListed_3 : decode cX6_hangListed 3 = .ok (.aload_n 0, 1) := by decide +kernel
theorem dX6_hangListed_4 : decode cX6_hangListed 4 = .ok (.getfield 21, 3) := by decide +kernel
theorem dX6_hangListed_7 : decode cX6_hangListed 7 = .ok (.bipush 23, 2) := by decide +kernel
theorem dX6_hangListed_9 : decode cX6_hangListed 9 = .ok (.invokevirtual 141, 3) := by decide +kernel
theorem dX6_hangListed_12 : decode cX6_hangListed 12 = .ok (.istore 5, 2) := by decide +kernel
theorem dX6_hangListed_14 : decode cX6_hangListed 14 = .ok (.iconst 0, 1) := by decide +kernel
theorem dX6_hangListed_15 : decode cX6_hangListed 15 = .ok (.istore 6, 2) := by decide +kernel
theorem dX6_hangListed_17 : decode cX6_hangListed 17 = .ok (.iload 6, 2) := by decide +kernel
theorem dX6_hangListed_19 : decode cX6_hangListed 19 = .ok (.iload 5, 2) := by decide +kernel
theorem dX6_hangListed_21 : decode cX6_hangListed 21 = .ok (.if_icmp .ge 85, 3) := by decide +kernel
theorem dX6_hangListed_24 : decode cX6_hangListed 24 = .ok (.aload_n 0, 1) := by decide +kernel
theorem dX6_hangListed_25 : decode cX6_hangListed 25 = .ok (.getfield 21, 3) := by decide +kernel
theorem dX6_hangListed_28 : decode cX6_hangListed 28 = .ok (.bipush 24, 2) := by decide +kernel
theorem dX6_hangListed_30 : decode cX6_hangListed 30 = .ok (.iload 6, 2) := by decide +kernel
theorem dX6_hangListed_32 : decode cX6_hangListed 32 = .ok (.iadd, 1) := by decide +kernel
theorem dX6_hangListed_33 : decode cX6_hangListed 33 = .ok (.invokevirtual 141, 3) := by decide +kernel
theorem dX6_hangListed_36 : decode cX6_hangListed 36 = .ok (.istore 7, 2) := by decide +kernel
theorem dX6_hangListed_38 : decode cX6_hangListed 38 = .ok (.aload_n 2, 1) := by decide +kernel
theorem dX6_hangListed_39 : decode cX6_hangListed 39 = .ok (.invokevirtual 187, 3) := by decide +kernel
theorem dX6_hangListed_42 : decode cX6_hangListed 42 = .ok (.astore 8, 2) := by decide +kernel
theorem dX6_hangListed_44 : decode cX6_hangListed 44 = .ok (.aload 8, 2) := by decide +kernel
theorem dX6_hangListed_46 : decode cX6_hangListed 46 = .ok (.ifnull 18, 3) := by decide +kernel
theorem dX6_hangListed_49 : decode cX6_hangListed 49 = .ok (.aload 4, 2) := by decide +kernel
theorem dX6_hangListed_51 : decode cX6_hangListed 51 = .ok (.ifnull 15, 3) := by decide +kernel
theorem dX6_hangListed_54 : decode cX6_hangListed 54 = .ok (.iload 7, 2) := by decide +kernel
theorem dX6_hangListed_56 : decode cX6_hangListed 56 = .ok (.aload 4, 2) := by decide +kernel
theorem dX6_hangListed_58 : decode cX6_hangListed 58 = .ok (.getfield 190, 3) := by decide +kernel
theorem dX6_hangListed_61 : decode cX6_hangListed 61 = .ok (.if_icmp .gt 5, 3) := by decide +kernel
theorem dX6_hangListed_64 : decode cX6_hangListed 64 = .ok (.iconst 0, 1) := by decide +kernel
theorem dX6_hangListed_65 : decode cX6_hangListed 65 = .ok (.ireturn, 1) := by decide +kernel
theorem dX6_hangListed_66 : decode cX6_hangListed 66 = .ok (.aload_n 0, 1) := by decide +kernel
theorem dX6_hangListed_67 : decode cX6_hangListed 67 = .ok (.aload 4, 2) := by decide +kernel
theorem dX6_hangListed_69 : decode cX6_hangListed 69 = .ok (.aload 8, 2) := by decide +kernel
theorem dX6_hangListed_71 : decode cX6_hangListed 71 = .ok (.aload_n 1, 1) := by decide +kernel
theorem dX6_hangListed_72 : decode cX6_hangListed 72 = .ok (.iload 7, 2) := by decide +kernel
theorem dX6_hangListed_74 : decode cX6_hangListed 74 = .ok (.aload_n 0, 1) := by decide +kernel
theorem dX6_hangListed_75 : decode cX6_hangListed 75 = .ok (.getfield 21, 3) := by decide +kernel
theorem dX6_hangListed_78 : decode cX6_hangListed 78 = .ok (.bipush 24, 2) := by decide +kernel
theorem dX6_hangListed_80 : decode cX6_hangListed 80 = .ok (.iload_n 3, 1) := by decide +kernel
theorem dX6_hangListed_81 : decode cX6_hangListed 81 = .ok (.iadd, 1) := by decide +kernel
theorem dX6_hangListed_82 : decode cX6_hangListed 82 = .ok (.iload 6, 2) := by decide +kernel
theorem dX6_hangListed_84 : decode cX6_hangListed 84 = .ok (.iadd, 1) := by decide +kernel
theorem dX6_hangListed_85 : decode cX6_hangListed 85 = .ok (.invokevirtual 141, 3) := by decide +kernel
theorem dX6_hangListed_88 : decode cX6_hangListed 88 = .ok (.invokevirtual 193, 3) := by decide +kernel
theorem dX6_hangListed_91 : decode cX6_hangListed 91 = .ok (.ifCond .ne 5, 3) := by decide +kernel
theorem dX6_hangListed_94 : decode cX6_hangListed 94 = .ok (.iconst 0, 1) := by decide +kernel
theorem dX6_hangListed_95 : decode cX6_hangListed 95 = .ok (.ireturn, 1) := by decide +kernel
theorem dX6_hangListed_96 : decode cX6_hangListed 96 = .ok (.aload 8, 2) := by decide +kernel
theorem dX6_hangListed_98 : decode cX6_hangListed 98 = .ok (.astore 4, 2) := by decide +kernel
theorem dX6_hangListed_100 : decode cX6_hangListed 100 = .ok (.iinc 6 1, 3) := by decide +kernel
theorem dX6_hangListed_103 : decode cX6_hangListed 103 = .ok (.goto (-86), 3) := by decide +kernel
theorem dX6_hangListed_106 : decode cX6_hangListed 106 = .ok (.iconst 1, 1) := by decide +kernel
theorem dX6_hangListed_107 : decode cX6_hangListed 107 = .ok (.ireturn, 1) := by decide +kernel
set_option maxRecDepth 100000 in
set_option maxHeartbeats 4000000 in
theorem bX6_hangListed_66 {l : Launch} {g : xG} (a0 : Nat) (r1 : Option Nat) (r2 : Option Nat) (x3 : Int32) (r4 : Option Nat) (x5 : Int32) (x6 : Int32) (x7 : Int32) (r8 : Option Nat) {M : xM} {Q : Option Value → xM → Prop} (h : (xat M a0 3 ∧ (∃ a6, (xR M a0 1) = some a6 ∧ xat M a6 2 ∧ xSp l g mX5_at 0 0 [va_rf (xR M a0 1), .int ((24 + x3) + x6)] M (fun ρ4 M3 => ∃ v2 : Int32, ρ4 = some (.int v2) ∧ (xat M3 a0 3 ∧ xSp l g mX6_hangBehind 0 0 [va_rf (some a0), va_rf r4, va_rf r8, va_rf r1, .int x7, .int v2] M3 (fun ρ11 M10 => ∃ v9 : Int32, ρ11 = some (.int v9) ∧ ((¬ v9 = 0 → xWp l g mX6_hangListed 0 0 17 [(1, va_rf (some a0)), (1, va_rf r1), (1, va_rf r2), (1, .int x3), (1, va_rf r8), (1, .int x5), (1, .int (x6 + 1)), (1, .int x7), (1, va_rf r8)] [] (0, 0) M10 Q) ∧ (v9 = 0 → (Q (some (.int 0)) M10))))))))) : xWp l g mX6_hangListed 0 0 66 [(1, va_rf (some a0)), (1, va_rf r1), (1, va_rf r2), (1, .int x3), (1, va_rf r4), (1, .int x5), (1, .int x6), (1, .int x7), (1, va_rf r8)] [] (0, 0) M Q := by
  refine xr_aload_n 0 dX6_hangListed_66 rfl rfl ?_
  refine xr_aload dX6_hangListed_67 rfl ?_
  refine xr_aload dX6_hangListed_69 rfl ?_
  refine xr_aload_n 1 dX6_hangListed_71 rfl rfl ?_
  refine xr_iload dX6_hangListed_72 rfl ?_
  refine xr_aload_n 0 dX6_hangListed_74 rfl rfl ?_
  obtain ⟨t1, h⟩ := h
  refine yr_getR dX6_hangListed_75 fl_RX6_21 rfl t1 ?_
  refine xr_bipush 24 dX6_hangListed_78 (by decide) ?_
  refine xr_iload_n 3 dX6_hangListed_80 rfl rfl ?_
  refine xr_iadd dX6_hangListed_81 ?_
  refine xr_iload dX6_hangListed_82 rfl ?_
  refine xr_iadd dX6_hangListed_84 ?_
  obtain ⟨a6, e7, h⟩ := h
  obtain ⟨t8, h⟩ := h
  refine yr_callV (r := (xR M a0 1)) [.int ((24 + x3) + x6)] dX6_hangListed_85 cv_X6_hangListed_141 e7 t8 rfl (Nat.le_trans (wt_i (wt_r (wt_r (wt_r (wt_r wt_0))))) (by decide)) (by decide) (xSp.mono h ?_)
  clear h
  intro ρ4 M3 h
  obtain ⟨v2, rfl, h⟩ := h
  obtain ⟨t13, h⟩ := h
  refine yr_callV (r := (some a0)) [va_rf r4, va_rf r8, va_rf r1, .int x7, .int v2] dX6_hangListed_88 cv_X6_hangListed_193 rfl t13 rfl (Nat.le_trans wt_0 (by decide)) (by decide) (xSp.mono h ?_)
  clear h
  intro ρ11 M10 h
  obtain ⟨v9, rfl, h⟩ := h
  obtain ⟨ht, hf⟩ := h
  refine xr_if_ne 96 dX6_hangListed_91 (by decide) (fun c14 => ?_) (fun c14 => ?_)
  · replace h := ht c14
    clear ht hf
    refine xr_aload dX6_hangListed_96 rfl ?_
    refine zastore dX6_hangListed_98 (L1 := [(1, va_rf (some a0)), (1, va_rf r1), (1, va_rf r2), (1, .int x3), (1, va_rf r8), (1, .int x5), (1, .int x6), (1, .int x7), (1, va_rf r8)]) (by decide) rfl ?_
    refine ziinc (x6 + 1) dX6_hangListed_100 rfl rfl (L1 := [(1, va_rf (some a0)), (1, va_rf r1), (1, va_rf r2), (1, .int x3), (1, va_rf r8), (1, .int x5), (1, .int (x6 + 1)), (1, .int x7), (1, va_rf r8)]) (by decide) rfl ?_
    refine xr_goto 17 dX6_hangListed_103 (by decide) ?_
    exact h
  · replace h := hf c14
    clear ht hf
    refine xr_iconst 0 dX6_hangListed_94 (by decide) ?_
    exact xr_retv (by decide) (xRi rfl rfl dX6_hangListed_95) h
set_option maxRecDepth 100000 in
set_option maxHeartbeats 4000000 in
theorem bX6_hangListed_17 {l : Launch} {g : xG} (a0 : Nat) (r1 : Option Nat) (r2 : Option Nat) (x3 : Int32) (r4 : Option Nat) (x5 : Int32) (x6 : Int32) (w7 : Value) (w8 : Value) {M : xM} {Q : Option Value → xM → Prop} (h : ((x5 ≤ x6 → (Q (some (.int 1)) M)) ∧ (¬ x5 ≤ x6 → (xat M a0 3 ∧ (∃ a6, (xR M a0 1) = some a6 ∧ xat M a6 2 ∧ xSp l g mX5_at 0 0 [va_rf (xR M a0 1), .int (24 + x6)] M (fun ρ4 M3 => ∃ v2 : Int32, ρ4 = some (.int v2) ∧ (∃ a13, r2 = some a13 ∧ xat M3 a13 5 ∧ xSp l g mX8_take 0 0 [va_rf r2] M3 (fun ρ11 M10 => ∃ v9 : Option Nat, ρ11 = some (va_rf v9) ∧ ((v9 = none → (Q (some (.int 0)) M10)) ∧ (¬ v9 = none → ((r4 = none → xWp l g mX6_hangListed 0 0 66 [(1, va_rf (some a0)), (1, va_rf r1), (1, va_rf r2), (1, .int x3), (1, va_rf r4), (1, .int x5), (1, .int x6), (1, .int v2), (1, va_rf v9)] [] (0, 0) M10 Q) ∧ (¬ r4 = none → (∃ a16, r4 = some a16 ∧ xat M10 a16 1 ∧ (((xI M10 a16 6) < v2 → xWp l g mX6_hangListed 0 0 66 [(1, va_rf (some a0)), (1, va_rf r1), (1, va_rf r2), (1, .int x3), (1, va_rf r4), (1, .int x5), (1, .int x6), (1, .int v2), (1, va_rf v9)] [] (0, 0) M10 Q) ∧ (¬ (xI M10 a16 6) < v2 → (Q (some (.int 0)) M10)))))))))))))))) : xWp l g mX6_hangListed 0 0 17 [(1, va_rf (some a0)), (1, va_rf r1), (1, va_rf r2), (1, .int x3), (1, va_rf r4), (1, .int x5), (1, .int x6), (0, w7), (0, w8)] [] (0, 0) M Q := by
  refine xr_iload dX6_hangListed_17 rfl ?_
  refine xr_iload dX6_hangListed_19 rfl ?_
  obtain ⟨ht, hf⟩ := h
  refine xr_icmp_ge 106 dX6_hangListed_21 (by decide) (fun c22 => ?_) (fun c22 => ?_)
  · replace h := ht c22
    clear ht hf
    refine xr_iconst 1 dX6_hangListed_106 (by decide) ?_
    exact xr_retv (by decide) (xRi rfl rfl dX6_hangListed_107) h
  · replace h := hf c22
    clear ht hf
    refine xr_aload_n 0 dX6_hangListed_24 rfl rfl ?_
    obtain ⟨t1, h⟩ := h
    refine yr_getR dX6_hangListed_25 fl_RX6_21 rfl t1 ?_
    refine xr_bipush 24 dX6_hangListed_28 (by decide) ?_
    refine xr_iload dX6_hangListed_30 rfl ?_
    refine xr_iadd dX6_hangListed_32 ?_
    obtain ⟨a6, e7, h⟩ := h
    obtain ⟨t8, h⟩ := h
    refine yr_callV (r := (xR M a0 1)) [.int (24 + x6)] dX6_hangListed_33 cv_X6_hangListed_141 e7 t8 rfl (Nat.le_trans wt_0 (by decide)) (by decide) (xSp.mono h ?_)
    clear h
    intro ρ4 M3 h
    obtain ⟨v2, rfl, h⟩ := h
    refine zistore dX6_hangListed_36 (L1 := [(1, va_rf (some a0)), (1, va_rf r1), (1, va_rf r2), (1, .int x3), (1, va_rf r4), (1, .int x5), (1, .int x6), (1, .int v2), (0, w8)]) (by decide) rfl ?_
    refine xr_aload_n 2 dX6_hangListed_38 rfl rfl ?_
    obtain ⟨a13, e14, h⟩ := h
    obtain ⟨t15, h⟩ := h
    refine yr_callV (r := r2) [] dX6_hangListed_39 cv_X6_hangListed_187 e14 t15 rfl (Nat.le_trans wt_0 (by decide)) (by decide) (xSp.mono h ?_)
    clear h
    intro ρ11 M10 h
    obtain ⟨v9, rfl, h⟩ := h
    refine zastore dX6_hangListed_42 (L1 := [(1, va_rf (some a0)), (1, va_rf r1), (1, va_rf r2), (1, .int x3), (1, va_rf r4), (1, .int x5), (1, .int x6), (1, .int v2), (1, va_rf v9)]) (by decide) rfl ?_
    refine xr_aload dX6_hangListed_44 rfl ?_
    obtain ⟨ht, hf⟩ := h
    refine xr_ifnull 64 dX6_hangListed_46 (by decide) (fun c21 => ?_) (fun c21 => ?_)
    · replace h := ht c21
      clear ht hf
      refine xr_iconst 0 dX6_hangListed_64 (by decide) ?_
      exact xr_retv (by decide) (xRi rfl rfl dX6_hangListed_65) h
    · replace h := hf c21
      clear ht hf
      refine xr_aload dX6_hangListed_49 rfl ?_
      obtain ⟨ht, hf⟩ := h
      refine xr_ifnull 66 dX6_hangListed_51 (by decide) (fun c20 => ?_) (fun c20 => ?_)
      · replace h := ht c20
        clear ht hf
        exact h
      · replace h := hf c20
        clear ht hf
        refine xr_iload dX6_hangListed_54 rfl ?_
        refine xr_aload dX6_hangListed_56 rfl ?_
        obtain ⟨a16, e17, h⟩ := h
        obtain ⟨t18, h⟩ := h
        refine yr_getI dX6_hangListed_58 fl_RX6_190 e17 t18 ?_
        obtain ⟨ht, hf⟩ := h
        refine xr_icmp_gt 66 dX6_hangListed_61 (by decide) (fun c19 => ?_) (fun c19 => ?_)
        · replace h := ht c19
          clear ht hf
          exact h
        · replace h := hf c19
          clear ht hf
          refine xr_iconst 0 dX6_hangListed_64 (by decide) ?_
          exact xr_retv (by decide) (xRi rfl rfl dX6_hangListed_65) h
set_option maxRecDepth 100000 in
set_option maxHeartbeats 4000000 in
theorem bX6_hangListed_0 {l : Launch} {g : xG} (a0 : Nat) (r1 : Option Nat) (r2 : Option Nat) (x3 : Int32) {M : xM} {Q : Option Value → xM → Prop} (h : (xat M a0 3 ∧ (∃ a6, (xR M a0 1) = some a6 ∧ xat M a6 2 ∧ xSp l g mX5_at 0 0 [va_rf (xR M a0 1), .int 23] M (fun ρ4 M3 => ∃ v2 : Int32, ρ4 = some (.int v2) ∧ xWp l g mX6_hangListed 0 0 17 [(1, va_rf (some a0)), (1, va_rf r1), (1, va_rf r2), (1, .int x3), (1, va_rf none), (1, .int v2), (1, .int 0), (0, .null), (0, .null)] [] (0, 0) M3 Q)))) : xWp l g mX6_hangListed 0 0 0 [(1, va_rf (some a0)), (1, va_rf r1), (1, va_rf r2), (1, .int x3), (0, .null), (0, .null), (0, .null), (0, .null), (0, .null)] [] (0, 0) M Q := by
  refine xr_null dX6_hangListed_0 ?_
  refine zastore dX6_hangListed_1 (L1 := [(1, va_rf (some a0)), (1, va_rf r1), (1, va_rf r2), (1, .int x3), (1, va_rf none), (0, .null), (0, .null), (0, .null), (0, .null)]) (by decide) rfl ?_
  refine xr_aload_n 0 dX6_hangListed_3 rfl rfl ?_
  obtain ⟨t1, h⟩ := h
  refine yr_getR dX6_hangListed_4 fl_RX6_21 rfl t1 ?_
  refine xr_bipush 23 dX6_hangListed_7 (by decide) ?_
  obtain ⟨a6, e7, h⟩ := h
  obtain ⟨t8, h⟩ := h
  refine yr_callV (r := (xR M a0 1)) [.int 23] dX6_hangListed_9 cv_X6_hangListed_141 e7 t8 rfl (Nat.le_trans wt_0 (by decide)) (by decide) (xSp.mono h ?_)
  clear h
  intro ρ4 M3 h
  obtain ⟨v2, rfl, h⟩ := h
  refine zistore dX6_hangListed_12 (L1 := [(1, va_rf (some a0)), (1, va_rf r1), (1, va_rf r2), (1, .int x3), (1, va_rf none), (1, .int v2), (0, .null), (0, .null), (0, .null)]) (by decide) rfl ?_
  refine xr_iconst 0 dX6_hangListed_14 (by decide) ?_
  refine zistore dX6_hangListed_15 (L1 := [(1, va_rf (some a0)), (1, va_rf r1), (1, va_rf r2), (1, .int x3), (1, va_rf none), (1, .int v2), (1, .int 0), (0, .null), (0, .null)]) (by decide) rfl ?_
  exact h
theorem dX6_hangMapped_0 : decode cX6_hangMapped 0 = .ok (.aconst_null, 1) := by decide +kernel
theorem dX6_hangMapped_1 : decode cX6_hangMapped 1 = .ok (.astore_n 3, 1) := by decide +kernel
theorem dX6_hangMapped_2 : decode cX6_hangMapped 2 = .ok (.iconst 0, 1) := by decide +kernel
theorem dX6_hangMapped_3 : decode cX6_hangMapped 3 = .ok (.istore 4, 2) := by decide +kernel
theorem dX6_hangMapped_5 : decode cX6_hangMapped 5 = .ok (.iload 4, 2) := by decide +kernel
theorem dX6_hangMapped_7 : decode cX6_hangMapped 7 = .ok (.sipush 256, 3) := by decide +kernel
theorem dX6_hangMapped_10 : decode cX6_hangMapped 10 = .ok (.if_icmp .ge 92, 3) := by decide +kernel
theorem dX6_hangMapped_13 : decode cX6_hangMapped 13 = .ok (.aload_n 0, 1) := by decide +kernel
theorem dX6_hangMapped_14 : decode cX6_hangMapped 14 = .ok (.getfield 21, 3) := by decide +kernel
theorem dX6_hangMapped_17 : decode cX6_hangMapped 17 = .ok (.bipush 24, 2) := by decide +kernel
theorem dX6_hangMapped_19 : decode cX6_hangMapped 19 = .ok (.iload 4, 2) := by decide +kernel
theorem dX6_hangMapped_21 : decode cX6_hangMapped 21 = .ok (.iadd, 1) := by decide +kernel
theorem dX6_hangMapped_22 : decode cX6_hangMapped 22 = .ok (.invokevirtual 141, 3) := by decide +kernel
theorem dX6_hangMapped_25 : decode cX6_hangMapped 25 = .ok (.istore 5, 2) := by decide +kernel
theorem dX6_hangMapped_27 : decode cX6_hangMapped 27 = .ok (.iload 5, 2) := by decide +kernel
theorem dX6_hangMapped_29 : decode cX6_hangMapped 29 = .ok (.ifCond .ne 6, 3) := by decide +kernel
theorem dX6_hangMapped_32 : decode cX6_hangMapped 32 = .ok (.goto 64, 3) := by decide +kernel
theorem dX6_hangMapped_35 : decode cX6_hangMapped 35 = .ok (.aload_n 1, 1) := by decide +kernel
theorem dX6_hangMapped_36 : decode cX6_hangMapped 36 = .ok (.getfield 144, 3) := by decide +kernel
theorem dX6_hangMapped_39 : decode cX6_hangMapped 39 = .ok (.iconst 4, 1) := by decide +kernel
theorem dX6_hangMapped_40 : decode cX6_hangMapped 40 = .ok (.if_icmp .ne 8, 3) := by decide +kernel
theorem dX6_hangMapped_43 : decode cX6_hangMapped 43 = .ok (.iload 5, 2) := by decide +kernel
theorem dX6_hangMapped_45 : decode cX6_hangMapped 45 = .ok (.goto 18, 3) := by decide +kernel
theorem dX6_hangMapped_48 : decode cX6_hangMapped 48 = .ok (.aload_n 0, 1) := by decide +kernel
theorem dX6_hangMapped_49 : decode cX6_hangMapped 49 = .ok (.getfield 21, 3) := by decide +kernel
theorem dX6_hangMapped_52 : decode cX6_hangMapped 52 = .ok (.sipush 280, 3) := by decide +kernel
theorem dX6_hangMapped_55 : decode cX6_hangMapped 55 = .ok (.aload_n 1, 1) := by decide +kernel
theorem dX6_hangMapped_56 : decode cX6_hangMapped 56 = .ok (.getfield 197, 3) := by decide +kernel
theorem dX6_hangMapped_59 : decode cX6_hangMapped 59 = .ok (.iadd, 1) := by decide +kernel
theorem dX6_hangMapped_60 : decode cX6_hangMapped 60 = .ok (.invokevirtual 141, 3) := by decide +kernel
theorem dX6_hangMapped_63 : decode cX6_hangMapped 63 = .ok (.istore 6, 2) := by decide +kernel
theorem dX6_hangMapped_65 : decode cX6_hangMapped 65 = .ok (.aload_n 2, 1) := by decide +kernel
theorem dX6_hangMapped_66 : decode cX6_hangMapped 66 = .ok (.invokevirtual 187, 3) := by decide +kernel
theorem dX6_hangMapped_69 : decode cX6_hangMapped 69 = .ok (.astore 7, 2) := by decide +kernel
theorem dX6_hangMapped_71 : decode cX6_hangMapped 71 = .ok (.aload 7, 2) := by decide +kernel
theorem dX6_hangMapped_73 : decode cX6_hangMapped 73 = .ok (.ifnull 18, 3) := by decide +kernel
theorem dX6_hangMapped_76 : decode cX6_hangMapped 76 = .ok (.aload_n 0, 1) := by decide +kernel
theorem dX6_hangMapped_77 : decode cX6_hangMapped 77 = .ok (.aload_n 3, 1) := by decide +kernel
theorem dX6_hangMapped_78 : decode cX6_hangMapped 78 = .ok (.aload 7, 2) := by decide +kernel
theorem dX6_hangMapped_80 : decode cX6_hangMapped 80 = .ok (.aload_n 1, 1) := by decide +kernel
theorem dX6_hangMapped_81 : decode cX6_hangMapped 81 = .ok (.iload 4, 2) := by decide +kernel
theorem dX6_hangMapped_83 : decode cX6_hangMapped 83 = .ok (.iload 6, 2) := by decide +kernel
theorem dX6_hangMapped_85 : decode cX6_hangMapped 85 = .ok (.invokevirtual 193, 3) := by decide +kernel
theorem dX6_hangMapped_88 : decode cX6_hangMapped 88 = .ok (.ifCond .ne 5, 3) := by decide +kernel
theorem dX6_hangMapped_91 : decode cX6_hangMapped 91 = .ok (.iconst 0, 1) := by decide +kernel
theorem dX6_hangMapped_92 : decode cX6_hangMapped 92 = .ok (.ireturn, 1) := by decide +kernel
theorem dX6_hangMapped_93 : decode cX6_hangMapped 93 = .ok (.aload 7, 2) := by decide +kernel
theorem dX6_hangMapped_95 : decode cX6_hangMapped 95 = .ok (.astore_n 3, 1) := by decide +kernel
theorem dX6_hangMapped_96 : decode cX6_hangMapped 96 = .ok (.iinc 4 1, 3) := by decide +kernel
theorem dX6_hangMapped_99 : decode cX6_hangMapped 99 = .ok (.goto (-94), 3) := by decide +kernel
theorem dX6_hangMapped_102 : decode cX6_hangMapped 102 = .ok (.iconst 1, 1) := by decide +kernel
theorem dX6_hangMapped_103 : decode cX6_hangMapped 103 = .ok (.ireturn, 1) := by decide +kernel
set_option maxRecDepth 100000 in
set_option maxHeartbeats 4000000 in
theorem bX6_hangMapped_63 {l : Launch} {g : xG} (a0 : Nat) (r1 : Option Nat) (r2 : Option Nat) (r3 : Option Nat) (x4 : Int32) (x5 : Int32) (w6 : Value) (w7 : Value) (sx0 : Int32) {M : xM} {Q : Option Value → xM → Prop} (h : (∃ a5, r2 = some a5 ∧ xat M a5 5 ∧ xSp l g mX8_take 0 0 [va_rf r2] M (fun ρ3 M2 => ∃ v1 : Option Nat, ρ3 = some (va_rf v1) ∧ ((v1 = none → (Q (some (.int 0)) M2)) ∧ (¬ v1 = none → (xat M2 a0 3 ∧ xSp l g mX6_hangBehind 0 0 [va_rf (some a0), va_rf r3, va_rf v1, va_rf r1, .int x4, .int sx0] M2 (fun ρ10 M9 => ∃ v8 : Int32, ρ10 = some (.int v8) ∧ ((¬ v8 = 0 → xWp l g mX6_hangMapped 0 0 5 [(1, va_rf (some a0)), (1, va_rf r1), (1, va_rf r2), (1, va_rf v1), (1, .int (x4 + 1)), (1, .int x5), (1, .int sx0), (1, va_rf v1)] [] (0, 0) M9 Q) ∧ (v8 = 0 → (Q (some (.int 0)) M9)))))))))) : xWp l g mX6_hangMapped 0 0 63 [(1, va_rf (some a0)), (1, va_rf r1), (1, va_rf r2), (1, va_rf r3), (1, .int x4), (1, .int x5), (0, w6), (0, w7)] [.int sx0] (0, 0) M Q := by
  refine zistore dX6_hangMapped_63 (L1 := [(1, va_rf (some a0)), (1, va_rf r1), (1, va_rf r2), (1, va_rf r3), (1, .int x4), (1, .int x5), (1, .int sx0), (0, w7)]) (by decide) rfl ?_
  refine xr_aload_n 2 dX6_hangMapped_65 rfl rfl ?_
  obtain ⟨a5, e6, h⟩ := h
  obtain ⟨t7, h⟩ := h
  refine yr_callV (r := r2) [] dX6_hangMapped_66 cv_X6_hangMapped_187 e6 t7 rfl (Nat.le_trans wt_0 (by decide)) (by decide) (xSp.mono h ?_)
  clear h
  intro ρ3 M2 h
  obtain ⟨v1, rfl, h⟩ := h
  refine zastore dX6_hangMapped_69 (L1 := [(1, va_rf (some a0)), (1, va_rf r1), (1, va_rf r2), (1, va_rf r3), (1, .int x4), (1, .int x5), (1, .int sx0), (1, va_rf v1)]) (by decide) rfl ?_
  refine xr_aload dX6_hangMapped_71 rfl ?_
  obtain ⟨ht, hf⟩ := h
  refine xr_ifnull 91 dX6_hangMapped_73 (by decide) (fun c14 => ?_) (fun c14 => ?_)
  · replace h := ht c14
    clear ht hf
    refine xr_iconst 0 dX6_hangMapped_91 (by decide) ?_
    exact xr_retv (by decide) (xRi rfl rfl dX6_hangMapped_92) h
  · replace h := hf c14
    clear ht hf
    refine xr_aload_n 0 dX6_hangMapped_76 rfl rfl ?_
    refine xr_aload_n 3 dX6_hangMapped_77 rfl rfl ?_
    refine xr_aload dX6_hangMapped_78 rfl ?_
    refine xr_aload_n 1 dX6_hangMapped_80 rfl rfl ?_
    refine xr_iload dX6_hangMapped_81 rfl ?_
    refine xr_iload dX6_hangMapped_83 rfl ?_
    obtain ⟨t12, h⟩ := h
    refine yr_callV (r := (some a0)) [va_rf r3, va_rf v1, va_rf r1, .int x4, .int sx0] dX6_hangMapped_85 cv_X6_hangMapped_193 rfl t12 rfl (Nat.le_trans wt_0 (by decide)) (by decide) (xSp.mono h ?_)
    clear h
    intro ρ10 M9 h
    obtain ⟨v8, rfl, h⟩ := h
    obtain ⟨ht, hf⟩ := h
    refine xr_if_ne 93 dX6_hangMapped_88 (by decide) (fun c13 => ?_) (fun c13 => ?_)
    · replace h := ht c13
      clear ht hf
      refine xr_aload dX6_hangMapped_93 rfl ?_
      refine zastore_n 3 dX6_hangMapped_95 rfl (L1 := [(1, va_rf (some a0)), (1, va_rf r1), (1, va_rf r2), (1, va_rf v1), (1, .int x4), (1, .int x5), (1, .int sx0), (1, va_rf v1)]) (by decide) rfl ?_
      refine ziinc (x4 + 1) dX6_hangMapped_96 rfl rfl (L1 := [(1, va_rf (some a0)), (1, va_rf r1), (1, va_rf r2), (1, va_rf v1), (1, .int (x4 + 1)), (1, .int x5), (1, .int sx0), (1, va_rf v1)]) (by decide) rfl ?_
      refine xr_goto 5 dX6_hangMapped_99 (by decide) ?_
      exact h
    · replace h := hf c13
      clear ht hf
      refine xr_iconst 0 dX6_hangMapped_91 (by decide) ?_
      exact xr_retv (by decide) (xRi rfl rfl dX6_hangMapped_92) h
set_option maxRecDepth 100000 in
set_option maxHeartbeats 4000000 in
theorem bX6_hangMapped_5 {l : Launch} {g : xG} (a0 : Nat) (r1 : Option Nat) (r2 : Option Nat) (r3 : Option Nat) (x4 : Int32) (w5 : Value) (w6 : Value) (w7 : Value) {M : xM} {Q : Option Value → xM → Prop} (h : ((256 ≤ x4 → (Q (some (.int 1)) M)) ∧ (¬ 256 ≤ x4 → (xat M a0 3 ∧ (∃ a6, (xR M a0 1) = some a6 ∧ xat M a6 2 ∧ xSp l g mX5_at 0 0 [va_rf (xR M a0 1), .int (24 + x4)] M (fun ρ4 M3 => ∃ v2 : Int32, ρ4 = some (.int v2) ∧ ((¬ v2 = 0 → (∃ a9, r1 = some a9 ∧ xat M3 a9 1 ∧ ((¬ (xI M3 a9 2) = 4 → (xat M3 a0 3 ∧ (∃ a17, (xR M3 a0 1) = some a17 ∧ xat M3 a17 2 ∧ xSp l g mX5_at 0 0 [va_rf (xR M3 a0 1), .int (280 + (xI M3 a9 5))] M3 (fun ρ15 M14 => ∃ v13 : Int32, ρ15 = some (.int v13) ∧ xWp l g mX6_hangMapped 0 0 63 [(1, va_rf (some a0)), (1, va_rf r1), (1, va_rf r2), (1, va_rf r3), (1, .int x4), (1, .int v2), (0, w6), (0, w7)] [.int v13] (0, 0) M14 Q)))) ∧ ((xI M3 a9 2) = 4 → xWp l g mX6_hangMapped 0 0 63 [(1, va_rf (some a0)), (1, va_rf r1), (1, va_rf r2), (1, va_rf r3), (1, .int x4), (1, .int v2), (0, w6), (0, w7)] [.int v2] (0, 0) M3 Q)))) ∧ (v2 = 0 → xWp l g mX6_hangMapped 0 0 5 [(1, va_rf (some a0)), (1, va_rf r1), (1, va_rf r2), (1, va_rf r3), (1, .int (x4 + 1)), (1, .int v2), (0, w6), (0, w7)] [] (0, 0) M3 Q)))))))) : xWp l g mX6_hangMapped 0 0 5 [(1, va_rf (some a0)), (1, va_rf r1), (1, va_rf r2), (1, va_rf r3), (1, .int x4), (0, w5), (0, w6), (0, w7)] [] (0, 0) M Q := by
  refine xr_iload dX6_hangMapped_5 rfl ?_
  refine xr_sipush 256 dX6_hangMapped_7 (by decide) ?_
  obtain ⟨ht, hf⟩ := h
  refine xr_icmp_ge 102 dX6_hangMapped_10 (by decide) (fun c22 => ?_) (fun c22 => ?_)
  · replace h := ht c22
    clear ht hf
    refine xr_iconst 1 dX6_hangMapped_102 (by decide) ?_
    exact xr_retv (by decide) (xRi rfl rfl dX6_hangMapped_103) h
  · replace h := hf c22
    clear ht hf
    refine xr_aload_n 0 dX6_hangMapped_13 rfl rfl ?_
    obtain ⟨t1, h⟩ := h
    refine yr_getR dX6_hangMapped_14 fl_RX6_21 rfl t1 ?_
    refine xr_bipush 24 dX6_hangMapped_17 (by decide) ?_
    refine xr_iload dX6_hangMapped_19 rfl ?_
    refine xr_iadd dX6_hangMapped_21 ?_
    obtain ⟨a6, e7, h⟩ := h
    obtain ⟨t8, h⟩ := h
    refine yr_callV (r := (xR M a0 1)) [.int (24 + x4)] dX6_hangMapped_22 cv_X6_hangMapped_141 e7 t8 rfl (Nat.le_trans wt_0 (by decide)) (by decide) (xSp.mono h ?_)
    clear h
    intro ρ4 M3 h
    obtain ⟨v2, rfl, h⟩ := h
    refine zistore dX6_hangMapped_25 (L1 := [(1, va_rf (some a0)), (1, va_rf r1), (1, va_rf r2), (1, va_rf r3), (1, .int x4), (1, .int v2), (0, w6), (0, w7)]) (by decide) rfl ?_
    refine xr_iload dX6_hangMapped_27 rfl ?_
    obtain ⟨ht, hf⟩ := h
    refine xr_if_ne 35 dX6_hangMapped_29 (by decide) (fun c21 => ?_) (fun c21 => ?_)
    · replace h := ht c21
      clear ht hf
      refine xr_aload_n 1 dX6_hangMapped_35 rfl rfl ?_
      obtain ⟨a9, e10, h⟩ := h
      obtain ⟨t11, h⟩ := h
      refine yr_getI dX6_hangMapped_36 fl_RX6_144 e10 t11 ?_
      refine xr_iconst 4 dX6_hangMapped_39 (by decide) ?_
      obtain ⟨ht, hf⟩ := h
      refine xr_icmp_ne 48 dX6_hangMapped_40 (by decide) (fun c20 => ?_) (fun c20 => ?_)
      · replace h := ht c20
        clear ht hf
        refine xr_aload_n 0 dX6_hangMapped_48 rfl rfl ?_
        obtain ⟨t12, h⟩ := h
        refine yr_getR dX6_hangMapped_49 fl_RX6_21 rfl t12 ?_
        refine xr_sipush 280 dX6_hangMapped_52 (by decide) ?_
        refine xr_aload_n 1 dX6_hangMapped_55 rfl rfl ?_
        refine yr_getI dX6_hangMapped_56 fl_RX6_197 e10 t11 ?_
        refine xr_iadd dX6_hangMapped_59 ?_
        obtain ⟨a17, e18, h⟩ := h
        obtain ⟨t19, h⟩ := h
        refine yr_callV (r := (xR M3 a0 1)) [.int (280 + (xI M3 a9 5))] dX6_hangMapped_60 cv_X6_hangMapped_141 e18 t19 rfl (Nat.le_trans wt_0 (by decide)) (by decide) (xSp.mono h ?_)
        clear h
        intro ρ15 M14 h
        obtain ⟨v13, rfl, h⟩ := h
        exact h
      · replace h := hf c20
        clear ht hf
        refine xr_iload dX6_hangMapped_43 rfl ?_
        refine xr_goto 63 dX6_hangMapped_45 (by decide) ?_
        exact h
    · replace h := hf c21
      clear ht hf
      refine xr_goto 96 dX6_hangMapped_32 (by decide) ?_
      refine ziinc (x4 + 1) dX6_hangMapped_96 rfl rfl (L1 := [(1, va_rf (some a0)), (1, va_rf r1), (1, va_rf r2), (1, va_rf r3), (1, .int (x4 + 1)), (1, .int v2), (0, w6), (0, w7)]) (by decide) rfl ?_
      refine xr_goto 5 dX6_hangMapped_99 (by decide) ?_
      exact h
set_option maxRecDepth 100000 in
set_option maxHeartbeats 4000000 in
theorem bX6_hangMapped_0 {l : Launch} {g : xG} (a0 : Nat) (r1 : Option Nat) (r2 : Option Nat) {M : xM} {Q : Option Value → xM → Prop} (h : xWp l g mX6_hangMapped 0 0 5 [(1, va_rf (some a0)), (1, va_rf r1), (1, va_rf r2), (1, va_rf none), (1, .int 0), (0, .null), (0, .null), (0, .null)] [] (0, 0) M Q) : xWp l g mX6_hangMapped 0 0 0 [(1, va_rf (some a0)), (1, va_rf r1), (1, va_rf r2), (0, .null), (0, .null), (0, .null), (0, .null), (0, .null)] [] (0, 0) M Q := by
  refine xr_null dX6_hangMapped_0 ?_
  refine zastore_n 3 dX6_hangMapped_1 rfl (L1 := [(1, va_rf (some a0)), (1, va_rf r1), (1, va_rf r2), (1, va_rf none), (0, .null), (0, .null), (0, .null), (0, .null)]) (by decide) rfl ?_
  refine xr_iconst 0 dX6_hangMapped_2 (by decide) ?_
  refine zistore dX6_hangMapped_3 (L1 := [(1, va_rf (some a0)), (1, va_rf r1), (1, va_rf r2), (1, va_rf none), (1, .int 0), (0, .null), (0, .null), (0, .null)]) (by decide) rfl ?_
  exact h
theorem dX6_hangBehind_0 : decode cX6_hangBehind 0 = .ok (.aload_n 2, 1) := by decide +kernel
theorem dX6_hangBehind_1 : decode cX6_hangBehind 1 = .ok (.iload 4, 2) := by decide +kernel
theorem dX6_hangBehind_3 : decode cX6_hangBehind 3 = .ok (.putfield 190, 3) := by decide +kernel
theorem dX6_hangBehind_6 : decode cX6_hangBehind 6 = .ok (.aload_n 2, 1) := by decide +kernel
theorem dX6_hangBehind_7 : decode cX6_hangBehind 7 = .ok (.iload 5, 2) := by decide +kernel
theorem dX6_hangBehind_9 : decode cX6_hangBehind 9 = .ok (.putfield 59, 3) := by decide +kernel
theorem dX6_hangBehind_12 : decode cX6_hangBehind 12 = .ok (.aload_n 2, 1) := by decide +kernel
theorem dX6_hangBehind_13 : decode cX6_hangBehind 13 = .ok (.aload_n 3, 1) := by decide +kernel
theorem dX6_hangBehind_14 : decode cX6_hangBehind 14 = .ok (.putfield 200, 3) := by decide +kernel
theorem dX6_hangBehind_17 : decode cX6_hangBehind 17 = .ok (.aload_n 3, 1) := by decide +kernel
theorem dX6_hangBehind_18 : decode cX6_hangBehind 18 = .ok (.aload_n 1, 1) := by decide +kernel
theorem dX6_hangBehind_19 : decode cX6_hangBehind 19 = .ok (.aload_n 2, 1) := by decide +kernel
theorem dX6_hangBehind_20 : decode cX6_hangBehind 20 = .ok (.invokevirtual 203, 3) := by decide +kernel
theorem dX6_hangBehind_23 : decode cX6_hangBehind 23 = .ok (.aload_n 3, 1) := by decide +kernel
theorem dX6_hangBehind_24 : decode cX6_hangBehind 24 = .ok (.dup, 1) := by decide +kernel
theorem dX6_hangBehind_25 : decode cX6_hangBehind 25 = .ok (.getfield 197, 3) := by decide +kernel
theorem dX6_hangBehind_28 : decode cX6_hangBehind 28 = .ok (.iconst 1, 1) := by decide +kernel
theorem dX6_hangBehind_29 : decode cX6_hangBehind 29 = .ok (.iadd, 1) := by decide +kernel
theorem dX6_hangBehind_30 : decode cX6_hangBehind 30 = .ok (.putfield 197, 3) := by decide +kernel
theorem dX6_hangBehind_33 : decode cX6_hangBehind 33 = .ok (.aload_n 0, 1) := by decide +kernel
theorem dX6_hangBehind_34 : decode cX6_hangBehind 34 = .ok (.iload 5, 2) := by decide +kernel
theorem dX6_hangBehind_36 : decode cX6_hangBehind 36 = .ok (.invokevirtual 88, 3) := by decide +kernel
theorem dX6_hangBehind_39 : decode cX6_hangBehind 39 = .ok (.ireturn, 1) := by decide +kernel
set_option maxRecDepth 100000 in
set_option maxHeartbeats 4000000 in
theorem bX6_hangBehind_0 {l : Launch} {g : xG} (a0 : Nat) (r1 : Option Nat) (r2 : Option Nat) (r3 : Option Nat) (x4 : Int32) (x5 : Int32) {M : xM} {Q : Option Value → xM → Prop} (h : (∃ a1, r2 = some a1 ∧ xat M a1 1 ∧ (∃ a8, r3 = some a8 ∧ xat (xsR (xsI (xsI M a1 6 x4) a1 7 x5) a1 9 r3) a8 1 ∧ xSp l g mX3_setNextOf 0 0 [va_rf r3, va_rf r1, va_rf r2] (xsR (xsI (xsI M a1 6 x4) a1 7 x5) a1 9 r3) (fun ρ6 M5 => ρ6 = none ∧ (xat M5 a8 1 ∧ (xat (xsI M5 a8 5 ((xI M5 a8 5) + 1)) a0 3 ∧ xSp l g mX6_takePage 0 0 [va_rf (some a0), .int x5] (xsI M5 a8 5 ((xI M5 a8 5) + 1)) (fun ρ14 M13 => ∃ v12 : Int32, ρ14 = some (.int v12) ∧ ((v12 = 0 ∨ v12 = 1) ∧ Q (some (.int v12)) M13)))))))) : xWp l g mX6_hangBehind 0 0 0 [(1, va_rf (some a0)), (1, va_rf r1), (1, va_rf r2), (1, va_rf r3), (1, .int x4), (1, .int x5)] [] (0, 0) M Q := by
  refine xr_aload_n 2 dX6_hangBehind_0 rfl rfl ?_
  refine xr_iload dX6_hangBehind_1 rfl ?_
  obtain ⟨a1, e2, h⟩ := h
  obtain ⟨t3, h⟩ := h
  refine yr_putI dX6_hangBehind_3 fp_RX6_190 e2 t3 ?_
  refine xr_aload_n 2 dX6_hangBehind_6 rfl rfl ?_
  refine xr_iload dX6_hangBehind_7 rfl ?_
  refine yr_putI dX6_hangBehind_9 fp_RX6_59 e2 t3 ?_
  refine xr_aload_n 2 dX6_hangBehind_12 rfl rfl ?_
  refine xr_aload_n 3 dX6_hangBehind_13 rfl rfl ?_
  refine yr_putR dX6_hangBehind_14 fp_RX6_200 e2 t3 ?_
  refine xr_aload_n 3 dX6_hangBehind_17 rfl rfl ?_
  refine xr_aload_n 1 dX6_hangBehind_18 rfl rfl ?_
  refine xr_aload_n 2 dX6_hangBehind_19 rfl rfl ?_
  obtain ⟨a8, e9, h⟩ := h
  obtain ⟨t10, h⟩ := h
  refine yr_callVN (r := r3) [va_rf r1, va_rf r2] dX6_hangBehind_20 cv_X6_hangBehind_203 e9 t10 rfl (Nat.le_trans wt_0 (by decide)) (by decide) (xSp.mono h ?_)
  clear h
  intro ρ6 M5 h
  obtain ⟨rfl, h⟩ := h
  refine xr_aload_n 3 dX6_hangBehind_23 rfl rfl ?_
  refine xr_dup dX6_hangBehind_24 (va_rf_cat _) ?_
  obtain ⟨t11, h⟩ := h
  refine yr_getI dX6_hangBehind_25 fl_RX6_197 e9 t11 ?_
  refine xr_iconst 1 dX6_hangBehind_28 (by decide) ?_
  refine xr_iadd dX6_hangBehind_29 ?_
  refine yr_putI dX6_hangBehind_30 fp_RX6_197 e9 t11 ?_
  refine xr_aload_n 0 dX6_hangBehind_33 rfl rfl ?_
  refine xr_iload dX6_hangBehind_34 rfl ?_
  obtain ⟨t16, h⟩ := h
  refine yr_callV (r := (some a0)) [.int x5] dX6_hangBehind_36 cv_X6_hangBehind_88 rfl t16 rfl (Nat.le_trans wt_0 (by decide)) (by decide) (xSp.mono h ?_)
  clear h
  intro ρ14 M13 h
  obtain ⟨v12, rfl, h⟩ := h
  obtain ⟨z17, h⟩ := h
  exact xr_retv (by decide) (xRi rfl (nar_z z17) dX6_hangBehind_39) h
