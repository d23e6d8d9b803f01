/-! Decode rows and blocks: 16.bTree -/
theorem dX8_init_0 : decode cX8_init 0 = .ok (.aload_n 0, 1) := by decide +kernel
theorem dX8_init_1 : decode cX8_init 1 = .ok (.invokespecial 3, 3) := by decide +kernel
theorem dX8_init_4 : decode cX8_init 4 = .ok (.aload_n 0, 1) := by decide +kernel
theorem dX8_init_5 : decode cX8_init 5 = .ok (.sipush 200, 3) := by decide +kernel
theorem dX8_init_8 : decode cX8_init 8 = .ok (.anewarray 9, 3) := by decide +kernel
theorem dX8_init_11 : decode cX8_init 11 = .ok (.putfield 11, 3) := by decide +kernel
theorem dX8_init_14 : decode cX8_init 14 = .ok (.iconst 0, 1) := by decide +kernel
theorem dX8_init_15 : decode cX8_init 15 = .ok (.istore_n 1, 1) := by decide +kernel
theorem dX8_init_16 : decode cX8_init 16 = .ok (.iload_n 1, 1) := by decide +kernel
theorem dX8_init_17 : decode cX8_init 17 = .ok (.aload_n 0, 1) := by decide +kernel
theorem dX8_init_18 : decode cX8_init 18 = .ok (.getfield 11, 3) := by decide +kernel
theorem dX8_init_21 : decode cX8_init 21 = .ok (.arraylength, 1) := by decide +kernel
theorem dX8_init_22 : decode cX8_init 22 = .ok (.if_icmp .ge 22, 3) := by decide +kernel
theorem dX8_init_25 : decode cX8_init 25 = .ok (.aload_n 0, 1) := by decide +kernel
theorem dX8_init_26 : decode cX8_init 26 = .ok (.getfield 11, 3) := by decide +kernel
theorem dX8_init_29 : decode cX8_init 29 = .ok (.iload_n 1, 1) := by decide +kernel
theorem dX8_init_30 : decode cX8_init 30 = .ok (.new 9, 3) := by decide +kernel
theorem dX8_init_33 : decode cX8_init 33 = .ok (.dup, 1) := by decide +kernel
theorem dX8_init_34 : decode cX8_init 34 = .ok (.invokespecial 17, 3) := by decide +kernel
theorem dX8_init_37 : decode cX8_init 37 = .ok (.aastore, 1) := by decide +kernel
theorem dX8_init_38 : decode cX8_init 38 = .ok (.iinc 1 1, 3) := by decide +kernel
theorem dX8_init_41 : decode cX8_init 41 = .ok (.goto (-25), 3) := by decide +kernel
theorem dX8_init_44 : decode cX8_init 44 = .ok (.aload_n 0, 1) := by decide +kernel
theorem dX8_init_45 : decode cX8_init 45 = .ok (.aload_n 0, 1) := by decide +kernel
theorem dX8_init_46 : decode cX8_init 46 = .ok (.getfield 11, 3) := by decide +kernel
theorem dX8_init_49 : decode cX8_init 49 = .ok (.iconst 0, 1) := by decide +kernel
theorem dX8_init_50 : decode cX8_init 50 = .ok (.aaload, 1) := by decide +kernel
theorem dX8_init_51 : decode cX8_init 51 = .ok (.putfield 18, 3) := by decide +kernel
theorem dX8_init_54 : decode cX8_init 54 = .ok (.aload_n 0, 1) := by decide +kernel
theorem dX8_init_55 : decode cX8_init 55 = .ok (.invokevirtual 22, 3) := by decide +kernel
theorem dX8_init_58 : decode cX8_init 58 = .ok (.return_, 1) := by decide +kernel
set_option maxRecDepth 100000 in
set_option maxHeartbeats 4000000 in
theorem bX8_init_16 {l : Launch} {g : xG} {mc ms : Nat} {c1 c2 : Nat} (a0 : Nat) (x1 : Int32) {M : xM} {Q : Option Value → xM → Prop} (h : (xat M a0 5 ∧ (∃ a2, (xR M a0 0) = some a2 ∧ xat M a2 12 ∧ (((nI (xN M a2)) ≤ x1 → (∃ i5, xai M a2 12 (0 : Int32) i5 ∧ ((c1 ≤ mc ∧ c2 ≤ ms) ∧ xSp l g mX8_clear 0 0 [va_rf (some a0)] (xsR M a0 2 (xR M a2 i5)) (fun ρ9 M8 => ρ9 = none ∧ ((c1 ≤ mc ∧ c2 ≤ ms) ∧ Q none M8))))) ∧ (¬ (nI (xN M a2)) ≤ x1 → ((c1 + 1 ≤ mc ∧ c2 + 13 ≤ ms) ∧ ∀ q13, q13 ∉ xL M → (∃ mc20 ms21, ((c1 + 1) + mc20 ≤ mc ∧ (c2 + 13) + ms21 ≤ ms) ∧ xSp l g mX3_init mc20 ms21 [va_rf (some q13)] (xnew M q13 1 0) (fun ρ18 M17 => ρ18 = none ∧ (∃ a22, (xR M a0 0) = some a22 ∧ ∃ i24, xai M17 a22 12 x1 i24 ∧ xat M17 q13 1 ∧ xWp l g mX8_init mc ms 16 [(1, va_rf (some a0)), (1, .int (x1 + 1))] [] (((c1 + 1) + mc20), ((c2 + 13) + ms21)) (xsR M17 a22 i24 (some q13)) Q))))))))) : xWp l g mX8_init mc ms 16 [(1, va_rf (some a0)), (1, .int x1)] [] (c1, c2) M Q := by
  refine xr_iload_n 1 dX8_init_16 rfl rfl ?_
  refine xr_aload_n 0 dX8_init_17 rfl rfl ?_
  obtain ⟨t1, h⟩ := h
  refine yr_getR dX8_init_18 fl_RX8_11 rfl t1 ?_
  obtain ⟨a2, e3, h⟩ := h
  obtain ⟨t4, h⟩ := h
  refine yr_alen12 dX8_init_21 e3 t4 ?_
  obtain ⟨ht, hf⟩ := h
  refine xr_icmp_ge 44 dX8_init_22 (by decide) (fun c28 => ?_) (fun c28 => ?_)
  · replace h := ht c28
    clear ht hf
    refine xr_aload_n 0 dX8_init_44 rfl rfl ?_
    refine xr_aload_n 0 dX8_init_45 rfl rfl ?_
    refine yr_getR dX8_init_46 fl_RX8_11 rfl t1 ?_
    refine xr_iconst 0 dX8_init_49 (by decide) ?_
    obtain ⟨i5, t6, h⟩ := h
    refine yr_aald dX8_init_50 e3 t6 ?_
    refine yr_putR dX8_init_51 fp_RX8_18 rfl t1 ?_
    refine xr_aload_n 0 dX8_init_54 rfl rfl ?_
    obtain ⟨hm12, h⟩ := h
    refine yr_callV (r := (some a0)) [] dX8_init_55 cv_X8_init_22 rfl t1 rfl (Nat.le_trans wt_0 (by decide)) hm12 (xSp.mono h ?_)
    clear h
    intro ρ9 M8 h
    obtain ⟨rfl, h⟩ := h
    obtain ⟨hm11, h⟩ := h
    exact xr_ret hm11 (xRv rfl dX8_init_58) h
  · replace h := hf c28
    clear ht hf
    refine xr_aload_n 0 dX8_init_25 rfl rfl ?_
    refine yr_getR dX8_init_26 fl_RX8_11 rfl t1 ?_
    refine xr_iload_n 1 dX8_init_29 rfl rfl ?_
    obtain ⟨hm15, h⟩ := h
    refine xr_new dX8_init_30 cn_RX8_9 hm15 (fun q13 hq14 => ?_)
    replace h := h q13 hq14
    refine xr_dup dX8_init_33 (va_rf_cat _) ?_
    obtain ⟨mc20, ms21, hm27, h⟩ := h
    refine xr_callI (a := q13) [] dX8_init_34 ci_X8_init_17 rfl (Nat.le_trans (wt_r (wt_i (wt_r wt_0))) (by decide)) hm27 (xSp.mono h ?_)
    clear h
    intro ρ18 M17 h
    obtain ⟨rfl, h⟩ := h
    obtain ⟨a22, e23, h⟩ := h
    obtain ⟨i24, t25, h⟩ := h
    obtain ⟨t26, h⟩ := h
    refine yr_aast dX8_init_37 e23 t25 rfl t26 ?_
    refine ziinc (x1 + 1) dX8_init_38 rfl rfl (L1 := [(1, va_rf (some a0)), (1, .int (x1 + 1))]) (by decide) rfl ?_
    refine xr_goto 16 dX8_init_41 (by decide) ?_
    exact h
set_option maxRecDepth 100000 in
set_option maxHeartbeats 4000000 in
theorem bX8_init_0 {l : Launch} {g : xG} {mc ms : Nat} (a0 : Nat) {M : xM} {Q : Option Value → xM → Prop} (h : ((0 + 1 ≤ mc ∧ 0 + 200 ≤ ms) ∧ ∀ q4, q4 ∉ xL M → (xat (xnew M q4 12 200) a0 5 ∧ xWp l g mX8_init mc ms 16 [(1, va_rf (some a0)), (1, .int 0)] [] ((0 + 1), (0 + 200)) (xsR (xnew M q4 12 200) a0 0 (some q4)) Q))) : xWp l g mX8_init mc ms 0 [(1, va_rf (some a0)), (0, .null)] [] (0, 0) M Q := by
  refine xr_aload_n 0 dX8_init_0 rfl rfl ?_
  refine xr_obj dX8_init_1 ml_RX8_3 obj_inst obj_code (by decide) (by decide) ?_
  refine xr_aload_n 0 dX8_init_4 rfl rfl ?_
  refine xr_sipush 200 dX8_init_5 (by decide) ?_
  obtain ⟨hm6, h⟩ := h
  refine xr_newq (n := 200) dX8_init_8 cl_RX8_9 (by decide) (by decide) hm6 (fun q4 hq5 => ?_)
  replace h := h q4 hq5
  obtain ⟨t7, h⟩ := h
  refine yr_putRF dX8_init_11 rfl fp_RX8_11 (Or.inr ⟨_, rfl⟩) rfl t7 ?_
  refine xr_iconst 0 dX8_init_14 (by decide) ?_
  refine zistore_n 1 dX8_init_15 rfl (L1 := [(1, va_rf (some a0)), (1, .int 0)]) (by decide) rfl ?_
  exact h
theorem dX8_clear_0 : decode cX8_clear 0 = .ok (.aload_n 0, 1) := by decide +kernel
theorem dX8_clear_1 : decode cX8_clear 1 = .ok (.aconst_null, 1) := by decide +kernel
theorem dX8_clear_2 : decode cX8_clear 2 = .ok (.putfield 25, 3) := by decide +kernel
theorem dX8_clear_5 : decode cX8_clear 5 = .ok (.aload_n 0, 1) := by decide +kernel
theorem dX8_clear_6 : decode cX8_clear 6 = .ok (.getfield 11, 3) := by decide +kernel
theorem dX8_clear_9 : decode cX8_clear 9 = .ok (.astore_n 1, 1) := by decide +kernel
theorem dX8_clear_10 : decode cX8_clear 10 = .ok (.aload_n 1, 1) := by decide +kernel
theorem dX8_clear_11 : decode cX8_clear 11 = .ok (.arraylength, 1) := by decide +kernel
theorem dX8_clear_12 : decode cX8_clear 12 = .ok (.istore_n 2, 1) := by decide +kernel
theorem dX8_clear_13 : decode cX8_clear 13 = .ok (.iconst 0, 1) := by decide +kernel
theorem dX8_clear_14 : decode cX8_clear 14 = .ok (.istore_n 3, 1) := by decide +kernel
theorem dX8_clear_15 : decode cX8_clear 15 = .ok (.iload_n 3, 1) := by decide +kernel
theorem dX8_clear_16 : decode cX8_clear 16 = .ok (.iload_n 2, 1) := by decide +kernel
theorem dX8_clear_17 : decode cX8_clear 17 = .ok (.if_icmp .ge 38, 3) := by decide +kernel
theorem dX8_clear_20 : decode cX8_clear 20 = .ok (.aload_n 1, 1) := by decide +kernel
theorem dX8_clear_21 : decode cX8_clear 21 = .ok (.iload_n 3, 1) := by decide +kernel
theorem dX8_clear_22 : decode cX8_clear 22 = .ok (.aaload, 1) := by decide +kernel
theorem dX8_clear_23 : decode cX8_clear 23 = .ok (.astore 4, 2) := by decide +kernel
theorem dX8_clear_25 : decode cX8_clear 25 = .ok (.aload 4, 2) := by decide +kernel
theorem dX8_clear_27 : decode cX8_clear 27 = .ok (.aload_n 0, 1) := by decide +kernel
theorem dX8_clear_28 : decode cX8_clear 28 = .ok (.getfield 18, 3) := by decide +kernel
theorem dX8_clear_31 : decode cX8_clear 31 = .ok (.if_acmp .eq 18, 3) := by decide +kernel
theorem dX8_clear_34 : decode cX8_clear 34 = .ok (.aload 4, 2) := by decide +kernel
theorem dX8_clear_36 : decode cX8_clear 36 = .ok (.aload_n 0, 1) := by decide +kernel
theorem dX8_clear_37 : decode cX8_clear 37 = .ok (.getfield 25, 3) := by decide +kernel
theorem dX8_clear_40 : decode cX8_clear 40 = .ok (.putfield 28, 3) := by decide +kernel
theorem dX8_clear_43 : decode cX8_clear 43 = .ok (.aload_n 0, 1) := by decide +kernel
theorem dX8_clear_44 : decode cX8_clear 44 = .ok (.aload 4, 2) := by decide +kernel
theorem dX8_clear_46 : decode cX8_clear 46 = .ok (.putfield 25, 3) := by decide +kernel
theorem dX8_clear_49 : decode cX8_clear 49 = .ok (.iinc 3 1, 3) := by decide +kernel
theorem dX8_clear_52 : decode cX8_clear 52 = .ok (.goto (-37), 3) := by decide +kernel
theorem dX8_clear_55 : decode cX8_clear 55 = .ok (.aload_n 0, 1) := by decide +kernel
theorem dX8_clear_56 : decode cX8_clear 56 = .ok (.getfield 18, 3) := by decide +kernel
theorem dX8_clear_59 : decode cX8_clear 59 = .ok (.invokevirtual 31, 3) := by decide +kernel
theorem dX8_clear_62 : decode cX8_clear 62 = .ok (.aload_n 0, 1) := by decide +kernel
theorem dX8_clear_63 : decode cX8_clear 63 = .ok (.aload_n 0, 1) := by decide +kernel
theorem dX8_clear_64 : decode cX8_clear 64 = .ok (.getfield 18, 3) := by decide +kernel
theorem dX8_clear_67 : decode cX8_clear 67 = .ok (.putfield 34, 3) := by decide +kernel
theorem dX8_clear_70 : decode cX8_clear 70 = .ok (.aload_n 0, 1) := by decide +kernel
theorem dX8_clear_71 : decode cX8_clear 71 = .ok (.iconst 1, 1) := by decide +kernel
theorem dX8_clear_72 : decode cX8_clear 72 = .ok (.putfield 37, 3) := by decide +kernel
theorem dX8_clear_75 : decode cX8_clear 75 = .ok (.aload_n 0, 1) := by decide +kernel
theorem dX8_clear_76 : decode cX8_clear 76 = .ok (.iconst 0, 1) := by decide +kernel
theorem dX8_clear_77 : decode cX8_clear 77 = .ok (.putfield 41, 3) := by decide +kernel
theorem dX8_clear_80 : decode cX8_clear 80 = .ok (.return_, 1) := by decide +kernel
set_option maxRecDepth 100000 in
set_option maxHeartbeats 4000000 in
theorem bX8_clear_15 {l : Launch} {g : xG} (a0 : Nat) (r1 : Option Nat) (x2 : Int32) (x3 : Int32) (w4 : Value) {M : xM} {Q : Option Value → xM → Prop} (h : ((x2 ≤ x3 → (xat M a0 5 ∧ (∃ a6, (xR M a0 2) = some a6 ∧ xat M a6 1 ∧ xSp l g mX3_reset 0 0 [va_rf (xR M a0 2)] M (fun ρ4 M3 => ρ4 = none ∧ (xat M3 a0 5 ∧ (Q none (xsI (xsI (xsR M3 a0 5 (xR M3 a0 2)) a0 3 1) a0 4 0))))))) ∧ (¬ x2 ≤ x3 → (∃ a10, r1 = some a10 ∧ ∃ i12, xai M a10 12 x3 i12 ∧ (xat M a0 5 ∧ (((xR M a10 i12) = (xR M a0 2) → xWp l g mX8_clear 0 0 15 [(1, va_rf (some a0)), (1, va_rf r1), (1, .int x2), (1, .int (x3 + 1)), (1, va_rf (xR M a10 i12))] [] (0, 0) M Q) ∧ (¬ (xR M a10 i12) = (xR M a0 2) → (∃ a15, (xR M a10 i12) = some a15 ∧ xat M a15 1 ∧ xWp l g mX8_clear 0 0 15 [(1, va_rf (some a0)), (1, va_rf r1), (1, .int x2), (1, .int (x3 + 1)), (1, va_rf (xR M a10 i12))] [] (0, 0) (xsR (xsR M a15 11 (xR M a0 1)) a0 1 (xR M a10 i12)) Q)))))))) : xWp l g mX8_clear 0 0 15 [(1, va_rf (some a0)), (1, va_rf r1), (1, .int x2), (1, .int x3), (0, w4)] [] (0, 0) M Q := by
  refine xr_iload_n 3 dX8_clear_15 rfl rfl ?_
  refine xr_iload_n 2 dX8_clear_16 rfl rfl ?_
  obtain ⟨ht, hf⟩ := h
  refine xr_icmp_ge 55 dX8_clear_17 (by decide) (fun c19 => ?_) (fun c19 => ?_)
  · replace h := ht c19
    clear ht hf
    refine xr_aload_n 0 dX8_clear_55 rfl rfl ?_
    obtain ⟨t1, h⟩ := h
    refine yr_getR dX8_clear_56 fl_RX8_18 rfl t1 ?_
    obtain ⟨a6, e7, h⟩ := h
    obtain ⟨t8, h⟩ := h
    refine yr_callVN (r := (xR M a0 2)) [] dX8_clear_59 cv_X8_clear_31 e7 t8 rfl (Nat.le_trans wt_0 (by decide)) (by decide) (xSp.mono h ?_)
    clear h
    intro ρ4 M3 h
    obtain ⟨rfl, h⟩ := h
    refine xr_aload_n 0 dX8_clear_62 rfl rfl ?_
    refine xr_aload_n 0 dX8_clear_63 rfl rfl ?_
    obtain ⟨t9, h⟩ := h
    refine yr_getR dX8_clear_64 fl_RX8_18 rfl t9 ?_
    refine yr_putR dX8_clear_67 fp_RX8_34 rfl t9 ?_
    refine xr_aload_n 0 dX8_clear_70 rfl rfl ?_
    refine xr_iconst 1 dX8_clear_71 (by decide) ?_
    refine yr_putI dX8_clear_72 fp_RX8_37 rfl t9 ?_
    refine xr_aload_n 0 dX8_clear_75 rfl rfl ?_
    refine xr_iconst 0 dX8_clear_76 (by decide) ?_
    refine yr_putI dX8_clear_77 fp_RX8_41 rfl t9 ?_
    exact xr_ret (by decide) (xRv rfl dX8_clear_80) h
  · replace h := hf c19
    clear ht hf
    refine xr_aload_n 1 dX8_clear_20 rfl rfl ?_
    refine xr_iload_n 3 dX8_clear_21 rfl rfl ?_
    obtain ⟨a10, e11, h⟩ := h
    obtain ⟨i12, t13, h⟩ := h
    refine yr_aald dX8_clear_22 e11 t13 ?_
    refine zastore dX8_clear_23 (L1 := [(1, va_rf (some a0)), (1, va_rf r1), (1, .int x2), (1, .int x3), (1, va_rf (xR M a10 i12))]) (by decide) rfl ?_
    refine xr_aload dX8_clear_25 rfl ?_
    refine xr_aload_n 0 dX8_clear_27 rfl rfl ?_
    obtain ⟨t14, h⟩ := h
    refine yr_getR dX8_clear_28 fl_RX8_18 rfl t14 ?_
    obtain ⟨ht, hf⟩ := h
    refine xr_acmp_eq 49 dX8_clear_31 (by decide) (fun c18 => ?_) (fun c18 => ?_)
    · replace h := ht c18
      clear ht hf
      refine ziinc (x3 + 1) dX8_clear_49 rfl rfl (L1 := [(1, va_rf (some a0)), (1, va_rf r1), (1, .int x2), (1, .int (x3 + 1)), (1, va_rf (xR M a10 i12))]) (by decide) rfl ?_
      refine xr_goto 15 dX8_clear_52 (by decide) ?_
      exact h
    · replace h := hf c18
      clear ht hf
      refine xr_aload dX8_clear_34 rfl ?_
      refine xr_aload_n 0 dX8_clear_36 rfl rfl ?_
      refine yr_getR dX8_clear_37 fl_RX8_25 rfl t14 ?_
      obtain ⟨a15, e16, h⟩ := h
      obtain ⟨t17, h⟩ := h
      refine yr_putR dX8_clear_40 fp_RX8_28 e16 t17 ?_
      refine xr_aload_n 0 dX8_clear_43 rfl rfl ?_
      refine xr_aload dX8_clear_44 rfl ?_
      refine yr_putR dX8_clear_46 fp_RX8_25 rfl t14 ?_
      refine ziinc (x3 + 1) dX8_clear_49 rfl rfl (L1 := [(1, va_rf (some a0)), (1, va_rf r1), (1, .int x2), (1, .int (x3 + 1)), (1, va_rf (xR M a10 i12))]) (by decide) rfl ?_
      refine xr_goto 15 dX8_clear_52 (by decide) ?_
      exact h
set_option maxRecDepth 100000 in
set_option maxHeartbeats 4000000 in
theorem bX8_clear_0 {l : Launch} {g : xG} (a0 : Nat) {M : xM} {Q : Option Value → xM → Prop} (h : (xat M a0 5 ∧ (∃ a2, (xR (xsR M a0 1 none) a0 0) = some a2 ∧ xat (xsR M a0 1 none) a2 12 ∧ xWp l g mX8_clear 0 0 15 [(1, va_rf (some a0)), (1, va_rf (xR (xsR M a0 1 none) a0 0)), (1, .int (nI (xN (xsR M a0 1 none) a2))), (1, .int 0), (0, .null)] [] (0, 0) (xsR M a0 1 none) Q))) : xWp l g mX8_clear 0 0 0 [(1, va_rf (some a0)), (0, .null), (0, .null), (0, .null), (0, .null)] [] (0, 0) M Q := by
  refine xr_aload_n 0 dX8_clear_0 rfl rfl ?_
  refine xr_null dX8_clear_1 ?_
  obtain ⟨t1, h⟩ := h
  refine yr_putR dX8_clear_2 fp_RX8_25 rfl t1 ?_
  refine xr_aload_n 0 dX8_clear_5 rfl rfl ?_
  refine yr_getR dX8_clear_6 fl_RX8_11 rfl t1 ?_
  refine zastore_n 1 dX8_clear_9 rfl (L1 := [(1, va_rf (some a0)), (1, va_rf (xR (xsR M a0 1 none) a0 0)), (0, .null), (0, .null), (0, .null)]) (by decide) rfl ?_
  refine xr_aload_n 1 dX8_clear_10 rfl rfl ?_
  obtain ⟨a2, e3, h⟩ := h
  obtain ⟨t4, h⟩ := h
  refine yr_alen12 dX8_clear_11 e3 t4 ?_
  refine zistore_n 2 dX8_clear_12 rfl (L1 := [(1, va_rf (some a0)), (1, va_rf (xR (xsR M a0 1 none) a0 0)), (1, .int (nI (xN (xsR M a0 1 none) a2))), (0, .null), (0, .null)]) (by decide) rfl ?_
  refine xr_iconst 0 dX8_clear_13 (by decide) ?_
  refine zistore_n 3 dX8_clear_14 rfl (L1 := [(1, va_rf (some a0)), (1, va_rf (xR (xsR M a0 1 none) a0 0)), (1, .int (nI (xN (xsR M a0 1 none) a2))), (1, .int 0), (0, .null)]) (by decide) rfl ?_
  exact h
theorem dX8_take_0 : decode cX8_take 0 = .ok (.aload_n 0, 1) := by decide +kernel
theorem dX8_take_1 : decode cX8_take 1 = .ok (.getfield 25, 3) := by decide +kernel
theorem dX8_take_4 : decode cX8_take 4 = .ok (.astore_n 1, 1) := by decide +kernel
theorem dX8_take_5 : decode cX8_take 5 = .ok (.aload_n 1, 1) := by decide +kernel
theorem dX8_take_6 : decode cX8_take 6 = .ok (.ifnull 25, 3) := by decide +kernel
theorem dX8_take_9 : decode cX8_take 9 = .ok (.aload_n 0, 1) := by decide +kernel
theorem dX8_take_10 : decode cX8_take 10 = .ok (.aload_n 1, 1) := by decide +kernel
theorem dX8_take_11 : decode cX8_take 11 = .ok (.getfield 28, 3) := by decide +kernel
theorem dX8_take_14 : decode cX8_take 14 = .ok (.putfield 25, 3) := by decide +kernel
theorem dX8_take_17 : decode cX8_take 17 = .ok (.aload_n 1, 1) := by decide +kernel
theorem dX8_take_18 : decode cX8_take 18 = .ok (.invokevirtual 31, 3) := by decide +kernel
theorem dX8_take_21 : decode cX8_take 21 = .ok (.aload_n 0, 1) := by decide +kernel
theorem dX8_take_22 : decode cX8_take 22 = .ok (.dup, 1) := by decide +kernel
theorem dX8_take_23 : decode cX8_take 23 = .ok (.getfield 37, 3) := by decide +kernel
theorem dX8_take_26 : decode cX8_take 26 = .ok (.iconst 1, 1) := by decide +kernel
theorem dX8_take_27 : decode cX8_take 27 = .ok (.iadd, 1) := by decide +kernel
theorem dX8_take_28 : decode cX8_take 28 = .ok (.putfield 37, 3) := by decide +kernel
theorem dX8_take_31 : decode cX8_take 31 = .ok (.aload_n 1, 1) := by decide +kernel
theorem dX8_take_32 : decode cX8_take 32 = .ok (.areturn, 1) := by decide +kernel
set_option maxRecDepth 100000 in
set_option maxHeartbeats 4000000 in
theorem bX8_take_0 {l : Launch} {g : xG} (a0 : Nat) {M : xM} {Q : Option Value → xM → Prop} (h : (xat M a0 5 ∧ (((xR M a0 1) = none → (Q (some (va_rf (xR M a0 1))) M)) ∧ (¬ (xR M a0 1) = none → (∃ a2, (xR M a0 1) = some a2 ∧ xat M a2 1 ∧ (xSp l g mX3_reset 0 0 [va_rf (xR M a0 1)] (xsR M a0 1 (xR M a2 11)) (fun ρ7 M6 => ρ7 = none ∧ (xat M6 a0 5 ∧ (Q (some (va_rf (xR M a0 1))) (xsI M6 a0 3 ((xI M6 a0 3) + 1))))))))))) : xWp l g mX8_take 0 0 0 [(1, va_rf (some a0)), (0, .null)] [] (0, 0) M Q := by
  refine xr_aload_n 0 dX8_take_0 rfl rfl ?_
  obtain ⟨t1, h⟩ := h
  refine yr_getR dX8_take_1 fl_RX8_25 rfl t1 ?_
  refine zastore_n 1 dX8_take_4 rfl (L1 := [(1, va_rf (some a0)), (1, va_rf (xR M a0 1))]) (by decide) rfl ?_
  refine xr_aload_n 1 dX8_take_5 rfl rfl ?_
  obtain ⟨ht, hf⟩ := h
  refine xr_ifnull 31 dX8_take_6 (by decide) (fun c10 => ?_) (fun c10 => ?_)
  · replace h := ht c10
    clear ht hf
    refine xr_aload_n 1 dX8_take_31 rfl rfl ?_
    exact xr_retv (by decide) (xRa rfl dX8_take_32) h
  · replace h := hf c10
    clear ht hf
    refine xr_aload_n 0 dX8_take_9 rfl rfl ?_
    refine xr_aload_n 1 dX8_take_10 rfl rfl ?_
    obtain ⟨a2, e3, h⟩ := h
    obtain ⟨t4, h⟩ := h
    refine yr_getR dX8_take_11 fl_RX8_28 e3 t4 ?_
    refine yr_putR dX8_take_14 fp_RX8_25 rfl t1 ?_
    refine xr_aload_n 1 dX8_take_17 rfl rfl ?_
    refine yr_callVN (r := (xR M a0 1)) [] dX8_take_18 cv_X8_take_31 e3 t4 rfl (Nat.le_trans wt_0 (by decide)) (by decide) (xSp.mono h ?_)
    clear h
    intro ρ7 M6 h
    obtain ⟨rfl, h⟩ := h
    refine xr_aload_n 0 dX8_take_21 rfl rfl ?_
    refine xr_dup dX8_take_22 (va_rf_cat _) ?_
    obtain ⟨t9, h⟩ := h
    refine yr_getI dX8_take_23 fl_RX8_37 rfl t9 ?_
    refine xr_iconst 1 dX8_take_26 (by decide) ?_
    refine xr_iadd dX8_take_27 ?_
    refine yr_putI dX8_take_28 fp_RX8_37 rfl t9 ?_
    refine xr_aload_n 1 dX8_take_31 rfl rfl ?_
    exact xr_retv (by decide) (xRa rfl dX8_take_32) h
theorem dX8_release_0 : decode cX8_release 0 = .ok (.aload_n 1, 1) := by decide +kernel
theorem dX8_release_1 : decode cX8_release 1 = .ok (.aload_n 0, 1) := by decide +kernel
theorem dX8_release_2 : decode cX8_release 2 = .ok (.getfield 25, 3) := by decide +kernel
theorem dX8_release_5 : decode cX8_release 5 = .ok (.putfield 28, 3) := by decide +kernel
theorem dX8_release_8 : decode cX8_release 8 = .ok (.aload_n 0, 1) := by decide +kernel
theorem dX8_release_9 : decode cX8_release 9 = .ok (.aload_n 1, 1) := by decide +kernel
theorem dX8_release_10 : decode cX8_release 10 = .ok (.putfield 25, 3) := by decide +kernel
theorem dX8_release_13 : decode cX8_release 13 = .ok (.aload_n 0, 1) := by decide +kernel
theorem dX8_release_14 : decode cX8_release 14 = .ok (.dup, 1) := by decide +kernel
theorem dX8_release_15 : decode cX8_release 15 = .ok (.getfield 37, 3) := by decide +kernel
theorem dX8_release_18 : decode cX8_release 18 = .ok (.iconst 1, 1) := by decide +kernel
theorem dX8_release_19 : decode cX8_release 19 = .ok (.isub, 1) := by decide +kernel
theorem dX8_release_20 : decode cX8_release 20 = .ok (.putfield 37, 3) := by decide +kernel
theorem dX8_release_23 : decode cX8_release 23 = .ok (.return_, 1) := by decide +kernel
set_option maxRecDepth 100000 in
set_option maxHeartbeats 4000000 in
theorem bX8_release_0 {l : Launch} {g : xG} (a0 : Nat) (r1 : Option Nat) {M : xM} {Q : Option Value → xM → Prop} (h : (xat M a0 5 ∧ (∃ a2, r1 = some a2 ∧ xat M a2 1 ∧ (Q none (xsI (xsR (xsR M a2 11 (xR M a0 1)) a0 1 r1) a0 3 ((xI (xsR (xsR M a2 11 (xR M a0 1)) a0 1 r1) a0 3) - 1)))))) : xWp l g mX8_release 0 0 0 [(1, va_rf (some a0)), (1, va_rf r1)] [] (0, 0) M Q := by
  refine xr_aload_n 1 dX8_release_0 rfl rfl ?_
  refine xr_aload_n 0 dX8_release_1 rfl rfl ?_
  obtain ⟨t1, h⟩ := h
  refine yr_getR dX8_release_2 fl_RX8_25 rfl t1 ?_
  obtain ⟨a2, e3, h⟩ := h
  obtain ⟨t4, h⟩ := h
  refine yr_putR dX8_release_5 fp_RX8_28 e3 t4 ?_
  refine xr_aload_n 0 dX8_release_8 rfl rfl ?_
  refine xr_aload_n 1 dX8_release_9 rfl rfl ?_
  refine yr_putR dX8_release_10 fp_RX8_25 rfl t1 ?_
  refine xr_aload_n 0 dX8_release_13 rfl rfl ?_
  refine xr_dup dX8_release_14 (va_rf_cat _) ?_
  refine yr_getI dX8_release_15 fl_RX8_37 rfl t1 ?_
  refine xr_iconst 1 dX8_release_18 (by decide) ?_
  refine xr_isub dX8_release_19 ?_
  refine yr_putI dX8_release_20 fp_RX8_37 rfl t1 ?_
  exact xr_ret (by decide) (xRv rfl dX8_release_23) h
theorem dX8_seek_0 : decode cX8_seek 0 = .ok (.aload_n 0, 1) := by decide +kernel
theorem dX8_seek_1 : decode cX8_seek 1 = .ok (.iconst 0, 1) := by decide +kernel
theorem dX8_seek_2 : decode cX8_seek 2 = .ok (.putfield 44, 3) := by decide +kernel
theorem dX8_seek_5 : decode cX8_seek 5 = .ok (.aload_n 0, 1) := by decide +kernel
theorem dX8_seek_6 : decode cX8_seek 6 = .ok (.getfield 18, 3) := by decide +kernel
theorem dX8_seek_9 : decode cX8_seek 9 = .ok (.astore_n 2, 1) := by decide +kernel
theorem dX8_seek_10 : decode cX8_seek 10 = .ok (.aload_n 2, 1) := by decide +kernel
theorem dX8_seek_11 : decode cX8_seek 11 = .ok (.ifnull 44, 3) := by decide +kernel
theorem dX8_seek_14 : decode cX8_seek 14 = .ok (.aload_n 0, 1) := by decide +kernel
theorem dX8_seek_15 : decode cX8_seek 15 = .ok (.aload_n 2, 1) := by decide +kernel
theorem dX8_seek_16 : decode cX8_seek 16 = .ok (.putfield 34, 3) := by decide +kernel
theorem dX8_seek_19 : decode cX8_seek 19 = .ok (.aload_n 0, 1) := by decide +kernel
theorem dX8_seek_20 : decode cX8_seek 20 = .ok (.aload_n 2, 1) := by decide +kernel
theorem dX8_seek_21 : decode cX8_seek 21 = .ok (.aload_n 1, 1) := by decide +kernel
theorem dX8_seek_22 : decode cX8_seek 22 = .ok (.aload_n 0, 1) := by decide +kernel
theorem dX8_seek_23 : decode cX8_seek 23 = .ok (.getfield 44, 3) := by decide +kernel
theorem dX8_seek_26 : decode cX8_seek 26 = .ok (.invokevirtual 47, 3) := by decide +kernel
theorem dX8_seek_29 : decode cX8_seek 29 = .ok (.putfield 51, 3) := by decide +kernel
theorem dX8_seek_32 : decode cX8_seek 32 = .ok (.aload_n 0, 1) := by decide +kernel
theorem dX8_seek_33 : decode cX8_seek 33 = .ok (.dup, 1) := by decide +kernel
theorem dX8_seek_34 : decode cX8_seek 34 = .ok (.getfield 44, 3) := by decide +kernel
theorem dX8_seek_37 : decode cX8_seek 37 = .ok (.aload_n 0, 1) := by decide +kernel
theorem dX8_seek_38 : decode cX8_seek 38 = .ok (.getfield 51, 3) := by decide +kernel
theorem dX8_seek_41 : decode cX8_seek 41 = .ok (.iadd, 1) := by decide +kernel
theorem dX8_seek_42 : decode cX8_seek 42 = .ok (.putfield 44, 3) := by decide +kernel
theorem dX8_seek_45 : decode cX8_seek 45 = .ok (.aload_n 0, 1) := by decide +kernel
theorem dX8_seek_46 : decode cX8_seek 46 = .ok (.aload_n 2, 1) := by decide +kernel
theorem dX8_seek_47 : decode cX8_seek 47 = .ok (.aload_n 1, 1) := by decide +kernel
theorem dX8_seek_48 : decode cX8_seek 48 = .ok (.invokevirtual 54, 3) := by decide +kernel
theorem dX8_seek_51 : decode cX8_seek 51 = .ok (.astore_n 2, 1) := by decide +kernel
theorem dX8_seek_52 : decode cX8_seek 52 = .ok (.goto (-42), 3) := by decide +kernel
theorem dX8_seek_55 : decode cX8_seek 55 = .ok (.return_, 1) := by decide +kernel
set_option maxRecDepth 100000 in
set_option maxHeartbeats 4000000 in
theorem bX8_seek_10 {l : Launch} {g : xG} (a0 : Nat) (r1 : Option Nat) (r2 : Option Nat) {M : xM} {Q : Option Value → xM → Prop} (h : ((r2 = none → (Q none M)) ∧ (¬ r2 = none → (xat M a0 5 ∧ (∃ a6, r2 = some a6 ∧ xat (xsR M a0 5 r2) a6 1 ∧ xSp l g mX3_matching 0 0 [va_rf r2, va_rf r1, .int (xI (xsR M a0 5 r2) a0 7)] (xsR M a0 5 r2) (fun ρ4 M3 => ∃ v2 : Int32, ρ4 = some (.int v2) ∧ (xat M3 a0 5 ∧ (xSp l g mX8_stepFrom 0 0 [va_rf (some a0), va_rf r2, va_rf r1] (xsI (xsI M3 a0 6 v2) a0 7 ((xI (xsI M3 a0 6 v2) a0 7) + (xI (xsI M3 a0 6 v2) a0 6))) (fun ρ12 M11 => ∃ v10 : Option Nat, ρ12 = some (va_rf v10) ∧ xWp l g mX8_seek 0 0 10 [(1, va_rf (some a0)), (1, va_rf r1), (1, va_rf v10)] [] (0, 0) M11 Q))))))))) : xWp l g mX8_seek 0 0 10 [(1, va_rf (some a0)), (1, va_rf r1), (1, va_rf r2)] [] (0, 0) M Q := by
  refine xr_aload_n 2 dX8_seek_10 rfl rfl ?_
  obtain ⟨ht, hf⟩ := h
  refine xr_ifnull 55 dX8_seek_11 (by decide) (fun c14 => ?_) (fun c14 => ?_)
  · replace h := ht c14
    clear ht hf
    exact xr_ret (by decide) (xRv rfl dX8_seek_55) h
  · replace h := hf c14
    clear ht hf
    refine xr_aload_n 0 dX8_seek_14 rfl rfl ?_
    refine xr_aload_n 2 dX8_seek_15 rfl rfl ?_
    obtain ⟨t1, h⟩ := h
    refine yr_putR dX8_seek_16 fp_RX8_34 rfl t1 ?_
    refine xr_aload_n 0 dX8_seek_19 rfl rfl ?_
    refine xr_aload_n 2 dX8_seek_20 rfl rfl ?_
    refine xr_aload_n 1 dX8_seek_21 rfl rfl ?_
    refine xr_aload_n 0 dX8_seek_22 rfl rfl ?_
    refine yr_getI dX8_seek_23 fl_RX8_44 rfl t1 ?_
    obtain ⟨a6, e7, h⟩ := h
    obtain ⟨t8, h⟩ := h
    refine yr_callV (r := r2) [va_rf r1, .int (xI (xsR M a0 5 r2) a0 7)] dX8_seek_26 cv_X8_seek_47 e7 t8 rfl (Nat.le_trans (wt_r wt_0) (by decide)) (by decide) (xSp.mono h ?_)
    clear h
    intro ρ4 M3 h
    obtain ⟨v2, rfl, h⟩ := h
    obtain ⟨t9, h⟩ := h
    refine yr_putI dX8_seek_29 fp_RX8_51 rfl t9 ?_
    refine xr_aload_n 0 dX8_seek_32 rfl rfl ?_
    refine xr_dup dX8_seek_33 (va_rf_cat _) ?_
    refine yr_getI dX8_seek_34 fl_RX8_44 rfl t9 ?_
    refine xr_aload_n 0 dX8_seek_37 rfl rfl ?_
    refine yr_getI dX8_seek_38 fl_RX8_51 rfl t9 ?_
    refine xr_iadd dX8_seek_41 ?_
    refine yr_putI dX8_seek_42 fp_RX8_44 rfl t9 ?_
    refine xr_aload_n 0 dX8_seek_45 rfl rfl ?_
    refine xr_aload_n 2 dX8_seek_46 rfl rfl ?_
    refine xr_aload_n 1 dX8_seek_47 rfl rfl ?_
    refine yr_callV (r := (some a0)) [va_rf r2, va_rf r1] dX8_seek_48 cv_X8_seek_54 rfl t9 rfl (Nat.le_trans wt_0 (by decide)) (by decide) (xSp.mono h ?_)
    clear h
    intro ρ12 M11 h
    obtain ⟨v10, rfl, h⟩ := h
    refine zastore_n 2 dX8_seek_51 rfl (L1 := [(1, va_rf (some a0)), (1, va_rf r1), (1, va_rf v10)]) (by decide) rfl ?_
    refine xr_goto 10 dX8_seek_52 (by decide) ?_
    exact h
set_option maxRecDepth 100000 in
set_option maxHeartbeats 4000000 in
theorem bX8_seek_0 {l : Launch} {g : xG} (a0 : Nat) (r1 : Option Nat) {M : xM} {Q : Option Value → xM → Prop} (h : (xat M a0 5 ∧ xWp l g mX8_seek 0 0 10 [(1, va_rf (some a0)), (1, va_rf r1), (1, va_rf (xR (xsI M a0 7 0) a0 2))] [] (0, 0) (xsI M a0 7 0) Q)) : xWp l g mX8_seek 0 0 0 [(1, va_rf (some a0)), (1, va_rf r1), (0, .null)] [] (0, 0) M Q := by
  refine xr_aload_n 0 dX8_seek_0 rfl rfl ?_
  refine xr_iconst 0 dX8_seek_1 (by decide) ?_
  obtain ⟨t1, h⟩ := h
  refine yr_putI dX8_seek_2 fp_RX8_44 rfl t1 ?_
  refine xr_aload_n 0 dX8_seek_5 rfl rfl ?_
  refine yr_getR dX8_seek_6 fl_RX8_18 rfl t1 ?_
  refine zastore_n 2 dX8_seek_9 rfl (L1 := [(1, va_rf (some a0)), (1, va_rf r1), (1, va_rf (xR (xsI M a0 7 0) a0 2))]) (by decide) rfl ?_
  exact h
theorem dX8_stepFrom_0 : decode cX8_stepFrom 0 = .ok (.aload_n 0, 1) := by decide +kernel
theorem dX8_stepFrom_1 : decode cX8_stepFrom 1 = .ok (.getfield 51, 3) := by decide +kernel
theorem dX8_stepFrom_4 : decode cX8_stepFrom 4 = .ok (.aload_n 1, 1) := by decide +kernel
theorem dX8_stepFrom_5 : decode cX8_stepFrom 5 = .ok (.getfield 58, 3) := by decide +kernel
theorem dX8_stepFrom_8 : decode cX8_stepFrom 8 = .ok (.if_icmp .lt 14, 3) := by decide +kernel
theorem dX8_stepFrom_11 : decode cX8_stepFrom 11 = .ok (.aload_n 0, 1) := by decide +kernel
theorem dX8_stepFrom_12 : decode cX8_stepFrom 12 = .ok (.getfield 44, 3) := by decide +kernel
theorem dX8_stepFrom_15 : decode cX8_stepFrom 15 = .ok (.aload_n 2, 1) := by decide +kernel
theorem dX8_stepFrom_16 : decode cX8_stepFrom 16 = .ok (.getfield 61, 3) := by decide +kernel
theorem dX8_stepFrom_19 : decode cX8_stepFrom 19 = .ok (.if_icmp .lt 5, 3) := by decide +kernel
theorem dX8_stepFrom_22 : decode cX8_stepFrom 22 = .ok (.aconst_null, 1) := by decide +kernel
theorem dX8_stepFrom_23 : decode cX8_stepFrom 23 = .ok (.areturn, 1) := by decide +kernel
theorem dX8_stepFrom_24 : decode cX8_stepFrom 24 = .ok (.aload_n 1, 1) := by decide +kernel
theorem dX8_stepFrom_25 : decode cX8_stepFrom 25 = .ok (.aload_n 2, 1) := by decide +kernel
theorem dX8_stepFrom_26 : decode cX8_stepFrom 26 = .ok (.aload_n 0, 1) := by decide +kernel
theorem dX8_stepFrom_27 : decode cX8_stepFrom 27 = .ok (.getfield 44, 3) := by decide +kernel
theorem dX8_stepFrom_30 : decode cX8_stepFrom 30 = .ok (.invokevirtual 66, 3) := by decide +kernel
theorem dX8_stepFrom_33 : decode cX8_stepFrom 33 = .ok (.invokevirtual 70, 3) := by decide +kernel
theorem dX8_stepFrom_36 : decode cX8_stepFrom 36 = .ok (.astore_n 3, 1) := by decide +kernel
theorem dX8_stepFrom_37 : decode cX8_stepFrom 37 = .ok (.aload_n 3, 1) := by decide +kernel
theorem dX8_stepFrom_38 : decode cX8_stepFrom 38 = .ok (.ifnull 13, 3) := by decide +kernel
theorem dX8_stepFrom_41 : decode cX8_stepFrom 41 = .ok (.aload_n 0, 1) := by decide +kernel
theorem dX8_stepFrom_42 : decode cX8_stepFrom 42 = .ok (.dup, 1) := by decide +kernel
theorem dX8_stepFrom_43 : decode cX8_stepFrom 43 = .ok (.getfield 44, 3) := by decide +kernel
theorem dX8_stepFrom_46 : decode cX8_stepFrom 46 = .ok (.iconst 1, 1) := by decide +kernel
theorem dX8_stepFrom_47 : decode cX8_stepFrom 47 = .ok (.iadd, 1) := by decide +kernel
theorem dX8_stepFrom_48 : decode cX8_stepFrom 48 = .ok (.putfield 44, 3) := by decide +kernel
theorem dX8_stepFrom_51 : decode cX8_stepFrom 51 = .ok (.aload_n 3, 1) := by decide +kernel
theorem dX8_stepFrom_52 : decode cX8_stepFrom 52 = .ok (.areturn, 1) := by decide +kernel
set_option maxRecDepth 100000 in
set_option maxHeartbeats 4000000 in
theorem bX8_stepFrom_0 {l : Launch} {g : xG} (a0 : Nat) (r1 : Option Nat) (r2 : Option Nat) {M : xM} {Q : Option Value → xM → Prop} (h : (xat M a0 5 ∧ (∃ a2, r1 = some a2 ∧ xat M a2 1 ∧ (((xI M a0 6) < (xI M a2 1) → (Q (some (va_rf none)) M)) ∧ (¬ (xI M a0 6) < (xI M a2 1) → (∃ a5, r2 = some a5 ∧ xat M a5 4 ∧ (((xI M a0 7) < (xI M a5 1) → (xSp l g mX7_byteAt 0 0 [va_rf r2, .int (xI M a0 7)] M (fun ρ10 M9 => ∃ v8 : Int32, ρ10 = some (.int v8) ∧ (xat M9 a2 1 ∧ xSp l g mX3_childBy 0 0 [va_rf r1, .int v8] M9 (fun ρ14 M13 => ∃ v12 : Option Nat, ρ14 = some (va_rf v12) ∧ ((v12 = none → (Q (some (va_rf v12)) M13)) ∧ (¬ v12 = none → (xat M13 a0 5 ∧ (Q (some (va_rf v12)) (xsI M13 a0 7 ((xI M13 a0 7) + 1))))))))))) ∧ (¬ (xI M a0 7) < (xI M a5 1) → (Q (some (va_rf none)) M))))))))) : xWp l g mX8_stepFrom 0 0 0 [(1, va_rf (some a0)), (1, va_rf r1), (1, va_rf r2), (0, .null)] [] (0, 0) M Q := by
  refine xr_aload_n 0 dX8_stepFrom_0 rfl rfl ?_
  obtain ⟨t1, h⟩ := h
  refine yr_getI dX8_stepFrom_1 fl_RX8_51 rfl t1 ?_
  refine xr_aload_n 1 dX8_stepFrom_4 rfl rfl ?_
  obtain ⟨a2, e3, h⟩ := h
  obtain ⟨t4, h⟩ := h
  refine yr_getI dX8_stepFrom_5 fl_RX8_58 e3 t4 ?_
  obtain ⟨ht, hf⟩ := h
  refine xr_icmp_lt 22 dX8_stepFrom_8 (by decide) (fun c20 => ?_) (fun c20 => ?_)
  · replace h := ht c20
    clear ht hf
    refine xr_null dX8_stepFrom_22 ?_
    exact xr_retv (by decide) (xRa rfl dX8_stepFrom_23) h
  · replace h := hf c20
    clear ht hf
    refine xr_aload_n 0 dX8_stepFrom_11 rfl rfl ?_
    refine yr_getI dX8_stepFrom_12 fl_RX8_44 rfl t1 ?_
    refine xr_aload_n 2 dX8_stepFrom_15 rfl rfl ?_
    obtain ⟨a5, e6, h⟩ := h
    obtain ⟨t7, h⟩ := h
    refine yr_getI dX8_stepFrom_16 fl_RX8_61 e6 t7 ?_
    obtain ⟨ht, hf⟩ := h
    refine xr_icmp_lt 24 dX8_stepFrom_19 (by decide) (fun c19 => ?_) (fun c19 => ?_)
    · replace h := ht c19
      clear ht hf
      refine xr_aload_n 1 dX8_stepFrom_24 rfl rfl ?_
      refine xr_aload_n 2 dX8_stepFrom_25 rfl rfl ?_
      refine xr_aload_n 0 dX8_stepFrom_26 rfl rfl ?_
      refine yr_getI dX8_stepFrom_27 fl_RX8_44 rfl t1 ?_
      refine yr_callV (r := r2) [.int (xI M a0 7)] dX8_stepFrom_30 cv_X8_stepFrom_66 e6 t7 rfl (Nat.le_trans (wt_r wt_0) (by decide)) (by decide) (xSp.mono h ?_)
      clear h
      intro ρ10 M9 h
      obtain ⟨v8, rfl, h⟩ := h
      obtain ⟨t16, h⟩ := h
      refine yr_callV (r := r1) [.int v8] dX8_stepFrom_33 cv_X8_stepFrom_70 e3 t16 rfl (Nat.le_trans wt_0 (by decide)) (by decide) (xSp.mono h ?_)
      clear h
      intro ρ14 M13 h
      obtain ⟨v12, rfl, h⟩ := h
      refine zastore_n 3 dX8_stepFrom_36 rfl (L1 := [(1, va_rf (some a0)), (1, va_rf r1), (1, va_rf r2), (1, va_rf v12)]) (by decide) rfl ?_
      refine xr_aload_n 3 dX8_stepFrom_37 rfl rfl ?_
      obtain ⟨ht, hf⟩ := h
      refine xr_ifnull 51 dX8_stepFrom_38 (by decide) (fun c18 => ?_) (fun c18 => ?_)
      · replace h := ht c18
        clear ht hf
        refine xr_aload_n 3 dX8_stepFrom_51 rfl rfl ?_
        exact xr_retv (by decide) (xRa rfl dX8_stepFrom_52) h
      · replace h := hf c18
        clear ht hf
        refine xr_aload_n 0 dX8_stepFrom_41 rfl rfl ?_
        refine xr_dup dX8_stepFrom_42 (va_rf_cat _) ?_
        obtain ⟨t17, h⟩ := h
        refine yr_getI dX8_stepFrom_43 fl_RX8_44 rfl t17 ?_
        refine xr_iconst 1 dX8_stepFrom_46 (by decide) ?_
        refine xr_iadd dX8_stepFrom_47 ?_
        refine yr_putI dX8_stepFrom_48 fp_RX8_44 rfl t17 ?_
        refine xr_aload_n 3 dX8_stepFrom_51 rfl rfl ?_
        exact xr_retv (by decide) (xRa rfl dX8_stepFrom_52) h
    · replace h := hf c19
      clear ht hf
      refine xr_null dX8_stepFrom_22 ?_
      exact xr_retv (by decide) (xRa rfl dX8_stepFrom_23) h
theorem dX8_nodeOf_0 : decode cX8_nodeOf 0 = .ok (.aload_n 0, 1) := by decide +kernel
theorem dX8_nodeOf_1 : decode cX8_nodeOf 1 = .ok (.aload_n 1, 1) := by decide +kernel
theorem dX8_nodeOf_2 : decode cX8_nodeOf 2 = .ok (.invokevirtual 74, 3) := by decide +kernel
theorem dX8_nodeOf_5 : decode cX8_nodeOf 5 = .ok (.aload_n 0, 1) := by decide +kernel
theorem dX8_nodeOf_6 : decode cX8_nodeOf 6 = .ok (.getfield 44, 3) := by decide +kernel
theorem dX8_nodeOf_9 : decode cX8_nodeOf 9 = .ok (.aload_n 1, 1) := by decide +kernel
theorem dX8_nodeOf_10 : decode cX8_nodeOf 10 = .ok (.getfield 61, 3) := by decide +kernel
theorem dX8_nodeOf_13 : decode cX8_nodeOf 13 = .ok (.if_icmp .ne 31, 3) := by decide +kernel
theorem dX8_nodeOf_16 : decode cX8_nodeOf 16 = .ok (.aload_n 0, 1) := by decide +kernel
theorem dX8_nodeOf_17 : decode cX8_nodeOf 17 = .ok (.getfield 51, 3) := by decide +kernel
theorem dX8_nodeOf_20 : decode cX8_nodeOf 20 = .ok (.aload_n 0, 1) := by decide +kernel
theorem dX8_nodeOf_21 : decode cX8_nodeOf 21 = .ok (.getfield 34, 3) := by decide +kernel
theorem dX8_nodeOf_24 : decode cX8_nodeOf 24 = .ok (.getfield 58, 3) := by decide +kernel
theorem dX8_nodeOf_27 : decode cX8_nodeOf 27 = .ok (.if_icmp .ne 17, 3) := by decide +kernel
theorem dX8_nodeOf_30 : decode cX8_nodeOf 30 = .ok (.aload_n 0, 1) := by decide +kernel
theorem dX8_nodeOf_31 : decode cX8_nodeOf 31 = .ok (.getfield 34, 3) := by decide +kernel
theorem dX8_nodeOf_34 : decode cX8_nodeOf 34 = .ok (.getfield 78, 3) := by decide +kernel
theorem dX8_nodeOf_37 : decode cX8_nodeOf 37 = .ok (.ifCond .eq 7, 3) := by decide +kernel
theorem dX8_nodeOf_40 : decode cX8_nodeOf 40 = .ok (.iconst 1, 1) := by decide +kernel
theorem dX8_nodeOf_41 : decode cX8_nodeOf 41 = .ok (.goto 4, 3) := by decide +kernel
theorem dX8_nodeOf_44 : decode cX8_nodeOf 44 = .ok (.iconst 0, 1) := by decide +kernel
theorem dX8_nodeOf_45 : decode cX8_nodeOf 45 = .ok (.istore_n 2, 1) := by decide +kernel
theorem dX8_nodeOf_46 : decode cX8_nodeOf 46 = .ok (.iload_n 2, 1) := by decide +kernel
theorem dX8_nodeOf_47 : decode cX8_nodeOf 47 = .ok (.ifCond .eq 10, 3) := by decide +kernel
theorem dX8_nodeOf_50 : decode cX8_nodeOf 50 = .ok (.aload_n 0, 1) := by decide +kernel
theorem dX8_nodeOf_51 : decode cX8_nodeOf 51 = .ok (.getfield 34, 3) := by decide +kernel
theorem dX8_nodeOf_54 : decode cX8_nodeOf 54 = .ok (.goto 4, 3) := by decide +kernel
theorem dX8_nodeOf_57 : decode cX8_nodeOf 57 = .ok (.aconst_null, 1) := by decide +kernel
theorem dX8_nodeOf_58 : decode cX8_nodeOf 58 = .ok (.areturn, 1) := by decide +kernel
set_option maxRecDepth 100000 in
set_option maxHeartbeats 4000000 in
theorem bX8_nodeOf_0 {l : Launch} {g : xG} (a0 : Nat) (r1 : Option Nat) {M : xM} {Q : Option Value → xM → Prop} (h : (xat M a0 5 ∧ xSp l g mX8_seek 0 0 [va_rf (some a0), va_rf r1] M (fun ρ3 M2 => ρ3 = none ∧ (xat M2 a0 5 ∧ (∃ a7, r1 = some a7 ∧ xat M2 a7 4 ∧ ((¬ (xI M2 a0 7) = (xI M2 a7 1) → (((0 : Int32) = 0 → (Q (some (va_rf none)) M2)) ∧ (¬ (0 : Int32) = 0 → (Q (some (va_rf (xR M2 a0 5))) M2)))) ∧ ((xI M2 a0 7) = (xI M2 a7 1) → (∃ a11, (xR M2 a0 5) = some a11 ∧ xat M2 a11 1 ∧ ((¬ (xI M2 a0 6) = (xI M2 a11 1) → (((0 : Int32) = 0 → (Q (some (va_rf none)) M2)) ∧ (¬ (0 : Int32) = 0 → (Q (some (va_rf (xR M2 a0 5))) M2)))) ∧ ((xI M2 a0 6) = (xI M2 a11 1) → (((xI M2 a11 3) = 0 → (((0 : Int32) = 0 → (Q (some (va_rf none)) M2)) ∧ (¬ (0 : Int32) = 0 → (Q (some (va_rf (xR M2 a0 5))) M2)))) ∧ (¬ (xI M2 a11 3) = 0 → (((1 : Int32) = 0 → (Q (some (va_rf none)) M2)) ∧ (¬ (1 : Int32) = 0 → (Q (some (va_rf (xR M2 a0 5))) M2))))))))))))))) : xWp l g mX8_nodeOf 0 0 0 [(1, va_rf (some a0)), (1, va_rf r1), (0, .null)] [] (0, 0) M Q := by
  refine xr_aload_n 0 dX8_nodeOf_0 rfl rfl ?_
  refine xr_aload_n 1 dX8_nodeOf_1 rfl rfl ?_
  obtain ⟨t5, h⟩ := h
  refine yr_callV (r := (some a0)) [va_rf r1] dX8_nodeOf_2 cv_X8_nodeOf_74 rfl t5 rfl (Nat.le_trans wt_0 (by decide)) (by decide) (xSp.mono h ?_)
  clear h
  intro ρ3 M2 h
  obtain ⟨rfl, h⟩ := h
  refine xr_aload_n 0 dX8_nodeOf_5 rfl rfl ?_
  obtain ⟨t6, h⟩ := h
  refine yr_getI dX8_nodeOf_6 fl_RX8_44 rfl t6 ?_
  refine xr_aload_n 1 dX8_nodeOf_9 rfl rfl ?_
  obtain ⟨a7, e8, h⟩ := h
  obtain ⟨t9, h⟩ := h
  refine yr_getI dX8_nodeOf_10 fl_RX8_61 e8 t9 ?_
  obtain ⟨ht, hf⟩ := h
  refine xr_icmp_ne 44 dX8_nodeOf_13 (by decide) (fun c19 => ?_) (fun c19 => ?_)
  · replace h := ht c19
    clear ht hf
    refine xr_iconst 0 dX8_nodeOf_44 (by decide) ?_
    refine zistore_n 2 dX8_nodeOf_45 rfl (L1 := [(1, va_rf (some a0)), (1, va_rf r1), (1, .int 0)]) (by decide) rfl ?_
    refine xr_iload_n 2 dX8_nodeOf_46 rfl rfl ?_
    obtain ⟨ht, hf⟩ := h
    refine xr_if_eq 57 dX8_nodeOf_47 (by decide) (fun c10 => ?_) (fun c10 => ?_)
    · replace h := ht c10
      clear ht hf
      refine xr_null dX8_nodeOf_57 ?_
      exact xr_retv (by decide) (xRa rfl dX8_nodeOf_58) h
    · replace h := hf c10
      clear ht hf
      refine xr_aload_n 0 dX8_nodeOf_50 rfl rfl ?_
      refine yr_getR dX8_nodeOf_51 fl_RX8_34 rfl t6 ?_
      refine xr_goto 58 dX8_nodeOf_54 (by decide) ?_
      exact xr_retv (by decide) (xRa rfl dX8_nodeOf_58) h
  · replace h := hf c19
    clear ht hf
    refine xr_aload_n 0 dX8_nodeOf_16 rfl rfl ?_
    refine yr_getI dX8_nodeOf_17 fl_RX8_51 rfl t6 ?_
    refine xr_aload_n 0 dX8_nodeOf_20 rfl rfl ?_
    refine yr_getR dX8_nodeOf_21 fl_RX8_34 rfl t6 ?_
    obtain ⟨a11, e12, h⟩ := h
    obtain ⟨t13, h⟩ := h
    refine yr_getI dX8_nodeOf_24 fl_RX8_58 e12 t13 ?_
    obtain ⟨ht, hf⟩ := h
    refine xr_icmp_ne 44 dX8_nodeOf_27 (by decide) (fun c18 => ?_) (fun c18 => ?_)
    · replace h := ht c18
      clear ht hf
      refine xr_iconst 0 dX8_nodeOf_44 (by decide) ?_
      refine zistore_n 2 dX8_nodeOf_45 rfl (L1 := [(1, va_rf (some a0)), (1, va_rf r1), (1, .int 0)]) (by decide) rfl ?_
      refine xr_iload_n 2 dX8_nodeOf_46 rfl rfl ?_
      obtain ⟨ht, hf⟩ := h
      refine xr_if_eq 57 dX8_nodeOf_47 (by decide) (fun c14 => ?_) (fun c14 => ?_)
      · replace h := ht c14
        clear ht hf
        refine xr_null dX8_nodeOf_57 ?_
        exact xr_retv (by decide) (xRa rfl dX8_nodeOf_58) h
      · replace h := hf c14
        clear ht hf
        refine xr_aload_n 0 dX8_nodeOf_50 rfl rfl ?_
        refine yr_getR dX8_nodeOf_51 fl_RX8_34 rfl t6 ?_
        refine xr_goto 58 dX8_nodeOf_54 (by decide) ?_
        exact xr_retv (by decide) (xRa rfl dX8_nodeOf_58) h
    · replace h := hf c18
      clear ht hf
      refine xr_aload_n 0 dX8_nodeOf_30 rfl rfl ?_
      refine yr_getR dX8_nodeOf_31 fl_RX8_34 rfl t6 ?_
      refine yr_getZ dX8_nodeOf_34 fl_RX8_78 e12 t13 ?_
      obtain ⟨ht, hf⟩ := h
      refine xr_if_eq 44 dX8_nodeOf_37 (by decide) (fun c17 => ?_) (fun c17 => ?_)
      · replace h := ht c17
        clear ht hf
        refine xr_iconst 0 dX8_nodeOf_44 (by decide) ?_
        refine zistore_n 2 dX8_nodeOf_45 rfl (L1 := [(1, va_rf (some a0)), (1, va_rf r1), (1, .int 0)]) (by decide) rfl ?_
        refine xr_iload_n 2 dX8_nodeOf_46 rfl rfl ?_
        obtain ⟨ht, hf⟩ := h
        refine xr_if_eq 57 dX8_nodeOf_47 (by decide) (fun c15 => ?_) (fun c15 => ?_)
        · replace h := ht c15
          clear ht hf
          refine xr_null dX8_nodeOf_57 ?_
          exact xr_retv (by decide) (xRa rfl dX8_nodeOf_58) h
        · replace h := hf c15
          clear ht hf
          refine xr_aload_n 0 dX8_nodeOf_50 rfl rfl ?_
          refine yr_getR dX8_nodeOf_51 fl_RX8_34 rfl t6 ?_
          refine xr_goto 58 dX8_nodeOf_54 (by decide) ?_
          exact xr_retv (by decide) (xRa rfl dX8_nodeOf_58) h
      · replace h := hf c17
        clear ht hf
        refine xr_iconst 1 dX8_nodeOf_40 (by decide) ?_
        refine xr_goto 45 dX8_nodeOf_41 (by decide) ?_
        refine zistore_n 2 dX8_nodeOf_45 rfl (L1 := [(1, va_rf (some a0)), (1, va_rf r1), (1, .int 1)]) (by decide) rfl ?_
        refine xr_iload_n 2 dX8_nodeOf_46 rfl rfl ?_
        obtain ⟨ht, hf⟩ := h
        refine xr_if_eq 57 dX8_nodeOf_47 (by decide) (fun c16 => ?_) (fun c16 => ?_)
        · replace h := ht c16
          clear ht hf
          refine xr_null dX8_nodeOf_57 ?_
          exact xr_retv (by decide) (xRa rfl dX8_nodeOf_58) h
        · replace h := hf c16
          clear ht hf
          refine xr_aload_n 0 dX8_nodeOf_50 rfl rfl ?_
          refine yr_getR dX8_nodeOf_51 fl_RX8_34 rfl t6 ?_
          refine xr_goto 58 dX8_nodeOf_54 (by decide) ?_
          exact xr_retv (by decide) (xRa rfl dX8_nodeOf_58) h
theorem dX8_store_0 : decode cX8_store 0 = .ok (.aload_n 0, 1) := by decide +kernel
theorem dX8_store_1 : decode cX8_store 1 = .ok (.getfield 41, 3) := by decide +kernel
theorem dX8_store_4 : decode cX8_store 4 = .ok (.ifCond .ne 10, 3) := by decide +kernel
theorem dX8_store_7 : decode cX8_store 7 = .ok (.aload_n 0, 1) := by decide +kernel
theorem dX8_store_8 : decode cX8_store 8 = .ok (.aload_n 1, 1) := by decide +kernel
theorem dX8_store_9 : decode cX8_store 9 = .ok (.lload_n 2, 1) := by decide +kernel
theorem dX8_store_10 : decode cX8_store 10 = .ok (.invokevirtual 82, 3) := by decide +kernel
theorem dX8_store_13 : decode cX8_store 13 = .ok (.ireturn, 1) := by decide +kernel
theorem dX8_store_14 : decode cX8_store 14 = .ok (.aload_n 0, 1) := by decide +kernel
theorem dX8_store_15 : decode cX8_store 15 = .ok (.aload_n 1, 1) := by decide +kernel
theorem dX8_store_16 : decode cX8_store 16 = .ok (.invokevirtual 74, 3) := by decide +kernel
theorem dX8_store_19 : decode cX8_store 19 = .ok (.aload_n 0, 1) := by decide +kernel
theorem dX8_store_20 : decode cX8_store 20 = .ok (.getfield 51, 3) := by decide +kernel
theorem dX8_store_23 : decode cX8_store 23 = .ok (.aload_n 0, 1) := by decide +kernel
theorem dX8_store_24 : decode cX8_store 24 = .ok (.getfield 34, 3) := by decide +kernel
theorem dX8_store_27 : decode cX8_store 27 = .ok (.getfield 58, 3) := by decide +kernel
theorem dX8_store_30 : decode cX8_store 30 = .ok (.if_icmp .ge 10, 3) := by decide +kernel
theorem dX8_store_33 : decode cX8_store 33 = .ok (.aload_n 0, 1) := by decide +kernel
theorem dX8_store_34 : decode cX8_store 34 = .ok (.aload_n 1, 1) := by decide +kernel
theorem dX8_store_35 : decode cX8_store 35 = .ok (.lload_n 2, 1) := by decide +kernel
theorem dX8_store_36 : decode cX8_store 36 = .ok (.invokevirtual 86, 3) := by decide +kernel
theorem dX8_store_39 : decode cX8_store 39 = .ok (.ireturn, 1) := by decide +kernel
theorem dX8_store_40 : decode cX8_store 40 = .ok (.aload_n 0, 1) := by decide +kernel
theorem dX8_store_41 : decode cX8_store 41 = .ok (.getfield 44, 3) := by decide +kernel
theorem dX8_store_44 : decode cX8_store 44 = .ok (.aload_n 1, 1) := by decide +kernel
theorem dX8_store_45 : decode cX8_store 45 = .ok (.getfield 61, 3) := by decide +kernel
theorem dX8_store_48 : decode cX8_store 48 = .ok (.if_icmp .ge 10, 3) := by decide +kernel
theorem dX8_store_51 : decode cX8_store 51 = .ok (.aload_n 0, 1) := by decide +kernel
theorem dX8_store_52 : decode cX8_store 52 = .ok (.aload_n 1, 1) := by decide +kernel
theorem dX8_store_53 : decode cX8_store 53 = .ok (.lload_n 2, 1) := by decide +kernel
theorem dX8_store_54 : decode cX8_store 54 = .ok (.invokevirtual 89, 3) := by decide +kernel
theorem dX8_store_57 : decode cX8_store 57 = .ok (.ireturn, 1) := by decide +kernel
theorem dX8_store_58 : decode cX8_store 58 = .ok (.aload_n 0, 1) := by decide +kernel
theorem dX8_store_59 : decode cX8_store 59 = .ok (.lload_n 2, 1) := by decide +kernel
theorem dX8_store_60 : decode cX8_store 60 = .ok (.invokevirtual 92, 3) := by decide +kernel
theorem dX8_store_63 : decode cX8_store 63 = .ok (.ireturn, 1) := by decide +kernel
set_option maxRecDepth 100000 in
set_option maxHeartbeats 4000000 in
theorem bX8_store_0 {l : Launch} {g : xG} (a0 : Nat) (r1 : Option Nat) (j2 : Int64) {M : xM} {Q : Option Value → xM → Prop} (h : (xat M a0 5 ∧ ((¬ (xI M a0 4) = 0 → (xSp l g mX8_seek 0 0 [va_rf (some a0), va_rf r1] M (fun ρ4 M3 => ρ4 = none ∧ (xat M3 a0 5 ∧ (∃ a7, (xR M3 a0 5) = some a7 ∧ xat M3 a7 1 ∧ (((xI M3 a7 1) ≤ (xI M3 a0 6) → (∃ a10, r1 = some a10 ∧ xat M3 a10 4 ∧ (((xI M3 a10 1) ≤ (xI M3 a0 7) → (xSp l g mX8_storeHere 0 0 [va_rf (some a0), .long j2] M3 (fun ρ15 M14 => ∃ v13 : Int32, ρ15 = some (.int v13) ∧ (Q (some (.int v13)) M14)))) ∧ (¬ (xI M3 a10 1) ≤ (xI M3 a0 7) → (xSp l g mX8_storeByChild 0 0 [va_rf (some a0), va_rf r1, .long j2] M3 (fun ρ19 M18 => ∃ v17 : Int32, ρ19 = some (.int v17) ∧ (Q (some (.int v17)) M18))))))) ∧ (¬ (xI M3 a7 1) ≤ (xI M3 a0 6) → (xSp l g mX8_storeByCut 0 0 [va_rf (some a0), va_rf r1, .long j2] M3 (fun ρ24 M23 => ∃ v22 : Int32, ρ24 = some (.int v22) ∧ (Q (some (.int v22)) M23)))))))))) ∧ ((xI M a0 4) = 0 → (xSp l g mX8_storeFirst 0 0 [va_rf (some a0), va_rf r1, .long j2] M (fun ρ29 M28 => ∃ v27 : Int32, ρ29 = some (.int v27) ∧ (Q (some (.int v27)) M28))))))) : xWp l g mX8_store 0 0 0 [(1, va_rf (some a0)), (1, va_rf r1), (2, .long j2), (0, .null)] [] (0, 0) M Q := by
  refine xr_aload_n 0 dX8_store_0 rfl rfl ?_
  obtain ⟨t1, h⟩ := h
  refine yr_getI dX8_store_1 fl_RX8_41 rfl t1 ?_
  obtain ⟨ht, hf⟩ := h
  refine xr_if_ne 14 dX8_store_4 (by decide) (fun c31 => ?_) (fun c31 => ?_)
  · replace h := ht c31
    clear ht hf
    refine xr_aload_n 0 dX8_store_14 rfl rfl ?_
    refine xr_aload_n 1 dX8_store_15 rfl rfl ?_
    refine yr_callV (r := (some a0)) [va_rf r1] dX8_store_16 cv_X8_store_74 rfl t1 rfl (Nat.le_trans wt_0 (by decide)) (by decide) (xSp.mono h ?_)
    clear h
    intro ρ4 M3 h
    obtain ⟨rfl, h⟩ := h
    refine xr_aload_n 0 dX8_store_19 rfl rfl ?_
    obtain ⟨t6, h⟩ := h
    refine yr_getI dX8_store_20 fl_RX8_51 rfl t6 ?_
    refine xr_aload_n 0 dX8_store_23 rfl rfl ?_
    refine yr_getR dX8_store_24 fl_RX8_34 rfl t6 ?_
    obtain ⟨a7, e8, h⟩ := h
    obtain ⟨t9, h⟩ := h
    refine yr_getI dX8_store_27 fl_RX8_58 e8 t9 ?_
    obtain ⟨ht, hf⟩ := h
    refine xr_icmp_ge 40 dX8_store_30 (by decide) (fun c26 => ?_) (fun c26 => ?_)
    · replace h := ht c26
      clear ht hf
      refine xr_aload_n 0 dX8_store_40 rfl rfl ?_
      refine yr_getI dX8_store_41 fl_RX8_44 rfl t6 ?_
      refine xr_aload_n 1 dX8_store_44 rfl rfl ?_
      obtain ⟨a10, e11, h⟩ := h
      obtain ⟨t12, h⟩ := h
      refine yr_getI dX8_store_45 fl_RX8_61 e11 t12 ?_
      obtain ⟨ht, hf⟩ := h
      refine xr_icmp_ge 58 dX8_store_48 (by decide) (fun c21 => ?_) (fun c21 => ?_)
      · replace h := ht c21
        clear ht hf
        refine xr_aload_n 0 dX8_store_58 rfl rfl ?_
        refine xr_lload_n 2 dX8_store_59 rfl rfl ?_
        refine yr_callV (r := (some a0)) [.long j2] dX8_store_60 cv_X8_store_92 rfl t6 rfl (Nat.le_trans wt_0 (by decide)) (by decide) (xSp.mono h ?_)
        clear h
        intro ρ15 M14 h
        obtain ⟨v13, rfl, h⟩ := h
        exact xr_retv (by decide) (xRi rfl rfl dX8_store_63) h
      · replace h := hf c21
        clear ht hf
        refine xr_aload_n 0 dX8_store_51 rfl rfl ?_
        refine xr_aload_n 1 dX8_store_52 rfl rfl ?_
        refine xr_lload_n 2 dX8_store_53 rfl rfl ?_
        refine yr_callV (r := (some a0)) [va_rf r1, .long j2] dX8_store_54 cv_X8_store_89 rfl t6 rfl (Nat.le_trans wt_0 (by decide)) (by decide) (xSp.mono h ?_)
        clear h
        intro ρ19 M18 h
        obtain ⟨v17, rfl, h⟩ := h
        exact xr_retv (by decide) (xRi rfl rfl dX8_store_57) h
    · replace h := hf c26
      clear ht hf
      refine xr_aload_n 0 dX8_store_33 rfl rfl ?_
      refine xr_aload_n 1 dX8_store_34 rfl rfl ?_
      refine xr_lload_n 2 dX8_store_35 rfl rfl ?_
      refine yr_callV (r := (some a0)) [va_rf r1, .long j2] dX8_store_36 cv_X8_store_86 rfl t6 rfl (Nat.le_trans wt_0 (by decide)) (by decide) (xSp.mono h ?_)
      clear h
      intro ρ24 M23 h
      obtain ⟨v22, rfl, h⟩ := h
      exact xr_retv (by decide) (xRi rfl rfl dX8_store_39) h
  · replace h := hf c31
    clear ht hf
    refine xr_aload_n 0 dX8_store_7 rfl rfl ?_
    refine xr_aload_n 1 dX8_store_8 rfl rfl ?_
    refine xr_lload_n 2 dX8_store_9 rfl rfl ?_
    refine yr_callV (r := (some a0)) [va_rf r1, .long j2] dX8_store_10 cv_X8_store_82 rfl t1 rfl (Nat.le_trans wt_0 (by decide)) (by decide) (xSp.mono h ?_)
    clear h
    intro ρ29 M28 h
    obtain ⟨v27, rfl, h⟩ := h
    exact xr_retv (by decide) (xRi rfl rfl dX8_store_13) h
theorem dX8_storeFirst_0 : decode cX8_storeFirst 0 = .ok (.iconst 0, 1) := by decide +kernel
theorem dX8_storeFirst_1 : decode cX8_storeFirst 1 = .ok (.istore 4, 2) := by decide +kernel
theorem dX8_storeFirst_3 : decode cX8_storeFirst 3 = .ok (.iload 4, 2) := by decide +kernel
theorem dX8_storeFirst_5 : decode cX8_storeFirst 5 = .ok (.aload_n 1, 1) := by decide +kernel
theorem dX8_storeFirst_6 : decode cX8_storeFirst 6 = .ok (.getfield 61, 3) := by decide +kernel
theorem dX8_storeFirst_9 : decode cX8_storeFirst 9 = .ok (.if_icmp .ge 22, 3) := by decide +kernel
theorem dX8_storeFirst_12 : decode cX8_storeFirst 12 = .ok (.aload_n 0, 1) := by decide +kernel
theorem dX8_storeFirst_13 : decode cX8_storeFirst 13 = .ok (.getfield 18, 3) := by decide +kernel
theorem dX8_storeFirst_16 : decode cX8_storeFirst 16 = .ok (.aload_n 1, 1) := by decide +kernel
theorem dX8_storeFirst_17 : decode cX8_storeFirst 17 = .ok (.iload 4, 2) := by decide +kernel
theorem dX8_storeFirst_19 : decode cX8_storeFirst 19 = .ok (.invokevirtual 66, 3) := by decide +kernel
theorem dX8_storeFirst_22 : decode cX8_storeFirst 22 = .ok (.invokevirtual 96, 3) := by decide +kernel
theorem dX8_storeFirst_25 : decode cX8_storeFirst 25 = .ok (.iinc 4 1, 3) := by decide +kernel
theorem dX8_storeFirst_28 : decode cX8_storeFirst 28 = .ok (.goto (-25), 3) := by decide +kernel
theorem dX8_storeFirst_31 : decode cX8_storeFirst 31 = .ok (.aload_n 0, 1) := by decide +kernel
theorem dX8_storeFirst_32 : decode cX8_storeFirst 32 = .ok (.aload_n 0, 1) := by decide +kernel
theorem dX8_storeFirst_33 : decode cX8_storeFirst 33 = .ok (.getfield 18, 3) := by decide +kernel
theorem dX8_storeFirst_36 : decode cX8_storeFirst 36 = .ok (.putfield 34, 3) := by decide +kernel
theorem dX8_storeFirst_39 : decode cX8_storeFirst 39 = .ok (.aload_n 0, 1) := by decide +kernel
theorem dX8_storeFirst_40 : decode cX8_storeFirst 40 = .ok (.lload_n 2, 1) := by decide +kernel
theorem dX8_storeFirst_41 : decode cX8_storeFirst 41 = .ok (.invokevirtual 92, 3) := by decide +kernel
theorem dX8_storeFirst_44 : decode cX8_storeFirst 44 = .ok (.ireturn, 1) := by decide +kernel
set_option maxRecDepth 100000 in
set_option maxHeartbeats 4000000 in
theorem bX8_storeFirst_3 {l : Launch} {g : xG} (a0 : Nat) (r1 : Option Nat) (j2 : Int64) (w3 : Value) (x4 : Int32) {M : xM} {Q : Option Value → xM → Prop} (h : (∃ a1, r1 = some a1 ∧ xat M a1 4 ∧ (((xI M a1 1) ≤ x4 → (xat M a0 5 ∧ (xSp l g mX8_storeHere 0 0 [va_rf (some a0), .long j2] (xsR M a0 5 (xR M a0 2)) (fun ρ7 M6 => ∃ v5 : Int32, ρ7 = some (.int v5) ∧ (Q (some (.int v5)) M6))))) ∧ (¬ (xI M a1 1) ≤ x4 → (xat M a0 5 ∧ (xSp l g mX7_byteAt 0 0 [va_rf r1, .int x4] M (fun ρ12 M11 => ∃ v10 : Int32, ρ12 = some (.int v10) ∧ (∃ a18, (xR M a0 2) = some a18 ∧ xat M11 a18 1 ∧ xSp l g mX3_appendToPrefix 0 0 [va_rf (xR M a0 2), .int v10] M11 (fun ρ16 M15 => ρ16 = none ∧ xWp l g mX8_storeFirst 0 0 3 [(1, va_rf (some a0)), (1, va_rf r1), (2, .long j2), (0, w3), (1, .int (x4 + 1))] [] (0, 0) M15 Q))))))))) : xWp l g mX8_storeFirst 0 0 3 [(1, va_rf (some a0)), (1, va_rf r1), (2, .long j2), (0, w3), (1, .int x4)] [] (0, 0) M Q := by
  refine xr_iload dX8_storeFirst_3 rfl ?_
  refine xr_aload_n 1 dX8_storeFirst_5 rfl rfl ?_
  obtain ⟨a1, e2, h⟩ := h
  obtain ⟨t3, h⟩ := h
  refine yr_getI dX8_storeFirst_6 fl_RX8_61 e2 t3 ?_
  obtain ⟨ht, hf⟩ := h
  refine xr_icmp_ge 31 dX8_storeFirst_9 (by decide) (fun c21 => ?_) (fun c21 => ?_)
  · replace h := ht c21
    clear ht hf
    refine xr_aload_n 0 dX8_storeFirst_31 rfl rfl ?_
    refine xr_aload_n 0 dX8_storeFirst_32 rfl rfl ?_
    obtain ⟨t4, h⟩ := h
    refine yr_getR dX8_storeFirst_33 fl_RX8_18 rfl t4 ?_
    refine yr_putR dX8_storeFirst_36 fp_RX8_34 rfl t4 ?_
    refine xr_aload_n 0 dX8_storeFirst_39 rfl rfl ?_
    refine xr_lload_n 2 dX8_storeFirst_40 rfl rfl ?_
    refine yr_callV (r := (some a0)) [.long j2] dX8_storeFirst_41 cv_X8_storeFirst_92 rfl t4 rfl (Nat.le_trans wt_0 (by decide)) (by decide) (xSp.mono h ?_)
    clear h
    intro ρ7 M6 h
    obtain ⟨v5, rfl, h⟩ := h
    exact xr_retv (by decide) (xRi rfl rfl dX8_storeFirst_44) h
  · replace h := hf c21
    clear ht hf
    refine xr_aload_n 0 dX8_storeFirst_12 rfl rfl ?_
    obtain ⟨t9, h⟩ := h
    refine yr_getR dX8_storeFirst_13 fl_RX8_18 rfl t9 ?_
    refine xr_aload_n 1 dX8_storeFirst_16 rfl rfl ?_
    refine xr_iload dX8_storeFirst_17 rfl ?_
    refine yr_callV (r := r1) [.int x4] dX8_storeFirst_19 cv_X8_storeFirst_66 e2 t3 rfl (Nat.le_trans (wt_r wt_0) (by decide)) (by decide) (xSp.mono h ?_)
    clear h
    intro ρ12 M11 h
    obtain ⟨v10, rfl, h⟩ := h
    obtain ⟨a18, e19, h⟩ := h
    obtain ⟨t20, h⟩ := h
    refine yr_callV (r := (xR M a0 2)) [.int v10] dX8_storeFirst_22 cv_X8_storeFirst_96 e19 t20 rfl (Nat.le_trans wt_0 (by decide)) (by decide) (xSp.mono h ?_)
    clear h
    intro ρ16 M15 h
    obtain ⟨rfl, h⟩ := h
    refine ziinc (x4 + 1) dX8_storeFirst_25 rfl rfl (L1 := [(1, va_rf (some a0)), (1, va_rf r1), (2, .long j2), (0, w3), (1, .int (x4 + 1))]) (by decide) rfl ?_
    refine xr_goto 3 dX8_storeFirst_28 (by decide) ?_
    exact h
set_option maxRecDepth 100000 in
set_option maxHeartbeats 4000000 in
theorem bX8_storeFirst_0 {l : Launch} {g : xG} (a0 : Nat) (r1 : Option Nat) (j2 : Int64) {M : xM} {Q : Option Value → xM → Prop} (h : xWp l g mX8_storeFirst 0 0 3 [(1, va_rf (some a0)), (1, va_rf r1), (2, .long j2), (0, .null), (1, .int 0)] [] (0, 0) M Q) : xWp l g mX8_storeFirst 0 0 0 [(1, va_rf (some a0)), (1, va_rf r1), (2, .long j2), (0, .null), (0, .null)] [] (0, 0) M Q := by
  refine xr_iconst 0 dX8_storeFirst_0 (by decide) ?_
  refine zistore dX8_storeFirst_1 (L1 := [(1, va_rf (some a0)), (1, va_rf r1), (2, .long j2), (0, .null), (1, .int 0)]) (by decide) rfl ?_
  exact h
theorem dX8_storeHere_0 : decode cX8_storeHere 0 = .ok (.aload_n 0, 1) := by decide +kernel
theorem dX8_storeHere_1 : decode cX8_storeHere 1 = .ok (.getfield 34, 3) := by decide +kernel
theorem dX8_storeHere_4 : decode cX8_storeHere 4 = .ok (.getfield 78, 3) := by decide +kernel
theorem dX8_storeHere_7 : decode cX8_storeHere 7 = .ok (.istore_n 3, 1) := by decide +kernel
theorem dX8_storeHere_8 : decode cX8_storeHere 8 = .ok (.iload_n 3, 1) := by decide +kernel
theorem dX8_storeHere_9 : decode cX8_storeHere 9 = .ok (.ifCond .eq 17, 3) := by decide +kernel
theorem dX8_storeHere_12 : decode cX8_storeHere 12 = .ok (.aload_n 0, 1) := by decide +kernel
theorem dX8_storeHere_13 : decode cX8_storeHere 13 = .ok (.getfield 34, 3) := by decide +kernel
theorem dX8_storeHere_16 : decode cX8_storeHere 16 = .ok (.getfield 100, 3) := by decide +kernel
theorem dX8_storeHere_19 : decode cX8_storeHere 19 = .ok (.lload_n 1, 1) := by decide +kernel
theorem dX8_storeHere_20 : decode cX8_storeHere 20 = .ok (.lcmp, 1) := by decide +kernel
theorem dX8_storeHere_21 : decode cX8_storeHere 21 = .ok (.ifCond .ne 5, 3) := by decide +kernel
theorem dX8_storeHere_24 : decode cX8_storeHere 24 = .ok (.iconst 0, 1) := by decide +kernel
theorem dX8_storeHere_25 : decode cX8_storeHere 25 = .ok (.ireturn, 1) := by decide +kernel
theorem dX8_storeHere_26 : decode cX8_storeHere 26 = .ok (.aload_n 0, 1) := by decide +kernel
theorem dX8_storeHere_27 : decode cX8_storeHere 27 = .ok (.getfield 34, 3) := by decide +kernel
theorem dX8_storeHere_30 : decode cX8_storeHere 30 = .ok (.lload_n 1, 1) := by decide +kernel
theorem dX8_storeHere_31 : decode cX8_storeHere 31 = .ok (.invokevirtual 104, 3) := by decide +kernel
theorem dX8_storeHere_34 : decode cX8_storeHere 34 = .ok (.aload_n 0, 1) := by decide +kernel
theorem dX8_storeHere_35 : decode cX8_storeHere 35 = .ok (.getfield 34, 3) := by decide +kernel
theorem dX8_storeHere_38 : decode cX8_storeHere 38 = .ok (.invokevirtual 108, 3) := by decide +kernel
theorem dX8_storeHere_41 : decode cX8_storeHere 41 = .ok (.iload_n 3, 1) := by decide +kernel
theorem dX8_storeHere_42 : decode cX8_storeHere 42 = .ok (.ifCond .eq 5, 3) := by decide +kernel
theorem dX8_storeHere_45 : decode cX8_storeHere 45 = .ok (.iconst 0, 1) := by decide +kernel
theorem dX8_storeHere_46 : decode cX8_storeHere 46 = .ok (.ireturn, 1) := by decide +kernel
theorem dX8_storeHere_47 : decode cX8_storeHere 47 = .ok (.aload_n 0, 1) := by decide +kernel
theorem dX8_storeHere_48 : decode cX8_storeHere 48 = .ok (.dup, 1) := by decide +kernel
theorem dX8_storeHere_49 : decode cX8_storeHere 49 = .ok (.getfield 41, 3) := by decide +kernel
theorem dX8_storeHere_52 : decode cX8_storeHere 52 = .ok (.iconst 1, 1) := by decide +kernel
theorem dX8_storeHere_53 : decode cX8_storeHere 53 = .ok (.iadd, 1) := by decide +kernel
theorem dX8_storeHere_54 : decode cX8_storeHere 54 = .ok (.putfield 41, 3) := by decide +kernel
theorem dX8_storeHere_57 : decode cX8_storeHere 57 = .ok (.iconst 1, 1) := by decide +kernel
theorem dX8_storeHere_58 : decode cX8_storeHere 58 = .ok (.ireturn, 1) := by decide +kernel
set_option maxRecDepth 100000 in
set_option maxHeartbeats 4000000 in
theorem bX8_storeHere_0 {l : Launch} {g : xG} (a0 : Nat) (j1 : Int64) {M : xM} {Q : Option Value → xM → Prop} (h : (xat M a0 5 ∧ (∃ a2, (xR M a0 5) = some a2 ∧ xat M a2 1 ∧ (((xI M a2 3) = 0 → (xSp l g mX3_setValue 0 0 [va_rf (xR M a0 5), .long j1] M (fun ρ7 M6 => ρ7 = none ∧ (xat M6 a0 5 ∧ (∃ a14, (xR M6 a0 5) = some a14 ∧ xat M6 a14 1 ∧ xSp l g mX3_freshen 0 0 [va_rf (xR M6 a0 5)] M6 (fun ρ12 M11 => ρ12 = none ∧ (((xI M a2 3) = 0 → (xat M11 a0 5 ∧ (Q (some (.int 1)) (xsI M11 a0 4 ((xI M11 a0 4) + 1))))) ∧ (¬ (xI M a2 3) = 0 → (Q (some (.int 0)) M11))))))))) ∧ (¬ (xI M a2 3) = 0 → ((¬ (lg_cmp (xJ M a2 4) j1) = 0 → (xSp l g mX3_setValue 0 0 [va_rf (xR M a0 5), .long j1] M (fun ρ21 M20 => ρ21 = none ∧ (xat M20 a0 5 ∧ (∃ a28, (xR M20 a0 5) = some a28 ∧ xat M20 a28 1 ∧ xSp l g mX3_freshen 0 0 [va_rf (xR M20 a0 5)] M20 (fun ρ26 M25 => ρ26 = none ∧ (((xI M a2 3) = 0 → (xat M25 a0 5 ∧ (Q (some (.int 1)) (xsI M25 a0 4 ((xI M25 a0 4) + 1))))) ∧ (¬ (xI M a2 3) = 0 → (Q (some (.int 0)) M25))))))))) ∧ ((lg_cmp (xJ M a2 4) j1) = 0 → (Q (some (.int 0)) M)))))))) : xWp l g mX8_storeHere 0 0 0 [(1, va_rf (some a0)), (2, .long j1), (0, .null), (0, .null)] [] (0, 0) M Q := by
  refine xr_aload_n 0 dX8_storeHere_0 rfl rfl ?_
  obtain ⟨t1, h⟩ := h
  refine yr_getR dX8_storeHere_1 fl_RX8_34 rfl t1 ?_
  obtain ⟨a2, e3, h⟩ := h
  obtain ⟨t4, h⟩ := h
  refine yr_getZ dX8_storeHere_4 fl_RX8_78 e3 t4 ?_
  refine zistore_n 3 dX8_storeHere_7 rfl (L1 := [(1, va_rf (some a0)), (2, .long j1), (0, .null), (1, .int (xI M a2 3))]) (by decide) rfl ?_
  refine xr_iload_n 3 dX8_storeHere_8 rfl rfl ?_
  obtain ⟨ht, hf⟩ := h
  refine xr_if_eq 26 dX8_storeHere_9 (by decide) (fun c34 => ?_) (fun c34 => ?_)
  · replace h := ht c34
    clear ht hf
    refine xr_aload_n 0 dX8_storeHere_26 rfl rfl ?_
    refine yr_getR dX8_storeHere_27 fl_RX8_34 rfl t1 ?_
    refine xr_lload_n 1 dX8_storeHere_30 rfl rfl ?_
    refine yr_callV (r := (xR M a0 5)) [.long j1] dX8_storeHere_31 cv_X8_storeHere_104 e3 t4 rfl (Nat.le_trans wt_0 (by decide)) (by decide) (xSp.mono h ?_)
    clear h
    intro ρ7 M6 h
    obtain ⟨rfl, h⟩ := h
    refine xr_aload_n 0 dX8_storeHere_34 rfl rfl ?_
    obtain ⟨t9, h⟩ := h
    refine yr_getR dX8_storeHere_35 fl_RX8_34 rfl t9 ?_
    obtain ⟨a14, e15, h⟩ := h
    obtain ⟨t16, h⟩ := h
    refine yr_callV (r := (xR M6 a0 5)) [] dX8_storeHere_38 cv_X8_storeHere_108 e15 t16 rfl (Nat.le_trans wt_0 (by decide)) (by decide) (xSp.mono h ?_)
    clear h
    intro ρ12 M11 h
    obtain ⟨rfl, h⟩ := h
    refine xr_iload_n 3 dX8_storeHere_41 rfl rfl ?_
    obtain ⟨ht, hf⟩ := h
    refine xr_if_eq 47 dX8_storeHere_42 (by decide) (fun c18 => ?_) (fun c18 => ?_)
    · replace h := ht c18
      clear ht hf
      refine xr_aload_n 0 dX8_storeHere_47 rfl rfl ?_
      refine xr_dup dX8_storeHere_48 (va_rf_cat _) ?_
      obtain ⟨t17, h⟩ := h
      refine yr_getI dX8_storeHere_49 fl_RX8_41 rfl t17 ?_
      refine xr_iconst 1 dX8_storeHere_52 (by decide) ?_
      refine xr_iadd dX8_storeHere_53 ?_
      refine yr_putI dX8_storeHere_54 fp_RX8_41 rfl t17 ?_
      refine xr_iconst 1 dX8_storeHere_57 (by decide) ?_
      exact xr_retv (by decide) (xRi rfl rfl dX8_storeHere_58) h
    · replace h := hf c18
      clear ht hf
      refine xr_iconst 0 dX8_storeHere_45 (by decide) ?_
      exact xr_retv (by decide) (xRi rfl rfl dX8_storeHere_46) h
  · replace h := hf c34
    clear ht hf
    refine xr_aload_n 0 dX8_storeHere_12 rfl rfl ?_
    refine yr_getR dX8_storeHere_13 fl_RX8_34 rfl t1 ?_
    refine yr_getJ dX8_storeHere_16 fl_RX8_100 e3 t4 ?_
    refine xr_lload_n 1 dX8_storeHere_19 rfl rfl ?_
    refine xr_lcmp dX8_storeHere_20 ?_
    obtain ⟨ht, hf⟩ := h
    refine xr_if_ne 26 dX8_storeHere_21 (by decide) (fun c33 => ?_) (fun c33 => ?_)
    · replace h := ht c33
      clear ht hf
      refine xr_aload_n 0 dX8_storeHere_26 rfl rfl ?_
      refine yr_getR dX8_storeHere_27 fl_RX8_34 rfl t1 ?_
      refine xr_lload_n 1 dX8_storeHere_30 rfl rfl ?_
      refine yr_callV (r := (xR M a0 5)) [.long j1] dX8_storeHere_31 cv_X8_storeHere_104 e3 t4 rfl (Nat.le_trans wt_0 (by decide)) (by decide) (xSp.mono h ?_)
      clear h
      intro ρ21 M20 h
      obtain ⟨rfl, h⟩ := h
      refine xr_aload_n 0 dX8_storeHere_34 rfl rfl ?_
      obtain ⟨t23, h⟩ := h
      refine yr_getR dX8_storeHere_35 fl_RX8_34 rfl t23 ?_
      obtain ⟨a28, e29, h⟩ := h
      obtain ⟨t30, h⟩ := h
      refine yr_callV (r := (xR M20 a0 5)) [] dX8_storeHere_38 cv_X8_storeHere_108 e29 t30 rfl (Nat.le_trans wt_0 (by decide)) (by decide) (xSp.mono h ?_)
      clear h
      intro ρ26 M25 h
      obtain ⟨rfl, h⟩ := h
      refine xr_iload_n 3 dX8_storeHere_41 rfl rfl ?_
      obtain ⟨ht, hf⟩ := h
      refine xr_if_eq 47 dX8_storeHere_42 (by decide) (fun c32 => ?_) (fun c32 => ?_)
      · replace h := ht c32
        clear ht hf
        refine xr_aload_n 0 dX8_storeHere_47 rfl rfl ?_
        refine xr_dup dX8_storeHere_48 (va_rf_cat _) ?_
        obtain ⟨t31, h⟩ := h
        refine yr_getI dX8_storeHere_49 fl_RX8_41 rfl t31 ?_
        refine xr_iconst 1 dX8_storeHere_52 (by decide) ?_
        refine xr_iadd dX8_storeHere_53 ?_
        refine yr_putI dX8_storeHere_54 fp_RX8_41 rfl t31 ?_
        refine xr_iconst 1 dX8_storeHere_57 (by decide) ?_
        exact xr_retv (by decide) (xRi rfl rfl dX8_storeHere_58) h
      · replace h := hf c32
        clear ht hf
        refine xr_iconst 0 dX8_storeHere_45 (by decide) ?_
        exact xr_retv (by decide) (xRi rfl rfl dX8_storeHere_46) h
    · replace h := hf c33
      clear ht hf
      refine xr_iconst 0 dX8_storeHere_24 (by decide) ?_
      exact xr_retv (by decide) (xRi rfl rfl dX8_storeHere_25) h
theorem dX8_storeByChild_0 : decode cX8_storeByChild 0 = .ok (.aload_n 0, 1) := by decide +kernel
theorem dX8_storeByChild_1 : decode cX8_storeByChild 1 = .ok (.invokevirtual 111, 3) := by decide +kernel
theorem dX8_storeByChild_4 : decode cX8_storeByChild 4 = .ok (.astore 4, 2) := by decide +kernel
theorem dX8_storeByChild_6 : decode cX8_storeByChild 6 = .ok (.aload 4, 2) := by decide +kernel
theorem dX8_storeByChild_8 : decode cX8_storeByChild 8 = .ok (.ifnonnull 6, 3) := by decide +kernel
theorem dX8_storeByChild_11 : decode cX8_storeByChild 11 = .ok (.bipush (-2), 2) := by decide +kernel
theorem dX8_storeByChild_13 : decode cX8_storeByChild 13 = .ok (.ireturn, 1) := by decide +kernel
theorem dX8_storeByChild_14 : decode cX8_storeByChild 14 = .ok (.aload_n 0, 1) := by decide +kernel
theorem dX8_storeByChild_15 : decode cX8_storeByChild 15 = .ok (.aload 4, 2) := by decide +kernel
theorem dX8_storeByChild_17 : decode cX8_storeByChild 17 = .ok (.aload_n 0, 1) := by decide +kernel
theorem dX8_storeByChild_18 : decode cX8_storeByChild 18 = .ok (.getfield 34, 3) := by decide +kernel
theorem dX8_storeByChild_21 : decode cX8_storeByChild 21 = .ok (.aload_n 1, 1) := by decide +kernel
theorem dX8_storeByChild_22 : decode cX8_storeByChild 22 = .ok (.lload_n 2, 1) := by decide +kernel
theorem dX8_storeByChild_23 : decode cX8_storeByChild 23 = .ok (.invokevirtual 115, 3) := by decide +kernel
theorem dX8_storeByChild_26 : decode cX8_storeByChild 26 = .ok (.iconst 1, 1) := by decide +kernel
theorem dX8_storeByChild_27 : decode cX8_storeByChild 27 = .ok (.ireturn, 1) := by decide +kernel
set_option maxRecDepth 100000 in
set_option maxHeartbeats 4000000 in
theorem bX8_storeByChild_0 {l : Launch} {g : xG} (a0 : Nat) (r1 : Option Nat) (j2 : Int64) {M : xM} {Q : Option Value → xM → Prop} (h : (xat M a0 5 ∧ xSp l g mX8_take 0 0 [va_rf (some a0)] M (fun ρ3 M2 => ∃ v1 : Option Nat, ρ3 = some (va_rf v1) ∧ ((¬ v1 = none → (xat M2 a0 5 ∧ (xSp l g mX8_hang 0 0 [va_rf (some a0), va_rf v1, va_rf (xR M2 a0 5), va_rf r1, .long j2] M2 (fun ρ9 M8 => ρ9 = none ∧ (Q (some (.int 1)) M8))))) ∧ (v1 = none → (Q (some (.int (-2))) M2)))))) : xWp l g mX8_storeByChild 0 0 0 [(1, va_rf (some a0)), (1, va_rf r1), (2, .long j2), (0, .null), (0, .null)] [] (0, 0) M Q := by
  refine xr_aload_n 0 dX8_storeByChild_0 rfl rfl ?_
  obtain ⟨t5, h⟩ := h
  refine yr_callV (r := (some a0)) [] dX8_storeByChild_1 cv_X8_storeByChild_111 rfl t5 rfl (Nat.le_trans wt_0 (by decide)) (by decide) (xSp.mono h ?_)
  clear h
  intro ρ3 M2 h
  obtain ⟨v1, rfl, h⟩ := h
  refine zastore dX8_storeByChild_4 (L1 := [(1, va_rf (some a0)), (1, va_rf r1), (2, .long j2), (0, .null), (1, va_rf v1)]) (by decide) rfl ?_
  refine xr_aload dX8_storeByChild_6 rfl ?_
  obtain ⟨ht, hf⟩ := h
  refine xr_ifnonnull 14 dX8_storeByChild_8 (by decide) (fun c11 => ?_) (fun c11 => ?_)
  · replace h := ht c11
    clear ht hf
    refine xr_aload_n 0 dX8_storeByChild_14 rfl rfl ?_
    refine xr_aload dX8_storeByChild_15 rfl ?_
    refine xr_aload_n 0 dX8_storeByChild_17 rfl rfl ?_
    obtain ⟨t6, h⟩ := h
    refine yr_getR dX8_storeByChild_18 fl_RX8_34 rfl t6 ?_
    refine xr_aload_n 1 dX8_storeByChild_21 rfl rfl ?_
    refine xr_lload_n 2 dX8_storeByChild_22 rfl rfl ?_
    refine yr_callV (r := (some a0)) [va_rf v1, va_rf (xR M2 a0 5), va_rf r1, .long j2] dX8_storeByChild_23 cv_X8_storeByChild_115 rfl t6 rfl (Nat.le_trans wt_0 (by decide)) (by decide) (xSp.mono h ?_)
    clear h
    intro ρ9 M8 h
    obtain ⟨rfl, h⟩ := h
    refine xr_iconst 1 dX8_storeByChild_26 (by decide) ?_
    exact xr_retv (by decide) (xRi rfl rfl dX8_storeByChild_27) h
  · replace h := hf c11
    clear ht hf
    refine xr_bipush (-2) dX8_storeByChild_11 (by decide) ?_
    exact xr_retv (by decide) (xRi rfl rfl dX8_storeByChild_13) h
theorem dX8_storeByCut_0 : decode cX8_storeByCut 0 = .ok (.aload_n 0, 1) := by decide +kernel
theorem dX8_storeByCut_1 : decode cX8_storeByCut 1 = .ok (.getfield 44, 3) := by decide +kernel
theorem dX8_storeByCut_4 : decode cX8_storeByCut 4 = .ok (.aload_n 1, 1) := by decide +kernel
theorem dX8_storeByCut_5 : decode cX8_storeByCut 5 = .ok (.getfield 61, 3) := by decide +kernel
theorem dX8_storeByCut_8 : decode cX8_storeByCut 8 = .ok (.if_icmp .ne 7, 3) := by decide +kernel
theorem dX8_storeByCut_11 : decode cX8_storeByCut 11 = .ok (.iconst 1, 1) := by decide +kernel
theorem dX8_storeByCut_12 : decode cX8_storeByCut 12 = .ok (.goto 4, 3) := by decide +kernel
theorem dX8_storeByCut_15 : decode cX8_storeByCut 15 = .ok (.iconst 0, 1) := by decide +kernel
theorem dX8_storeByCut_16 : decode cX8_storeByCut 16 = .ok (.istore 4, 2) := by decide +kernel
theorem dX8_storeByCut_18 : decode cX8_storeByCut 18 = .ok (.iload 4, 2) := by decide +kernel
theorem dX8_storeByCut_20 : decode cX8_storeByCut 20 = .ok (.ifCond .eq 7, 3) := by decide +kernel
theorem dX8_storeByCut_23 : decode cX8_storeByCut 23 = .ok (.iconst 1, 1) := by decide +kernel
theorem dX8_storeByCut_24 : decode cX8_storeByCut 24 = .ok (.goto 4, 3) := by decide +kernel
theorem dX8_storeByCut_27 : decode cX8_storeByCut 27 = .ok (.iconst 2, 1) := by decide +kernel
theorem dX8_storeByCut_28 : decode cX8_storeByCut 28 = .ok (.istore 5, 2) := by decide +kernel
theorem dX8_storeByCut_30 : decode cX8_storeByCut 30 = .ok (.aload_n 0, 1) := by decide +kernel
theorem dX8_storeByCut_31 : decode cX8_storeByCut 31 = .ok (.getfield 37, 3) := by decide +kernel
theorem dX8_storeByCut_34 : decode cX8_storeByCut 34 = .ok (.iload 5, 2) := by decide +kernel
theorem dX8_storeByCut_36 : decode cX8_storeByCut 36 = .ok (.iadd, 1) := by decide +kernel
theorem dX8_storeByCut_37 : decode cX8_storeByCut 37 = .ok (.sipush 200, 3) := by decide +kernel
theorem dX8_storeByCut_40 : decode cX8_storeByCut 40 = .ok (.if_icmp .le 6, 3) := by decide +kernel
theorem dX8_storeByCut_43 : decode cX8_storeByCut 43 = .ok (.bipush (-2), 2) := by decide +kernel
theorem dX8_storeByCut_45 : decode cX8_storeByCut 45 = .ok (.ireturn, 1) := by decide +kernel
theorem dX8_storeByCut_46 : decode cX8_storeByCut 46 = .ok (.aload_n 0, 1) := by decide +kernel
theorem dX8_storeByCut_47 : decode cX8_storeByCut 47 = .ok (.invokevirtual 111, 3) := by decide +kernel
theorem dX8_storeByCut_50 : decode cX8_storeByCut 50 = .ok (.astore 6, 2) := by decide +kernel
theorem dX8_storeByCut_52 : decode cX8_storeByCut 52 = .ok (.iload 4, 2) := by decide +kernel
theorem dX8_storeByCut_54 : decode cX8_storeByCut 54 = .ok (.ifCond .eq 7, 3) := by decide +kernel
theorem dX8_storeByCut_57 : decode cX8_storeByCut 57 = .ok (.aconst_null, 1) := by decide +kernel
theorem dX8_storeByCut_58 : decode cX8_storeByCut 58 = .ok (.goto 7, 3) := by decide +kernel
theorem dX8_storeByCut_61 : decode cX8_storeByCut 61 = .ok (.aload_n 0, 1) := by decide +kernel
theorem dX8_storeByCut_62 : decode cX8_storeByCut 62 = .ok (.invokevirtual 111, 3) := by decide +kernel
theorem dX8_storeByCut_65 : decode cX8_storeByCut 65 = .ok (.astore 7, 2) := by decide +kernel
theorem dX8_storeByCut_67 : decode cX8_storeByCut 67 = .ok (.aload 6, 2) := by decide +kernel
theorem dX8_storeByCut_69 : decode cX8_storeByCut 69 = .ok (.ifnonnull 6, 3) := by decide +kernel
theorem dX8_storeByCut_72 : decode cX8_storeByCut 72 = .ok (.bipush (-2), 2) := by decide +kernel
theorem dX8_storeByCut_74 : decode cX8_storeByCut 74 = .ok (.ireturn, 1) := by decide +kernel
theorem dX8_storeByCut_75 : decode cX8_storeByCut 75 = .ok (.aload_n 0, 1) := by decide +kernel
theorem dX8_storeByCut_76 : decode cX8_storeByCut 76 = .ok (.aload_n 0, 1) := by decide +kernel
theorem dX8_storeByCut_77 : decode cX8_storeByCut 77 = .ok (.getfield 34, 3) := by decide +kernel
theorem dX8_storeByCut_80 : decode cX8_storeByCut 80 = .ok (.aload 6, 2) := by decide +kernel
theorem dX8_storeByCut_82 : decode cX8_storeByCut 82 = .ok (.invokevirtual 119, 3) := by decide +kernel
theorem dX8_storeByCut_85 : decode cX8_storeByCut 85 = .ok (.aload 7, 2) := by decide +kernel
theorem dX8_storeByCut_87 : decode cX8_storeByCut 87 = .ok (.ifnull 16, 3) := by decide +kernel
theorem dX8_storeByCut_90 : decode cX8_storeByCut 90 = .ok (.aload_n 0, 1) := by decide +kernel
theorem dX8_storeByCut_91 : decode cX8_storeByCut 91 = .ok (.aload 7, 2) := by decide +kernel
theorem dX8_storeByCut_93 : decode cX8_storeByCut 93 = .ok (.aload 6, 2) := by decide +kernel
theorem dX8_storeByCut_95 : decode cX8_storeByCut 95 = .ok (.aload_n 1, 1) := by decide +kernel
theorem dX8_storeByCut_96 : decode cX8_storeByCut 96 = .ok (.lload_n 2, 1) := by decide +kernel
theorem dX8_storeByCut_97 : decode cX8_storeByCut 97 = .ok (.invokevirtual 115, 3) := by decide +kernel
theorem dX8_storeByCut_100 : decode cX8_storeByCut 100 = .ok (.goto 19, 3) := by decide +kernel
theorem dX8_storeByCut_103 : decode cX8_storeByCut 103 = .ok (.aload 6, 2) := by decide +kernel
theorem dX8_storeByCut_105 : decode cX8_storeByCut 105 = .ok (.lload_n 2, 1) := by decide +kernel
theorem dX8_storeByCut_106 : decode cX8_storeByCut 106 = .ok (.invokevirtual 104, 3) := by decide +kernel
theorem dX8_storeByCut_109 : decode cX8_storeByCut 109 = .ok (.aload_n 0, 1) := by decide +kernel
theorem dX8_storeByCut_110 : decode cX8_storeByCut 110 = .ok (.dup, 1) := by decide +kernel
theorem dX8_storeByCut_111 : decode cX8_storeByCut 111 = .ok (.getfield 41, 3) := by decide +kernel
theorem dX8_storeByCut_114 : decode cX8_storeByCut 114 = .ok (.iconst 1, 1) := by decide +kernel
theorem dX8_storeByCut_115 : decode cX8_storeByCut 115 = .ok (.iadd, 1) := by decide +kernel
theorem dX8_storeByCut_116 : decode cX8_storeByCut 116 = .ok (.putfield 41, 3) := by decide +kernel
theorem dX8_storeByCut_119 : decode cX8_storeByCut 119 = .ok (.iconst 1, 1) := by decide +kernel
theorem dX8_storeByCut_120 : decode cX8_storeByCut 120 = .ok (.ireturn, 1) := by decide +kernel
set_option maxRecDepth 100000 in
set_option maxHeartbeats 4000000 in
theorem bX8_storeByCut_65 {l : Launch} {g : xG} (a0 : Nat) (r1 : Option Nat) (j2 : Int64) (w3 : Value) (x4 : Int32) (x5 : Int32) (r6 : Option Nat) (w7 : Value) (sr0 : Option Nat) {M : xM} {Q : Option Value → xM → Prop} (h : ((¬ r6 = none → (xat M a0 5 ∧ (xSp l g mX8_insertAbove 0 0 [va_rf (some a0), va_rf (xR M a0 5), va_rf r6] M (fun ρ4 M3 => ρ4 = none ∧ ((sr0 = none → (∃ a10, r6 = some a10 ∧ xat M3 a10 1 ∧ xSp l g mX3_setValue 0 0 [va_rf r6, .long j2] M3 (fun ρ8 M7 => ρ8 = none ∧ (xat M7 a0 5 ∧ (Q (some (.int 1)) (xsI M7 a0 4 ((xI M7 a0 4) + 1))))))) ∧ (¬ sr0 = none → (xat M3 a0 5 ∧ xSp l g mX8_hang 0 0 [va_rf (some a0), va_rf sr0, va_rf r6, va_rf r1, .long j2] M3 (fun ρ16 M15 => ρ16 = none ∧ (Q (some (.int 1)) M15))))))))) ∧ (r6 = none → (Q (some (.int (-2))) M)))) : xWp l g mX8_storeByCut 0 0 65 [(1, va_rf (some a0)), (1, va_rf r1), (2, .long j2), (0, w3), (1, .int x4), (1, .int x5), (1, va_rf r6), (0, w7)] [va_rf sr0] (0, 0) M Q := by
  refine zastore dX8_storeByCut_65 (L1 := [(1, va_rf (some a0)), (1, va_rf r1), (2, .long j2), (0, w3), (1, .int x4), (1, .int x5), (1, va_rf r6), (1, va_rf sr0)]) (by decide) rfl ?_
  refine xr_aload dX8_storeByCut_67 rfl ?_
  obtain ⟨ht, hf⟩ := h
  refine xr_ifnonnull 75 dX8_storeByCut_69 (by decide) (fun c20 => ?_) (fun c20 => ?_)
  · replace h := ht c20
    clear ht hf
    refine xr_aload_n 0 dX8_storeByCut_75 rfl rfl ?_
    refine xr_aload_n 0 dX8_storeByCut_76 rfl rfl ?_
    obtain ⟨t1, h⟩ := h
    refine yr_getR dX8_storeByCut_77 fl_RX8_34 rfl t1 ?_
    refine xr_aload dX8_storeByCut_80 rfl ?_
    refine yr_callV (r := (some a0)) [va_rf (xR M a0 5), va_rf r6] dX8_storeByCut_82 cv_X8_storeByCut_119 rfl t1 rfl (Nat.le_trans wt_0 (by decide)) (by decide) (xSp.mono h ?_)
    clear h
    intro ρ4 M3 h
    obtain ⟨rfl, h⟩ := h
    refine xr_aload dX8_storeByCut_85 rfl ?_
    obtain ⟨ht, hf⟩ := h
    refine xr_ifnull 103 dX8_storeByCut_87 (by decide) (fun c19 => ?_) (fun c19 => ?_)
    · replace h := ht c19
      clear ht hf
      refine xr_aload dX8_storeByCut_103 rfl ?_
      refine xr_lload_n 2 dX8_storeByCut_105 rfl rfl ?_
      obtain ⟨a10, e11, h⟩ := h
      obtain ⟨t12, h⟩ := h
      refine yr_callV (r := r6) [.long j2] dX8_storeByCut_106 cv_X8_storeByCut_104 e11 t12 rfl (Nat.le_trans wt_0 (by decide)) (by decide) (xSp.mono h ?_)
      clear h
      intro ρ8 M7 h
      obtain ⟨rfl, h⟩ := h
      refine xr_aload_n 0 dX8_storeByCut_109 rfl rfl ?_
      refine xr_dup dX8_storeByCut_110 (va_rf_cat _) ?_
      obtain ⟨t13, h⟩ := h
      refine yr_getI dX8_storeByCut_111 fl_RX8_41 rfl t13 ?_
      refine xr_iconst 1 dX8_storeByCut_114 (by decide) ?_
      refine xr_iadd dX8_storeByCut_115 ?_
      refine yr_putI dX8_storeByCut_116 fp_RX8_41 rfl t13 ?_
      refine xr_iconst 1 dX8_storeByCut_119 (by decide) ?_
      exact xr_retv (by decide) (xRi rfl rfl dX8_storeByCut_120) h
    · replace h := hf c19
      clear ht hf
      refine xr_aload_n 0 dX8_storeByCut_90 rfl rfl ?_
      refine xr_aload dX8_storeByCut_91 rfl ?_
      refine xr_aload dX8_storeByCut_93 rfl ?_
      refine xr_aload_n 1 dX8_storeByCut_95 rfl rfl ?_
      refine xr_lload_n 2 dX8_storeByCut_96 rfl rfl ?_
      obtain ⟨t18, h⟩ := h
      refine yr_callV (r := (some a0)) [va_rf sr0, va_rf r6, va_rf r1, .long j2] dX8_storeByCut_97 cv_X8_storeByCut_115 rfl t18 rfl (Nat.le_trans wt_0 (by decide)) (by decide) (xSp.mono h ?_)
      clear h
      intro ρ16 M15 h
      obtain ⟨rfl, h⟩ := h
      refine xr_goto 119 dX8_storeByCut_100 (by decide) ?_
      refine xr_iconst 1 dX8_storeByCut_119 (by decide) ?_
      exact xr_retv (by decide) (xRi rfl rfl dX8_storeByCut_120) h
  · replace h := hf c20
    clear ht hf
    refine xr_bipush (-2) dX8_storeByCut_72 (by decide) ?_
    exact xr_retv (by decide) (xRi rfl rfl dX8_storeByCut_74) h
set_option maxRecDepth 100000 in
set_option maxHeartbeats 4000000 in
theorem bX8_storeByCut_16 {l : Launch} {g : xG} (a0 : Nat) (r1 : Option Nat) (j2 : Int64) (w3 : Value) (w4 : Value) (w5 : Value) (w6 : Value) (w7 : Value) (sx0 : Int32) {M : xM} {Q : Option Value → xM → Prop} (h : ((sx0 = 0 → (xat M a0 5 ∧ ((((xI M a0 3) + 2) ≤ 200 → (xSp l g mX8_take 0 0 [va_rf (some a0)] M (fun ρ4 M3 => ∃ v2 : Option Nat, ρ4 = some (va_rf v2) ∧ ((sx0 = 0 → (xat M3 a0 5 ∧ xSp l g mX8_take 0 0 [va_rf (some a0)] M3 (fun ρ8 M7 => ∃ v6 : Option Nat, ρ8 = some (va_rf v6) ∧ xWp l g mX8_storeByCut 0 0 65 [(1, va_rf (some a0)), (1, va_rf r1), (2, .long j2), (0, w3), (1, .int sx0), (1, .int 2), (1, va_rf v2), (0, w7)] [va_rf v6] (0, 0) M7 Q))) ∧ (¬ sx0 = 0 → xWp l g mX8_storeByCut 0 0 65 [(1, va_rf (some a0)), (1, va_rf r1), (2, .long j2), (0, w3), (1, .int sx0), (1, .int 2), (1, va_rf v2), (0, w7)] [va_rf none] (0, 0) M3 Q))))) ∧ (¬ ((xI M a0 3) + 2) ≤ 200 → (Q (some (.int (-2))) M))))) ∧ (¬ sx0 = 0 → (xat M a0 5 ∧ ((((xI M a0 3) + 1) ≤ 200 → (xSp l g mX8_take 0 0 [va_rf (some a0)] M (fun ρ16 M15 => ∃ v14 : Option Nat, ρ16 = some (va_rf v14) ∧ ((sx0 = 0 → (xat M15 a0 5 ∧ xSp l g mX8_take 0 0 [va_rf (some a0)] M15 (fun ρ20 M19 => ∃ v18 : Option Nat, ρ20 = some (va_rf v18) ∧ xWp l g mX8_storeByCut 0 0 65 [(1, va_rf (some a0)), (1, va_rf r1), (2, .long j2), (0, w3), (1, .int sx0), (1, .int 1), (1, va_rf v14), (0, w7)] [va_rf v18] (0, 0) M19 Q))) ∧ (¬ sx0 = 0 → xWp l g mX8_storeByCut 0 0 65 [(1, va_rf (some a0)), (1, va_rf r1), (2, .long j2), (0, w3), (1, .int sx0), (1, .int 1), (1, va_rf v14), (0, w7)] [va_rf none] (0, 0) M15 Q))))) ∧ (¬ ((xI M a0 3) + 1) ≤ 200 → (Q (some (.int (-2))) M))))))) : xWp l g mX8_storeByCut 0 0 16 [(1, va_rf (some a0)), (1, va_rf r1), (2, .long j2), (0, w3), (0, w4), (0, w5), (0, w6), (0, w7)] [.int sx0] (0, 0) M Q := by
  refine zistore dX8_storeByCut_16 (L1 := [(1, va_rf (some a0)), (1, va_rf r1), (2, .long j2), (0, w3), (1, .int sx0), (0, w5), (0, w6), (0, w7)]) (by decide) rfl ?_
  refine xr_iload dX8_storeByCut_18 rfl ?_
  obtain ⟨ht, hf⟩ := h
  refine xr_if_eq 27 dX8_storeByCut_20 (by decide) (fun c25 => ?_) (fun c25 => ?_)
  · replace h := ht c25
    clear ht hf
    refine xr_iconst 2 dX8_storeByCut_27 (by decide) ?_
    refine zistore dX8_storeByCut_28 (L1 := [(1, va_rf (some a0)), (1, va_rf r1), (2, .long j2), (0, w3), (1, .int sx0), (1, .int 2), (0, w6), (0, w7)]) (by decide) rfl ?_
    refine xr_aload_n 0 dX8_storeByCut_30 rfl rfl ?_
    obtain ⟨t1, h⟩ := h
    refine yr_getI dX8_storeByCut_31 fl_RX8_37 rfl t1 ?_
    refine xr_iload dX8_storeByCut_34 rfl ?_
    refine xr_iadd dX8_storeByCut_36 ?_
    refine xr_sipush 200 dX8_storeByCut_37 (by decide) ?_
    obtain ⟨ht, hf⟩ := h
    refine xr_icmp_le 46 dX8_storeByCut_40 (by decide) (fun c12 => ?_) (fun c12 => ?_)
    · replace h := ht c12
      clear ht hf
      refine xr_aload_n 0 dX8_storeByCut_46 rfl rfl ?_
      refine yr_callV (r := (some a0)) [] dX8_storeByCut_47 cv_X8_storeByCut_111 rfl t1 rfl (Nat.le_trans wt_0 (by decide)) (by decide) (xSp.mono h ?_)
      clear h
      intro ρ4 M3 h
      obtain ⟨v2, rfl, h⟩ := h
      refine zastore dX8_storeByCut_50 (L1 := [(1, va_rf (some a0)), (1, va_rf r1), (2, .long j2), (0, w3), (1, .int sx0), (1, .int 2), (1, va_rf v2), (0, w7)]) (by decide) rfl ?_
      refine xr_iload dX8_storeByCut_52 rfl ?_
      obtain ⟨ht, hf⟩ := h
      refine xr_if_eq 61 dX8_storeByCut_54 (by decide) (fun c11 => ?_) (fun c11 => ?_)
      · replace h := ht c11
        clear ht hf
        refine xr_aload_n 0 dX8_storeByCut_61 rfl rfl ?_
        obtain ⟨t10, h⟩ := h
        refine yr_callV (r := (some a0)) [] dX8_storeByCut_62 cv_X8_storeByCut_111 rfl t10 rfl (Nat.le_trans wt_0 (by decide)) (by decide) (xSp.mono h ?_)
        clear h
        intro ρ8 M7 h
        obtain ⟨v6, rfl, h⟩ := h
        exact h
      · replace h := hf c11
        clear ht hf
        refine xr_null dX8_storeByCut_57 ?_
        refine xr_goto 65 dX8_storeByCut_58 (by decide) ?_
        exact h
    · replace h := hf c12
      clear ht hf
      refine xr_bipush (-2) dX8_storeByCut_43 (by decide) ?_
      exact xr_retv (by decide) (xRi rfl rfl dX8_storeByCut_45) h
  · replace h := hf c25
    clear ht hf
    refine xr_iconst 1 dX8_storeByCut_23 (by decide) ?_
    refine xr_goto 28 dX8_storeByCut_24 (by decide) ?_
    refine zistore dX8_storeByCut_28 (L1 := [(1, va_rf (some a0)), (1, va_rf r1), (2, .long j2), (0, w3), (1, .int sx0), (1, .int 1), (0, w6), (0, w7)]) (by decide) rfl ?_
    refine xr_aload_n 0 dX8_storeByCut_30 rfl rfl ?_
    obtain ⟨t13, h⟩ := h
    refine yr_getI dX8_storeByCut_31 fl_RX8_37 rfl t13 ?_
    refine xr_iload dX8_storeByCut_34 rfl ?_
    refine xr_iadd dX8_storeByCut_36 ?_
    refine xr_sipush 200 dX8_storeByCut_37 (by decide) ?_
    obtain ⟨ht, hf⟩ := h
    refine xr_icmp_le 46 dX8_storeByCut_40 (by decide) (fun c24 => ?_) (fun c24 => ?_)
    · replace h := ht c24
      clear ht hf
      refine xr_aload_n 0 dX8_storeByCut_46 rfl rfl ?_
      refine yr_callV (r := (some a0)) [] dX8_storeByCut_47 cv_X8_storeByCut_111 rfl t13 rfl (Nat.le_trans wt_0 (by decide)) (by decide) (xSp.mono h ?_)
      clear h
      intro ρ16 M15 h
      obtain ⟨v14, rfl, h⟩ := h
      refine zastore dX8_storeByCut_50 (L1 := [(1, va_rf (some a0)), (1, va_rf r1), (2, .long j2), (0, w3), (1, .int sx0), (1, .int 1), (1, va_rf v14), (0, w7)]) (by decide) rfl ?_
      refine xr_iload dX8_storeByCut_52 rfl ?_
      obtain ⟨ht, hf⟩ := h
      refine xr_if_eq 61 dX8_storeByCut_54 (by decide) (fun c23 => ?_) (fun c23 => ?_)
      · replace h := ht c23
        clear ht hf
        refine xr_aload_n 0 dX8_storeByCut_61 rfl rfl ?_
        obtain ⟨t22, h⟩ := h
        refine yr_callV (r := (some a0)) [] dX8_storeByCut_62 cv_X8_storeByCut_111 rfl t22 rfl (Nat.le_trans wt_0 (by decide)) (by decide) (xSp.mono h ?_)
        clear h
        intro ρ20 M19 h
        obtain ⟨v18, rfl, h⟩ := h
        exact h
      · replace h := hf c23
        clear ht hf
        refine xr_null dX8_storeByCut_57 ?_
        refine xr_goto 65 dX8_storeByCut_58 (by decide) ?_
        exact h
    · replace h := hf c24
      clear ht hf
      refine xr_bipush (-2) dX8_storeByCut_43 (by decide) ?_
      exact xr_retv (by decide) (xRi rfl rfl dX8_storeByCut_45) h
set_option maxRecDepth 100000 in
set_option maxHeartbeats 4000000 in
theorem bX8_storeByCut_0 {l : Launch} {g : xG} (a0 : Nat) (r1 : Option Nat) (j2 : Int64) {M : xM} {Q : Option Value → xM → Prop} (h : (xat M a0 5 ∧ (∃ a2, r1 = some a2 ∧ xat M a2 4 ∧ ((¬ (xI M a0 7) = (xI M a2 1) → xWp l g mX8_storeByCut 0 0 16 [(1, va_rf (some a0)), (1, va_rf r1), (2, .long j2), (0, .null), (0, .null), (0, .null), (0, .null), (0, .null)] [.int 0] (0, 0) M Q) ∧ ((xI M a0 7) = (xI M a2 1) → xWp l g mX8_storeByCut 0 0 16 [(1, va_rf (some a0)), (1, va_rf r1), (2, .long j2), (0, .null), (0, .null), (0, .null), (0, .null), (0, .null)] [.int 1] (0, 0) M Q))))) : xWp l g mX8_storeByCut 0 0 0 [(1, va_rf (some a0)), (1, va_rf r1), (2, .long j2), (0, .null), (0, .null), (0, .null), (0, .null), (0, .null)] [] (0, 0) M Q := by
  refine xr_aload_n 0 dX8_storeByCut_0 rfl rfl ?_
  obtain ⟨t1, h⟩ := h
  refine yr_getI dX8_storeByCut_1 fl_RX8_44 rfl t1 ?_
  refine xr_aload_n 1 dX8_storeByCut_4 rfl rfl ?_
  obtain ⟨a2, e3, h⟩ := h
  obtain ⟨t4, h⟩ := h
  refine yr_getI dX8_storeByCut_5 fl_RX8_61 e3 t4 ?_
  obtain ⟨ht, hf⟩ := h
  refine xr_icmp_ne 15 dX8_storeByCut_8 (by decide) (fun c5 => ?_) (fun c5 => ?_)
  · replace h := ht c5
    clear ht hf
    refine xr_iconst 0 dX8_storeByCut_15 (by decide) ?_
    exact h
  · replace h := hf c5
    clear ht hf
    refine xr_iconst 1 dX8_storeByCut_11 (by decide) ?_
    refine xr_goto 16 dX8_storeByCut_12 (by decide) ?_
    exact h
theorem dX8_hang_0 : decode cX8_hang 0 = .ok (.aload_n 1, 1) := by decide +kernel
theorem dX8_hang_1 : decode cX8_hang 1 = .ok (.aload_n 3, 1) := by decide +kernel
theorem dX8_hang_2 : decode cX8_hang 2 = .ok (.aload_n 0, 1) := by decide +kernel
theorem dX8_hang_3 : decode cX8_hang 3 = .ok (.getfield 44, 3) := by decide +kernel
theorem dX8_hang_6 : decode cX8_hang 6 = .ok (.invokevirtual 66, 3) := by decide +kernel
theorem dX8_hang_9 : decode cX8_hang 9 = .ok (.putfield 123, 3) := by decide +kernel
theorem dX8_hang_12 : decode cX8_hang 12 = .ok (.aload_n 0, 1) := by decide +kernel
theorem dX8_hang_13 : decode cX8_hang 13 = .ok (.getfield 44, 3) := by decide +kernel
theorem dX8_hang_16 : decode cX8_hang 16 = .ok (.iconst 1, 1) := by decide +kernel
theorem dX8_hang_17 : decode cX8_hang 17 = .ok (.iadd, 1) := by decide +kernel
theorem dX8_hang_18 : decode cX8_hang 18 = .ok (.istore 6, 2) := by decide +kernel
theorem dX8_hang_20 : decode cX8_hang 20 = .ok (.iload 6, 2) := by decide +kernel
theorem dX8_hang_22 : decode cX8_hang 22 = .ok (.aload_n 3, 1) := by decide +kernel
theorem dX8_hang_23 : decode cX8_hang 23 = .ok (.getfield 61, 3) := by decide +kernel
theorem dX8_hang_26 : decode cX8_hang 26 = .ok (.if_icmp .ge 19, 3) := by decide +kernel
theorem dX8_hang_29 : decode cX8_hang 29 = .ok (.aload_n 1, 1) := by decide +kernel
theorem dX8_hang_30 : decode cX8_hang 30 = .ok (.aload_n 3, 1) := by decide +kernel
theorem dX8_hang_31 : decode cX8_hang 31 = .ok (.iload 6, 2) := by decide +kernel
theorem dX8_hang_33 : decode cX8_hang 33 = .ok (.invokevirtual 66, 3) := by decide +kernel
theorem dX8_hang_36 : decode cX8_hang 36 = .ok (.invokevirtual 96, 3) := by decide +kernel
theorem dX8_hang_39 : decode cX8_hang 39 = .ok (.iinc 6 1, 3) := by decide +kernel
theorem dX8_hang_42 : decode cX8_hang 42 = .ok (.goto (-22), 3) := by decide +kernel
theorem dX8_hang_45 : decode cX8_hang 45 = .ok (.aload_n 1, 1) := by decide +kernel
theorem dX8_hang_46 : decode cX8_hang 46 = .ok (.lload 4, 2) := by decide +kernel
theorem dX8_hang_48 : decode cX8_hang 48 = .ok (.invokevirtual 104, 3) := by decide +kernel
theorem dX8_hang_51 : decode cX8_hang 51 = .ok (.aload_n 2, 1) := by decide +kernel
theorem dX8_hang_52 : decode cX8_hang 52 = .ok (.aload_n 1, 1) := by decide +kernel
theorem dX8_hang_53 : decode cX8_hang 53 = .ok (.invokevirtual 126, 3) := by decide +kernel
theorem dX8_hang_56 : decode cX8_hang 56 = .ok (.aload_n 1, 1) := by decide +kernel
theorem dX8_hang_57 : decode cX8_hang 57 = .ok (.invokevirtual 108, 3) := by decide +kernel
theorem dX8_hang_60 : decode cX8_hang 60 = .ok (.aload_n 0, 1) := by decide +kernel
theorem dX8_hang_61 : decode cX8_hang 61 = .ok (.dup, 1) := by decide +kernel
theorem dX8_hang_62 : decode cX8_hang 62 = .ok (.getfield 41, 3) := by decide +kernel
theorem dX8_hang_65 : decode cX8_hang 65 = .ok (.iconst 1, 1) := by decide +kernel
theorem dX8_hang_66 : decode cX8_hang 66 = .ok (.iadd, 1) := by decide +kernel
theorem dX8_hang_67 : decode cX8_hang 67 = .ok (.putfield 41, 3) := by decide +kernel
theorem dX8_hang_70 : decode cX8_hang 70 = .ok (.return_, 1) := by decide +kernel
set_option maxRecDepth 100000 in
set_option maxHeartbeats 4000000 in
theorem bX8_hang_20 {l : Launch} {g : xG} (a0 : Nat) (r1 : Option Nat) (r2 : Option Nat) (r3 : Option Nat) (j4 : Int64) (w5 : Value) (x6 : Int32) {M : xM} {Q : Option Value → xM → Prop} (h : (∃ a1, r3 = some a1 ∧ xat M a1 4 ∧ (((xI M a1 1) ≤ x6 → (∃ a8, r1 = some a8 ∧ xat M a8 1 ∧ xSp l g mX3_setValue 0 0 [va_rf r1, .long j4] M (fun ρ6 M5 => ρ6 = none ∧ (∃ a15, r2 = some a15 ∧ xat M5 a15 1 ∧ xSp l g mX3_gain 0 0 [va_rf r2, va_rf r1] M5 (fun ρ13 M12 => ρ13 = none ∧ (xat M12 a8 1 ∧ xSp l g mX3_freshen 0 0 [va_rf r1] M12 (fun ρ20 M19 => ρ20 = none ∧ (xat M19 a0 5 ∧ (Q none (xsI M19 a0 4 ((xI M19 a0 4) + 1))))))))))) ∧ (¬ (xI M a1 1) ≤ x6 → (xSp l g mX7_byteAt 0 0 [va_rf r3, .int x6] M (fun ρ26 M25 => ∃ v24 : Int32, ρ26 = some (.int v24) ∧ (∃ a32, r1 = some a32 ∧ xat M25 a32 1 ∧ xSp l g mX3_appendToPrefix 0 0 [va_rf r1, .int v24] M25 (fun ρ30 M29 => ρ30 = none ∧ xWp l g mX8_hang 0 0 20 [(1, va_rf (some a0)), (1, va_rf r1), (1, va_rf r2), (1, va_rf r3), (2, .long j4), (0, w5), (1, .int (x6 + 1))] [] (0, 0) M29 Q)))))))) : xWp l g mX8_hang 0 0 20 [(1, va_rf (some a0)), (1, va_rf r1), (1, va_rf r2), (1, va_rf r3), (2, .long j4), (0, w5), (1, .int x6)] [] (0, 0) M Q := by
  refine xr_iload dX8_hang_20 rfl ?_
  refine xr_aload_n 3 dX8_hang_22 rfl rfl ?_
  obtain ⟨a1, e2, h⟩ := h
  obtain ⟨t3, h⟩ := h
  refine yr_getI dX8_hang_23 fl_RX8_61 e2 t3 ?_
  obtain ⟨ht, hf⟩ := h
  refine xr_icmp_ge 45 dX8_hang_26 (by decide) (fun c35 => ?_) (fun c35 => ?_)
  · replace h := ht c35
    clear ht hf
    refine xr_aload_n 1 dX8_hang_45 rfl rfl ?_
    refine xr_lload dX8_hang_46 rfl ?_
    obtain ⟨a8, e9, h⟩ := h
    obtain ⟨t10, h⟩ := h
    refine yr_callV (r := r1) [.long j4] dX8_hang_48 cv_X8_hang_104 e9 t10 rfl (Nat.le_trans wt_0 (by decide)) (by decide) (xSp.mono h ?_)
    clear h
    intro ρ6 M5 h
    obtain ⟨rfl, h⟩ := h
    refine xr_aload_n 2 dX8_hang_51 rfl rfl ?_
    refine xr_aload_n 1 dX8_hang_52 rfl rfl ?_
    obtain ⟨a15, e16, h⟩ := h
    obtain ⟨t17, h⟩ := h
    refine yr_callV (r := r2) [va_rf r1] dX8_hang_53 cv_X8_hang_126 e16 t17 rfl (Nat.le_trans wt_0 (by decide)) (by decide) (xSp.mono h ?_)
    clear h
    intro ρ13 M12 h
    obtain ⟨rfl, h⟩ := h
    refine xr_aload_n 1 dX8_hang_56 rfl rfl ?_
    obtain ⟨t22, h⟩ := h
    refine yr_callV (r := r1) [] dX8_hang_57 cv_X8_hang_108 e9 t22 rfl (Nat.le_trans wt_0 (by decide)) (by decide) (xSp.mono h ?_)
    clear h
    intro ρ20 M19 h
    obtain ⟨rfl, h⟩ := h
    refine xr_aload_n 0 dX8_hang_60 rfl rfl ?_
    refine xr_dup dX8_hang_61 (va_rf_cat _) ?_
    obtain ⟨t23, h⟩ := h
    refine yr_getI dX8_hang_62 fl_RX8_41 rfl t23 ?_
    refine xr_iconst 1 dX8_hang_65 (by decide) ?_
    refine xr_iadd dX8_hang_66 ?_
    refine yr_putI dX8_hang_67 fp_RX8_41 rfl t23 ?_
    exact xr_ret (by decide) (xRv rfl dX8_hang_70) h
  · replace h := hf c35
    clear ht hf
    refine xr_aload_n 1 dX8_hang_29 rfl rfl ?_
    refine xr_aload_n 3 dX8_hang_30 rfl rfl ?_
    refine xr_iload dX8_hang_31 rfl ?_
    refine yr_callV (r := r3) [.int x6] dX8_hang_33 cv_X8_hang_66 e2 t3 rfl (Nat.le_trans (wt_r wt_0) (by decide)) (by decide) (xSp.mono h ?_)
    clear h
    intro ρ26 M25 h
    obtain ⟨v24, rfl, h⟩ := h
    obtain ⟨a32, e33, h⟩ := h
    obtain ⟨t34, h⟩ := h
    refine yr_callV (r := r1) [.int v24] dX8_hang_36 cv_X8_hang_96 e33 t34 rfl (Nat.le_trans wt_0 (by decide)) (by decide) (xSp.mono h ?_)
    clear h
    intro ρ30 M29 h
    obtain ⟨rfl, h⟩ := h
    refine ziinc (x6 + 1) dX8_hang_39 rfl rfl (L1 := [(1, va_rf (some a0)), (1, va_rf r1), (1, va_rf r2), (1, va_rf r3), (2, .long j4), (0, w5), (1, .int (x6 + 1))]) (by decide) rfl ?_
    refine xr_goto 20 dX8_hang_42 (by decide) ?_
    exact h
set_option maxRecDepth 100000 in
set_option maxHeartbeats 4000000 in
theorem bX8_hang_0 {l : Launch} {g : xG} (a0 : Nat) (r1 : Option Nat) (r2 : Option Nat) (r3 : Option Nat) (j4 : Int64) {M : xM} {Q : Option Value → xM → Prop} (h : (xat M a0 5 ∧ (∃ a6, r3 = some a6 ∧ xat M a6 4 ∧ xSp l g mX7_byteAt 0 0 [va_rf r3, .int (xI M a0 7)] M (fun ρ4 M3 => ∃ v2 : Int32, ρ4 = some (.int v2) ∧ (∃ a9, r1 = some a9 ∧ xat M3 a9 1 ∧ (xat (xsI M3 a9 6 v2) a0 5 ∧ xWp l g mX8_hang 0 0 20 [(1, va_rf (some a0)), (1, va_rf r1), (1, va_rf r2), (1, va_rf r3), (2, .long j4), (0, .null), (1, .int ((xI (xsI M3 a9 6 v2) a0 7) + 1))] [] (0, 0) (xsI M3 a9 6 v2) Q)))))) : xWp l g mX8_hang 0 0 0 [(1, va_rf (some a0)), (1, va_rf r1), (1, va_rf r2), (1, va_rf r3), (2, .long j4), (0, .null), (0, .null)] [] (0, 0) M Q := by
  refine xr_aload_n 1 dX8_hang_0 rfl rfl ?_
  refine xr_aload_n 3 dX8_hang_1 rfl rfl ?_
  refine xr_aload_n 0 dX8_hang_2 rfl rfl ?_
  obtain ⟨t1, h⟩ := h
  refine yr_getI dX8_hang_3 fl_RX8_44 rfl t1 ?_
  obtain ⟨a6, e7, h⟩ := h
  obtain ⟨t8, h⟩ := h
  refine yr_callV (r := r3) [.int (xI M a0 7)] dX8_hang_6 cv_X8_hang_66 e7 t8 rfl (Nat.le_trans (wt_r wt_0) (by decide)) (by decide) (xSp.mono h ?_)
  clear h
  intro ρ4 M3 h
  obtain ⟨v2, rfl, h⟩ := h
  obtain ⟨a9, e10, h⟩ := h
  obtain ⟨t11, h⟩ := h
  refine yr_putI dX8_hang_9 fp_RX8_123 e10 t11 ?_
  refine xr_aload_n 0 dX8_hang_12 rfl rfl ?_
  obtain ⟨t12, h⟩ := h
  refine yr_getI dX8_hang_13 fl_RX8_44 rfl t12 ?_
  refine xr_iconst 1 dX8_hang_16 (by decide) ?_
  refine xr_iadd dX8_hang_17 ?_
  refine zistore dX8_hang_18 (L1 := [(1, va_rf (some a0)), (1, va_rf r1), (1, va_rf r2), (1, va_rf r3), (2, .long j4), (0, .null), (1, .int ((xI (xsI M3 a9 6 v2) a0 7) + 1))]) (by decide) rfl ?_
  exact h
theorem dX8_insertAbove_0 : decode cX8_insertAbove 0 = .ok (.iconst 0, 1) := by decide +kernel
theorem dX8_insertAbove_1 : decode cX8_insertAbove 1 = .ok (.istore_n 3, 1) := by decide +kernel
theorem dX8_insertAbove_2 : decode cX8_insertAbove 2 = .ok (.iload_n 3, 1) := by decide +kernel
theorem dX8_insertAbove_3 : decode cX8_insertAbove 3 = .ok (.aload_n 0, 1) := by decide +kernel
theorem dX8_insertAbove_4 : decode cX8_insertAbove 4 = .ok (.getfield 51, 3) := by decide +kernel
theorem dX8_insertAbove_7 : decode cX8_insertAbove 7 = .ok (.if_icmp .ge 18, 3) := by decide +kernel
theorem dX8_insertAbove_10 : decode cX8_insertAbove 10 = .ok (.aload_n 2, 1) := by decide +kernel
theorem dX8_insertAbove_11 : decode cX8_insertAbove 11 = .ok (.aload_n 1, 1) := by decide +kernel
theorem dX8_insertAbove_12 : decode cX8_insertAbove 12 = .ok (.iload_n 3, 1) := by decide +kernel
theorem dX8_insertAbove_13 : decode cX8_insertAbove 13 = .ok (.invokevirtual 130, 3) := by decide +kernel
theorem dX8_insertAbove_16 : decode cX8_insertAbove 16 = .ok (.invokevirtual 96, 3) := by decide +kernel
theorem dX8_insertAbove_19 : decode cX8_insertAbove 19 = .ok (.iinc 3 1, 3) := by decide +kernel
theorem dX8_insertAbove_22 : decode cX8_insertAbove 22 = .ok (.goto (-20), 3) := by decide +kernel
theorem dX8_insertAbove_25 : decode cX8_insertAbove 25 = .ok (.aload_n 0, 1) := by decide +kernel
theorem dX8_insertAbove_26 : decode cX8_insertAbove 26 = .ok (.aload_n 1, 1) := by decide +kernel
theorem dX8_insertAbove_27 : decode cX8_insertAbove 27 = .ok (.aload_n 2, 1) := by decide +kernel
theorem dX8_insertAbove_28 : decode cX8_insertAbove 28 = .ok (.invokevirtual 133, 3) := by decide +kernel
theorem dX8_insertAbove_31 : decode cX8_insertAbove 31 = .ok (.aload_n 1, 1) := by decide +kernel
theorem dX8_insertAbove_32 : decode cX8_insertAbove 32 = .ok (.aload_n 1, 1) := by decide +kernel
theorem dX8_insertAbove_33 : decode cX8_insertAbove 33 = .ok (.aload_n 0, 1) := by decide +kernel
theorem dX8_insertAbove_34 : decode cX8_insertAbove 34 = .ok (.getfield 51, 3) := by decide +kernel
theorem dX8_insertAbove_37 : decode cX8_insertAbove 37 = .ok (.invokevirtual 130, 3) := by decide +kernel
theorem dX8_insertAbove_40 : decode cX8_insertAbove 40 = .ok (.putfield 123, 3) := by decide +kernel
theorem dX8_insertAbove_43 : decode cX8_insertAbove 43 = .ok (.aload_n 1, 1) := by decide +kernel
theorem dX8_insertAbove_44 : decode cX8_insertAbove 44 = .ok (.aload_n 0, 1) := by decide +kernel
theorem dX8_insertAbove_45 : decode cX8_insertAbove 45 = .ok (.getfield 51, 3) := by decide +kernel
theorem dX8_insertAbove_48 : decode cX8_insertAbove 48 = .ok (.iconst 1, 1) := by decide +kernel
theorem dX8_insertAbove_49 : decode cX8_insertAbove 49 = .ok (.iadd, 1) := by decide +kernel
theorem dX8_insertAbove_50 : decode cX8_insertAbove 50 = .ok (.invokevirtual 136, 3) := by decide +kernel
theorem dX8_insertAbove_53 : decode cX8_insertAbove 53 = .ok (.aload_n 2, 1) := by decide +kernel
theorem dX8_insertAbove_54 : decode cX8_insertAbove 54 = .ok (.aload_n 1, 1) := by decide +kernel
theorem dX8_insertAbove_55 : decode cX8_insertAbove 55 = .ok (.invokevirtual 126, 3) := by decide +kernel
theorem dX8_insertAbove_58 : decode cX8_insertAbove 58 = .ok (.aload_n 1, 1) := by decide +kernel
theorem dX8_insertAbove_59 : decode cX8_insertAbove 59 = .ok (.invokevirtual 108, 3) := by decide +kernel
theorem dX8_insertAbove_62 : decode cX8_insertAbove 62 = .ok (.return_, 1) := by decide +kernel
set_option maxRecDepth 100000 in
set_option maxHeartbeats 4000000 in
theorem bX8_insertAbove_2 {l : Launch} {g : xG} (a0 : Nat) (r1 : Option Nat) (r2 : Option Nat) (x3 : Int32) {M : xM} {Q : Option Value → xM → Prop} (h : (xat M a0 5 ∧ (((xI M a0 6) ≤ x3 → (xSp l g mX8_putInPlace 0 0 [va_rf (some a0), va_rf r1, va_rf r2] M (fun ρ4 M3 => ρ4 = none ∧ (xat M3 a0 5 ∧ (∃ a11, r1 = some a11 ∧ xat M3 a11 1 ∧ xSp l g mX3_prefixAt 0 0 [va_rf r1, .int (xI M3 a0 6)] M3 (fun ρ9 M8 => ∃ v7 : Int32, ρ9 = some (.int v7) ∧ (xat M8 a11 1 ∧ (xat (xsI M8 a11 6 v7) a0 5 ∧ (xSp l g mX3_dropFromPrefix 0 0 [va_rf r1, .int ((xI (xsI M8 a11 6 v7) a0 6) + 1)] (xsI M8 a11 6 v7) (fun ρ18 M17 => ρ18 = none ∧ (∃ a24, r2 = some a24 ∧ xat M17 a24 1 ∧ xSp l g mX3_gain 0 0 [va_rf r2, va_rf r1] M17 (fun ρ22 M21 => ρ22 = none ∧ (xat M21 a11 1 ∧ xSp l g mX3_freshen 0 0 [va_rf r1] M21 (fun ρ29 M28 => ρ29 = none ∧ (Q none M28))))))))))))))) ∧ (¬ (xI M a0 6) ≤ x3 → (∃ a36, r1 = some a36 ∧ xat M a36 1 ∧ xSp l g mX3_prefixAt 0 0 [va_rf r1, .int x3] M (fun ρ34 M33 => ∃ v32 : Int32, ρ34 = some (.int v32) ∧ (∃ a43, r2 = some a43 ∧ xat M33 a43 1 ∧ xSp l g mX3_appendToPrefix 0 0 [va_rf r2, .int v32] M33 (fun ρ41 M40 => ρ41 = none ∧ xWp l g mX8_insertAbove 0 0 2 [(1, va_rf (some a0)), (1, va_rf r1), (1, va_rf r2), (1, .int (x3 + 1))] [] (0, 0) M40 Q)))))))) : xWp l g mX8_insertAbove 0 0 2 [(1, va_rf (some a0)), (1, va_rf r1), (1, va_rf r2), (1, .int x3)] [] (0, 0) M Q := by
  refine xr_iload_n 3 dX8_insertAbove_2 rfl rfl ?_
  refine xr_aload_n 0 dX8_insertAbove_3 rfl rfl ?_
  obtain ⟨t1, h⟩ := h
  refine yr_getI dX8_insertAbove_4 fl_RX8_51 rfl t1 ?_
  obtain ⟨ht, hf⟩ := h
  refine xr_icmp_ge 25 dX8_insertAbove_7 (by decide) (fun c46 => ?_) (fun c46 => ?_)
  · replace h := ht c46
    clear ht hf
    refine xr_aload_n 0 dX8_insertAbove_25 rfl rfl ?_
    refine xr_aload_n 1 dX8_insertAbove_26 rfl rfl ?_
    refine xr_aload_n 2 dX8_insertAbove_27 rfl rfl ?_
    refine yr_callV (r := (some a0)) [va_rf r1, va_rf r2] dX8_insertAbove_28 cv_X8_insertAbove_133 rfl t1 rfl (Nat.le_trans wt_0 (by decide)) (by decide) (xSp.mono h ?_)
    clear h
    intro ρ4 M3 h
    obtain ⟨rfl, h⟩ := h
    refine xr_aload_n 1 dX8_insertAbove_31 rfl rfl ?_
    refine xr_aload_n 1 dX8_insertAbove_32 rfl rfl ?_
    refine xr_aload_n 0 dX8_insertAbove_33 rfl rfl ?_
    obtain ⟨t6, h⟩ := h
    refine yr_getI dX8_insertAbove_34 fl_RX8_51 rfl t6 ?_
    obtain ⟨a11, e12, h⟩ := h
    obtain ⟨t13, h⟩ := h
    refine yr_callV (r := r1) [.int (xI M3 a0 6)] dX8_insertAbove_37 cv_X8_insertAbove_130 e12 t13 rfl (Nat.le_trans (wt_r wt_0) (by decide)) (by decide) (xSp.mono h ?_)
    clear h
    intro ρ9 M8 h
    obtain ⟨v7, rfl, h⟩ := h
    obtain ⟨t14, h⟩ := h
    refine yr_putI dX8_insertAbove_40 fp_RX8_123 e12 t14 ?_
    refine xr_aload_n 1 dX8_insertAbove_43 rfl rfl ?_
    refine xr_aload_n 0 dX8_insertAbove_44 rfl rfl ?_
    obtain ⟨t15, h⟩ := h
    refine yr_getI dX8_insertAbove_45 fl_RX8_51 rfl t15 ?_
    refine xr_iconst 1 dX8_insertAbove_48 (by decide) ?_
    refine xr_iadd dX8_insertAbove_49 ?_
    refine yr_callV (r := r1) [.int ((xI (xsI M8 a11 6 v7) a0 6) + 1)] dX8_insertAbove_50 cv_X8_insertAbove_136 e12 t14 rfl (Nat.le_trans wt_0 (by decide)) (by decide) (xSp.mono h ?_)
    clear h
    intro ρ18 M17 h
    obtain ⟨rfl, h⟩ := h
    refine xr_aload_n 2 dX8_insertAbove_53 rfl rfl ?_
    refine xr_aload_n 1 dX8_insertAbove_54 rfl rfl ?_
    obtain ⟨a24, e25, h⟩ := h
    obtain ⟨t26, h⟩ := h
    refine yr_callV (r := r2) [va_rf r1] dX8_insertAbove_55 cv_X8_insertAbove_126 e25 t26 rfl (Nat.le_trans wt_0 (by decide)) (by decide) (xSp.mono h ?_)
    clear h
    intro ρ22 M21 h
    obtain ⟨rfl, h⟩ := h
    refine xr_aload_n 1 dX8_insertAbove_58 rfl rfl ?_
    obtain ⟨t31, h⟩ := h
    refine yr_callV (r := r1) [] dX8_insertAbove_59 cv_X8_insertAbove_108 e12 t31 rfl (Nat.le_trans wt_0 (by decide)) (by decide) (xSp.mono h ?_)
    clear h
    intro ρ29 M28 h
    obtain ⟨rfl, h⟩ := h
    exact xr_ret (by decide) (xRv rfl dX8_insertAbove_62) h
  · replace h := hf c46
    clear ht hf
    refine xr_aload_n 2 dX8_insertAbove_10 rfl rfl ?_
    refine xr_aload_n 1 dX8_insertAbove_11 rfl rfl ?_
    refine xr_iload_n 3 dX8_insertAbove_12 rfl rfl ?_
    obtain ⟨a36, e37, h⟩ := h
    obtain ⟨t38, h⟩ := h
    refine yr_callV (r := r1) [.int x3] dX8_insertAbove_13 cv_X8_insertAbove_130 e37 t38 rfl (Nat.le_trans (wt_r wt_0) (by decide)) (by decide) (xSp.mono h ?_)
    clear h
    intro ρ34 M33 h
    obtain ⟨v32, rfl, h⟩ := h
    obtain ⟨a43, e44, h⟩ := h
    obtain ⟨t45, h⟩ := h
    refine yr_callV (r := r2) [.int v32] dX8_insertAbove_16 cv_X8_insertAbove_96 e44 t45 rfl (Nat.le_trans wt_0 (by decide)) (by decide) (xSp.mono h ?_)
    clear h
    intro ρ41 M40 h
    obtain ⟨rfl, h⟩ := h
    refine ziinc (x3 + 1) dX8_insertAbove_19 rfl rfl (L1 := [(1, va_rf (some a0)), (1, va_rf r1), (1, va_rf r2), (1, .int (x3 + 1))]) (by decide) rfl ?_
    refine xr_goto 2 dX8_insertAbove_22 (by decide) ?_
    exact h
set_option maxRecDepth 100000 in
set_option maxHeartbeats 4000000 in
theorem bX8_insertAbove_0 {l : Launch} {g : xG} (a0 : Nat) (r1 : Option Nat) (r2 : Option Nat) {M : xM} {Q : Option Value → xM → Prop} (h : xWp l g mX8_insertAbove 0 0 2 [(1, va_rf (some a0)), (1, va_rf r1), (1, va_rf r2), (1, .int 0)] [] (0, 0) M Q) : xWp l g mX8_insertAbove 0 0 0 [(1, va_rf (some a0)), (1, va_rf r1), (1, va_rf r2), (0, .null)] [] (0, 0) M Q := by
  refine xr_iconst 0 dX8_insertAbove_0 (by decide) ?_
  refine zistore_n 3 dX8_insertAbove_1 rfl (L1 := [(1, va_rf (some a0)), (1, va_rf r1), (1, va_rf r2), (1, .int 0)]) (by decide) rfl ?_
  exact h
theorem dX8_putInPlace_0 : decode cX8_putInPlace 0 = .ok (.aload_n 1, 1) := by decide +kernel
theorem dX8_putInPlace_1 : decode cX8_putInPlace 1 = .ok (.aload_n 2, 1) := by decide +kernel
theorem dX8_putInPlace_2 : decode cX8_putInPlace 2 = .ok (.invokevirtual 139, 3) := by decide +kernel
theorem dX8_putInPlace_5 : decode cX8_putInPlace 5 = .ok (.aload_n 1, 1) := by decide +kernel
theorem dX8_putInPlace_6 : decode cX8_putInPlace 6 = .ok (.aload_n 0, 1) := by decide +kernel
theorem dX8_putInPlace_7 : decode cX8_putInPlace 7 = .ok (.getfield 18, 3) := by decide +kernel
theorem dX8_putInPlace_10 : decode cX8_putInPlace 10 = .ok (.if_acmp .ne 8, 3) := by decide +kernel
theorem dX8_putInPlace_13 : decode cX8_putInPlace 13 = .ok (.aload_n 0, 1) := by decide +kernel
theorem dX8_putInPlace_14 : decode cX8_putInPlace 14 = .ok (.aload_n 2, 1) := by decide +kernel
theorem dX8_putInPlace_15 : decode cX8_putInPlace 15 = .ok (.putfield 18, 3) := by decide +kernel
theorem dX8_putInPlace_18 : decode cX8_putInPlace 18 = .ok (.return_, 1) := by decide +kernel
set_option maxRecDepth 100000 in
set_option maxHeartbeats 4000000 in
theorem bX8_putInPlace_0 {l : Launch} {g : xG} (a0 : Nat) (r1 : Option Nat) (r2 : Option Nat) {M : xM} {Q : Option Value → xM → Prop} (h : (∃ a5, r1 = some a5 ∧ xat M a5 1 ∧ xSp l g mX3_yieldTo 0 0 [va_rf r1, va_rf r2] M (fun ρ3 M2 => ρ3 = none ∧ (xat M2 a0 5 ∧ ((¬ r1 = (xR M2 a0 2) → (Q none M2)) ∧ (r1 = (xR M2 a0 2) → (Q none (xsR M2 a0 2 r2)))))))) : xWp l g mX8_putInPlace 0 0 0 [(1, va_rf (some a0)), (1, va_rf r1), (1, va_rf r2)] [] (0, 0) M Q := by
  refine xr_aload_n 1 dX8_putInPlace_0 rfl rfl ?_
  refine xr_aload_n 2 dX8_putInPlace_1 rfl rfl ?_
  obtain ⟨a5, e6, h⟩ := h
  obtain ⟨t7, h⟩ := h
  refine yr_callV (r := r1) [va_rf r2] dX8_putInPlace_2 cv_X8_putInPlace_139 e6 t7 rfl (Nat.le_trans wt_0 (by decide)) (by decide) (xSp.mono h ?_)
  clear h
  intro ρ3 M2 h
  obtain ⟨rfl, h⟩ := h
  refine xr_aload_n 1 dX8_putInPlace_5 rfl rfl ?_
  refine xr_aload_n 0 dX8_putInPlace_6 rfl rfl ?_
  obtain ⟨t8, h⟩ := h
  refine yr_getR dX8_putInPlace_7 fl_RX8_18 rfl t8 ?_
  obtain ⟨ht, hf⟩ := h
  refine xr_acmp_ne 18 dX8_putInPlace_10 (by decide) (fun c9 => ?_) (fun c9 => ?_)
  · replace h := ht c9
    clear ht hf
    exact xr_ret (by decide) (xRv rfl dX8_putInPlace_18) h
  · replace h := hf c9
    clear ht hf
    refine xr_aload_n 0 dX8_putInPlace_13 rfl rfl ?_
    refine xr_aload_n 2 dX8_putInPlace_14 rfl rfl ?_
    refine yr_putR dX8_putInPlace_15 fp_RX8_18 rfl t8 ?_
    exact xr_ret (by decide) (xRv rfl dX8_putInPlace_18) h
theorem dX8_drop_0 : decode cX8_drop 0 = .ok (.aload_n 0, 1) := by decide +kernel
theorem dX8_drop_1 : decode cX8_drop 1 = .ok (.aload_n 1, 1) := by decide +kernel
theorem dX8_drop_2 : decode cX8_drop 2 = .ok (.invokevirtual 142, 3) := by decide +kernel
theorem dX8_drop_5 : decode cX8_drop 5 = .ok (.astore_n 2, 1) := by decide +kernel
theorem dX8_drop_6 : decode cX8_drop 6 = .ok (.aload_n 2, 1) := by decide +kernel
theorem dX8_drop_7 : decode cX8_drop 7 = .ok (.ifnonnull 5, 3) := by decide +kernel
theorem dX8_drop_10 : decode cX8_drop 10 = .ok (.iconst 0, 1) := by decide +kernel
theorem dX8_drop_11 : decode cX8_drop 11 = .ok (.ireturn, 1) := by decide +kernel
theorem dX8_drop_12 : decode cX8_drop 12 = .ok (.aload_n 2, 1) := by decide +kernel
theorem dX8_drop_13 : decode cX8_drop 13 = .ok (.invokevirtual 146, 3) := by decide +kernel
theorem dX8_drop_16 : decode cX8_drop 16 = .ok (.aload_n 2, 1) := by decide +kernel
theorem dX8_drop_17 : decode cX8_drop 17 = .ok (.invokevirtual 108, 3) := by decide +kernel
theorem dX8_drop_20 : decode cX8_drop 20 = .ok (.aload_n 0, 1) := by decide +kernel
theorem dX8_drop_21 : decode cX8_drop 21 = .ok (.dup, 1) := by decide +kernel
theorem dX8_drop_22 : decode cX8_drop 22 = .ok (.getfield 41, 3) := by decide +kernel
theorem dX8_drop_25 : decode cX8_drop 25 = .ok (.iconst 1, 1) := by decide +kernel
theorem dX8_drop_26 : decode cX8_drop 26 = .ok (.isub, 1) := by decide +kernel
theorem dX8_drop_27 : decode cX8_drop 27 = .ok (.putfield 41, 3) := by decide +kernel
theorem dX8_drop_30 : decode cX8_drop 30 = .ok (.aload_n 2, 1) := by decide +kernel
theorem dX8_drop_31 : decode cX8_drop 31 = .ok (.getfield 149, 3) := by decide +kernel
theorem dX8_drop_34 : decode cX8_drop 34 = .ok (.ifCond .le 11, 3) := by decide +kernel
theorem dX8_drop_37 : decode cX8_drop 37 = .ok (.aload_n 0, 1) := by decide +kernel
theorem dX8_drop_38 : decode cX8_drop 38 = .ok (.aload_n 2, 1) := by decide +kernel
theorem dX8_drop_39 : decode cX8_drop 39 = .ok (.invokevirtual 152, 3) := by decide +kernel
theorem dX8_drop_42 : decode cX8_drop 42 = .ok (.goto 32, 3) := by decide +kernel
theorem dX8_drop_45 : decode cX8_drop 45 = .ok (.aload_n 2, 1) := by decide +kernel
theorem dX8_drop_46 : decode cX8_drop 46 = .ok (.getfield 155, 3) := by decide +kernel
theorem dX8_drop_49 : decode cX8_drop 49 = .ok (.ifnull 15, 3) := by decide +kernel
theorem dX8_drop_52 : decode cX8_drop 52 = .ok (.aload_n 0, 1) := by decide +kernel
theorem dX8_drop_53 : decode cX8_drop 53 = .ok (.aload_n 2, 1) := by decide +kernel
theorem dX8_drop_54 : decode cX8_drop 54 = .ok (.aload_n 2, 1) := by decide +kernel
theorem dX8_drop_55 : decode cX8_drop 55 = .ok (.getfield 155, 3) := by decide +kernel
theorem dX8_drop_58 : decode cX8_drop 58 = .ok (.invokevirtual 158, 3) := by decide +kernel
theorem dX8_drop_61 : decode cX8_drop 61 = .ok (.goto 13, 3) := by decide +kernel
theorem dX8_drop_64 : decode cX8_drop 64 = .ok (.aload_n 2, 1) := by decide +kernel
theorem dX8_drop_65 : decode cX8_drop 65 = .ok (.iconst 0, 1) := by decide +kernel
theorem dX8_drop_66 : decode cX8_drop 66 = .ok (.putfield 58, 3) := by decide +kernel
theorem dX8_drop_69 : decode cX8_drop 69 = .ok (.aload_n 2, 1) := by decide +kernel
theorem dX8_drop_70 : decode cX8_drop 70 = .ok (.iconst 1, 1) := by decide +kernel
theorem dX8_drop_71 : decode cX8_drop 71 = .ok (.putfield 163, 3) := by decide +kernel
theorem dX8_drop_74 : decode cX8_drop 74 = .ok (.iconst 1, 1) := by decide +kernel
theorem dX8_drop_75 : decode cX8_drop 75 = .ok (.ireturn, 1) := by decide +kernel
set_option maxRecDepth 100000 in
set_option maxHeartbeats 4000000 in
theorem bX8_drop_0 {l : Launch} {g : xG} (a0 : Nat) (r1 : Option Nat) {M : xM} {Q : Option Value → xM → Prop} (h : (xat M a0 5 ∧ xSp l g mX8_nodeOf 0 0 [va_rf (some a0), va_rf r1] M (fun ρ3 M2 => ∃ v1 : Option Nat, ρ3 = some (va_rf v1) ∧ ((¬ v1 = none → (∃ a10, v1 = some a10 ∧ xat M2 a10 1 ∧ xSp l g mX3_loseValue 0 0 [va_rf v1] M2 (fun ρ8 M7 => ρ8 = none ∧ (xat M7 a10 1 ∧ xSp l g mX3_freshen 0 0 [va_rf v1] M7 (fun ρ15 M14 => ρ15 = none ∧ (xat M14 a0 5 ∧ (xat (xsI M14 a0 4 ((xI M14 a0 4) - 1)) a10 1 ∧ (((xI (xsI M14 a0 4 ((xI M14 a0 4) - 1)) a10 5) ≤ 0 → (((xR (xsI M14 a0 4 ((xI M14 a0 4) - 1)) a10 9) = none → (Q (some (.int 1)) (xsI (xsI (xsI M14 a0 4 ((xI M14 a0 4) - 1)) a10 1 0) a10 2 1))) ∧ (¬ (xR (xsI M14 a0 4 ((xI M14 a0 4) - 1)) a10 9) = none → (xSp l g mX8_detach 0 0 [va_rf (some a0), va_rf v1, va_rf (xR (xsI M14 a0 4 ((xI M14 a0 4) - 1)) a10 9)] (xsI M14 a0 4 ((xI M14 a0 4) - 1)) (fun ρ22 M21 => ρ22 = none ∧ (Q (some (.int 1)) M21)))))) ∧ (¬ (xI (xsI M14 a0 4 ((xI M14 a0 4) - 1)) a10 5) ≤ 0 → (xSp l g mX8_join 0 0 [va_rf (some a0), va_rf v1] (xsI M14 a0 4 ((xI M14 a0 4) - 1)) (fun ρ27 M26 => ρ27 = none ∧ (Q (some (.int 1)) M26)))))))))))) ∧ (v1 = none → (Q (some (.int 0)) M2)))))) : xWp l g mX8_drop 0 0 0 [(1, va_rf (some a0)), (1, va_rf r1), (0, .null)] [] (0, 0) M Q := by
  refine xr_aload_n 0 dX8_drop_0 rfl rfl ?_
  refine xr_aload_n 1 dX8_drop_1 rfl rfl ?_
  obtain ⟨t5, h⟩ := h
  refine yr_callV (r := (some a0)) [va_rf r1] dX8_drop_2 cv_X8_drop_142 rfl t5 rfl (Nat.le_trans wt_0 (by decide)) (by decide) (xSp.mono h ?_)
  clear h
  intro ρ3 M2 h
  obtain ⟨v1, rfl, h⟩ := h
  refine zastore_n 2 dX8_drop_5 rfl (L1 := [(1, va_rf (some a0)), (1, va_rf r1), (1, va_rf v1)]) (by decide) rfl ?_
  refine xr_aload_n 2 dX8_drop_6 rfl rfl ?_
  obtain ⟨ht, hf⟩ := h
  refine xr_ifnonnull 12 dX8_drop_7 (by decide) (fun c30 => ?_) (fun c30 => ?_)
  · replace h := ht c30
    clear ht hf
    refine xr_aload_n 2 dX8_drop_12 rfl rfl ?_
    obtain ⟨a10, e11, h⟩ := h
    obtain ⟨t12, h⟩ := h
    refine yr_callV (r := v1) [] dX8_drop_13 cv_X8_drop_146 e11 t12 rfl (Nat.le_trans wt_0 (by decide)) (by decide) (xSp.mono h ?_)
    clear h
    intro ρ8 M7 h
    obtain ⟨rfl, h⟩ := h
    refine xr_aload_n 2 dX8_drop_16 rfl rfl ?_
    obtain ⟨t17, h⟩ := h
    refine yr_callV (r := v1) [] dX8_drop_17 cv_X8_drop_108 e11 t17 rfl (Nat.le_trans wt_0 (by decide)) (by decide) (xSp.mono h ?_)
    clear h
    intro ρ15 M14 h
    obtain ⟨rfl, h⟩ := h
    refine xr_aload_n 0 dX8_drop_20 rfl rfl ?_
    refine xr_dup dX8_drop_21 (va_rf_cat _) ?_
    obtain ⟨t18, h⟩ := h
    refine yr_getI dX8_drop_22 fl_RX8_41 rfl t18 ?_
    refine xr_iconst 1 dX8_drop_25 (by decide) ?_
    refine xr_isub dX8_drop_26 ?_
    refine yr_putI dX8_drop_27 fp_RX8_41 rfl t18 ?_
    refine xr_aload_n 2 dX8_drop_30 rfl rfl ?_
    obtain ⟨t19, h⟩ := h
    refine yr_getI dX8_drop_31 fl_RX8_149 e11 t19 ?_
    obtain ⟨ht, hf⟩ := h
    refine xr_if_le 45 dX8_drop_34 (by decide) (fun c29 => ?_) (fun c29 => ?_)
    · replace h := ht c29
      clear ht hf
      refine xr_aload_n 2 dX8_drop_45 rfl rfl ?_
      refine yr_getR dX8_drop_46 fl_RX8_155 e11 t19 ?_
      obtain ⟨ht, hf⟩ := h
      refine xr_ifnull 64 dX8_drop_49 (by decide) (fun c24 => ?_) (fun c24 => ?_)
      · replace h := ht c24
        clear ht hf
        refine xr_aload_n 2 dX8_drop_64 rfl rfl ?_
        refine xr_iconst 0 dX8_drop_65 (by decide) ?_
        refine yr_putI dX8_drop_66 fp_RX8_58 e11 t19 ?_
        refine xr_aload_n 2 dX8_drop_69 rfl rfl ?_
        refine xr_iconst 1 dX8_drop_70 (by decide) ?_
        refine yr_putI dX8_drop_71 fp_RX8_163 e11 t19 ?_
        refine xr_iconst 1 dX8_drop_74 (by decide) ?_
        exact xr_retv (by decide) (xRi rfl rfl dX8_drop_75) h
      · replace h := hf c24
        clear ht hf
        refine xr_aload_n 0 dX8_drop_52 rfl rfl ?_
        refine xr_aload_n 2 dX8_drop_53 rfl rfl ?_
        refine xr_aload_n 2 dX8_drop_54 rfl rfl ?_
        refine yr_getR dX8_drop_55 fl_RX8_155 e11 t19 ?_
        refine yr_callV (r := (some a0)) [va_rf v1, va_rf (xR (xsI M14 a0 4 ((xI M14 a0 4) - 1)) a10 9)] dX8_drop_58 cv_X8_drop_158 rfl t18 rfl (Nat.le_trans wt_0 (by decide)) (by decide) (xSp.mono h ?_)
        clear h
        intro ρ22 M21 h
        obtain ⟨rfl, h⟩ := h
        refine xr_goto 74 dX8_drop_61 (by decide) ?_
        refine xr_iconst 1 dX8_drop_74 (by decide) ?_
        exact xr_retv (by decide) (xRi rfl rfl dX8_drop_75) h
    · replace h := hf c29
      clear ht hf
      refine xr_aload_n 0 dX8_drop_37 rfl rfl ?_
      refine xr_aload_n 2 dX8_drop_38 rfl rfl ?_
      refine yr_callV (r := (some a0)) [va_rf v1] dX8_drop_39 cv_X8_drop_152 rfl t18 rfl (Nat.le_trans wt_0 (by decide)) (by decide) (xSp.mono h ?_)
      clear h
      intro ρ27 M26 h
      obtain ⟨rfl, h⟩ := h
      refine xr_goto 74 dX8_drop_42 (by decide) ?_
      refine xr_iconst 1 dX8_drop_74 (by decide) ?_
      exact xr_retv (by decide) (xRi rfl rfl dX8_drop_75) h
  · replace h := hf c30
    clear ht hf
    refine xr_iconst 0 dX8_drop_10 (by decide) ?_
    exact xr_retv (by decide) (xRi rfl rfl dX8_drop_11) h
theorem dX8_detach_0 : decode cX8_detach 0 = .ok (.aload_n 2, 1) := by decide +kernel
theorem dX8_detach_1 : decode cX8_detach 1 = .ok (.aload_n 1, 1) := by decide +kernel
theorem dX8_detach_2 : decode cX8_detach 2 = .ok (.invokevirtual 166, 3) := by decide +kernel
theorem dX8_detach_5 : decode cX8_detach 5 = .ok (.aload_n 0, 1) := by decide +kernel
theorem dX8_detach_6 : decode cX8_detach 6 = .ok (.aload_n 1, 1) := by decide +kernel
theorem dX8_detach_7 : decode cX8_detach 7 = .ok (.invokevirtual 169, 3) := by decide +kernel
theorem dX8_detach_10 : decode cX8_detach 10 = .ok (.aload_n 0, 1) := by decide +kernel
theorem dX8_detach_11 : decode cX8_detach 11 = .ok (.aload_n 2, 1) := by decide +kernel
theorem dX8_detach_12 : decode cX8_detach 12 = .ok (.invokevirtual 152, 3) := by decide +kernel
theorem dX8_detach_15 : decode cX8_detach 15 = .ok (.return_, 1) := by decide +kernel
set_option maxRecDepth 100000 in
set_option maxHeartbeats 4000000 in
theorem bX8_detach_0 {l : Launch} {g : xG} (a0 : Nat) (r1 : Option Nat) (r2 : Option Nat) {M : xM} {Q : Option Value → xM → Prop} (h : (∃ a5, r2 = some a5 ∧ xat M a5 1 ∧ xSp l g mX3_lose 0 0 [va_rf r2, va_rf r1] M (fun ρ3 M2 => ρ3 = none ∧ (xat M2 a0 5 ∧ xSp l g mX8_release 0 0 [va_rf (some a0), va_rf r1] M2 (fun ρ10 M9 => ρ10 = none ∧ (xat M9 a0 5 ∧ xSp l g mX8_join 0 0 [va_rf (some a0), va_rf r2] M9 (fun ρ15 M14 => ρ15 = none ∧ (Q none M14)))))))) : xWp l g mX8_detach 0 0 0 [(1, va_rf (some a0)), (1, va_rf r1), (1, va_rf r2)] [] (0, 0) M Q := by
  refine xr_aload_n 2 dX8_detach_0 rfl rfl ?_
  refine xr_aload_n 1 dX8_detach_1 rfl rfl ?_
  obtain ⟨a5, e6, h⟩ := h
  obtain ⟨t7, h⟩ := h
  refine yr_callV (r := r2) [va_rf r1] dX8_detach_2 cv_X8_detach_166 e6 t7 rfl (Nat.le_trans wt_0 (by decide)) (by decide) (xSp.mono h ?_)
  clear h
  intro ρ3 M2 h
  obtain ⟨rfl, h⟩ := h
  refine xr_aload_n 0 dX8_detach_5 rfl rfl ?_
  refine xr_aload_n 1 dX8_detach_6 rfl rfl ?_
  obtain ⟨t12, h⟩ := h
  refine yr_callV (r := (some a0)) [va_rf r1] dX8_detach_7 cv_X8_detach_169 rfl t12 rfl (Nat.le_trans wt_0 (by decide)) (by decide) (xSp.mono h ?_)
  clear h
  intro ρ10 M9 h
  obtain ⟨rfl, h⟩ := h
  refine xr_aload_n 0 dX8_detach_10 rfl rfl ?_
  refine xr_aload_n 2 dX8_detach_11 rfl rfl ?_
  obtain ⟨t17, h⟩ := h
  refine yr_callV (r := (some a0)) [va_rf r2] dX8_detach_12 cv_X8_detach_152 rfl t17 rfl (Nat.le_trans wt_0 (by decide)) (by decide) (xSp.mono h ?_)
  clear h
  intro ρ15 M14 h
  obtain ⟨rfl, h⟩ := h
  exact xr_ret (by decide) (xRv rfl dX8_detach_15) h
theorem dX8_join_0 : decode cX8_join 0 = .ok (.aload_n 1, 1) := by decide +kernel
theorem dX8_join_1 : decode cX8_join 1 = .ok (.getfield 172, 3) := by decide +kernel
theorem dX8_join_4 : decode cX8_join 4 = .ok (.astore_n 2, 1) := by decide +kernel
theorem dX8_join_5 : decode cX8_join 5 = .ok (.aload_n 1, 1) := by decide +kernel
theorem dX8_join_6 : decode cX8_join 6 = .ok (.getfield 78, 3) := by decide +kernel
theorem dX8_join_9 : decode cX8_join 9 = .ok (.ifCond .ne 15, 3) := by decide +kernel
theorem dX8_join_12 : decode cX8_join 12 = .ok (.aload_n 1, 1) := by decide +kernel
theorem dX8_join_13 : decode cX8_join 13 = .ok (.getfield 149, 3) := by decide +kernel
theorem dX8_join_16 : decode cX8_join 16 = .ok (.iconst 1, 1) := by decide +kernel
theorem dX8_join_17 : decode cX8_join 17 = .ok (.if_icmp .ne 7, 3) := by decide +kernel
theorem dX8_join_20 : decode cX8_join 20 = .ok (.aload_n 2, 1) := by decide +kernel
theorem dX8_join_21 : decode cX8_join 21 = .ok (.ifnonnull 4, 3) := by decide +kernel
theorem dX8_join_24 : decode cX8_join 24 = .ok (.return_, 1) := by decide +kernel
theorem dX8_join_25 : decode cX8_join 25 = .ok (.aload_n 2, 1) := by decide +kernel
theorem dX8_join_26 : decode cX8_join 26 = .ok (.aload_n 1, 1) := by decide +kernel
theorem dX8_join_27 : decode cX8_join 27 = .ok (.invokevirtual 175, 3) := by decide +kernel
theorem dX8_join_30 : decode cX8_join 30 = .ok (.aload_n 0, 1) := by decide +kernel
theorem dX8_join_31 : decode cX8_join 31 = .ok (.aload_n 1, 1) := by decide +kernel
theorem dX8_join_32 : decode cX8_join 32 = .ok (.aload_n 2, 1) := by decide +kernel
theorem dX8_join_33 : decode cX8_join 33 = .ok (.invokevirtual 133, 3) := by decide +kernel
theorem dX8_join_36 : decode cX8_join 36 = .ok (.aload_n 0, 1) := by decide +kernel
theorem dX8_join_37 : decode cX8_join 37 = .ok (.aload_n 1, 1) := by decide +kernel
theorem dX8_join_38 : decode cX8_join 38 = .ok (.invokevirtual 169, 3) := by decide +kernel
theorem dX8_join_41 : decode cX8_join 41 = .ok (.aload_n 2, 1) := by decide +kernel
theorem dX8_join_42 : decode cX8_join 42 = .ok (.invokevirtual 108, 3) := by decide +kernel
theorem dX8_join_45 : decode cX8_join 45 = .ok (.return_, 1) := by decide +kernel
set_option maxRecDepth 100000 in
set_option maxHeartbeats 4000000 in
theorem bX8_join_0 {l : Launch} {g : xG} (a0 : Nat) (r1 : Option Nat) {M : xM} {Q : Option Value → xM → Prop} (h : (∃ a1, r1 = some a1 ∧ xat M a1 1 ∧ ((¬ (xI M a1 3) = 0 → (Q none M)) ∧ ((xI M a1 3) = 0 → ((¬ (xI M a1 5) = 1 → (Q none M)) ∧ ((xI M a1 5) = 1 → ((¬ (xR M a1 10) = none → (∃ a8, (xR M a1 10) = some a8 ∧ xat M a8 1 ∧ xSp l g mX3_takePrefixOfParent 0 0 [va_rf (xR M a1 10), va_rf r1] M (fun ρ6 M5 => ρ6 = none ∧ (xat M5 a0 5 ∧ xSp l g mX8_putInPlace 0 0 [va_rf (some a0), va_rf r1, va_rf (xR M a1 10)] M5 (fun ρ13 M12 => ρ13 = none ∧ (xat M12 a0 5 ∧ xSp l g mX8_release 0 0 [va_rf (some a0), va_rf r1] M12 (fun ρ18 M17 => ρ18 = none ∧ (∃ a25, (xR M a1 10) = some a25 ∧ xat M17 a25 1 ∧ xSp l g mX3_freshen 0 0 [va_rf (xR M a1 10)] M17 (fun ρ23 M22 => ρ23 = none ∧ (Q none M22)))))))))) ∧ ((xR M a1 10) = none → (Q none M))))))))) : xWp l g mX8_join 0 0 0 [(1, va_rf (some a0)), (1, va_rf r1), (0, .null)] [] (0, 0) M Q := by
  refine xr_aload_n 1 dX8_join_0 rfl rfl ?_
  obtain ⟨a1, e2, h⟩ := h
  obtain ⟨t3, h⟩ := h
  refine yr_getR dX8_join_1 fl_RX8_172 e2 t3 ?_
  refine zastore_n 2 dX8_join_4 rfl (L1 := [(1, va_rf (some a0)), (1, va_rf r1), (1, va_rf (xR M a1 10))]) (by decide) rfl ?_
  refine xr_aload_n 1 dX8_join_5 rfl rfl ?_
  refine yr_getZ dX8_join_6 fl_RX8_78 e2 t3 ?_
  obtain ⟨ht, hf⟩ := h
  refine xr_if_ne 24 dX8_join_9 (by decide) (fun c30 => ?_) (fun c30 => ?_)
  · replace h := ht c30
    clear ht hf
    exact xr_ret (by decide) (xRv rfl dX8_join_24) h
  · replace h := hf c30
    clear ht hf
    refine xr_aload_n 1 dX8_join_12 rfl rfl ?_
    refine yr_getI dX8_join_13 fl_RX8_149 e2 t3 ?_
    refine xr_iconst 1 dX8_join_16 (by decide) ?_
    obtain ⟨ht, hf⟩ := h
    refine xr_icmp_ne 24 dX8_join_17 (by decide) (fun c29 => ?_) (fun c29 => ?_)
    · replace h := ht c29
      clear ht hf
      exact xr_ret (by decide) (xRv rfl dX8_join_24) h
    · replace h := hf c29
      clear ht hf
      refine xr_aload_n 2 dX8_join_20 rfl rfl ?_
      obtain ⟨ht, hf⟩ := h
      refine xr_ifnonnull 25 dX8_join_21 (by decide) (fun c28 => ?_) (fun c28 => ?_)
      · replace h := ht c28
        clear ht hf
        refine xr_aload_n 2 dX8_join_25 rfl rfl ?_
        refine xr_aload_n 1 dX8_join_26 rfl rfl ?_
        obtain ⟨a8, e9, h⟩ := h
        obtain ⟨t10, h⟩ := h
        refine yr_callV (r := (xR M a1 10)) [va_rf r1] dX8_join_27 cv_X8_join_175 e9 t10 rfl (Nat.le_trans wt_0 (by decide)) (by decide) (xSp.mono h ?_)
        clear h
        intro ρ6 M5 h
        obtain ⟨rfl, h⟩ := h
        refine xr_aload_n 0 dX8_join_30 rfl rfl ?_
        refine xr_aload_n 1 dX8_join_31 rfl rfl ?_
        refine xr_aload_n 2 dX8_join_32 rfl rfl ?_
        obtain ⟨t15, h⟩ := h
        refine yr_callV (r := (some a0)) [va_rf r1, va_rf (xR M a1 10)] dX8_join_33 cv_X8_join_133 rfl t15 rfl (Nat.le_trans wt_0 (by decide)) (by decide) (xSp.mono h ?_)
        clear h
        intro ρ13 M12 h
        obtain ⟨rfl, h⟩ := h
        refine xr_aload_n 0 dX8_join_36 rfl rfl ?_
        refine xr_aload_n 1 dX8_join_37 rfl rfl ?_
        obtain ⟨t20, h⟩ := h
        refine yr_callV (r := (some a0)) [va_rf r1] dX8_join_38 cv_X8_join_169 rfl t20 rfl (Nat.le_trans wt_0 (by decide)) (by decide) (xSp.mono h ?_)
        clear h
        intro ρ18 M17 h
        obtain ⟨rfl, h⟩ := h
        refine xr_aload_n 2 dX8_join_41 rfl rfl ?_
        obtain ⟨a25, e26, h⟩ := h
        obtain ⟨t27, h⟩ := h
        refine yr_callV (r := (xR M a1 10)) [] dX8_join_42 cv_X8_join_108 e26 t27 rfl (Nat.le_trans wt_0 (by decide)) (by decide) (xSp.mono h ?_)
        clear h
        intro ρ23 M22 h
        obtain ⟨rfl, h⟩ := h
        exact xr_ret (by decide) (xRv rfl dX8_join_45) h
      · replace h := hf c28
        clear ht hf
        exact xr_ret (by decide) (xRv rfl dX8_join_24) h
theorem dX8_keysBetween_0 : decode cX8_keysBetween 0 = .ok (.iconst 0, 1) := by decide +kernel
theorem dX8_keysBetween_1 : decode cX8_keysBetween 1 = .ok (.istore_n 2, 1) := by decide +kernel
theorem dX8_keysBetween_2 : decode cX8_keysBetween 2 = .ok (.aload_n 0, 1) := by decide +kernel
theorem dX8_keysBetween_3 : decode cX8_keysBetween 3 = .ok (.astore_n 3, 1) := by decide +kernel
theorem dX8_keysBetween_4 : decode cX8_keysBetween 4 = .ok (.aload_n 3, 1) := by decide +kernel
theorem dX8_keysBetween_5 : decode cX8_keysBetween 5 = .ok (.ifnull 31, 3) := by decide +kernel
theorem dX8_keysBetween_8 : decode cX8_keysBetween 8 = .ok (.aload_n 3, 1) := by decide +kernel
theorem dX8_keysBetween_9 : decode cX8_keysBetween 9 = .ok (.aload_n 1, 1) := by decide +kernel
theorem dX8_keysBetween_10 : decode cX8_keysBetween 10 = .ok (.if_acmp .eq 26, 3) := by decide +kernel
theorem dX8_keysBetween_13 : decode cX8_keysBetween 13 = .ok (.iload_n 2, 1) := by decide +kernel
theorem dX8_keysBetween_14 : decode cX8_keysBetween 14 = .ok (.aload_n 3, 1) := by decide +kernel
theorem dX8_keysBetween_15 : decode cX8_keysBetween 15 = .ok (.getfield 78, 3) := by decide +kernel
theorem dX8_keysBetween_18 : decode cX8_keysBetween 18 = .ok (.ifCond .eq 7, 3) := by decide +kernel
theorem dX8_keysBetween_21 : decode cX8_keysBetween 21 = .ok (.iconst 1, 1) := by decide +kernel
theorem dX8_keysBetween_22 : decode cX8_keysBetween 22 = .ok (.goto 4, 3) := by decide +kernel
theorem dX8_keysBetween_25 : decode cX8_keysBetween 25 = .ok (.iconst 0, 1) := by decide +kernel
theorem dX8_keysBetween_26 : decode cX8_keysBetween 26 = .ok (.iadd, 1) := by decide +kernel
theorem dX8_keysBetween_27 : decode cX8_keysBetween 27 = .ok (.istore_n 2, 1) := by decide +kernel
theorem dX8_keysBetween_28 : decode cX8_keysBetween 28 = .ok (.aload_n 3, 1) := by decide +kernel
theorem dX8_keysBetween_29 : decode cX8_keysBetween 29 = .ok (.invokevirtual 178, 3) := by decide +kernel
theorem dX8_keysBetween_32 : decode cX8_keysBetween 32 = .ok (.astore_n 3, 1) := by decide +kernel
theorem dX8_keysBetween_33 : decode cX8_keysBetween 33 = .ok (.goto (-29), 3) := by decide +kernel
theorem dX8_keysBetween_36 : decode cX8_keysBetween 36 = .ok (.iload_n 2, 1) := by decide +kernel
theorem dX8_keysBetween_37 : decode cX8_keysBetween 37 = .ok (.ireturn, 1) := by decide +kernel
set_option maxRecDepth 100000 in
set_option maxHeartbeats 4000000 in
theorem bX8_keysBetween_4 {l : Launch} {g : xG} (r0 : Option Nat) (r1 : Option Nat) (x2 : Int32) (r3 : Option Nat) {M : xM} {Q : Option Value → xM → Prop} (h : ((r3 = none → (Q (some (.int x2)) M)) ∧ (¬ r3 = none → ((r3 = r1 → (Q (some (.int x2)) M)) ∧ (¬ r3 = r1 → (∃ a1, r3 = some a1 ∧ xat M a1 1 ∧ (((xI M a1 3) = 0 → (xSp l g mX3_following 0 0 [va_rf r3] M (fun ρ6 M5 => ∃ v4 : Option Nat, ρ6 = some (va_rf v4) ∧ xWp l g mX8_keysBetween 0 0 4 [(1, va_rf r0), (1, va_rf r1), (1, .int (x2 + 0)), (1, va_rf v4)] [] (0, 0) M5 Q))) ∧ (¬ (xI M a1 3) = 0 → (xSp l g mX3_following 0 0 [va_rf r3] M (fun ρ10 M9 => ∃ v8 : Option Nat, ρ10 = some (va_rf v8) ∧ xWp l g mX8_keysBetween 0 0 4 [(1, va_rf r0), (1, va_rf r1), (1, .int (x2 + 1)), (1, va_rf v8)] [] (0, 0) M9 Q)))))))))) : xWp l g mX8_keysBetween 0 0 4 [(1, va_rf r0), (1, va_rf r1), (1, .int x2), (1, va_rf r3)] [] (0, 0) M Q := by
  refine xr_aload_n 3 dX8_keysBetween_4 rfl rfl ?_
  obtain ⟨ht, hf⟩ := h
  refine xr_ifnull 36 dX8_keysBetween_5 (by decide) (fun c14 => ?_) (fun c14 => ?_)
  · replace h := ht c14
    clear ht hf
    refine xr_iload_n 2 dX8_keysBetween_36 rfl rfl ?_
    exact xr_retv (by decide) (xRi rfl rfl dX8_keysBetween_37) h
  · replace h := hf c14
    clear ht hf
    refine xr_aload_n 3 dX8_keysBetween_8 rfl rfl ?_
    refine xr_aload_n 1 dX8_keysBetween_9 rfl rfl ?_
    obtain ⟨ht, hf⟩ := h
    refine xr_acmp_eq 36 dX8_keysBetween_10 (by decide) (fun c13 => ?_) (fun c13 => ?_)
    · replace h := ht c13
      clear ht hf
      refine xr_iload_n 2 dX8_keysBetween_36 rfl rfl ?_
      exact xr_retv (by decide) (xRi rfl rfl dX8_keysBetween_37) h
    · replace h := hf c13
      clear ht hf
      refine xr_iload_n 2 dX8_keysBetween_13 rfl rfl ?_
      refine xr_aload_n 3 dX8_keysBetween_14 rfl rfl ?_
      obtain ⟨a1, e2, h⟩ := h
      obtain ⟨t3, h⟩ := h
      refine yr_getZ dX8_keysBetween_15 fl_RX8_78 e2 t3 ?_
      obtain ⟨ht, hf⟩ := h
      refine xr_if_eq 25 dX8_keysBetween_18 (by decide) (fun c12 => ?_) (fun c12 => ?_)
      · replace h := ht c12
        clear ht hf
        refine xr_iconst 0 dX8_keysBetween_25 (by decide) ?_
        refine xr_iadd dX8_keysBetween_26 ?_
        refine zistore_n 2 dX8_keysBetween_27 rfl (L1 := [(1, va_rf r0), (1, va_rf r1), (1, .int (x2 + 0)), (1, va_rf r3)]) (by decide) rfl ?_
        refine xr_aload_n 3 dX8_keysBetween_28 rfl rfl ?_
        refine yr_callV (r := r3) [] dX8_keysBetween_29 cv_X8_keysBetween_178 e2 t3 rfl (Nat.le_trans wt_0 (by decide)) (by decide) (xSp.mono h ?_)
        clear h
        intro ρ6 M5 h
        obtain ⟨v4, rfl, h⟩ := h
        refine zastore_n 3 dX8_keysBetween_32 rfl (L1 := [(1, va_rf r0), (1, va_rf r1), (1, .int (x2 + 0)), (1, va_rf v4)]) (by decide) rfl ?_
        refine xr_goto 4 dX8_keysBetween_33 (by decide) ?_
        exact h
      · replace h := hf c12
        clear ht hf
        refine xr_iconst 1 dX8_keysBetween_21 (by decide) ?_
        refine xr_goto 26 dX8_keysBetween_22 (by decide) ?_
        refine xr_iadd dX8_keysBetween_26 ?_
        refine zistore_n 2 dX8_keysBetween_27 rfl (L1 := [(1, va_rf r0), (1, va_rf r1), (1, .int (x2 + 1)), (1, va_rf r3)]) (by decide) rfl ?_
        refine xr_aload_n 3 dX8_keysBetween_28 rfl rfl ?_
        refine yr_callV (r := r3) [] dX8_keysBetween_29 cv_X8_keysBetween_178 e2 t3 rfl (Nat.le_trans wt_0 (by decide)) (by decide) (xSp.mono h ?_)
        clear h
        intro ρ10 M9 h
        obtain ⟨v8, rfl, h⟩ := h
        refine zastore_n 3 dX8_keysBetween_32 rfl (L1 := [(1, va_rf r0), (1, va_rf r1), (1, .int (x2 + 1)), (1, va_rf v8)]) (by decide) rfl ?_
        refine xr_goto 4 dX8_keysBetween_33 (by decide) ?_
        exact h
set_option maxRecDepth 100000 in
set_option maxHeartbeats 4000000 in
theorem bX8_keysBetween_0 {l : Launch} {g : xG} (r0 : Option Nat) (r1 : Option Nat) {M : xM} {Q : Option Value → xM → Prop} (h : xWp l g mX8_keysBetween 0 0 4 [(1, va_rf r0), (1, va_rf r1), (1, .int 0), (1, va_rf r0)] [] (0, 0) M Q) : xWp l g mX8_keysBetween 0 0 0 [(1, va_rf r0), (1, va_rf r1), (0, .null), (0, .null)] [] (0, 0) M Q := by
  refine xr_iconst 0 dX8_keysBetween_0 (by decide) ?_
  refine zistore_n 2 dX8_keysBetween_1 rfl (L1 := [(1, va_rf r0), (1, va_rf r1), (1, .int 0), (0, .null)]) (by decide) rfl ?_
  refine xr_aload_n 0 dX8_keysBetween_2 rfl rfl ?_
  refine zastore_n 3 dX8_keysBetween_3 rfl (L1 := [(1, va_rf r0), (1, va_rf r1), (1, .int 0), (1, va_rf r0)]) (by decide) rfl ?_
  exact h
theorem dX8_keysUnder_0 : decode cX8_keysUnder 0 = .ok (.aload_n 0, 1) := by decide +kernel
theorem dX8_keysUnder_1 : decode cX8_keysUnder 1 = .ok (.aload_n 1, 1) := by decide +kernel
theorem dX8_keysUnder_2 : decode cX8_keysUnder 2 = .ok (.invokevirtual 74, 3) := by decide +kernel
theorem dX8_keysUnder_5 : decode cX8_keysUnder 5 = .ok (.aload_n 0, 1) := by decide +kernel
theorem dX8_keysUnder_6 : decode cX8_keysUnder 6 = .ok (.getfield 44, 3) := by decide +kernel
theorem dX8_keysUnder_9 : decode cX8_keysUnder 9 = .ok (.aload_n 1, 1) := by decide +kernel
theorem dX8_keysUnder_10 : decode cX8_keysUnder 10 = .ok (.getfield 61, 3) := by decide +kernel
theorem dX8_keysUnder_13 : decode cX8_keysUnder 13 = .ok (.if_icmp .ge 7, 3) := by decide +kernel
theorem dX8_keysUnder_16 : decode cX8_keysUnder 16 = .ok (.iconst 0, 1) := by decide +kernel
theorem dX8_keysUnder_17 : decode cX8_keysUnder 17 = .ok (.goto 17, 3) := by decide +kernel
theorem dX8_keysUnder_20 : decode cX8_keysUnder 20 = .ok (.aload_n 0, 1) := by decide +kernel
theorem dX8_keysUnder_21 : decode cX8_keysUnder 21 = .ok (.getfield 34, 3) := by decide +kernel
theorem dX8_keysUnder_24 : decode cX8_keysUnder 24 = .ok (.aload_n 0, 1) := by decide +kernel
theorem dX8_keysUnder_25 : decode cX8_keysUnder 25 = .ok (.getfield 34, 3) := by decide +kernel
theorem dX8_keysUnder_28 : decode cX8_keysUnder 28 = .ok (.invokevirtual 181, 3) := by decide +kernel
theorem dX8_keysUnder_31 : decode cX8_keysUnder 31 = .ok (.invokestatic 184, 3) := by decide +kernel
theorem dX8_keysUnder_34 : decode cX8_keysUnder 34 = .ok (.ireturn, 1) := by decide +kernel
set_option maxRecDepth 100000 in
set_option maxHeartbeats 4000000 in
theorem bX8_keysUnder_0 {l : Launch} {g : xG} (a0 : Nat) (r1 : Option Nat) {M : xM} {Q : Option Value → xM → Prop} (h : (xat M a0 5 ∧ xSp l g mX8_seek 0 0 [va_rf (some a0), va_rf r1] M (fun ρ3 M2 => ρ3 = none ∧ (xat M2 a0 5 ∧ (∃ a7, r1 = some a7 ∧ xat M2 a7 4 ∧ (((xI M2 a7 1) ≤ (xI M2 a0 7) → (∃ a14, (xR M2 a0 5) = some a14 ∧ xat M2 a14 1 ∧ xSp l g mX3_behind 0 0 [va_rf (xR M2 a0 5)] M2 (fun ρ12 M11 => ∃ v10 : Option Nat, ρ12 = some (va_rf v10) ∧ (xSp l g mX8_keysBetween 0 0 [va_rf (xR M2 a0 5), va_rf v10] M11 (fun ρ19 M18 => ∃ v17 : Int32, ρ19 = some (.int v17) ∧ (Q (some (.int v17)) M18)))))) ∧ (¬ (xI M2 a7 1) ≤ (xI M2 a0 7) → (Q (some (.int 0)) M2)))))))) : xWp l g mX8_keysUnder 0 0 0 [(1, va_rf (some a0)), (1, va_rf r1)] [] (0, 0) M Q := by
  refine xr_aload_n 0 dX8_keysUnder_0 rfl rfl ?_
  refine xr_aload_n 1 dX8_keysUnder_1 rfl rfl ?_
  obtain ⟨t5, h⟩ := h
  refine yr_callV (r := (some a0)) [va_rf r1] dX8_keysUnder_2 cv_X8_keysUnder_74 rfl t5 rfl (Nat.le_trans wt_0 (by decide)) (by decide) (xSp.mono h ?_)
  clear h
  intro ρ3 M2 h
  obtain ⟨rfl, h⟩ := h
  refine xr_aload_n 0 dX8_keysUnder_5 rfl rfl ?_
  obtain ⟨t6, h⟩ := h
  refine yr_getI dX8_keysUnder_6 fl_RX8_44 rfl t6 ?_
  refine xr_aload_n 1 dX8_keysUnder_9 rfl rfl ?_
  obtain ⟨a7, e8, h⟩ := h
  obtain ⟨t9, h⟩ := h
  refine yr_getI dX8_keysUnder_10 fl_RX8_61 e8 t9 ?_
  obtain ⟨ht, hf⟩ := h
  refine xr_icmp_ge 20 dX8_keysUnder_13 (by decide) (fun c21 => ?_) (fun c21 => ?_)
  · replace h := ht c21
    clear ht hf
    refine xr_aload_n 0 dX8_keysUnder_20 rfl rfl ?_
    refine yr_getR dX8_keysUnder_21 fl_RX8_34 rfl t6 ?_
    refine xr_aload_n 0 dX8_keysUnder_24 rfl rfl ?_
    refine yr_getR dX8_keysUnder_25 fl_RX8_34 rfl t6 ?_
    obtain ⟨a14, e15, h⟩ := h
    obtain ⟨t16, h⟩ := h
    refine yr_callV (r := (xR M2 a0 5)) [] dX8_keysUnder_28 cv_X8_keysUnder_181 e15 t16 rfl (Nat.le_trans (wt_r wt_0) (by decide)) (by decide) (xSp.mono h ?_)
    clear h
    intro ρ12 M11 h
    obtain ⟨v10, rfl, h⟩ := h
    refine xr_callS [va_rf (xR M2 a0 5), va_rf v10] dX8_keysUnder_31 cs_X8_keysUnder_184 rfl (Nat.le_trans wt_0 (by decide)) (by decide) (xSp.mono h ?_)
    clear h
    intro ρ19 M18 h
    obtain ⟨v17, rfl, h⟩ := h
    exact xr_retv (by decide) (xRi rfl rfl dX8_keysUnder_34) h
  · replace h := hf c21
    clear ht hf
    refine xr_iconst 0 dX8_keysUnder_16 (by decide) ?_
    refine xr_goto 34 dX8_keysUnder_17 (by decide) ?_
    exact xr_retv (by decide) (xRi rfl rfl dX8_keysUnder_34) h
theorem dX8_keysAhead_0 : decode cX8_keysAhead 0 = .ok (.aload_n 0, 1) := by decide +kernel
theorem dX8_keysAhead_1 : decode cX8_keysAhead 1 = .ok (.aload_n 1, 1) := by decide +kernel
theorem dX8_keysAhead_2 : decode cX8_keysAhead 2 = .ok (.invokevirtual 74, 3) := by decide +kernel
theorem dX8_keysAhead_5 : decode cX8_keysAhead 5 = .ok (.aload_n 0, 1) := by decide +kernel
theorem dX8_keysAhead_6 : decode cX8_keysAhead 6 = .ok (.getfield 18, 3) := by decide +kernel
theorem dX8_keysAhead_9 : decode cX8_keysAhead 9 = .ok (.aload_n 0, 1) := by decide +kernel
theorem dX8_keysAhead_10 : decode cX8_keysAhead 10 = .ok (.aload_n 1, 1) := by decide +kernel
theorem dX8_keysAhead_11 : decode cX8_keysAhead 11 = .ok (.invokevirtual 188, 3) := by decide +kernel
theorem dX8_keysAhead_14 : decode cX8_keysAhead 14 = .ok (.invokestatic 184, 3) := by decide +kernel
theorem dX8_keysAhead_17 : decode cX8_keysAhead 17 = .ok (.ireturn, 1) := by decide +kernel
set_option maxRecDepth 100000 in
set_option maxHeartbeats 4000000 in
theorem bX8_keysAhead_0 {l : Launch} {g : xG} (a0 : Nat) (r1 : Option Nat) {M : xM} {Q : Option Value → xM → Prop} (h : (xat M a0 5 ∧ xSp l g mX8_seek 0 0 [va_rf (some a0), va_rf r1] M (fun ρ3 M2 => ρ3 = none ∧ (xat M2 a0 5 ∧ (xSp l g mX8_firstNotAhead 0 0 [va_rf (some a0), va_rf r1] M2 (fun ρ9 M8 => ∃ v7 : Option Nat, ρ9 = some (va_rf v7) ∧ (xSp l g mX8_keysBetween 0 0 [va_rf (xR M2 a0 2), va_rf v7] M8 (fun ρ13 M12 => ∃ v11 : Int32, ρ13 = some (.int v11) ∧ (Q (some (.int v11)) M12))))))))) : xWp l g mX8_keysAhead 0 0 0 [(1, va_rf (some a0)), (1, va_rf r1)] [] (0, 0) M Q := by
  refine xr_aload_n 0 dX8_keysAhead_0 rfl rfl ?_
  refine xr_aload_n 1 dX8_keysAhead_1 rfl rfl ?_
  obtain ⟨t5, h⟩ := h
  refine yr_callV (r := (some a0)) [va_rf r1] dX8_keysAhead_2 cv_X8_keysAhead_74 rfl t5 rfl (Nat.le_trans wt_0 (by decide)) (by decide) (xSp.mono h ?_)
  clear h
  intro ρ3 M2 h
  obtain ⟨rfl, h⟩ := h
  refine xr_aload_n 0 dX8_keysAhead_5 rfl rfl ?_
  obtain ⟨t6, h⟩ := h
  refine yr_getR dX8_keysAhead_6 fl_RX8_18 rfl t6 ?_
  refine xr_aload_n 0 dX8_keysAhead_9 rfl rfl ?_
  refine xr_aload_n 1 dX8_keysAhead_10 rfl rfl ?_
  refine yr_callV (r := (some a0)) [va_rf r1] dX8_keysAhead_11 cv_X8_keysAhead_188 rfl t6 rfl (Nat.le_trans (wt_r wt_0) (by decide)) (by decide) (xSp.mono h ?_)
  clear h
  intro ρ9 M8 h
  obtain ⟨v7, rfl, h⟩ := h
  refine xr_callS [va_rf (xR M2 a0 2), va_rf v7] dX8_keysAhead_14 cs_X8_keysAhead_184 rfl (Nat.le_trans wt_0 (by decide)) (by decide) (xSp.mono h ?_)
  clear h
  intro ρ13 M12 h
  obtain ⟨v11, rfl, h⟩ := h
  exact xr_retv (by decide) (xRi rfl rfl dX8_keysAhead_17) h
theorem dX8_firstNotAhead_0 : decode cX8_firstNotAhead 0 = .ok (.aload_n 0, 1) := by decide +kernel
theorem dX8_firstNotAhead_1 : decode cX8_firstNotAhead 1 = .ok (.getfield 44, 3) := by decide +kernel
theorem dX8_firstNotAhead_4 : decode cX8_firstNotAhead 4 = .ok (.aload_n 1, 1) := by decide +kernel
theorem dX8_firstNotAhead_5 : decode cX8_firstNotAhead 5 = .ok (.getfield 61, 3) := by decide +kernel
theorem dX8_firstNotAhead_8 : decode cX8_firstNotAhead 8 = .ok (.if_icmp .lt 8, 3) := by decide +kernel
theorem dX8_firstNotAhead_11 : decode cX8_firstNotAhead 11 = .ok (.aload_n 0, 1) := by decide +kernel
theorem dX8_firstNotAhead_12 : decode cX8_firstNotAhead 12 = .ok (.getfield 34, 3) := by decide +kernel
theorem dX8_firstNotAhead_15 : decode cX8_firstNotAhead 15 = .ok (.areturn, 1) := by decide +kernel
theorem dX8_firstNotAhead_16 : decode cX8_firstNotAhead 16 = .ok (.aload_n 1, 1) := by decide +kernel
theorem dX8_firstNotAhead_17 : decode cX8_firstNotAhead 17 = .ok (.aload_n 0, 1) := by decide +kernel
theorem dX8_firstNotAhead_18 : decode cX8_firstNotAhead 18 = .ok (.getfield 44, 3) := by decide +kernel
theorem dX8_firstNotAhead_21 : decode cX8_firstNotAhead 21 = .ok (.invokevirtual 66, 3) := by decide +kernel
theorem dX8_firstNotAhead_24 : decode cX8_firstNotAhead 24 = .ok (.istore_n 2, 1) := by decide +kernel
theorem dX8_firstNotAhead_25 : decode cX8_firstNotAhead 25 = .ok (.aload_n 0, 1) := by decide +kernel
theorem dX8_firstNotAhead_26 : decode cX8_firstNotAhead 26 = .ok (.getfield 51, 3) := by decide +kernel
theorem dX8_firstNotAhead_29 : decode cX8_firstNotAhead 29 = .ok (.aload_n 0, 1) := by decide +kernel
theorem dX8_firstNotAhead_30 : decode cX8_firstNotAhead 30 = .ok (.getfield 34, 3) := by decide +kernel
theorem dX8_firstNotAhead_33 : decode cX8_firstNotAhead 33 = .ok (.getfield 58, 3) := by decide +kernel
theorem dX8_firstNotAhead_36 : decode cX8_firstNotAhead 36 = .ok (.if_icmp .ge 33, 3) := by decide +kernel
theorem dX8_firstNotAhead_39 : decode cX8_firstNotAhead 39 = .ok (.iload_n 2, 1) := by decide +kernel
theorem dX8_firstNotAhead_40 : decode cX8_firstNotAhead 40 = .ok (.aload_n 0, 1) := by decide +kernel
theorem dX8_firstNotAhead_41 : decode cX8_firstNotAhead 41 = .ok (.getfield 34, 3) := by decide +kernel
theorem dX8_firstNotAhead_44 : decode cX8_firstNotAhead 44 = .ok (.aload_n 0, 1) := by decide +kernel
theorem dX8_firstNotAhead_45 : decode cX8_firstNotAhead 45 = .ok (.getfield 51, 3) := by decide +kernel
theorem dX8_firstNotAhead_48 : decode cX8_firstNotAhead 48 = .ok (.invokevirtual 130, 3) := by decide +kernel
theorem dX8_firstNotAhead_51 : decode cX8_firstNotAhead 51 = .ok (.if_icmp .ge 10, 3) := by decide +kernel
theorem dX8_firstNotAhead_54 : decode cX8_firstNotAhead 54 = .ok (.aload_n 0, 1) := by decide +kernel
theorem dX8_firstNotAhead_55 : decode cX8_firstNotAhead 55 = .ok (.getfield 34, 3) := by decide +kernel
theorem dX8_firstNotAhead_58 : decode cX8_firstNotAhead 58 = .ok (.goto 10, 3) := by decide +kernel
theorem dX8_firstNotAhead_61 : decode cX8_firstNotAhead 61 = .ok (.aload_n 0, 1) := by decide +kernel
theorem dX8_firstNotAhead_62 : decode cX8_firstNotAhead 62 = .ok (.getfield 34, 3) := by decide +kernel
theorem dX8_firstNotAhead_65 : decode cX8_firstNotAhead 65 = .ok (.invokevirtual 181, 3) := by decide +kernel
theorem dX8_firstNotAhead_68 : decode cX8_firstNotAhead 68 = .ok (.areturn, 1) := by decide +kernel
theorem dX8_firstNotAhead_69 : decode cX8_firstNotAhead 69 = .ok (.aload_n 0, 1) := by decide +kernel
theorem dX8_firstNotAhead_70 : decode cX8_firstNotAhead 70 = .ok (.getfield 34, 3) := by decide +kernel
theorem dX8_firstNotAhead_73 : decode cX8_firstNotAhead 73 = .ok (.iload_n 2, 1) := by decide +kernel
theorem dX8_firstNotAhead_74 : decode cX8_firstNotAhead 74 = .ok (.invokevirtual 191, 3) := by decide +kernel
theorem dX8_firstNotAhead_77 : decode cX8_firstNotAhead 77 = .ok (.astore_n 3, 1) := by decide +kernel
theorem dX8_firstNotAhead_78 : decode cX8_firstNotAhead 78 = .ok (.aload_n 3, 1) := by decide +kernel
theorem dX8_firstNotAhead_79 : decode cX8_firstNotAhead 79 = .ok (.ifnull 7, 3) := by decide +kernel
theorem dX8_firstNotAhead_82 : decode cX8_firstNotAhead 82 = .ok (.aload_n 3, 1) := by decide +kernel
theorem dX8_firstNotAhead_83 : decode cX8_firstNotAhead 83 = .ok (.goto 10, 3) := by decide +kernel
theorem dX8_firstNotAhead_86 : decode cX8_firstNotAhead 86 = .ok (.aload_n 0, 1) := by decide +kernel
theorem dX8_firstNotAhead_87 : decode cX8_firstNotAhead 87 = .ok (.getfield 34, 3) := by decide +kernel
theorem dX8_firstNotAhead_90 : decode cX8_firstNotAhead 90 = .ok (.invokevirtual 181, 3) := by decide +kernel
theorem dX8_firstNotAhead_93 : decode cX8_firstNotAhead 93 = .ok (.areturn, 1) := by decide +kernel
set_option maxRecDepth 100000 in
set_option maxHeartbeats 4000000 in
theorem bX8_firstNotAhead_0 {l : Launch} {g : xG} (a0 : Nat) (r1 : Option Nat) {M : xM} {Q : Option Value → xM → Prop} (h : (xat M a0 5 ∧ (∃ a2, r1 = some a2 ∧ xat M a2 4 ∧ (((xI M a0 7) < (xI M a2 1) → (xSp l g mX7_byteAt 0 0 [va_rf r1, .int (xI M a0 7)] M (fun ρ7 M6 => ∃ v5 : Int32, ρ7 = some (.int v5) ∧ (xat M6 a0 5 ∧ (∃ a10, (xR M6 a0 5) = some a10 ∧ xat M6 a10 1 ∧ (((xI M6 a10 1) ≤ (xI M6 a0 6) → (xSp l g mX3_firstFrom 0 0 [va_rf (xR M6 a0 5), .int v5] M6 (fun ρ15 M14 => ∃ v13 : Option Nat, ρ15 = some (va_rf v13) ∧ ((v13 = none → (xat M14 a0 5 ∧ (∃ a22, (xR M14 a0 5) = some a22 ∧ xat M14 a22 1 ∧ xSp l g mX3_behind 0 0 [va_rf (xR M14 a0 5)] M14 (fun ρ20 M19 => ∃ v18 : Option Nat, ρ20 = some (va_rf v18) ∧ (Q (some (va_rf v18)) M19))))) ∧ (¬ v13 = none → (Q (some (va_rf v13)) M14)))))) ∧ (¬ (xI M6 a10 1) ≤ (xI M6 a0 6) → (xSp l g mX3_prefixAt 0 0 [va_rf (xR M6 a0 5), .int (xI M6 a0 6)] M6 (fun ρ28 M27 => ∃ v26 : Int32, ρ28 = some (.int v26) ∧ ((v26 ≤ v5 → (xat M27 a0 5 ∧ (∃ a35, (xR M27 a0 5) = some a35 ∧ xat M27 a35 1 ∧ xSp l g mX3_behind 0 0 [va_rf (xR M27 a0 5)] M27 (fun ρ33 M32 => ∃ v31 : Option Nat, ρ33 = some (va_rf v31) ∧ (Q (some (va_rf v31)) M32))))) ∧ (¬ v26 ≤ v5 → (xat M27 a0 5 ∧ (Q (some (va_rf (xR M27 a0 5))) M27))))))))))))) ∧ (¬ (xI M a0 7) < (xI M a2 1) → (Q (some (va_rf (xR M a0 5))) M)))))) : xWp l g mX8_firstNotAhead 0 0 0 [(1, va_rf (some a0)), (1, va_rf r1), (0, .null), (0, .null)] [] (0, 0) M Q := by
  refine xr_aload_n 0 dX8_firstNotAhead_0 rfl rfl ?_
  obtain ⟨t1, h⟩ := h
  refine yr_getI dX8_firstNotAhead_1 fl_RX8_44 rfl t1 ?_
  refine xr_aload_n 1 dX8_firstNotAhead_4 rfl rfl ?_
  obtain ⟨a2, e3, h⟩ := h
  obtain ⟨t4, h⟩ := h
  refine yr_getI dX8_firstNotAhead_5 fl_RX8_61 e3 t4 ?_
  obtain ⟨ht, hf⟩ := h
  refine xr_icmp_lt 16 dX8_firstNotAhead_8 (by decide) (fun c41 => ?_) (fun c41 => ?_)
  · replace h := ht c41
    clear ht hf
    refine xr_aload_n 1 dX8_firstNotAhead_16 rfl rfl ?_
    refine xr_aload_n 0 dX8_firstNotAhead_17 rfl rfl ?_
    refine yr_getI dX8_firstNotAhead_18 fl_RX8_44 rfl t1 ?_
    refine yr_callV (r := r1) [.int (xI M a0 7)] dX8_firstNotAhead_21 cv_X8_firstNotAhead_66 e3 t4 rfl (Nat.le_trans wt_0 (by decide)) (by decide) (xSp.mono h ?_)
    clear h
    intro ρ7 M6 h
    obtain ⟨v5, rfl, h⟩ := h
    refine zistore_n 2 dX8_firstNotAhead_24 rfl (L1 := [(1, va_rf (some a0)), (1, va_rf r1), (1, .int v5), (0, .null)]) (by decide) rfl ?_
    refine xr_aload_n 0 dX8_firstNotAhead_25 rfl rfl ?_
    obtain ⟨t9, h⟩ := h
    refine yr_getI dX8_firstNotAhead_26 fl_RX8_51 rfl t9 ?_
    refine xr_aload_n 0 dX8_firstNotAhead_29 rfl rfl ?_
    refine yr_getR dX8_firstNotAhead_30 fl_RX8_34 rfl t9 ?_
    obtain ⟨a10, e11, h⟩ := h
    obtain ⟨t12, h⟩ := h
    refine yr_getI dX8_firstNotAhead_33 fl_RX8_58 e11 t12 ?_
    obtain ⟨ht, hf⟩ := h
    refine xr_icmp_ge 69 dX8_firstNotAhead_36 (by decide) (fun c40 => ?_) (fun c40 => ?_)
    · replace h := ht c40
      clear ht hf
      refine xr_aload_n 0 dX8_firstNotAhead_69 rfl rfl ?_
      refine yr_getR dX8_firstNotAhead_70 fl_RX8_34 rfl t9 ?_
      refine xr_iload_n 2 dX8_firstNotAhead_73 rfl rfl ?_
      refine yr_callV (r := (xR M6 a0 5)) [.int v5] dX8_firstNotAhead_74 cv_X8_firstNotAhead_191 e11 t12 rfl (Nat.le_trans wt_0 (by decide)) (by decide) (xSp.mono h ?_)
      clear h
      intro ρ15 M14 h
      obtain ⟨v13, rfl, h⟩ := h
      refine zastore_n 3 dX8_firstNotAhead_77 rfl (L1 := [(1, va_rf (some a0)), (1, va_rf r1), (1, .int v5), (1, va_rf v13)]) (by decide) rfl ?_
      refine xr_aload_n 3 dX8_firstNotAhead_78 rfl rfl ?_
      obtain ⟨ht, hf⟩ := h
      refine xr_ifnull 86 dX8_firstNotAhead_79 (by decide) (fun c25 => ?_) (fun c25 => ?_)
      · replace h := ht c25
        clear ht hf
        refine xr_aload_n 0 dX8_firstNotAhead_86 rfl rfl ?_
        obtain ⟨t17, h⟩ := h
        refine yr_getR dX8_firstNotAhead_87 fl_RX8_34 rfl t17 ?_
        obtain ⟨a22, e23, h⟩ := h
        obtain ⟨t24, h⟩ := h
        refine yr_callV (r := (xR M14 a0 5)) [] dX8_firstNotAhead_90 cv_X8_firstNotAhead_181 e23 t24 rfl (Nat.le_trans wt_0 (by decide)) (by decide) (xSp.mono h ?_)
        clear h
        intro ρ20 M19 h
        obtain ⟨v18, rfl, h⟩ := h
        exact xr_retv (by decide) (xRa rfl dX8_firstNotAhead_93) h
      · replace h := hf c25
        clear ht hf
        refine xr_aload_n 3 dX8_firstNotAhead_82 rfl rfl ?_
        refine xr_goto 93 dX8_firstNotAhead_83 (by decide) ?_
        exact xr_retv (by decide) (xRa rfl dX8_firstNotAhead_93) h
    · replace h := hf c40
      clear ht hf
      refine xr_iload_n 2 dX8_firstNotAhead_39 rfl rfl ?_
      refine xr_aload_n 0 dX8_firstNotAhead_40 rfl rfl ?_
      refine yr_getR dX8_firstNotAhead_41 fl_RX8_34 rfl t9 ?_
      refine xr_aload_n 0 dX8_firstNotAhead_44 rfl rfl ?_
      refine yr_getI dX8_firstNotAhead_45 fl_RX8_51 rfl t9 ?_
      refine yr_callV (r := (xR M6 a0 5)) [.int (xI M6 a0 6)] dX8_firstNotAhead_48 cv_X8_firstNotAhead_130 e11 t12 rfl (Nat.le_trans (wt_i wt_0) (by decide)) (by decide) (xSp.mono h ?_)
      clear h
      intro ρ28 M27 h
      obtain ⟨v26, rfl, h⟩ := h
      obtain ⟨ht, hf⟩ := h
      refine xr_icmp_ge 61 dX8_firstNotAhead_51 (by decide) (fun c39 => ?_) (fun c39 => ?_)
      · replace h := ht c39
        clear ht hf
        refine xr_aload_n 0 dX8_firstNotAhead_61 rfl rfl ?_
        obtain ⟨t30, h⟩ := h
        refine yr_getR dX8_firstNotAhead_62 fl_RX8_34 rfl t30 ?_
        obtain ⟨a35, e36, h⟩ := h
        obtain ⟨t37, h⟩ := h
        refine yr_callV (r := (xR M27 a0 5)) [] dX8_firstNotAhead_65 cv_X8_firstNotAhead_181 e36 t37 rfl (Nat.le_trans wt_0 (by decide)) (by decide) (xSp.mono h ?_)
        clear h
        intro ρ33 M32 h
        obtain ⟨v31, rfl, h⟩ := h
        exact xr_retv (by decide) (xRa rfl dX8_firstNotAhead_68) h
      · replace h := hf c39
        clear ht hf
        refine xr_aload_n 0 dX8_firstNotAhead_54 rfl rfl ?_
        obtain ⟨t38, h⟩ := h
        refine yr_getR dX8_firstNotAhead_55 fl_RX8_34 rfl t38 ?_
        refine xr_goto 68 dX8_firstNotAhead_58 (by decide) ?_
        exact xr_retv (by decide) (xRa rfl dX8_firstNotAhead_68) h
  · replace h := hf c41
    clear ht hf
    refine xr_aload_n 0 dX8_firstNotAhead_11 rfl rfl ?_
    refine yr_getR dX8_firstNotAhead_12 fl_RX8_34 rfl t1 ?_
    exact xr_retv (by decide) (xRa rfl dX8_firstNotAhead_15) h
theorem dX8_keyNumber_0 : decode cX8_keyNumber 0 = .ok (.iload_n 1, 1) := by decide +kernel
theorem dX8_keyNumber_1 : decode cX8_keyNumber 1 = .ok (.istore_n 2, 1) := by decide +kernel
theorem dX8_keyNumber_2 : decode cX8_keyNumber 2 = .ok (.aload_n 0, 1) := by decide +kernel
theorem dX8_keyNumber_3 : decode cX8_keyNumber 3 = .ok (.getfield 18, 3) := by decide +kernel
theorem dX8_keyNumber_6 : decode cX8_keyNumber 6 = .ok (.astore_n 3, 1) := by decide +kernel
theorem dX8_keyNumber_7 : decode cX8_keyNumber 7 = .ok (.aload_n 3, 1) := by decide +kernel
theorem dX8_keyNumber_8 : decode cX8_keyNumber 8 = .ok (.ifnull 43, 3) := by decide +kernel
theorem dX8_keyNumber_11 : decode cX8_keyNumber 11 = .ok (.iload_n 2, 1) := by decide +kernel
theorem dX8_keyNumber_12 : decode cX8_keyNumber 12 = .ok (.ifCond .lt 39, 3) := by decide +kernel
theorem dX8_keyNumber_15 : decode cX8_keyNumber 15 = .ok (.aload_n 3, 1) := by decide +kernel
theorem dX8_keyNumber_16 : decode cX8_keyNumber 16 = .ok (.getfield 78, 3) := by decide +kernel
theorem dX8_keyNumber_19 : decode cX8_keyNumber 19 = .ok (.ifCond .eq 9, 3) := by decide +kernel
theorem dX8_keyNumber_22 : decode cX8_keyNumber 22 = .ok (.iload_n 2, 1) := by decide +kernel
theorem dX8_keyNumber_23 : decode cX8_keyNumber 23 = .ok (.ifCond .ne 5, 3) := by decide +kernel
theorem dX8_keyNumber_26 : decode cX8_keyNumber 26 = .ok (.aload_n 3, 1) := by decide +kernel
theorem dX8_keyNumber_27 : decode cX8_keyNumber 27 = .ok (.areturn, 1) := by decide +kernel
theorem dX8_keyNumber_28 : decode cX8_keyNumber 28 = .ok (.iload_n 2, 1) := by decide +kernel
theorem dX8_keyNumber_29 : decode cX8_keyNumber 29 = .ok (.aload_n 3, 1) := by decide +kernel
theorem dX8_keyNumber_30 : decode cX8_keyNumber 30 = .ok (.getfield 78, 3) := by decide +kernel
theorem dX8_keyNumber_33 : decode cX8_keyNumber 33 = .ok (.ifCond .eq 7, 3) := by decide +kernel
theorem dX8_keyNumber_36 : decode cX8_keyNumber 36 = .ok (.iconst 1, 1) := by decide +kernel
theorem dX8_keyNumber_37 : decode cX8_keyNumber 37 = .ok (.goto 4, 3) := by decide +kernel
theorem dX8_keyNumber_40 : decode cX8_keyNumber 40 = .ok (.iconst 0, 1) := by decide +kernel
theorem dX8_keyNumber_41 : decode cX8_keyNumber 41 = .ok (.isub, 1) := by decide +kernel
theorem dX8_keyNumber_42 : decode cX8_keyNumber 42 = .ok (.istore_n 2, 1) := by decide +kernel
theorem dX8_keyNumber_43 : decode cX8_keyNumber 43 = .ok (.aload_n 3, 1) := by decide +kernel
theorem dX8_keyNumber_44 : decode cX8_keyNumber 44 = .ok (.invokevirtual 178, 3) := by decide +kernel
theorem dX8_keyNumber_47 : decode cX8_keyNumber 47 = .ok (.astore_n 3, 1) := by decide +kernel
theorem dX8_keyNumber_48 : decode cX8_keyNumber 48 = .ok (.goto (-41), 3) := by decide +kernel
theorem dX8_keyNumber_51 : decode cX8_keyNumber 51 = .ok (.aconst_null, 1) := by decide +kernel
theorem dX8_keyNumber_52 : decode cX8_keyNumber 52 = .ok (.areturn, 1) := by decide +kernel
set_option maxRecDepth 100000 in
set_option maxHeartbeats 4000000 in
theorem bX8_keyNumber_7 {l : Launch} {g : xG} (a0 : Nat) (x1 : Int32) (x2 : Int32) (r3 : Option Nat) {M : xM} {Q : Option Value → xM → Prop} (h : ((r3 = none → (Q (some (va_rf none)) M)) ∧ (¬ r3 = none → ((x2 < 0 → (Q (some (va_rf none)) M)) ∧ (¬ x2 < 0 → (∃ a1, r3 = some a1 ∧ xat M a1 1 ∧ (((xI M a1 3) = 0 → (((xI M a1 3) = 0 → (xSp l g mX3_following 0 0 [va_rf r3] M (fun ρ6 M5 => ∃ v4 : Option Nat, ρ6 = some (va_rf v4) ∧ xWp l g mX8_keyNumber 0 0 7 [(1, va_rf (some a0)), (1, .int x1), (1, .int (x2 - 0)), (1, va_rf v4)] [] (0, 0) M5 Q))) ∧ (¬ (xI M a1 3) = 0 → (xSp l g mX3_following 0 0 [va_rf r3] M (fun ρ10 M9 => ∃ v8 : Option Nat, ρ10 = some (va_rf v8) ∧ xWp l g mX8_keyNumber 0 0 7 [(1, va_rf (some a0)), (1, .int x1), (1, .int (x2 - 1)), (1, va_rf v8)] [] (0, 0) M9 Q))))) ∧ (¬ (xI M a1 3) = 0 → ((¬ x2 = 0 → (((xI M a1 3) = 0 → (xSp l g mX3_following 0 0 [va_rf r3] M (fun ρ15 M14 => ∃ v13 : Option Nat, ρ15 = some (va_rf v13) ∧ xWp l g mX8_keyNumber 0 0 7 [(1, va_rf (some a0)), (1, .int x1), (1, .int (x2 - 0)), (1, va_rf v13)] [] (0, 0) M14 Q))) ∧ (¬ (xI M a1 3) = 0 → (xSp l g mX3_following 0 0 [va_rf r3] M (fun ρ19 M18 => ∃ v17 : Option Nat, ρ19 = some (va_rf v17) ∧ xWp l g mX8_keyNumber 0 0 7 [(1, va_rf (some a0)), (1, .int x1), (1, .int (x2 - 1)), (1, va_rf v17)] [] (0, 0) M18 Q))))) ∧ (x2 = 0 → (Q (some (va_rf r3)) M))))))))))) : xWp l g mX8_keyNumber 0 0 7 [(1, va_rf (some a0)), (1, .int x1), (1, .int x2), (1, va_rf r3)] [] (0, 0) M Q := by
  refine xr_aload_n 3 dX8_keyNumber_7 rfl rfl ?_
  obtain ⟨ht, hf⟩ := h
  refine xr_ifnull 51 dX8_keyNumber_8 (by decide) (fun c25 => ?_) (fun c25 => ?_)
  · replace h := ht c25
    clear ht hf
    refine xr_null dX8_keyNumber_51 ?_
    exact xr_retv (by decide) (xRa rfl dX8_keyNumber_52) h
  · replace h := hf c25
    clear ht hf
    refine xr_iload_n 2 dX8_keyNumber_11 rfl rfl ?_
    obtain ⟨ht, hf⟩ := h
    refine xr_if_lt 51 dX8_keyNumber_12 (by decide) (fun c24 => ?_) (fun c24 => ?_)
    · replace h := ht c24
      clear ht hf
      refine xr_null dX8_keyNumber_51 ?_
      exact xr_retv (by decide) (xRa rfl dX8_keyNumber_52) h
    · replace h := hf c24
      clear ht hf
      refine xr_aload_n 3 dX8_keyNumber_15 rfl rfl ?_
      obtain ⟨a1, e2, h⟩ := h
      obtain ⟨t3, h⟩ := h
      refine yr_getZ dX8_keyNumber_16 fl_RX8_78 e2 t3 ?_
      obtain ⟨ht, hf⟩ := h
      refine xr_if_eq 28 dX8_keyNumber_19 (by decide) (fun c23 => ?_) (fun c23 => ?_)
      · replace h := ht c23
        clear ht hf
        refine xr_iload_n 2 dX8_keyNumber_28 rfl rfl ?_
        refine xr_aload_n 3 dX8_keyNumber_29 rfl rfl ?_
        refine yr_getZ dX8_keyNumber_30 fl_RX8_78 e2 t3 ?_
        obtain ⟨ht, hf⟩ := h
        refine xr_if_eq 40 dX8_keyNumber_33 (by decide) (fun c12 => ?_) (fun c12 => ?_)
        · replace h := ht c12
          clear ht hf
          refine xr_iconst 0 dX8_keyNumber_40 (by decide) ?_
          refine xr_isub dX8_keyNumber_41 ?_
          refine zistore_n 2 dX8_keyNumber_42 rfl (L1 := [(1, va_rf (some a0)), (1, .int x1), (1, .int (x2 - 0)), (1, va_rf r3)]) (by decide) rfl ?_
          refine xr_aload_n 3 dX8_keyNumber_43 rfl rfl ?_
          refine yr_callV (r := r3) [] dX8_keyNumber_44 cv_X8_keyNumber_178 e2 t3 rfl (Nat.le_trans wt_0 (by decide)) (by decide) (xSp.mono h ?_)
          clear h
          intro ρ6 M5 h
          obtain ⟨v4, rfl, h⟩ := h
          refine zastore_n 3 dX8_keyNumber_47 rfl (L1 := [(1, va_rf (some a0)), (1, .int x1), (1, .int (x2 - 0)), (1, va_rf v4)]) (by decide) rfl ?_
          refine xr_goto 7 dX8_keyNumber_48 (by decide) ?_
          exact h
        · replace h := hf c12
          clear ht hf
          refine xr_iconst 1 dX8_keyNumber_36 (by decide) ?_
          refine xr_goto 41 dX8_keyNumber_37 (by decide) ?_
          refine xr_isub dX8_keyNumber_41 ?_
          refine zistore_n 2 dX8_keyNumber_42 rfl (L1 := [(1, va_rf (some a0)), (1, .int x1), (1, .int (x2 - 1)), (1, va_rf r3)]) (by decide) rfl ?_
          refine xr_aload_n 3 dX8_keyNumber_43 rfl rfl ?_
          refine yr_callV (r := r3) [] dX8_keyNumber_44 cv_X8_keyNumber_178 e2 t3 rfl (Nat.le_trans wt_0 (by decide)) (by decide) (xSp.mono h ?_)
          clear h
          intro ρ10 M9 h
          obtain ⟨v8, rfl, h⟩ := h
          refine zastore_n 3 dX8_keyNumber_47 rfl (L1 := [(1, va_rf (some a0)), (1, .int x1), (1, .int (x2 - 1)), (1, va_rf v8)]) (by decide) rfl ?_
          refine xr_goto 7 dX8_keyNumber_48 (by decide) ?_
          exact h
      · replace h := hf c23
        clear ht hf
        refine xr_iload_n 2 dX8_keyNumber_22 rfl rfl ?_
        obtain ⟨ht, hf⟩ := h
        refine xr_if_ne 28 dX8_keyNumber_23 (by decide) (fun c22 => ?_) (fun c22 => ?_)
        · replace h := ht c22
          clear ht hf
          refine xr_iload_n 2 dX8_keyNumber_28 rfl rfl ?_
          refine xr_aload_n 3 dX8_keyNumber_29 rfl rfl ?_
          refine yr_getZ dX8_keyNumber_30 fl_RX8_78 e2 t3 ?_
          obtain ⟨ht, hf⟩ := h
          refine xr_if_eq 40 dX8_keyNumber_33 (by decide) (fun c21 => ?_) (fun c21 => ?_)
          · replace h := ht c21
            clear ht hf
            refine xr_iconst 0 dX8_keyNumber_40 (by decide) ?_
            refine xr_isub dX8_keyNumber_41 ?_
            refine zistore_n 2 dX8_keyNumber_42 rfl (L1 := [(1, va_rf (some a0)), (1, .int x1), (1, .int (x2 - 0)), (1, va_rf r3)]) (by decide) rfl ?_
            refine xr_aload_n 3 dX8_keyNumber_43 rfl rfl ?_
            refine yr_callV (r := r3) [] dX8_keyNumber_44 cv_X8_keyNumber_178 e2 t3 rfl (Nat.le_trans wt_0 (by decide)) (by decide) (xSp.mono h ?_)
            clear h
            intro ρ15 M14 h
            obtain ⟨v13, rfl, h⟩ := h
            refine zastore_n 3 dX8_keyNumber_47 rfl (L1 := [(1, va_rf (some a0)), (1, .int x1), (1, .int (x2 - 0)), (1, va_rf v13)]) (by decide) rfl ?_
            refine xr_goto 7 dX8_keyNumber_48 (by decide) ?_
            exact h
          · replace h := hf c21
            clear ht hf
            refine xr_iconst 1 dX8_keyNumber_36 (by decide) ?_
            refine xr_goto 41 dX8_keyNumber_37 (by decide) ?_
            refine xr_isub dX8_keyNumber_41 ?_
            refine zistore_n 2 dX8_keyNumber_42 rfl (L1 := [(1, va_rf (some a0)), (1, .int x1), (1, .int (x2 - 1)), (1, va_rf r3)]) (by decide) rfl ?_
            refine xr_aload_n 3 dX8_keyNumber_43 rfl rfl ?_
            refine yr_callV (r := r3) [] dX8_keyNumber_44 cv_X8_keyNumber_178 e2 t3 rfl (Nat.le_trans wt_0 (by decide)) (by decide) (xSp.mono h ?_)
            clear h
            intro ρ19 M18 h
            obtain ⟨v17, rfl, h⟩ := h
            refine zastore_n 3 dX8_keyNumber_47 rfl (L1 := [(1, va_rf (some a0)), (1, .int x1), (1, .int (x2 - 1)), (1, va_rf v17)]) (by decide) rfl ?_
            refine xr_goto 7 dX8_keyNumber_48 (by decide) ?_
            exact h
        · replace h := hf c22
          clear ht hf
          refine xr_aload_n 3 dX8_keyNumber_26 rfl rfl ?_
          exact xr_retv (by decide) (xRa rfl dX8_keyNumber_27) h
set_option maxRecDepth 100000 in
set_option maxHeartbeats 4000000 in
theorem bX8_keyNumber_0 {l : Launch} {g : xG} (a0 : Nat) (x1 : Int32) {M : xM} {Q : Option Value → xM → Prop} (h : (xat M a0 5 ∧ xWp l g mX8_keyNumber 0 0 7 [(1, va_rf (some a0)), (1, .int x1), (1, .int x1), (1, va_rf (xR M a0 2))] [] (0, 0) M Q)) : xWp l g mX8_keyNumber 0 0 0 [(1, va_rf (some a0)), (1, .int x1), (0, .null), (0, .null)] [] (0, 0) M Q := by
  refine xr_iload_n 1 dX8_keyNumber_0 rfl rfl ?_
  refine zistore_n 2 dX8_keyNumber_1 rfl (L1 := [(1, va_rf (some a0)), (1, .int x1), (1, .int x1), (0, .null)]) (by decide) rfl ?_
  refine xr_aload_n 0 dX8_keyNumber_2 rfl rfl ?_
  obtain ⟨t1, h⟩ := h
  refine yr_getR dX8_keyNumber_3 fl_RX8_18 rfl t1 ?_
  refine zastore_n 3 dX8_keyNumber_6 rfl (L1 := [(1, va_rf (some a0)), (1, .int x1), (1, .int x1), (1, va_rf (xR M a0 2))]) (by decide) rfl ?_
  exact h
theorem dX8_nodeNumber_0 : decode cX8_nodeNumber 0 = .ok (.iload_n 1, 1) := by decide +kernel
theorem dX8_nodeNumber_1 : decode cX8_nodeNumber 1 = .ok (.istore_n 2, 1) := by decide +kernel
theorem dX8_nodeNumber_2 : decode cX8_nodeNumber 2 = .ok (.aload_n 0, 1) := by decide +kernel
theorem dX8_nodeNumber_3 : decode cX8_nodeNumber 3 = .ok (.getfield 18, 3) := by decide +kernel
theorem dX8_nodeNumber_6 : decode cX8_nodeNumber 6 = .ok (.astore_n 3, 1) := by decide +kernel
theorem dX8_nodeNumber_7 : decode cX8_nodeNumber 7 = .ok (.aload_n 3, 1) := by decide +kernel
theorem dX8_nodeNumber_8 : decode cX8_nodeNumber 8 = .ok (.ifnull 24, 3) := by decide +kernel
theorem dX8_nodeNumber_11 : decode cX8_nodeNumber 11 = .ok (.iload_n 2, 1) := by decide +kernel
theorem dX8_nodeNumber_12 : decode cX8_nodeNumber 12 = .ok (.ifCond .lt 20, 3) := by decide +kernel
theorem dX8_nodeNumber_15 : decode cX8_nodeNumber 15 = .ok (.iload_n 2, 1) := by decide +kernel
theorem dX8_nodeNumber_16 : decode cX8_nodeNumber 16 = .ok (.ifCond .ne 5, 3) := by decide +kernel
theorem dX8_nodeNumber_19 : decode cX8_nodeNumber 19 = .ok (.aload_n 3, 1) := by decide +kernel
theorem dX8_nodeNumber_20 : decode cX8_nodeNumber 20 = .ok (.areturn, 1) := by decide +kernel
theorem dX8_nodeNumber_21 : decode cX8_nodeNumber 21 = .ok (.iinc 2 (-1), 3) := by decide +kernel
theorem dX8_nodeNumber_24 : decode cX8_nodeNumber 24 = .ok (.aload_n 3, 1) := by decide +kernel
theorem dX8_nodeNumber_25 : decode cX8_nodeNumber 25 = .ok (.invokevirtual 178, 3) := by decide +kernel
theorem dX8_nodeNumber_28 : decode cX8_nodeNumber 28 = .ok (.astore_n 3, 1) := by decide +kernel
theorem dX8_nodeNumber_29 : decode cX8_nodeNumber 29 = .ok (.goto (-22), 3) := by decide +kernel
theorem dX8_nodeNumber_32 : decode cX8_nodeNumber 32 = .ok (.aconst_null, 1) := by decide +kernel
theorem dX8_nodeNumber_33 : decode cX8_nodeNumber 33 = .ok (.areturn, 1) := by decide +kernel
set_option maxRecDepth 100000 in
set_option maxHeartbeats 4000000 in
theorem bX8_nodeNumber_7 {l : Launch} {g : xG} (a0 : Nat) (x1 : Int32) (x2 : Int32) (r3 : Option Nat) {M : xM} {Q : Option Value → xM → Prop} (h : ((r3 = none → (Q (some (va_rf none)) M)) ∧ (¬ r3 = none → ((x2 < 0 → (Q (some (va_rf none)) M)) ∧ (¬ x2 < 0 → ((¬ x2 = 0 → (∃ a5, r3 = some a5 ∧ xat M a5 1 ∧ xSp l g mX3_following 0 0 [va_rf r3] M (fun ρ3 M2 => ∃ v1 : Option Nat, ρ3 = some (va_rf v1) ∧ xWp l g mX8_nodeNumber 0 0 7 [(1, va_rf (some a0)), (1, .int x1), (1, .int (x2 + (-1))), (1, va_rf v1)] [] (0, 0) M2 Q))) ∧ (x2 = 0 → (Q (some (va_rf r3)) M)))))))) : xWp l g mX8_nodeNumber 0 0 7 [(1, va_rf (some a0)), (1, .int x1), (1, .int x2), (1, va_rf r3)] [] (0, 0) M Q := by
  refine xr_aload_n 3 dX8_nodeNumber_7 rfl rfl ?_
  obtain ⟨ht, hf⟩ := h
  refine xr_ifnull 32 dX8_nodeNumber_8 (by decide) (fun c10 => ?_) (fun c10 => ?_)
  · replace h := ht c10
    clear ht hf
    refine xr_null dX8_nodeNumber_32 ?_
    exact xr_retv (by decide) (xRa rfl dX8_nodeNumber_33) h
  · replace h := hf c10
    clear ht hf
    refine xr_iload_n 2 dX8_nodeNumber_11 rfl rfl ?_
    obtain ⟨ht, hf⟩ := h
    refine xr_if_lt 32 dX8_nodeNumber_12 (by decide) (fun c9 => ?_) (fun c9 => ?_)
    · replace h := ht c9
      clear ht hf
      refine xr_null dX8_nodeNumber_32 ?_
      exact xr_retv (by decide) (xRa rfl dX8_nodeNumber_33) h
    · replace h := hf c9
      clear ht hf
      refine xr_iload_n 2 dX8_nodeNumber_15 rfl rfl ?_
      obtain ⟨ht, hf⟩ := h
      refine xr_if_ne 21 dX8_nodeNumber_16 (by decide) (fun c8 => ?_) (fun c8 => ?_)
      · replace h := ht c8
        clear ht hf
        refine ziinc (x2 + (-1)) dX8_nodeNumber_21 rfl rfl (L1 := [(1, va_rf (some a0)), (1, .int x1), (1, .int (x2 + (-1))), (1, va_rf r3)]) (by decide) rfl ?_
        refine xr_aload_n 3 dX8_nodeNumber_24 rfl rfl ?_
        obtain ⟨a5, e6, h⟩ := h
        obtain ⟨t7, h⟩ := h
        refine yr_callV (r := r3) [] dX8_nodeNumber_25 cv_X8_nodeNumber_178 e6 t7 rfl (Nat.le_trans wt_0 (by decide)) (by decide) (xSp.mono h ?_)
        clear h
        intro ρ3 M2 h
        obtain ⟨v1, rfl, h⟩ := h
        refine zastore_n 3 dX8_nodeNumber_28 rfl (L1 := [(1, va_rf (some a0)), (1, .int x1), (1, .int (x2 + (-1))), (1, va_rf v1)]) (by decide) rfl ?_
        refine xr_goto 7 dX8_nodeNumber_29 (by decide) ?_
        exact h
      · replace h := hf c8
        clear ht hf
        refine xr_aload_n 3 dX8_nodeNumber_19 rfl rfl ?_
        exact xr_retv (by decide) (xRa rfl dX8_nodeNumber_20) h
set_option maxRecDepth 100000 in
set_option maxHeartbeats 4000000 in
theorem bX8_nodeNumber_0 {l : Launch} {g : xG} (a0 : Nat) (x1 : Int32) {M : xM} {Q : Option Value → xM → Prop} (h : (xat M a0 5 ∧ xWp l g mX8_nodeNumber 0 0 7 [(1, va_rf (some a0)), (1, .int x1), (1, .int x1), (1, va_rf (xR M a0 2))] [] (0, 0) M Q)) : xWp l g mX8_nodeNumber 0 0 0 [(1, va_rf (some a0)), (1, .int x1), (0, .null), (0, .null)] [] (0, 0) M Q := by
  refine xr_iload_n 1 dX8_nodeNumber_0 rfl rfl ?_
  refine zistore_n 2 dX8_nodeNumber_1 rfl (L1 := [(1, va_rf (some a0)), (1, .int x1), (1, .int x1), (0, .null)]) (by decide) rfl ?_
  refine xr_aload_n 0 dX8_nodeNumber_2 rfl rfl ?_
  obtain ⟨t1, h⟩ := h
  refine yr_getR dX8_nodeNumber_3 fl_RX8_18 rfl t1 ?_
  refine zastore_n 3 dX8_nodeNumber_6 rfl (L1 := [(1, va_rf (some a0)), (1, .int x1), (1, .int x1), (1, va_rf (xR M a0 2))]) (by decide) rfl ?_
  exact h
theorem dX8_nodesOfFormat_0 : decode cX8_nodesOfFormat 0 = .ok (.iconst 0, 1) := by decide +kernel
theorem dX8_nodesOfFormat_1 : decode cX8_nodesOfFormat 1 = .ok (.istore_n 2, 1) := by decide +kernel
theorem dX8_nodesOfFormat_2 : decode cX8_nodesOfFormat 2 = .ok (.aload_n 0, 1) := by decide +kernel
theorem dX8_nodesOfFormat_3 : decode cX8_nodesOfFormat 3 = .ok (.getfield 18, 3) := by decide +kernel
theorem dX8_nodesOfFormat_6 : decode cX8_nodesOfFormat 6 = .ok (.astore_n 3, 1) := by decide +kernel
theorem dX8_nodesOfFormat_7 : decode cX8_nodesOfFormat 7 = .ok (.aload_n 3, 1) := by decide +kernel
theorem dX8_nodesOfFormat_8 : decode cX8_nodesOfFormat 8 = .ok (.ifnull 27, 3) := by decide +kernel
theorem dX8_nodesOfFormat_11 : decode cX8_nodesOfFormat 11 = .ok (.iload_n 2, 1) := by decide +kernel
theorem dX8_nodesOfFormat_12 : decode cX8_nodesOfFormat 12 = .ok (.aload_n 3, 1) := by decide +kernel
theorem dX8_nodesOfFormat_13 : decode cX8_nodesOfFormat 13 = .ok (.getfield 163, 3) := by decide +kernel
theorem dX8_nodesOfFormat_16 : decode cX8_nodesOfFormat 16 = .ok (.iload_n 1, 1) := by decide +kernel
theorem dX8_nodesOfFormat_17 : decode cX8_nodesOfFormat 17 = .ok (.if_icmp .ne 7, 3) := by decide +kernel
theorem dX8_nodesOfFormat_20 : decode cX8_nodesOfFormat 20 = .ok (.iconst 1, 1) := by decide +kernel
theorem dX8_nodesOfFormat_21 : decode cX8_nodesOfFormat 21 = .ok (.goto 4, 3) := by decide +kernel
theorem dX8_nodesOfFormat_24 : decode cX8_nodesOfFormat 24 = .ok (.iconst 0, 1) := by decide +kernel
theorem dX8_nodesOfFormat_25 : decode cX8_nodesOfFormat 25 = .ok (.iadd, 1) := by decide +kernel
theorem dX8_nodesOfFormat_26 : decode cX8_nodesOfFormat 26 = .ok (.istore_n 2, 1) := by decide +kernel
theorem dX8_nodesOfFormat_27 : decode cX8_nodesOfFormat 27 = .ok (.aload_n 3, 1) := by decide +kernel
theorem dX8_nodesOfFormat_28 : decode cX8_nodesOfFormat 28 = .ok (.invokevirtual 178, 3) := by decide +kernel
theorem dX8_nodesOfFormat_31 : decode cX8_nodesOfFormat 31 = .ok (.astore_n 3, 1) := by decide +kernel
theorem dX8_nodesOfFormat_32 : decode cX8_nodesOfFormat 32 = .ok (.goto (-25), 3) := by decide +kernel
theorem dX8_nodesOfFormat_35 : decode cX8_nodesOfFormat 35 = .ok (.iload_n 2, 1) := by decide +kernel
theorem dX8_nodesOfFormat_36 : decode cX8_nodesOfFormat 36 = .ok (.ireturn, 1) := by decide +kernel
set_option maxRecDepth 100000 in
set_option maxHeartbeats 4000000 in
theorem bX8_nodesOfFormat_7 {l : Launch} {g : xG} (a0 : Nat) (x1 : Int32) (x2 : Int32) (r3 : Option Nat) {M : xM} {Q : Option Value → xM → Prop} (h : ((r3 = none → (Q (some (.int x2)) M)) ∧ (¬ r3 = none → (∃ a1, r3 = some a1 ∧ xat M a1 1 ∧ ((¬ (xI M a1 2) = x1 → (xSp l g mX3_following 0 0 [va_rf r3] M (fun ρ6 M5 => ∃ v4 : Option Nat, ρ6 = some (va_rf v4) ∧ xWp l g mX8_nodesOfFormat 0 0 7 [(1, va_rf (some a0)), (1, .int x1), (1, .int (x2 + 0)), (1, va_rf v4)] [] (0, 0) M5 Q))) ∧ ((xI M a1 2) = x1 → (xSp l g mX3_following 0 0 [va_rf r3] M (fun ρ10 M9 => ∃ v8 : Option Nat, ρ10 = some (va_rf v8) ∧ xWp l g mX8_nodesOfFormat 0 0 7 [(1, va_rf (some a0)), (1, .int x1), (1, .int (x2 + 1)), (1, va_rf v8)] [] (0, 0) M9 Q)))))))) : xWp l g mX8_nodesOfFormat 0 0 7 [(1, va_rf (some a0)), (1, .int x1), (1, .int x2), (1, va_rf r3)] [] (0, 0) M Q := by
  refine xr_aload_n 3 dX8_nodesOfFormat_7 rfl rfl ?_
  obtain ⟨ht, hf⟩ := h
  refine xr_ifnull 35 dX8_nodesOfFormat_8 (by decide) (fun c13 => ?_) (fun c13 => ?_)
  · replace h := ht c13
    clear ht hf
    refine xr_iload_n 2 dX8_nodesOfFormat_35 rfl rfl ?_
    exact xr_retv (by decide) (xRi rfl rfl dX8_nodesOfFormat_36) h
  · replace h := hf c13
    clear ht hf
    refine xr_iload_n 2 dX8_nodesOfFormat_11 rfl rfl ?_
    refine xr_aload_n 3 dX8_nodesOfFormat_12 rfl rfl ?_
    obtain ⟨a1, e2, h⟩ := h
    obtain ⟨t3, h⟩ := h
    refine yr_getI dX8_nodesOfFormat_13 fl_RX8_163 e2 t3 ?_
    refine xr_iload_n 1 dX8_nodesOfFormat_16 rfl rfl ?_
    obtain ⟨ht, hf⟩ := h
    refine xr_icmp_ne 24 dX8_nodesOfFormat_17 (by decide) (fun c12 => ?_) (fun c12 => ?_)
    · replace h := ht c12
      clear ht hf
      refine xr_iconst 0 dX8_nodesOfFormat_24 (by decide) ?_
      refine xr_iadd dX8_nodesOfFormat_25 ?_
      refine zistore_n 2 dX8_nodesOfFormat_26 rfl (L1 := [(1, va_rf (some a0)), (1, .int x1), (1, .int (x2 + 0)), (1, va_rf r3)]) (by decide) rfl ?_
      refine xr_aload_n 3 dX8_nodesOfFormat_27 rfl rfl ?_
      refine yr_callV (r := r3) [] dX8_nodesOfFormat_28 cv_X8_nodesOfFormat_178 e2 t3 rfl (Nat.le_trans wt_0 (by decide)) (by decide) (xSp.mono h ?_)
      clear h
      intro ρ6 M5 h
      obtain ⟨v4, rfl, h⟩ := h
      refine zastore_n 3 dX8_nodesOfFormat_31 rfl (L1 := [(1, va_rf (some a0)), (1, .int x1), (1, .int (x2 + 0)), (1, va_rf v4)]) (by decide) rfl ?_
      refine xr_goto 7 dX8_nodesOfFormat_32 (by decide) ?_
      exact h
    · replace h := hf c12
      clear ht hf
      refine xr_iconst 1 dX8_nodesOfFormat_20 (by decide) ?_
      refine xr_goto 25 dX8_nodesOfFormat_21 (by decide) ?_
      refine xr_iadd dX8_nodesOfFormat_25 ?_
      refine zistore_n 2 dX8_nodesOfFormat_26 rfl (L1 := [(1, va_rf (some a0)), (1, .int x1), (1, .int (x2 + 1)), (1, va_rf r3)]) (by decide) rfl ?_
      refine xr_aload_n 3 dX8_nodesOfFormat_27 rfl rfl ?_
      refine yr_callV (r := r3) [] dX8_nodesOfFormat_28 cv_X8_nodesOfFormat_178 e2 t3 rfl (Nat.le_trans wt_0 (by decide)) (by decide) (xSp.mono h ?_)
      clear h
      intro ρ10 M9 h
      obtain ⟨v8, rfl, h⟩ := h
      refine zastore_n 3 dX8_nodesOfFormat_31 rfl (L1 := [(1, va_rf (some a0)), (1, .int x1), (1, .int (x2 + 1)), (1, va_rf v8)]) (by decide) rfl ?_
      refine xr_goto 7 dX8_nodesOfFormat_32 (by decide) ?_
      exact h
set_option maxRecDepth 100000 in
set_option maxHeartbeats 4000000 in
theorem bX8_nodesOfFormat_0 {l : Launch} {g : xG} (a0 : Nat) (x1 : Int32) {M : xM} {Q : Option Value → xM → Prop} (h : (xat M a0 5 ∧ xWp l g mX8_nodesOfFormat 0 0 7 [(1, va_rf (some a0)), (1, .int x1), (1, .int 0), (1, va_rf (xR M a0 2))] [] (0, 0) M Q)) : xWp l g mX8_nodesOfFormat 0 0 0 [(1, va_rf (some a0)), (1, .int x1), (0, .null), (0, .null)] [] (0, 0) M Q := by
  refine xr_iconst 0 dX8_nodesOfFormat_0 (by decide) ?_
  refine zistore_n 2 dX8_nodesOfFormat_1 rfl (L1 := [(1, va_rf (some a0)), (1, .int x1), (1, .int 0), (0, .null)]) (by decide) rfl ?_
  refine xr_aload_n 0 dX8_nodesOfFormat_2 rfl rfl ?_
  obtain ⟨t1, h⟩ := h
  refine yr_getR dX8_nodesOfFormat_3 fl_RX8_18 rfl t1 ?_
  refine zastore_n 3 dX8_nodesOfFormat_6 rfl (L1 := [(1, va_rf (some a0)), (1, .int x1), (1, .int 0), (1, va_rf (xR M a0 2))]) (by decide) rfl ?_
  exact h
theorem dX8_freshNodes_0 : decode cX8_freshNodes 0 = .ok (.iconst 0, 1) := by decide +kernel
theorem dX8_freshNodes_1 : decode cX8_freshNodes 1 = .ok (.istore_n 1, 1) := by decide +kernel
theorem dX8_freshNodes_2 : decode cX8_freshNodes 2 = .ok (.aload_n 0, 1) := by decide +kernel
theorem dX8_freshNodes_3 : decode cX8_freshNodes 3 = .ok (.getfield 18, 3) := by decide +kernel
theorem dX8_freshNodes_6 : decode cX8_freshNodes 6 = .ok (.astore_n 2, 1) := by decide +kernel
theorem dX8_freshNodes_7 : decode cX8_freshNodes 7 = .ok (.aload_n 2, 1) := by decide +kernel
theorem dX8_freshNodes_8 : decode cX8_freshNodes 8 = .ok (.ifnull 26, 3) := by decide +kernel
theorem dX8_freshNodes_11 : decode cX8_freshNodes 11 = .ok (.iload_n 1, 1) := by decide +kernel
theorem dX8_freshNodes_12 : decode cX8_freshNodes 12 = .ok (.aload_n 2, 1) := by decide +kernel
theorem dX8_freshNodes_13 : decode cX8_freshNodes 13 = .ok (.getfield 194, 3) := by decide +kernel
theorem dX8_freshNodes_16 : decode cX8_freshNodes 16 = .ok (.ifCond .eq 7, 3) := by decide +kernel
theorem dX8_freshNodes_19 : decode cX8_freshNodes 19 = .ok (.iconst 1, 1) := by decide +kernel
theorem dX8_freshNodes_20 : decode cX8_freshNodes 20 = .ok (.goto 4, 3) := by decide +kernel
theorem dX8_freshNodes_23 : decode cX8_freshNodes 23 = .ok (.iconst 0, 1) := by decide +kernel
theorem dX8_freshNodes_24 : decode cX8_freshNodes 24 = .ok (.iadd, 1) := by decide +kernel
theorem dX8_freshNodes_25 : decode cX8_freshNodes 25 = .ok (.istore_n 1, 1) := by decide +kernel
theorem dX8_freshNodes_26 : decode cX8_freshNodes 26 = .ok (.aload_n 2, 1) := by decide +kernel
theorem dX8_freshNodes_27 : decode cX8_freshNodes 27 = .ok (.invokevirtual 178, 3) := by decide +kernel
theorem dX8_freshNodes_30 : decode cX8_freshNodes 30 = .ok (.astore_n 2, 1) := by decide +kernel
theorem dX8_freshNodes_31 : decode cX8_freshNodes 31 = .ok (.goto (-24), 3) := by decide +kernel
theorem dX8_freshNodes_34 : decode cX8_freshNodes 34 = .ok (.iload_n 1, 1) := by decide +kernel
theorem dX8_freshNodes_35 : decode cX8_freshNodes 35 = .ok (.ireturn, 1) := by decide +kernel
set_option maxRecDepth 100000 in
set_option maxHeartbeats 4000000 in
theorem bX8_freshNodes_7 {l : Launch} {g : xG} (a0 : Nat) (x1 : Int32) (r2 : Option Nat) {M : xM} {Q : Option Value → xM → Prop} (h : ((r2 = none → (Q (some (.int x1)) M)) ∧ (¬ r2 = none → (∃ a1, r2 = some a1 ∧ xat M a1 1 ∧ (((xI M a1 8) = 0 → (xSp l g mX3_following 0 0 [va_rf r2] M (fun ρ6 M5 => ∃ v4 : Option Nat, ρ6 = some (va_rf v4) ∧ xWp l g mX8_freshNodes 0 0 7 [(1, va_rf (some a0)), (1, .int (x1 + 0)), (1, va_rf v4)] [] (0, 0) M5 Q))) ∧ (¬ (xI M a1 8) = 0 → (xSp l g mX3_following 0 0 [va_rf r2] M (fun ρ10 M9 => ∃ v8 : Option Nat, ρ10 = some (va_rf v8) ∧ xWp l g mX8_freshNodes 0 0 7 [(1, va_rf (some a0)), (1, .int (x1 + 1)), (1, va_rf v8)] [] (0, 0) M9 Q)))))))) : xWp l g mX8_freshNodes 0 0 7 [(1, va_rf (some a0)), (1, .int x1), (1, va_rf r2)] [] (0, 0) M Q := by
  refine xr_aload_n 2 dX8_freshNodes_7 rfl rfl ?_
  obtain ⟨ht, hf⟩ := h
  refine xr_ifnull 34 dX8_freshNodes_8 (by decide) (fun c13 => ?_) (fun c13 => ?_)
  · replace h := ht c13
    clear ht hf
    refine xr_iload_n 1 dX8_freshNodes_34 rfl rfl ?_
    exact xr_retv (by decide) (xRi rfl rfl dX8_freshNodes_35) h
  · replace h := hf c13
    clear ht hf
    refine xr_iload_n 1 dX8_freshNodes_11 rfl rfl ?_
    refine xr_aload_n 2 dX8_freshNodes_12 rfl rfl ?_
    obtain ⟨a1, e2, h⟩ := h
    obtain ⟨t3, h⟩ := h
    refine yr_getZ dX8_freshNodes_13 fl_RX8_194 e2 t3 ?_
    obtain ⟨ht, hf⟩ := h
    refine xr_if_eq 23 dX8_freshNodes_16 (by decide) (fun c12 => ?_) (fun c12 => ?_)
    · replace h := ht c12
      clear ht hf
      refine xr_iconst 0 dX8_freshNodes_23 (by decide) ?_
      refine xr_iadd dX8_freshNodes_24 ?_
      refine zistore_n 1 dX8_freshNodes_25 rfl (L1 := [(1, va_rf (some a0)), (1, .int (x1 + 0)), (1, va_rf r2)]) (by decide) rfl ?_
      refine xr_aload_n 2 dX8_freshNodes_26 rfl rfl ?_
      refine yr_callV (r := r2) [] dX8_freshNodes_27 cv_X8_freshNodes_178 e2 t3 rfl (Nat.le_trans wt_0 (by decide)) (by decide) (xSp.mono h ?_)
      clear h
      intro ρ6 M5 h
      obtain ⟨v4, rfl, h⟩ := h
      refine zastore_n 2 dX8_freshNodes_30 rfl (L1 := [(1, va_rf (some a0)), (1, .int (x1 + 0)), (1, va_rf v4)]) (by decide) rfl ?_
      refine xr_goto 7 dX8_freshNodes_31 (by decide) ?_
      exact h
    · replace h := hf c12
      clear ht hf
      refine xr_iconst 1 dX8_freshNodes_19 (by decide) ?_
      refine xr_goto 24 dX8_freshNodes_20 (by decide) ?_
      refine xr_iadd dX8_freshNodes_24 ?_
      refine zistore_n 1 dX8_freshNodes_25 rfl (L1 := [(1, va_rf (some a0)), (1, .int (x1 + 1)), (1, va_rf r2)]) (by decide) rfl ?_
      refine xr_aload_n 2 dX8_freshNodes_26 rfl rfl ?_
      refine yr_callV (r := r2) [] dX8_freshNodes_27 cv_X8_freshNodes_178 e2 t3 rfl (Nat.le_trans wt_0 (by decide)) (by decide) (xSp.mono h ?_)
      clear h
      intro ρ10 M9 h
      obtain ⟨v8, rfl, h⟩ := h
      refine zastore_n 2 dX8_freshNodes_30 rfl (L1 := [(1, va_rf (some a0)), (1, .int (x1 + 1)), (1, va_rf v8)]) (by decide) rfl ?_
      refine xr_goto 7 dX8_freshNodes_31 (by decide) ?_
      exact h
set_option maxRecDepth 100000 in
set_option maxHeartbeats 4000000 in
theorem bX8_freshNodes_0 {l : Launch} {g : xG} (a0 : Nat) {M : xM} {Q : Option Value → xM → Prop} (h : (xat M a0 5 ∧ xWp l g mX8_freshNodes 0 0 7 [(1, va_rf (some a0)), (1, .int 0), (1, va_rf (xR M a0 2))] [] (0, 0) M Q)) : xWp l g mX8_freshNodes 0 0 0 [(1, va_rf (some a0)), (0, .null), (0, .null)] [] (0, 0) M Q := by
  refine xr_iconst 0 dX8_freshNodes_0 (by decide) ?_
  refine zistore_n 1 dX8_freshNodes_1 rfl (L1 := [(1, va_rf (some a0)), (1, .int 0), (0, .null)]) (by decide) rfl ?_
  refine xr_aload_n 0 dX8_freshNodes_2 rfl rfl ?_
  obtain ⟨t1, h⟩ := h
  refine yr_getR dX8_freshNodes_3 fl_RX8_18 rfl t1 ?_
  refine zastore_n 2 dX8_freshNodes_6 rfl (L1 := [(1, va_rf (some a0)), (1, .int 0), (1, va_rf (xR M a0 2))]) (by decide) rfl ?_
  exact h
theorem dX8_nodesOnPages_0 : decode cX8_nodesOnPages 0 = .ok (.iconst 0, 1) := by decide +kernel
theorem dX8_nodesOnPages_1 : decode cX8_nodesOnPages 1 = .ok (.istore_n 1, 1) := by decide +kernel
theorem dX8_nodesOnPages_2 : decode cX8_nodesOnPages 2 = .ok (.aload_n 0, 1) := by decide +kernel
theorem dX8_nodesOnPages_3 : decode cX8_nodesOnPages 3 = .ok (.getfield 18, 3) := by decide +kernel
theorem dX8_nodesOnPages_6 : decode cX8_nodesOnPages 6 = .ok (.astore_n 2, 1) := by decide +kernel
theorem dX8_nodesOnPages_7 : decode cX8_nodesOnPages 7 = .ok (.aload_n 2, 1) := by decide +kernel
theorem dX8_nodesOnPages_8 : decode cX8_nodesOnPages 8 = .ok (.ifnull 26, 3) := by decide +kernel
theorem dX8_nodesOnPages_11 : decode cX8_nodesOnPages 11 = .ok (.iload_n 1, 1) := by decide +kernel
theorem dX8_nodesOnPages_12 : decode cX8_nodesOnPages 12 = .ok (.aload_n 2, 1) := by decide +kernel
theorem dX8_nodesOnPages_13 : decode cX8_nodesOnPages 13 = .ok (.getfield 197, 3) := by decide +kernel
theorem dX8_nodesOnPages_16 : decode cX8_nodesOnPages 16 = .ok (.ifCond .eq 7, 3) := by decide +kernel
theorem dX8_nodesOnPages_19 : decode cX8_nodesOnPages 19 = .ok (.iconst 1, 1) := by decide +kernel
theorem dX8_nodesOnPages_20 : decode cX8_nodesOnPages 20 = .ok (.goto 4, 3) := by decide +kernel
theorem dX8_nodesOnPages_23 : decode cX8_nodesOnPages 23 = .ok (.iconst 0, 1) := by decide +kernel
theorem dX8_nodesOnPages_24 : decode cX8_nodesOnPages 24 = .ok (.iadd, 1) := by decide +kernel
theorem dX8_nodesOnPages_25 : decode cX8_nodesOnPages 25 = .ok (.istore_n 1, 1) := by decide +kernel
theorem dX8_nodesOnPages_26 : decode cX8_nodesOnPages 26 = .ok (.aload_n 2, 1) := by decide +kernel
theorem dX8_nodesOnPages_27 : decode cX8_nodesOnPages 27 = .ok (.invokevirtual 178, 3) := by decide +kernel
theorem dX8_nodesOnPages_30 : decode cX8_nodesOnPages 30 = .ok (.astore_n 2, 1) := by decide +kernel
theorem dX8_nodesOnPages_31 : decode cX8_nodesOnPages 31 = .ok (.goto (-24), 3) := by decide +kernel
theorem dX8_nodesOnPages_34 : decode cX8_nodesOnPages 34 = .ok (.iload_n 1, 1) := by decide +kernel
theorem dX8_nodesOnPages_35 : decode cX8_nodesOnPages 35 = .ok (.ireturn, 1) := by decide +kernel
set_option maxRecDepth 100000 in
set_option maxHeartbeats 4000000 in
theorem bX8_nodesOnPages_7 {l : Launch} {g : xG} (a0 : Nat) (x1 : Int32) (r2 : Option Nat) {M : xM} {Q : Option Value → xM → Prop} (h : ((r2 = none → (Q (some (.int x1)) M)) ∧ (¬ r2 = none → (∃ a1, r2 = some a1 ∧ xat M a1 1 ∧ (((xI M a1 7) = 0 → (xSp l g mX3_following 0 0 [va_rf r2] M (fun ρ6 M5 => ∃ v4 : Option Nat, ρ6 = some (va_rf v4) ∧ xWp l g mX8_nodesOnPages 0 0 7 [(1, va_rf (some a0)), (1, .int (x1 + 0)), (1, va_rf v4)] [] (0, 0) M5 Q))) ∧ (¬ (xI M a1 7) = 0 → (xSp l g mX3_following 0 0 [va_rf r2] M (fun ρ10 M9 => ∃ v8 : Option Nat, ρ10 = some (va_rf v8) ∧ xWp l g mX8_nodesOnPages 0 0 7 [(1, va_rf (some a0)), (1, .int (x1 + 1)), (1, va_rf v8)] [] (0, 0) M9 Q)))))))) : xWp l g mX8_nodesOnPages 0 0 7 [(1, va_rf (some a0)), (1, .int x1), (1, va_rf r2)] [] (0, 0) M Q := by
  refine xr_aload_n 2 dX8_nodesOnPages_7 rfl rfl ?_
  obtain ⟨ht, hf⟩ := h
  refine xr_ifnull 34 dX8_nodesOnPages_8 (by decide) (fun c13 => ?_) (fun c13 => ?_)
  · replace h := ht c13
    clear ht hf
    refine xr_iload_n 1 dX8_nodesOnPages_34 rfl rfl ?_
    exact xr_retv (by decide) (xRi rfl rfl dX8_nodesOnPages_35) h
  · replace h := hf c13
    clear ht hf
    refine xr_iload_n 1 dX8_nodesOnPages_11 rfl rfl ?_
    refine xr_aload_n 2 dX8_nodesOnPages_12 rfl rfl ?_
    obtain ⟨a1, e2, h⟩ := h
    obtain ⟨t3, h⟩ := h
    refine yr_getI dX8_nodesOnPages_13 fl_RX8_197 e2 t3 ?_
    obtain ⟨ht, hf⟩ := h
    refine xr_if_eq 23 dX8_nodesOnPages_16 (by decide) (fun c12 => ?_) (fun c12 => ?_)
    · replace h := ht c12
      clear ht hf
      refine xr_iconst 0 dX8_nodesOnPages_23 (by decide) ?_
      refine xr_iadd dX8_nodesOnPages_24 ?_
      refine zistore_n 1 dX8_nodesOnPages_25 rfl (L1 := [(1, va_rf (some a0)), (1, .int (x1 + 0)), (1, va_rf r2)]) (by decide) rfl ?_
      refine xr_aload_n 2 dX8_nodesOnPages_26 rfl rfl ?_
      refine yr_callV (r := r2) [] dX8_nodesOnPages_27 cv_X8_nodesOnPages_178 e2 t3 rfl (Nat.le_trans wt_0 (by decide)) (by decide) (xSp.mono h ?_)
      clear h
      intro ρ6 M5 h
      obtain ⟨v4, rfl, h⟩ := h
      refine zastore_n 2 dX8_nodesOnPages_30 rfl (L1 := [(1, va_rf (some a0)), (1, .int (x1 + 0)), (1, va_rf v4)]) (by decide) rfl ?_
      refine xr_goto 7 dX8_nodesOnPages_31 (by decide) ?_
      exact h
    · replace h := hf c12
      clear ht hf
      refine xr_iconst 1 dX8_nodesOnPages_19 (by decide) ?_
      refine xr_goto 24 dX8_nodesOnPages_20 (by decide) ?_
      refine xr_iadd dX8_nodesOnPages_24 ?_
      refine zistore_n 1 dX8_nodesOnPages_25 rfl (L1 := [(1, va_rf (some a0)), (1, .int (x1 + 1)), (1, va_rf r2)]) (by decide) rfl ?_
      refine xr_aload_n 2 dX8_nodesOnPages_26 rfl rfl ?_
      refine yr_callV (r := r2) [] dX8_nodesOnPages_27 cv_X8_nodesOnPages_178 e2 t3 rfl (Nat.le_trans wt_0 (by decide)) (by decide) (xSp.mono h ?_)
      clear h
      intro ρ10 M9 h
      obtain ⟨v8, rfl, h⟩ := h
      refine zastore_n 2 dX8_nodesOnPages_30 rfl (L1 := [(1, va_rf (some a0)), (1, .int (x1 + 1)), (1, va_rf v8)]) (by decide) rfl ?_
      refine xr_goto 7 dX8_nodesOnPages_31 (by decide) ?_
      exact h
set_option maxRecDepth 100000 in
set_option maxHeartbeats 4000000 in
theorem bX8_nodesOnPages_0 {l : Launch} {g : xG} (a0 : Nat) {M : xM} {Q : Option Value → xM → Prop} (h : (xat M a0 5 ∧ xWp l g mX8_nodesOnPages 0 0 7 [(1, va_rf (some a0)), (1, .int 0), (1, va_rf (xR M a0 2))] [] (0, 0) M Q)) : xWp l g mX8_nodesOnPages 0 0 0 [(1, va_rf (some a0)), (0, .null), (0, .null)] [] (0, 0) M Q := by
  refine xr_iconst 0 dX8_nodesOnPages_0 (by decide) ?_
  refine zistore_n 1 dX8_nodesOnPages_1 rfl (L1 := [(1, va_rf (some a0)), (1, .int 0), (0, .null)]) (by decide) rfl ?_
  refine xr_aload_n 0 dX8_nodesOnPages_2 rfl rfl ?_
  obtain ⟨t1, h⟩ := h
  refine yr_getR dX8_nodesOnPages_3 fl_RX8_18 rfl t1 ?_
  refine zastore_n 2 dX8_nodesOnPages_6 rfl (L1 := [(1, va_rf (some a0)), (1, .int 0), (1, va_rf (xR M a0 2))]) (by decide) rfl ?_
  exact h
theorem dX8_depth_0 : decode cX8_depth 0 = .ok (.iconst 0, 1) := by decide +kernel
theorem dX8_depth_1 : decode cX8_depth 1 = .ok (.istore_n 1, 1) := by decide +kernel
theorem dX8_depth_2 : decode cX8_depth 2 = .ok (.aload_n 0, 1) := by decide +kernel
theorem dX8_depth_3 : decode cX8_depth 3 = .ok (.getfield 18, 3) := by decide +kernel
theorem dX8_depth_6 : decode cX8_depth 6 = .ok (.astore_n 2, 1) := by decide +kernel
theorem dX8_depth_7 : decode cX8_depth 7 = .ok (.aload_n 2, 1) := by decide +kernel
theorem dX8_depth_8 : decode cX8_depth 8 = .ok (.ifnull 20, 3) := by decide +kernel
theorem dX8_depth_11 : decode cX8_depth 11 = .ok (.iload_n 1, 1) := by decide +kernel
theorem dX8_depth_12 : decode cX8_depth 12 = .ok (.aload_n 2, 1) := by decide +kernel
theorem dX8_depth_13 : decode cX8_depth 13 = .ok (.invokevirtual 200, 3) := by decide +kernel
theorem dX8_depth_16 : decode cX8_depth 16 = .ok (.invokestatic 204, 3) := by decide +kernel
theorem dX8_depth_19 : decode cX8_depth 19 = .ok (.istore_n 1, 1) := by decide +kernel
theorem dX8_depth_20 : decode cX8_depth 20 = .ok (.aload_n 2, 1) := by decide +kernel
theorem dX8_depth_21 : decode cX8_depth 21 = .ok (.invokevirtual 178, 3) := by decide +kernel
theorem dX8_depth_24 : decode cX8_depth 24 = .ok (.astore_n 2, 1) := by decide +kernel
theorem dX8_depth_25 : decode cX8_depth 25 = .ok (.goto (-18), 3) := by decide +kernel
theorem dX8_depth_28 : decode cX8_depth 28 = .ok (.iload_n 1, 1) := by decide +kernel
theorem dX8_depth_29 : decode cX8_depth 29 = .ok (.ireturn, 1) := by decide +kernel
set_option maxRecDepth 100000 in
set_option maxHeartbeats 4000000 in
theorem bX8_depth_7 {l : Launch} {g : xG} (a0 : Nat) (x1 : Int32) (r2 : Option Nat) {M : xM} {Q : Option Value → xM → Prop} (h : ((r2 = none → (Q (some (.int x1)) M)) ∧ (¬ r2 = none → (∃ a5, r2 = some a5 ∧ xat M a5 1 ∧ xSp l g mX3_level 0 0 [va_rf r2] M (fun ρ3 M2 => ∃ v1 : Int32, ρ3 = some (.int v1) ∧ (xat M2 a5 1 ∧ xSp l g mX3_following 0 0 [va_rf r2] M2 (fun ρ10 M9 => ∃ v8 : Option Nat, ρ10 = some (va_rf v8) ∧ xWp l g mX8_depth 0 0 7 [(1, va_rf (some a0)), (1, .int (if x1 < v1 then v1 else x1)), (1, va_rf v8)] [] (0, 0) M9 Q))))))) : xWp l g mX8_depth 0 0 7 [(1, va_rf (some a0)), (1, .int x1), (1, va_rf r2)] [] (0, 0) M Q := by
  refine xr_aload_n 2 dX8_depth_7 rfl rfl ?_
  obtain ⟨ht, hf⟩ := h
  refine xr_ifnull 28 dX8_depth_8 (by decide) (fun c13 => ?_) (fun c13 => ?_)
  · replace h := ht c13
    clear ht hf
    refine xr_iload_n 1 dX8_depth_28 rfl rfl ?_
    exact xr_retv (by decide) (xRi rfl rfl dX8_depth_29) h
  · replace h := hf c13
    clear ht hf
    refine xr_iload_n 1 dX8_depth_11 rfl rfl ?_
    refine xr_aload_n 2 dX8_depth_12 rfl rfl ?_
    obtain ⟨a5, e6, h⟩ := h
    obtain ⟨t7, h⟩ := h
    refine yr_callV (r := r2) [] dX8_depth_13 cv_X8_depth_200 e6 t7 rfl (Nat.le_trans (wt_i wt_0) (by decide)) (by decide) (xSp.mono h ?_)
    clear h
    intro ρ3 M2 h
    obtain ⟨v1, rfl, h⟩ := h
    refine xr_mmax dX8_depth_16 ml_RX8_204 stat_max ini_Math code_max (by decide) (wt_13 (Nat.le_of_ble_eq_true rfl) (by decide)) (by decide) ?_
    refine zistore_n 1 dX8_depth_19 rfl (L1 := [(1, va_rf (some a0)), (1, .int (if x1 < v1 then v1 else x1)), (1, va_rf r2)]) (by decide) rfl ?_
    refine xr_aload_n 2 dX8_depth_20 rfl rfl ?_
    obtain ⟨t12, h⟩ := h
    refine yr_callV (r := r2) [] dX8_depth_21 cv_X8_depth_178 e6 t12 rfl (Nat.le_trans wt_0 (by decide)) (by decide) (xSp.mono h ?_)
    clear h
    intro ρ10 M9 h
    obtain ⟨v8, rfl, h⟩ := h
    refine zastore_n 2 dX8_depth_24 rfl (L1 := [(1, va_rf (some a0)), (1, .int (if x1 < v1 then v1 else x1)), (1, va_rf v8)]) (by decide) rfl ?_
    refine xr_goto 7 dX8_depth_25 (by decide) ?_
    exact h
set_option maxRecDepth 100000 in
set_option maxHeartbeats 4000000 in
theorem bX8_depth_0 {l : Launch} {g : xG} (a0 : Nat) {M : xM} {Q : Option Value → xM → Prop} (h : (xat M a0 5 ∧ xWp l g mX8_depth 0 0 7 [(1, va_rf (some a0)), (1, .int 0), (1, va_rf (xR M a0 2))] [] (0, 0) M Q)) : xWp l g mX8_depth 0 0 0 [(1, va_rf (some a0)), (0, .null), (0, .null)] [] (0, 0) M Q := by
  refine xr_iconst 0 dX8_depth_0 (by decide) ?_
  refine zistore_n 1 dX8_depth_1 rfl (L1 := [(1, va_rf (some a0)), (1, .int 0), (0, .null)]) (by decide) rfl ?_
  refine xr_aload_n 0 dX8_depth_2 rfl rfl ?_
  obtain ⟨t1, h⟩ := h
  refine yr_getR dX8_depth_3 fl_RX8_18 rfl t1 ?_
  refine zastore_n 2 dX8_depth_6 rfl (L1 := [(1, va_rf (some a0)), (1, .int 0), (1, va_rf (xR M a0 2))]) (by decide) rfl ?_
  exact h
theorem dX8_settle_0 : decode cX8_settle 0 = .ok (.aload_n 0, 1) := by decide +kernel
theorem dX8_settle_1 : decode cX8_settle 1 = .ok (.getfield 18, 3) := by decide +kernel
theorem dX8_settle_4 : decode cX8_settle 4 = .ok (.astore_n 1, 1) := by decide +kernel
theorem dX8_settle_5 : decode cX8_settle 5 = .ok (.aload_n 1, 1) := by decide +kernel
theorem dX8_settle_6 : decode cX8_settle 6 = .ok (.ifnull 16, 3) := by decide +kernel
theorem dX8_settle_9 : decode cX8_settle 9 = .ok (.aload_n 1, 1) := by decide +kernel
theorem dX8_settle_10 : decode cX8_settle 10 = .ok (.iconst 0, 1) := by decide +kernel
theorem dX8_settle_11 : decode cX8_settle 11 = .ok (.putfield 194, 3) := by decide +kernel
theorem dX8_settle_14 : decode cX8_settle 14 = .ok (.aload_n 1, 1) := by decide +kernel
theorem dX8_settle_15 : decode cX8_settle 15 = .ok (.invokevirtual 178, 3) := by decide +kernel
theorem dX8_settle_18 : decode cX8_settle 18 = .ok (.astore_n 1, 1) := by decide +kernel
theorem dX8_settle_19 : decode cX8_settle 19 = .ok (.goto (-14), 3) := by decide +kernel
theorem dX8_settle_22 : decode cX8_settle 22 = .ok (.return_, 1) := by decide +kernel
set_option maxRecDepth 100000 in
set_option maxHeartbeats 4000000 in
theorem bX8_settle_5 {l : Launch} {g : xG} (a0 : Nat) (r1 : Option Nat) {M : xM} {Q : Option Value → xM → Prop} (h : ((r1 = none → (Q none M)) ∧ (¬ r1 = none → (∃ a1, r1 = some a1 ∧ xat M a1 1 ∧ (xSp l g mX3_following 0 0 [va_rf r1] (xsI M a1 8 0) (fun ρ6 M5 => ∃ v4 : Option Nat, ρ6 = some (va_rf v4) ∧ xWp l g mX8_settle 0 0 5 [(1, va_rf (some a0)), (1, va_rf v4)] [] (0, 0) M5 Q)))))) : xWp l g mX8_settle 0 0 5 [(1, va_rf (some a0)), (1, va_rf r1)] [] (0, 0) M Q := by
  refine xr_aload_n 1 dX8_settle_5 rfl rfl ?_
  obtain ⟨ht, hf⟩ := h
  refine xr_ifnull 22 dX8_settle_6 (by decide) (fun c8 => ?_) (fun c8 => ?_)
  · replace h := ht c8
    clear ht hf
    exact xr_ret (by decide) (xRv rfl dX8_settle_22) h
  · replace h := hf c8
    clear ht hf
    refine xr_aload_n 1 dX8_settle_9 rfl rfl ?_
    refine xr_iconst 0 dX8_settle_10 (by decide) ?_
    obtain ⟨a1, e2, h⟩ := h
    obtain ⟨t3, h⟩ := h
    refine yr_putZ dX8_settle_11 fp_RX8_194 e2 t3 (by decide) ?_
    refine xr_aload_n 1 dX8_settle_14 rfl rfl ?_
    refine yr_callV (r := r1) [] dX8_settle_15 cv_X8_settle_178 e2 t3 rfl (Nat.le_trans wt_0 (by decide)) (by decide) (xSp.mono h ?_)
    clear h
    intro ρ6 M5 h
    obtain ⟨v4, rfl, h⟩ := h
    refine zastore_n 1 dX8_settle_18 rfl (L1 := [(1, va_rf (some a0)), (1, va_rf v4)]) (by decide) rfl ?_
    refine xr_goto 5 dX8_settle_19 (by decide) ?_
    exact h
set_option maxRecDepth 100000 in
set_option maxHeartbeats 4000000 in
theorem bX8_settle_0 {l : Launch} {g : xG} (a0 : Nat) {M : xM} {Q : Option Value → xM → Prop} (h : (xat M a0 5 ∧ xWp l g mX8_settle 0 0 5 [(1, va_rf (some a0)), (1, va_rf (xR M a0 2))] [] (0, 0) M Q)) : xWp l g mX8_settle 0 0 0 [(1, va_rf (some a0)), (0, .null)] [] (0, 0) M Q := by
  refine xr_aload_n 0 dX8_settle_0 rfl rfl ?_
  obtain ⟨t1, h⟩ := h
  refine yr_getR dX8_settle_1 fl_RX8_18 rfl t1 ?_
  refine zastore_n 1 dX8_settle_4 rfl (L1 := [(1, va_rf (some a0)), (1, va_rf (xR M a0 2))]) (by decide) rfl ?_
  exact h
theorem dX8_become_0 : decode cX8_become 0 = .ok (.aload_n 0, 1) := by decide +kernel
theorem dX8_become_1 : decode cX8_become 1 = .ok (.invokevirtual 22, 3) := by decide +kernel
theorem dX8_become_4 : decode cX8_become 4 = .ok (.aload_n 1, 1) := by decide +kernel
theorem dX8_become_5 : decode cX8_become 5 = .ok (.getfield 18, 3) := by decide +kernel
theorem dX8_become_8 : decode cX8_become 8 = .ok (.astore_n 2, 1) := by decide +kernel
theorem dX8_become_9 : decode cX8_become 9 = .ok (.aload_n 2, 1) := by decide +kernel
theorem dX8_become_10 : decode cX8_become 10 = .ok (.ifnull 34, 3) := by decide +kernel
theorem dX8_become_13 : decode cX8_become 13 = .ok (.aload_n 2, 1) := by decide +kernel
theorem dX8_become_14 : decode cX8_become 14 = .ok (.aload_n 2, 1) := by decide +kernel
theorem dX8_become_15 : decode cX8_become 15 = .ok (.aload_n 1, 1) := by decide +kernel
theorem dX8_become_16 : decode cX8_become 16 = .ok (.getfield 18, 3) := by decide +kernel
theorem dX8_become_19 : decode cX8_become 19 = .ok (.if_acmp .ne 10, 3) := by decide +kernel
theorem dX8_become_22 : decode cX8_become 22 = .ok (.aload_n 0, 1) := by decide +kernel
theorem dX8_become_23 : decode cX8_become 23 = .ok (.getfield 18, 3) := by decide +kernel
theorem dX8_become_26 : decode cX8_become 26 = .ok (.goto 7, 3) := by decide +kernel
theorem dX8_become_29 : decode cX8_become 29 = .ok (.aload_n 0, 1) := by decide +kernel
theorem dX8_become_30 : decode cX8_become 30 = .ok (.invokevirtual 111, 3) := by decide +kernel
theorem dX8_become_33 : decode cX8_become 33 = .ok (.putfield 210, 3) := by decide +kernel
theorem dX8_become_36 : decode cX8_become 36 = .ok (.aload_n 2, 1) := by decide +kernel
theorem dX8_become_37 : decode cX8_become 37 = .ok (.invokevirtual 178, 3) := by decide +kernel
theorem dX8_become_40 : decode cX8_become 40 = .ok (.astore_n 2, 1) := by decide +kernel
theorem dX8_become_41 : decode cX8_become 41 = .ok (.goto (-32), 3) := by decide +kernel
theorem dX8_become_44 : decode cX8_become 44 = .ok (.aload_n 1, 1) := by decide +kernel
theorem dX8_become_45 : decode cX8_become 45 = .ok (.getfield 18, 3) := by decide +kernel
theorem dX8_become_48 : decode cX8_become 48 = .ok (.astore_n 2, 1) := by decide +kernel
theorem dX8_become_49 : decode cX8_become 49 = .ok (.aload_n 2, 1) := by decide +kernel
theorem dX8_become_50 : decode cX8_become 50 = .ok (.ifnull 26, 3) := by decide +kernel
theorem dX8_become_53 : decode cX8_become 53 = .ok (.aload_n 2, 1) := by decide +kernel
theorem dX8_become_54 : decode cX8_become 54 = .ok (.getfield 210, 3) := by decide +kernel
theorem dX8_become_57 : decode cX8_become 57 = .ok (.ifnull 11, 3) := by decide +kernel
theorem dX8_become_60 : decode cX8_become 60 = .ok (.aload_n 2, 1) := by decide +kernel
theorem dX8_become_61 : decode cX8_become 61 = .ok (.getfield 210, 3) := by decide +kernel
theorem dX8_become_64 : decode cX8_become 64 = .ok (.aload_n 2, 1) := by decide +kernel
theorem dX8_become_65 : decode cX8_become 65 = .ok (.invokevirtual 213, 3) := by decide +kernel
theorem dX8_become_68 : decode cX8_become 68 = .ok (.aload_n 2, 1) := by decide +kernel
theorem dX8_become_69 : decode cX8_become 69 = .ok (.invokevirtual 178, 3) := by decide +kernel
theorem dX8_become_72 : decode cX8_become 72 = .ok (.astore_n 2, 1) := by decide +kernel
theorem dX8_become_73 : decode cX8_become 73 = .ok (.goto (-24), 3) := by decide +kernel
theorem dX8_become_76 : decode cX8_become 76 = .ok (.aload_n 0, 1) := by decide +kernel
theorem dX8_become_77 : decode cX8_become 77 = .ok (.aload_n 1, 1) := by decide +kernel
theorem dX8_become_78 : decode cX8_become 78 = .ok (.getfield 41, 3) := by decide +kernel
theorem dX8_become_81 : decode cX8_become 81 = .ok (.putfield 41, 3) := by decide +kernel
theorem dX8_become_84 : decode cX8_become 84 = .ok (.return_, 1) := by decide +kernel
set_option maxRecDepth 100000 in
set_option maxHeartbeats 4000000 in
theorem bX8_become_49 {l : Launch} {g : xG} (a0 : Nat) (r1 : Option Nat) (r2 : Option Nat) {M : xM} {Q : Option Value → xM → Prop} (h : ((r2 = none → (∃ a1, r1 = some a1 ∧ xat M a1 5 ∧ (xat M a0 5 ∧ (Q none (xsI M a0 4 (xI M a1 4)))))) ∧ (¬ r2 = none → (∃ a5, r2 = some a5 ∧ xat M a5 1 ∧ (((xR M a5 12) = none → (xSp l g mX3_following 0 0 [va_rf r2] M (fun ρ10 M9 => ∃ v8 : Option Nat, ρ10 = some (va_rf v8) ∧ xWp l g mX8_become 0 0 49 [(1, va_rf (some a0)), (1, va_rf r1), (1, va_rf v8)] [] (0, 0) M9 Q))) ∧ (¬ (xR M a5 12) = none → (∃ a16, (xR M a5 12) = some a16 ∧ xat M a16 1 ∧ xSp l g mX3_mirror 0 0 [va_rf (xR M a5 12), va_rf r2] M (fun ρ14 M13 => ρ14 = none ∧ (xat M13 a5 1 ∧ xSp l g mX3_following 0 0 [va_rf r2] M13 (fun ρ21 M20 => ∃ v19 : Option Nat, ρ21 = some (va_rf v19) ∧ xWp l g mX8_become 0 0 49 [(1, va_rf (some a0)), (1, va_rf r1), (1, va_rf v19)] [] (0, 0) M20 Q)))))))))) : xWp l g mX8_become 0 0 49 [(1, va_rf (some a0)), (1, va_rf r1), (1, va_rf r2)] [] (0, 0) M Q := by
  refine xr_aload_n 2 dX8_become_49 rfl rfl ?_
  obtain ⟨ht, hf⟩ := h
  refine xr_ifnull 76 dX8_become_50 (by decide) (fun c25 => ?_) (fun c25 => ?_)
  · replace h := ht c25
    clear ht hf
    refine xr_aload_n 0 dX8_become_76 rfl rfl ?_
    refine xr_aload_n 1 dX8_become_77 rfl rfl ?_
    obtain ⟨a1, e2, h⟩ := h
    obtain ⟨t3, h⟩ := h
    refine yr_getI dX8_become_78 fl_RX8_41 e2 t3 ?_
    obtain ⟨t4, h⟩ := h
    refine yr_putI dX8_become_81 fp_RX8_41 rfl t4 ?_
    exact xr_ret (by decide) (xRv rfl dX8_become_84) h
  · replace h := hf c25
    clear ht hf
    refine xr_aload_n 2 dX8_become_53 rfl rfl ?_
    obtain ⟨a5, e6, h⟩ := h
    obtain ⟨t7, h⟩ := h
    refine yr_getR dX8_become_54 fl_RX8_210 e6 t7 ?_
    obtain ⟨ht, hf⟩ := h
    refine xr_ifnull 68 dX8_become_57 (by decide) (fun c24 => ?_) (fun c24 => ?_)
    · replace h := ht c24
      clear ht hf
      refine xr_aload_n 2 dX8_become_68 rfl rfl ?_
      refine yr_callV (r := r2) [] dX8_become_69 cv_X8_become_178 e6 t7 rfl (Nat.le_trans wt_0 (by decide)) (by decide) (xSp.mono h ?_)
      clear h
      intro ρ10 M9 h
      obtain ⟨v8, rfl, h⟩ := h
      refine zastore_n 2 dX8_become_72 rfl (L1 := [(1, va_rf (some a0)), (1, va_rf r1), (1, va_rf v8)]) (by decide) rfl ?_
      refine xr_goto 49 dX8_become_73 (by decide) ?_
      exact h
    · replace h := hf c24
      clear ht hf
      refine xr_aload_n 2 dX8_become_60 rfl rfl ?_
      refine yr_getR dX8_become_61 fl_RX8_210 e6 t7 ?_
      refine xr_aload_n 2 dX8_become_64 rfl rfl ?_
      obtain ⟨a16, e17, h⟩ := h
      obtain ⟨t18, h⟩ := h
      refine yr_callV (r := (xR M a5 12)) [va_rf r2] dX8_become_65 cv_X8_become_213 e17 t18 rfl (Nat.le_trans wt_0 (by decide)) (by decide) (xSp.mono h ?_)
      clear h
      intro ρ14 M13 h
      obtain ⟨rfl, h⟩ := h
      refine xr_aload_n 2 dX8_become_68 rfl rfl ?_
      obtain ⟨t23, h⟩ := h
      refine yr_callV (r := r2) [] dX8_become_69 cv_X8_become_178 e6 t23 rfl (Nat.le_trans wt_0 (by decide)) (by decide) (xSp.mono h ?_)
      clear h
      intro ρ21 M20 h
      obtain ⟨v19, rfl, h⟩ := h
      refine zastore_n 2 dX8_become_72 rfl (L1 := [(1, va_rf (some a0)), (1, va_rf r1), (1, va_rf v19)]) (by decide) rfl ?_
      refine xr_goto 49 dX8_become_73 (by decide) ?_
      exact h
set_option maxRecDepth 100000 in
set_option maxHeartbeats 4000000 in
theorem bX8_become_9 {l : Launch} {g : xG} (a0 : Nat) (r1 : Option Nat) (r2 : Option Nat) {M : xM} {Q : Option Value → xM → Prop} (h : ((r2 = none → (∃ a1, r1 = some a1 ∧ xat M a1 5 ∧ xWp l g mX8_become 0 0 49 [(1, va_rf (some a0)), (1, va_rf r1), (1, va_rf (xR M a1 2))] [] (0, 0) M Q)) ∧ (¬ r2 = none → (∃ a4, r1 = some a4 ∧ xat M a4 5 ∧ ((¬ r2 = (xR M a4 2) → (xat M a0 5 ∧ xSp l g mX8_take 0 0 [va_rf (some a0)] M (fun ρ9 M8 => ∃ v7 : Option Nat, ρ9 = some (va_rf v7) ∧ (∃ a12, r2 = some a12 ∧ xat M8 a12 1 ∧ (xSp l g mX3_following 0 0 [va_rf r2] (xsR M8 a12 12 v7) (fun ρ17 M16 => ∃ v15 : Option Nat, ρ17 = some (va_rf v15) ∧ xWp l g mX8_become 0 0 9 [(1, va_rf (some a0)), (1, va_rf r1), (1, va_rf v15)] [] (0, 0) M16 Q)))))) ∧ (r2 = (xR M a4 2) → (xat M a0 5 ∧ (∃ a20, r2 = some a20 ∧ xat M a20 1 ∧ (xSp l g mX3_following 0 0 [va_rf r2] (xsR M a20 12 (xR M a0 2)) (fun ρ25 M24 => ∃ v23 : Option Nat, ρ25 = some (va_rf v23) ∧ xWp l g mX8_become 0 0 9 [(1, va_rf (some a0)), (1, va_rf r1), (1, va_rf v23)] [] (0, 0) M24 Q)))))))))) : xWp l g mX8_become 0 0 9 [(1, va_rf (some a0)), (1, va_rf r1), (1, va_rf r2)] [] (0, 0) M Q := by
  refine xr_aload_n 2 dX8_become_9 rfl rfl ?_
  obtain ⟨ht, hf⟩ := h
  refine xr_ifnull 44 dX8_become_10 (by decide) (fun c28 => ?_) (fun c28 => ?_)
  · replace h := ht c28
    clear ht hf
    refine xr_aload_n 1 dX8_become_44 rfl rfl ?_
    obtain ⟨a1, e2, h⟩ := h
    obtain ⟨t3, h⟩ := h
    refine yr_getR dX8_become_45 fl_RX8_18 e2 t3 ?_
    refine zastore_n 2 dX8_become_48 rfl (L1 := [(1, va_rf (some a0)), (1, va_rf r1), (1, va_rf (xR M a1 2))]) (by decide) rfl ?_
    exact h
  · replace h := hf c28
    clear ht hf
    refine xr_aload_n 2 dX8_become_13 rfl rfl ?_
    refine xr_aload_n 2 dX8_become_14 rfl rfl ?_
    refine xr_aload_n 1 dX8_become_15 rfl rfl ?_
    obtain ⟨a4, e5, h⟩ := h
    obtain ⟨t6, h⟩ := h
    refine yr_getR dX8_become_16 fl_RX8_18 e5 t6 ?_
    obtain ⟨ht, hf⟩ := h
    refine xr_acmp_ne 29 dX8_become_19 (by decide) (fun c27 => ?_) (fun c27 => ?_)
    · replace h := ht c27
      clear ht hf
      refine xr_aload_n 0 dX8_become_29 rfl rfl ?_
      obtain ⟨t11, h⟩ := h
      refine yr_callV (r := (some a0)) [] dX8_become_30 cv_X8_become_111 rfl t11 rfl (Nat.le_trans (wt_r wt_0) (by decide)) (by decide) (xSp.mono h ?_)
      clear h
      intro ρ9 M8 h
      obtain ⟨v7, rfl, h⟩ := h
      obtain ⟨a12, e13, h⟩ := h
      obtain ⟨t14, h⟩ := h
      refine yr_putR dX8_become_33 fp_RX8_210 e13 t14 ?_
      refine xr_aload_n 2 dX8_become_36 rfl rfl ?_
      refine yr_callV (r := r2) [] dX8_become_37 cv_X8_become_178 e13 t14 rfl (Nat.le_trans wt_0 (by decide)) (by decide) (xSp.mono h ?_)
      clear h
      intro ρ17 M16 h
      obtain ⟨v15, rfl, h⟩ := h
      refine zastore_n 2 dX8_become_40 rfl (L1 := [(1, va_rf (some a0)), (1, va_rf r1), (1, va_rf v15)]) (by decide) rfl ?_
      refine xr_goto 9 dX8_become_41 (by decide) ?_
      exact h
    · replace h := hf c27
      clear ht hf
      refine xr_aload_n 0 dX8_become_22 rfl rfl ?_
      obtain ⟨t19, h⟩ := h
      refine yr_getR dX8_become_23 fl_RX8_18 rfl t19 ?_
      refine xr_goto 33 dX8_become_26 (by decide) ?_
      obtain ⟨a20, e21, h⟩ := h
      obtain ⟨t22, h⟩ := h
      refine yr_putR dX8_become_33 fp_RX8_210 e21 t22 ?_
      refine xr_aload_n 2 dX8_become_36 rfl rfl ?_
      refine yr_callV (r := r2) [] dX8_become_37 cv_X8_become_178 e21 t22 rfl (Nat.le_trans wt_0 (by decide)) (by decide) (xSp.mono h ?_)
      clear h
      intro ρ25 M24 h
      obtain ⟨v23, rfl, h⟩ := h
      refine zastore_n 2 dX8_become_40 rfl (L1 := [(1, va_rf (some a0)), (1, va_rf r1), (1, va_rf v23)]) (by decide) rfl ?_
      refine xr_goto 9 dX8_become_41 (by decide) ?_
      exact h
set_option maxRecDepth 100000 in
set_option maxHeartbeats 4000000 in
theorem bX8_become_0 {l : Launch} {g : xG} (a0 : Nat) (r1 : Option Nat) {M : xM} {Q : Option Value → xM → Prop} (h : (xat M a0 5 ∧ xSp l g mX8_clear 0 0 [va_rf (some a0)] M (fun ρ3 M2 => ρ3 = none ∧ (∃ a6, r1 = some a6 ∧ xat M2 a6 5 ∧ xWp l g mX8_become 0 0 9 [(1, va_rf (some a0)), (1, va_rf r1), (1, va_rf (xR M2 a6 2))] [] (0, 0) M2 Q)))) : xWp l g mX8_become 0 0 0 [(1, va_rf (some a0)), (1, va_rf r1), (0, .null)] [] (0, 0) M Q := by
  refine xr_aload_n 0 dX8_become_0 rfl rfl ?_
  obtain ⟨t5, h⟩ := h
  refine yr_callV (r := (some a0)) [] dX8_become_1 cv_X8_become_22 rfl t5 rfl (Nat.le_trans wt_0 (by decide)) (by decide) (xSp.mono h ?_)
  clear h
  intro ρ3 M2 h
  obtain ⟨rfl, h⟩ := h
  refine xr_aload_n 1 dX8_become_4 rfl rfl ?_
  obtain ⟨a6, e7, h⟩ := h
  obtain ⟨t8, h⟩ := h
  refine yr_getR dX8_become_5 fl_RX8_18 e7 t8 ?_
  refine zastore_n 2 dX8_become_8 rfl (L1 := [(1, va_rf (some a0)), (1, va_rf r1), (1, va_rf (xR M2 a6 2))]) (by decide) rfl ?_
  exact h
