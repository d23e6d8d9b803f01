/-! Decode rows and blocks: 14.bNode -/
theorem dX3_init_0 : decode cX3_init 0 = .ok (.aload_n 0, 1) := by decide +kernel
theorem dX3_init_1 : decode cX3_init 1 = .ok (.invokespecial 3, 3) := by decide +kernel
theorem dX3_init_4 : decode cX3_init 4 = .ok (.aload_n 0, 1) := by decide +kernel
theorem dX3_init_5 : decode cX3_init 5 = .ok (.bipush 12, 2) := by decide +kernel
theorem dX3_init_7 : decode cX3_init 7 = .ok (.newarray .int, 2) := by decide +kernel
theorem dX3_init_9 : decode cX3_init 9 = .ok (.putfield 9, 3) := by decide +kernel
theorem dX3_init_12 : decode cX3_init 12 = .ok (.aload_n 0, 1) := by decide +kernel
theorem dX3_init_13 : decode cX3_init 13 = .ok (.invokevirtual 15, 3) := by decide +kernel
theorem dX3_init_16 : decode cX3_init 16 = .ok (.return_, 1) := by decide +kernel
set_option maxRecDepth 100000 in
set_option maxHeartbeats 4000000 in
theorem bX3_init_0 {l : Launch} {g : xG} {mc ms : Nat} (a0 : Nat) {M : xM} {Q : Option Value → xM → Prop} (h : ((0 + 1 ≤ mc ∧ 0 + 12 ≤ ms) ∧ ∀ q4, q4 ∉ xL M → (xat (xnew M q4 9 12) a0 1 ∧ (((0 + 1) ≤ mc ∧ (0 + 12) ≤ ms) ∧ xSp l g mX3_reset 0 0 [va_rf (some a0)] (xsR (xnew M q4 9 12) a0 0 (some q4)) (fun ρ10 M9 => ρ10 = none ∧ (((0 + 1) ≤ mc ∧ (0 + 12) ≤ ms) ∧ Q none M9)))))) : xWp l g mX3_init mc ms 0 [(1, va_rf (some a0))] [] (0, 0) M Q := by
  refine xr_aload_n 0 dX3_init_0 rfl rfl ?_
  refine xr_obj dX3_init_1 ml_RX3_3 obj_inst obj_code (by decide) (by decide) ?_
  refine xr_aload_n 0 dX3_init_4 rfl rfl ?_
  refine xr_bipush 12 dX3_init_5 (by decide) ?_
  obtain ⟨hm6, h⟩ := h
  refine xr_newa (kd := 9) (t := 1) (n := 12) dX3_init_7 rfl arr_int (fun _ => rfl) (by decide) (by decide) rfl (by decide) (by decide) (by decide) hm6 (fun q4 hq5 => ?_)
  replace h := h q4 hq5
  obtain ⟨t7, h⟩ := h
  refine yr_putRF dX3_init_9 rfl fp_RX3_9 (Or.inr ⟨_, rfl⟩) rfl t7 ?_
  refine xr_aload_n 0 dX3_init_12 rfl rfl ?_
  obtain ⟨hm13, h⟩ := h
  refine yr_callV (r := (some a0)) [] dX3_init_13 cv_X3_init_15 rfl t7 rfl (Nat.le_trans wt_0 (by decide)) hm13 (xSp.mono h ?_)
  clear h
  intro ρ10 M9 h
  obtain ⟨rfl, h⟩ := h
  obtain ⟨hm12, h⟩ := h
  exact xr_ret hm12 (xRv rfl dX3_init_16) h
theorem dX3_reset_0 : decode cX3_reset 0 = .ok (.aload_n 0, 1) := by decide +kernel
theorem dX3_reset_1 : decode cX3_reset 1 = .ok (.iconst 0, 1) := by decide +kernel
theorem dX3_reset_2 : decode cX3_reset 2 = .ok (.putfield 18, 3) := by decide +kernel
theorem dX3_reset_5 : decode cX3_reset 5 = .ok (.aload_n 0, 1) := by decide +kernel
theorem dX3_reset_6 : decode cX3_reset 6 = .ok (.iconst 1, 1) := by decide +kernel
theorem dX3_reset_7 : decode cX3_reset 7 = .ok (.putfield 24, 3) := by decide +kernel
theorem dX3_reset_10 : decode cX3_reset 10 = .ok (.aload_n 0, 1) := by decide +kernel
theorem dX3_reset_11 : decode cX3_reset 11 = .ok (.iconst 0, 1) := by decide +kernel
theorem dX3_reset_12 : decode cX3_reset 12 = .ok (.putfield 27, 3) := by decide +kernel
theorem dX3_reset_15 : decode cX3_reset 15 = .ok (.aload_n 0, 1) := by decide +kernel
theorem dX3_reset_16 : decode cX3_reset 16 = .ok (.lconst 0, 1) := by decide +kernel
theorem dX3_reset_17 : decode cX3_reset 17 = .ok (.putfield 31, 3) := by decide +kernel
theorem dX3_reset_20 : decode cX3_reset 20 = .ok (.aload_n 0, 1) := by decide +kernel
theorem dX3_reset_21 : decode cX3_reset 21 = .ok (.iconst 0, 1) := by decide +kernel
theorem dX3_reset_22 : decode cX3_reset 22 = .ok (.putfield 35, 3) := by decide +kernel
theorem dX3_reset_25 : decode cX3_reset 25 = .ok (.aload_n 0, 1) := by decide +kernel
theorem dX3_reset_26 : decode cX3_reset 26 = .ok (.iconst 0, 1) := by decide +kernel
theorem dX3_reset_27 : decode cX3_reset 27 = .ok (.putfield 38, 3) := by decide +kernel
theorem dX3_reset_30 : decode cX3_reset 30 = .ok (.aload_n 0, 1) := by decide +kernel
theorem dX3_reset_31 : decode cX3_reset 31 = .ok (.iconst 0, 1) := by decide +kernel
theorem dX3_reset_32 : decode cX3_reset 32 = .ok (.putfield 41, 3) := by decide +kernel
theorem dX3_reset_35 : decode cX3_reset 35 = .ok (.aload_n 0, 1) := by decide +kernel
theorem dX3_reset_36 : decode cX3_reset 36 = .ok (.iconst 0, 1) := by decide +kernel
theorem dX3_reset_37 : decode cX3_reset 37 = .ok (.putfield 44, 3) := by decide +kernel
theorem dX3_reset_40 : decode cX3_reset 40 = .ok (.aload_n 0, 1) := by decide +kernel
theorem dX3_reset_41 : decode cX3_reset 41 = .ok (.aconst_null, 1) := by decide +kernel
theorem dX3_reset_42 : decode cX3_reset 42 = .ok (.putfield 47, 3) := by decide +kernel
theorem dX3_reset_45 : decode cX3_reset 45 = .ok (.aload_n 0, 1) := by decide +kernel
theorem dX3_reset_46 : decode cX3_reset 46 = .ok (.aconst_null, 1) := by decide +kernel
theorem dX3_reset_47 : decode cX3_reset 47 = .ok (.putfield 51, 3) := by decide +kernel
theorem dX3_reset_50 : decode cX3_reset 50 = .ok (.aload_n 0, 1) := by decide +kernel
theorem dX3_reset_51 : decode cX3_reset 51 = .ok (.aconst_null, 1) := by decide +kernel
theorem dX3_reset_52 : decode cX3_reset 52 = .ok (.putfield 54, 3) := by decide +kernel
theorem dX3_reset_55 : decode cX3_reset 55 = .ok (.return_, 1) := by decide +kernel
set_option maxRecDepth 100000 in
set_option maxHeartbeats 4000000 in
theorem bX3_reset_0 {l : Launch} {g : xG} (a0 : Nat) {M : xM} {Q : Option Value → xM → Prop} (h : (xat M a0 1 ∧ (Q none (xsR (xsR (xsR (xsI (xsI (xsI (xsI (xsJ (xsI (xsI (xsI M a0 1 0) a0 2 1) a0 3 0) a0 4 0) a0 5 0) a0 6 0) a0 7 0) a0 8 0) a0 9 none) a0 10 none) a0 11 none)))) : xWp l g mX3_reset 0 0 0 [(1, va_rf (some a0))] [] (0, 0) M Q := by
  refine xr_aload_n 0 dX3_reset_0 rfl rfl ?_
  refine xr_iconst 0 dX3_reset_1 (by decide) ?_
  obtain ⟨t1, h⟩ := h
  refine yr_putI dX3_reset_2 fp_RX3_18 rfl t1 ?_
  refine xr_aload_n 0 dX3_reset_5 rfl rfl ?_
  refine xr_iconst 1 dX3_reset_6 (by decide) ?_
  refine yr_putI dX3_reset_7 fp_RX3_24 rfl t1 ?_
  refine xr_aload_n 0 dX3_reset_10 rfl rfl ?_
  refine xr_iconst 0 dX3_reset_11 (by decide) ?_
  refine yr_putZ dX3_reset_12 fp_RX3_27 rfl t1 (by decide) ?_
  refine xr_aload_n 0 dX3_reset_15 rfl rfl ?_
  refine xr_lconst 0 dX3_reset_16 (by decide) ?_
  refine yr_putJ dX3_reset_17 fp_RX3_31 rfl t1 ?_
  refine xr_aload_n 0 dX3_reset_20 rfl rfl ?_
  refine xr_iconst 0 dX3_reset_21 (by decide) ?_
  refine yr_putI dX3_reset_22 fp_RX3_35 rfl t1 ?_
  refine xr_aload_n 0 dX3_reset_25 rfl rfl ?_
  refine xr_iconst 0 dX3_reset_26 (by decide) ?_
  refine yr_putI dX3_reset_27 fp_RX3_38 rfl t1 ?_
  refine xr_aload_n 0 dX3_reset_30 rfl rfl ?_
  refine xr_iconst 0 dX3_reset_31 (by decide) ?_
  refine yr_putI dX3_reset_32 fp_RX3_41 rfl t1 ?_
  refine xr_aload_n 0 dX3_reset_35 rfl rfl ?_
  refine xr_iconst 0 dX3_reset_36 (by decide) ?_
  refine yr_putZ dX3_reset_37 fp_RX3_44 rfl t1 (by decide) ?_
  refine xr_aload_n 0 dX3_reset_40 rfl rfl ?_
  refine xr_null dX3_reset_41 ?_
  refine yr_putR dX3_reset_42 fp_RX3_47 rfl t1 ?_
  refine xr_aload_n 0 dX3_reset_45 rfl rfl ?_
  refine xr_null dX3_reset_46 ?_
  refine yr_putR dX3_reset_47 fp_RX3_51 rfl t1 ?_
  refine xr_aload_n 0 dX3_reset_50 rfl rfl ?_
  refine xr_null dX3_reset_51 ?_
  refine yr_putR dX3_reset_52 fp_RX3_54 rfl t1 ?_
  exact xr_ret (by decide) (xRv rfl dX3_reset_55) h
theorem dX3_prefixAt_0 : decode cX3_prefixAt 0 = .ok (.iload_n 1, 1) := by decide +kernel
theorem dX3_prefixAt_1 : decode cX3_prefixAt 1 = .ok (.ifCond .lt 29, 3) := by decide +kernel
theorem dX3_prefixAt_4 : decode cX3_prefixAt 4 = .ok (.iload_n 1, 1) := by decide +kernel
theorem dX3_prefixAt_5 : decode cX3_prefixAt 5 = .ok (.aload_n 0, 1) := by decide +kernel
theorem dX3_prefixAt_6 : decode cX3_prefixAt 6 = .ok (.getfield 18, 3) := by decide +kernel
theorem dX3_prefixAt_9 : decode cX3_prefixAt 9 = .ok (.if_icmp .ge 21, 3) := by decide +kernel
theorem dX3_prefixAt_12 : decode cX3_prefixAt 12 = .ok (.iload_n 1, 1) := by decide +kernel
theorem dX3_prefixAt_13 : decode cX3_prefixAt 13 = .ok (.aload_n 0, 1) := by decide +kernel
theorem dX3_prefixAt_14 : decode cX3_prefixAt 14 = .ok (.getfield 9, 3) := by decide +kernel
theorem dX3_prefixAt_17 : decode cX3_prefixAt 17 = .ok (.arraylength, 1) := by decide +kernel
theorem dX3_prefixAt_18 : decode cX3_prefixAt 18 = .ok (.if_icmp .ge 12, 3) := by decide +kernel
theorem dX3_prefixAt_21 : decode cX3_prefixAt 21 = .ok (.aload_n 0, 1) := by decide +kernel
theorem dX3_prefixAt_22 : decode cX3_prefixAt 22 = .ok (.getfield 9, 3) := by decide +kernel
theorem dX3_prefixAt_25 : decode cX3_prefixAt 25 = .ok (.iload_n 1, 1) := by decide +kernel
theorem dX3_prefixAt_26 : decode cX3_prefixAt 26 = .ok (.iaload, 1) := by decide +kernel
theorem dX3_prefixAt_27 : decode cX3_prefixAt 27 = .ok (.goto 4, 3) := by decide +kernel
theorem dX3_prefixAt_30 : decode cX3_prefixAt 30 = .ok (.iconst 0, 1) := by decide +kernel
theorem dX3_prefixAt_31 : decode cX3_prefixAt 31 = .ok (.ireturn, 1) := by decide +kernel
set_option maxRecDepth 100000 in
set_option maxHeartbeats 4000000 in
theorem bX3_prefixAt_0 {l : Launch} {g : xG} (a0 : Nat) (x1 : Int32) {M : xM} {Q : Option Value → xM → Prop} (h : ((x1 < 0 → (Q (some (.int 0)) M)) ∧ (¬ x1 < 0 → (xat M a0 1 ∧ (((xI M a0 1) ≤ x1 → (Q (some (.int 0)) M)) ∧ (¬ (xI M a0 1) ≤ x1 → (∃ a2, (xR M a0 0) = some a2 ∧ xat M a2 9 ∧ (((nI (xN M a2)) ≤ x1 → (Q (some (.int 0)) M)) ∧ (¬ (nI (xN M a2)) ≤ x1 → (∃ i5, xai M a2 9 x1 i5 ∧ (Q (some (.int (xI M a2 i5))) M))))))))))) : xWp l g mX3_prefixAt 0 0 0 [(1, va_rf (some a0)), (1, .int x1)] [] (0, 0) M Q := by
  refine xr_iload_n 1 dX3_prefixAt_0 rfl rfl ?_
  obtain ⟨ht, hf⟩ := h
  refine xr_if_lt 30 dX3_prefixAt_1 (by decide) (fun c9 => ?_) (fun c9 => ?_)
  · replace h := ht c9
    clear ht hf
    refine xr_iconst 0 dX3_prefixAt_30 (by decide) ?_
    exact xr_retv (by decide) (xRi rfl rfl dX3_prefixAt_31) h
  · replace h := hf c9
    clear ht hf
    refine xr_iload_n 1 dX3_prefixAt_4 rfl rfl ?_
    refine xr_aload_n 0 dX3_prefixAt_5 rfl rfl ?_
    obtain ⟨t1, h⟩ := h
    refine yr_getI dX3_prefixAt_6 fl_RX3_18 rfl t1 ?_
    obtain ⟨ht, hf⟩ := h
    refine xr_icmp_ge 30 dX3_prefixAt_9 (by decide) (fun c8 => ?_) (fun c8 => ?_)
    · replace h := ht c8
      clear ht hf
      refine xr_iconst 0 dX3_prefixAt_30 (by decide) ?_
      exact xr_retv (by decide) (xRi rfl rfl dX3_prefixAt_31) h
    · replace h := hf c8
      clear ht hf
      refine xr_iload_n 1 dX3_prefixAt_12 rfl rfl ?_
      refine xr_aload_n 0 dX3_prefixAt_13 rfl rfl ?_
      refine yr_getR dX3_prefixAt_14 fl_RX3_9 rfl t1 ?_
      obtain ⟨a2, e3, h⟩ := h
      obtain ⟨t4, h⟩ := h
      refine yr_alen9 dX3_prefixAt_17 e3 t4 ?_
      obtain ⟨ht, hf⟩ := h
      refine xr_icmp_ge 30 dX3_prefixAt_18 (by decide) (fun c7 => ?_) (fun c7 => ?_)
      · replace h := ht c7
        clear ht hf
        refine xr_iconst 0 dX3_prefixAt_30 (by decide) ?_
        exact xr_retv (by decide) (xRi rfl rfl dX3_prefixAt_31) h
      · replace h := hf c7
        clear ht hf
        refine xr_aload_n 0 dX3_prefixAt_21 rfl rfl ?_
        refine yr_getR dX3_prefixAt_22 fl_RX3_9 rfl t1 ?_
        refine xr_iload_n 1 dX3_prefixAt_25 rfl rfl ?_
        obtain ⟨i5, t6, h⟩ := h
        refine yr_iald dX3_prefixAt_26 e3 t6 ?_
        refine xr_goto 31 dX3_prefixAt_27 (by decide) ?_
        exact xr_retv (by decide) (xRi rfl rfl dX3_prefixAt_31) h
theorem dX3_setPrefixAt_0 : decode cX3_setPrefixAt 0 = .ok (.iload_n 1, 1) := by decide +kernel
theorem dX3_setPrefixAt_1 : decode cX3_setPrefixAt 1 = .ok (.ifCond .lt 19, 3) := by decide +kernel
theorem dX3_setPrefixAt_4 : decode cX3_setPrefixAt 4 = .ok (.iload_n 1, 1) := by decide +kernel
theorem dX3_setPrefixAt_5 : decode cX3_setPrefixAt 5 = .ok (.aload_n 0, 1) := by decide +kernel
theorem dX3_setPrefixAt_6 : decode cX3_setPrefixAt 6 = .ok (.getfield 9, 3) := by decide +kernel
theorem dX3_setPrefixAt_9 : decode cX3_setPrefixAt 9 = .ok (.arraylength, 1) := by decide +kernel
theorem dX3_setPrefixAt_10 : decode cX3_setPrefixAt 10 = .ok (.if_icmp .ge 10, 3) := by decide +kernel
theorem dX3_setPrefixAt_13 : decode cX3_setPrefixAt 13 = .ok (.aload_n 0, 1) := by decide +kernel
theorem dX3_setPrefixAt_14 : decode cX3_setPrefixAt 14 = .ok (.getfield 9, 3) := by decide +kernel
theorem dX3_setPrefixAt_17 : decode cX3_setPrefixAt 17 = .ok (.iload_n 1, 1) := by decide +kernel
theorem dX3_setPrefixAt_18 : decode cX3_setPrefixAt 18 = .ok (.iload_n 2, 1) := by decide +kernel
theorem dX3_setPrefixAt_19 : decode cX3_setPrefixAt 19 = .ok (.iastore, 1) := by decide +kernel
theorem dX3_setPrefixAt_20 : decode cX3_setPrefixAt 20 = .ok (.return_, 1) := by decide +kernel
set_option maxRecDepth 100000 in
set_option maxHeartbeats 4000000 in
theorem bX3_setPrefixAt_0 {l : Launch} {g : xG} (a0 : Nat) (x1 : Int32) (x2 : Int32) {M : xM} {Q : Option Value → xM → Prop} (h : ((x1 < 0 → (Q none M)) ∧ (¬ x1 < 0 → (xat M a0 1 ∧ (∃ a2, (xR M a0 0) = some a2 ∧ xat M a2 9 ∧ (((nI (xN M a2)) ≤ x1 → (Q none M)) ∧ (¬ (nI (xN M a2)) ≤ x1 → (∃ i5, xai M a2 9 x1 i5 ∧ (Q none (xsI M a2 i5 x2)))))))))) : xWp l g mX3_setPrefixAt 0 0 0 [(1, va_rf (some a0)), (1, .int x1), (1, .int x2)] [] (0, 0) M Q := by
  refine xr_iload_n 1 dX3_setPrefixAt_0 rfl rfl ?_
  obtain ⟨ht, hf⟩ := h
  refine xr_if_lt 20 dX3_setPrefixAt_1 (by decide) (fun c8 => ?_) (fun c8 => ?_)
  · replace h := ht c8
    clear ht hf
    exact xr_ret (by decide) (xRv rfl dX3_setPrefixAt_20) h
  · replace h := hf c8
    clear ht hf
    refine xr_iload_n 1 dX3_setPrefixAt_4 rfl rfl ?_
    refine xr_aload_n 0 dX3_setPrefixAt_5 rfl rfl ?_
    obtain ⟨t1, h⟩ := h
    refine yr_getR dX3_setPrefixAt_6 fl_RX3_9 rfl t1 ?_
    obtain ⟨a2, e3, h⟩ := h
    obtain ⟨t4, h⟩ := h
    refine yr_alen9 dX3_setPrefixAt_9 e3 t4 ?_
    obtain ⟨ht, hf⟩ := h
    refine xr_icmp_ge 20 dX3_setPrefixAt_10 (by decide) (fun c7 => ?_) (fun c7 => ?_)
    · replace h := ht c7
      clear ht hf
      exact xr_ret (by decide) (xRv rfl dX3_setPrefixAt_20) h
    · replace h := hf c7
      clear ht hf
      refine xr_aload_n 0 dX3_setPrefixAt_13 rfl rfl ?_
      refine yr_getR dX3_setPrefixAt_14 fl_RX3_9 rfl t1 ?_
      refine xr_iload_n 1 dX3_setPrefixAt_17 rfl rfl ?_
      refine xr_iload_n 2 dX3_setPrefixAt_18 rfl rfl ?_
      obtain ⟨i5, t6, h⟩ := h
      refine yr_iast dX3_setPrefixAt_19 e3 t6 ?_
      exact xr_ret (by decide) (xRv rfl dX3_setPrefixAt_20) h
theorem dX3_appendToPrefix_0 : decode cX3_appendToPrefix 0 = .ok (.aload_n 0, 1) := by decide +kernel
theorem dX3_appendToPrefix_1 : decode cX3_appendToPrefix 1 = .ok (.getfield 18, 3) := by decide +kernel
theorem dX3_appendToPrefix_4 : decode cX3_appendToPrefix 4 = .ok (.aload_n 0, 1) := by decide +kernel
theorem dX3_appendToPrefix_5 : decode cX3_appendToPrefix 5 = .ok (.getfield 9, 3) := by decide +kernel
theorem dX3_appendToPrefix_8 : decode cX3_appendToPrefix 8 = .ok (.arraylength, 1) := by decide +kernel
theorem dX3_appendToPrefix_9 : decode cX3_appendToPrefix 9 = .ok (.if_icmp .ge 22, 3) := by decide +kernel
theorem dX3_appendToPrefix_12 : decode cX3_appendToPrefix 12 = .ok (.aload_n 0, 1) := by decide +kernel
theorem dX3_appendToPrefix_13 : decode cX3_appendToPrefix 13 = .ok (.aload_n 0, 1) := by decide +kernel
theorem dX3_appendToPrefix_14 : decode cX3_appendToPrefix 14 = .ok (.getfield 18, 3) := by decide +kernel
theorem dX3_appendToPrefix_17 : decode cX3_appendToPrefix 17 = .ok (.iload_n 1, 1) := by decide +kernel
theorem dX3_appendToPrefix_18 : decode cX3_appendToPrefix 18 = .ok (.invokevirtual 57, 3) := by decide +kernel
theorem dX3_appendToPrefix_21 : decode cX3_appendToPrefix 21 = .ok (.aload_n 0, 1) := by decide +kernel
theorem dX3_appendToPrefix_22 : decode cX3_appendToPrefix 22 = .ok (.dup, 1) := by decide +kernel
theorem dX3_appendToPrefix_23 : decode cX3_appendToPrefix 23 = .ok (.getfield 18, 3) := by decide +kernel
theorem dX3_appendToPrefix_26 : decode cX3_appendToPrefix 26 = .ok (.iconst 1, 1) := by decide +kernel
theorem dX3_appendToPrefix_27 : decode cX3_appendToPrefix 27 = .ok (.iadd, 1) := by decide +kernel
theorem dX3_appendToPrefix_28 : decode cX3_appendToPrefix 28 = .ok (.putfield 18, 3) := by decide +kernel
theorem dX3_appendToPrefix_31 : decode cX3_appendToPrefix 31 = .ok (.return_, 1) := by decide +kernel
set_option maxRecDepth 100000 in
set_option maxHeartbeats 4000000 in
theorem bX3_appendToPrefix_0 {l : Launch} {g : xG} (a0 : Nat) (x1 : Int32) {M : xM} {Q : Option Value → xM → Prop} (h : (xat M a0 1 ∧ (∃ a2, (xR M a0 0) = some a2 ∧ xat M a2 9 ∧ (((nI (xN M a2)) ≤ (xI M a0 1) → (Q none M)) ∧ (¬ (nI (xN M a2)) ≤ (xI M a0 1) → (xSp l g mX3_setPrefixAt 0 0 [va_rf (some a0), .int (xI M a0 1), .int x1] M (fun ρ7 M6 => ρ7 = none ∧ (xat M6 a0 1 ∧ (Q none (xsI M6 a0 1 ((xI M6 a0 1) + 1))))))))))) : xWp l g mX3_appendToPrefix 0 0 0 [(1, va_rf (some a0)), (1, .int x1)] [] (0, 0) M Q := by
  refine xr_aload_n 0 dX3_appendToPrefix_0 rfl rfl ?_
  obtain ⟨t1, h⟩ := h
  refine yr_getI dX3_appendToPrefix_1 fl_RX3_18 rfl t1 ?_
  refine xr_aload_n 0 dX3_appendToPrefix_4 rfl rfl ?_
  refine yr_getR dX3_appendToPrefix_5 fl_RX3_9 rfl t1 ?_
  obtain ⟨a2, e3, h⟩ := h
  obtain ⟨t4, h⟩ := h
  refine yr_alen9 dX3_appendToPrefix_8 e3 t4 ?_
  obtain ⟨ht, hf⟩ := h
  refine xr_icmp_ge 31 dX3_appendToPrefix_9 (by decide) (fun c10 => ?_) (fun c10 => ?_)
  · replace h := ht c10
    clear ht hf
    exact xr_ret (by decide) (xRv rfl dX3_appendToPrefix_31) h
  · replace h := hf c10
    clear ht hf
    refine xr_aload_n 0 dX3_appendToPrefix_12 rfl rfl ?_
    refine xr_aload_n 0 dX3_appendToPrefix_13 rfl rfl ?_
    refine yr_getI dX3_appendToPrefix_14 fl_RX3_18 rfl t1 ?_
    refine xr_iload_n 1 dX3_appendToPrefix_17 rfl rfl ?_
    refine yr_callV (r := (some a0)) [.int (xI M a0 1), .int x1] dX3_appendToPrefix_18 cv_X3_appendToPrefix_57 rfl t1 rfl (Nat.le_trans wt_0 (by decide)) (by decide) (xSp.mono h ?_)
    clear h
    intro ρ7 M6 h
    obtain ⟨rfl, h⟩ := h
    refine xr_aload_n 0 dX3_appendToPrefix_21 rfl rfl ?_
    refine xr_dup dX3_appendToPrefix_22 (va_rf_cat _) ?_
    obtain ⟨t9, h⟩ := h
    refine yr_getI dX3_appendToPrefix_23 fl_RX3_18 rfl t9 ?_
    refine xr_iconst 1 dX3_appendToPrefix_26 (by decide) ?_
    refine xr_iadd dX3_appendToPrefix_27 ?_
    refine yr_putI dX3_appendToPrefix_28 fp_RX3_18 rfl t9 ?_
    exact xr_ret (by decide) (xRv rfl dX3_appendToPrefix_31) h
theorem dX3_dropFromPrefix_0 : decode cX3_dropFromPrefix 0 = .ok (.aload_n 0, 1) := by decide +kernel
theorem dX3_dropFromPrefix_1 : decode cX3_dropFromPrefix 1 = .ok (.getfield 18, 3) := by decide +kernel
theorem dX3_dropFromPrefix_4 : decode cX3_dropFromPrefix 4 = .ok (.iload_n 1, 1) := by decide +kernel
theorem dX3_dropFromPrefix_5 : decode cX3_dropFromPrefix 5 = .ok (.isub, 1) := by decide +kernel
theorem dX3_dropFromPrefix_6 : decode cX3_dropFromPrefix 6 = .ok (.iconst 0, 1) := by decide +kernel
theorem dX3_dropFromPrefix_7 : decode cX3_dropFromPrefix 7 = .ok (.invokestatic 61, 3) := by decide +kernel
theorem dX3_dropFromPrefix_10 : decode cX3_dropFromPrefix 10 = .ok (.istore_n 2, 1) := by decide +kernel
theorem dX3_dropFromPrefix_11 : decode cX3_dropFromPrefix 11 = .ok (.iconst 0, 1) := by decide +kernel
theorem dX3_dropFromPrefix_12 : decode cX3_dropFromPrefix 12 = .ok (.istore_n 3, 1) := by decide +kernel
theorem dX3_dropFromPrefix_13 : decode cX3_dropFromPrefix 13 = .ok (.iload_n 3, 1) := by decide +kernel
theorem dX3_dropFromPrefix_14 : decode cX3_dropFromPrefix 14 = .ok (.iload_n 2, 1) := by decide +kernel
theorem dX3_dropFromPrefix_15 : decode cX3_dropFromPrefix 15 = .ok (.if_icmp .ge 21, 3) := by decide +kernel
theorem dX3_dropFromPrefix_18 : decode cX3_dropFromPrefix 18 = .ok (.aload_n 0, 1) := by decide +kernel
theorem dX3_dropFromPrefix_19 : decode cX3_dropFromPrefix 19 = .ok (.iload_n 3, 1) := by decide +kernel
theorem dX3_dropFromPrefix_20 : decode cX3_dropFromPrefix 20 = .ok (.aload_n 0, 1) := by decide +kernel
theorem dX3_dropFromPrefix_21 : decode cX3_dropFromPrefix 21 = .ok (.iload_n 3, 1) := by decide +kernel
theorem dX3_dropFromPrefix_22 : decode cX3_dropFromPrefix 22 = .ok (.iload_n 1, 1) := by decide +kernel
theorem dX3_dropFromPrefix_23 : decode cX3_dropFromPrefix 23 = .ok (.iadd, 1) := by decide +kernel
theorem dX3_dropFromPrefix_24 : decode cX3_dropFromPrefix 24 = .ok (.invokevirtual 67, 3) := by decide +kernel
theorem dX3_dropFromPrefix_27 : decode cX3_dropFromPrefix 27 = .ok (.invokevirtual 57, 3) := by decide +kernel
theorem dX3_dropFromPrefix_30 : decode cX3_dropFromPrefix 30 = .ok (.iinc 3 1, 3) := by decide +kernel
theorem dX3_dropFromPrefix_33 : decode cX3_dropFromPrefix 33 = .ok (.goto (-20), 3) := by decide +kernel
theorem dX3_dropFromPrefix_36 : decode cX3_dropFromPrefix 36 = .ok (.aload_n 0, 1) := by decide +kernel
theorem dX3_dropFromPrefix_37 : decode cX3_dropFromPrefix 37 = .ok (.iload_n 2, 1) := by decide +kernel
theorem dX3_dropFromPrefix_38 : decode cX3_dropFromPrefix 38 = .ok (.putfield 18, 3) := by decide +kernel
theorem dX3_dropFromPrefix_41 : decode cX3_dropFromPrefix 41 = .ok (.return_, 1) := by decide +kernel
set_option maxRecDepth 100000 in
set_option maxHeartbeats 4000000 in
theorem bX3_dropFromPrefix_13 {l : Launch} {g : xG} (a0 : Nat) (x1 : Int32) (x2 : Int32) (x3 : Int32) {M : xM} {Q : Option Value → xM → Prop} (h : ((x2 ≤ x3 → (xat M a0 1 ∧ (Q none (xsI M a0 1 x2)))) ∧ (¬ x2 ≤ x3 → (xat M a0 1 ∧ xSp l g mX3_prefixAt 0 0 [va_rf (some a0), .int (x3 + x1)] M (fun ρ4 M3 => ∃ v2 : Int32, ρ4 = some (.int v2) ∧ (xat M3 a0 1 ∧ xSp l g mX3_setPrefixAt 0 0 [va_rf (some a0), .int x3, .int v2] M3 (fun ρ9 M8 => ρ9 = none ∧ xWp l g mX3_dropFromPrefix 0 0 13 [(1, va_rf (some a0)), (1, .int x1), (1, .int x2), (1, .int (x3 + 1))] [] (0, 0) M8 Q))))))) : xWp l g mX3_dropFromPrefix 0 0 13 [(1, va_rf (some a0)), (1, .int x1), (1, .int x2), (1, .int x3)] [] (0, 0) M Q := by
  refine xr_iload_n 3 dX3_dropFromPrefix_13 rfl rfl ?_
  refine xr_iload_n 2 dX3_dropFromPrefix_14 rfl rfl ?_
  obtain ⟨ht, hf⟩ := h
  refine xr_icmp_ge 36 dX3_dropFromPrefix_15 (by decide) (fun c12 => ?_) (fun c12 => ?_)
  · replace h := ht c12
    clear ht hf
    refine xr_aload_n 0 dX3_dropFromPrefix_36 rfl rfl ?_
    refine xr_iload_n 2 dX3_dropFromPrefix_37 rfl rfl ?_
    obtain ⟨t1, h⟩ := h
    refine yr_putI dX3_dropFromPrefix_38 fp_RX3_18 rfl t1 ?_
    exact xr_ret (by decide) (xRv rfl dX3_dropFromPrefix_41) h
  · replace h := hf c12
    clear ht hf
    refine xr_aload_n 0 dX3_dropFromPrefix_18 rfl rfl ?_
    refine xr_iload_n 3 dX3_dropFromPrefix_19 rfl rfl ?_
    refine xr_aload_n 0 dX3_dropFromPrefix_20 rfl rfl ?_
    refine xr_iload_n 3 dX3_dropFromPrefix_21 rfl rfl ?_
    refine xr_iload_n 1 dX3_dropFromPrefix_22 rfl rfl ?_
    refine xr_iadd dX3_dropFromPrefix_23 ?_
    obtain ⟨t6, h⟩ := h
    refine yr_callV (r := (some a0)) [.int (x3 + x1)] dX3_dropFromPrefix_24 cv_X3_dropFromPrefix_67 rfl t6 rfl (Nat.le_trans (wt_i (wt_r wt_0)) (by decide)) (by decide) (xSp.mono h ?_)
    clear h
    intro ρ4 M3 h
    obtain ⟨v2, rfl, h⟩ := h
    obtain ⟨t11, h⟩ := h
    refine yr_callV (r := (some a0)) [.int x3, .int v2] dX3_dropFromPrefix_27 cv_X3_dropFromPrefix_57 rfl t11 rfl (Nat.le_trans wt_0 (by decide)) (by decide) (xSp.mono h ?_)
    clear h
    intro ρ9 M8 h
    obtain ⟨rfl, h⟩ := h
    refine ziinc (x3 + 1) dX3_dropFromPrefix_30 rfl rfl (L1 := [(1, va_rf (some a0)), (1, .int x1), (1, .int x2), (1, .int (x3 + 1))]) (by decide) rfl ?_
    refine xr_goto 13 dX3_dropFromPrefix_33 (by decide) ?_
    exact h
set_option maxRecDepth 100000 in
set_option maxHeartbeats 4000000 in
theorem bX3_dropFromPrefix_0 {l : Launch} {g : xG} (a0 : Nat) (x1 : Int32) {M : xM} {Q : Option Value → xM → Prop} (h : (xat M a0 1 ∧ xWp l g mX3_dropFromPrefix 0 0 13 [(1, va_rf (some a0)), (1, .int x1), (1, .int (if ((xI M a0 1) - x1) < 0 then 0 else ((xI M a0 1) - x1))), (1, .int 0)] [] (0, 0) M Q)) : xWp l g mX3_dropFromPrefix 0 0 0 [(1, va_rf (some a0)), (1, .int x1), (0, .null), (0, .null)] [] (0, 0) M Q := by
  refine xr_aload_n 0 dX3_dropFromPrefix_0 rfl rfl ?_
  obtain ⟨t1, h⟩ := h
  refine yr_getI dX3_dropFromPrefix_1 fl_RX3_18 rfl t1 ?_
  refine xr_iload_n 1 dX3_dropFromPrefix_4 rfl rfl ?_
  refine xr_isub dX3_dropFromPrefix_5 ?_
  refine xr_iconst 0 dX3_dropFromPrefix_6 (by decide) ?_
  refine xr_mmax dX3_dropFromPrefix_7 ml_RX3_61 stat_max ini_Math code_max (by decide) (wt_13 (Nat.le_of_ble_eq_true rfl) (by decide)) (by decide) ?_
  refine zistore_n 2 dX3_dropFromPrefix_10 rfl (L1 := [(1, va_rf (some a0)), (1, .int x1), (1, .int (if ((xI M a0 1) - x1) < 0 then 0 else ((xI M a0 1) - x1))), (0, .null)]) (by decide) rfl ?_
  refine xr_iconst 0 dX3_dropFromPrefix_11 (by decide) ?_
  refine zistore_n 3 dX3_dropFromPrefix_12 rfl (L1 := [(1, va_rf (some a0)), (1, .int x1), (1, .int (if ((xI M a0 1) - x1) < 0 then 0 else ((xI M a0 1) - x1))), (1, .int 0)]) (by decide) rfl ?_
  exact h
theorem dX3_takePrefixOfParent_0 : decode cX3_takePrefixOfParent 0 = .ok (.aload_n 1, 1) := by decide +kernel
theorem dX3_takePrefixOfParent_1 : decode cX3_takePrefixOfParent 1 = .ok (.getfield 18, 3) := by decide +kernel
theorem dX3_takePrefixOfParent_4 : decode cX3_takePrefixOfParent 4 = .ok (.iconst 1, 1) := by decide +kernel
theorem dX3_takePrefixOfParent_5 : decode cX3_takePrefixOfParent 5 = .ok (.iadd, 1) := by decide +kernel
theorem dX3_takePrefixOfParent_6 : decode cX3_takePrefixOfParent 6 = .ok (.istore_n 2, 1) := by decide +kernel
theorem dX3_takePrefixOfParent_7 : decode cX3_takePrefixOfParent 7 = .ok (.aload_n 0, 1) := by decide +kernel
theorem dX3_takePrefixOfParent_8 : decode cX3_takePrefixOfParent 8 = .ok (.getfield 18, 3) := by decide +kernel
theorem dX3_takePrefixOfParent_11 : decode cX3_takePrefixOfParent 11 = .ok (.istore_n 3, 1) := by decide +kernel
theorem dX3_takePrefixOfParent_12 : decode cX3_takePrefixOfParent 12 = .ok (.aload_n 0, 1) := by decide +kernel
theorem dX3_takePrefixOfParent_13 : decode cX3_takePrefixOfParent 13 = .ok (.iload_n 3, 1) := by decide +kernel
theorem dX3_takePrefixOfParent_14 : decode cX3_takePrefixOfParent 14 = .ok (.iload_n 2, 1) := by decide +kernel
theorem dX3_takePrefixOfParent_15 : decode cX3_takePrefixOfParent 15 = .ok (.iadd, 1) := by decide +kernel
theorem dX3_takePrefixOfParent_16 : decode cX3_takePrefixOfParent 16 = .ok (.aload_n 0, 1) := by decide +kernel
theorem dX3_takePrefixOfParent_17 : decode cX3_takePrefixOfParent 17 = .ok (.getfield 9, 3) := by decide +kernel
theorem dX3_takePrefixOfParent_20 : decode cX3_takePrefixOfParent 20 = .ok (.arraylength, 1) := by decide +kernel
theorem dX3_takePrefixOfParent_21 : decode cX3_takePrefixOfParent 21 = .ok (.invokestatic 71, 3) := by decide +kernel
theorem dX3_takePrefixOfParent_24 : decode cX3_takePrefixOfParent 24 = .ok (.putfield 18, 3) := by decide +kernel
theorem dX3_takePrefixOfParent_27 : decode cX3_takePrefixOfParent 27 = .ok (.iload_n 3, 1) := by decide +kernel
theorem dX3_takePrefixOfParent_28 : decode cX3_takePrefixOfParent 28 = .ok (.iconst 1, 1) := by decide +kernel
theorem dX3_takePrefixOfParent_29 : decode cX3_takePrefixOfParent 29 = .ok (.isub, 1) := by decide +kernel
theorem dX3_takePrefixOfParent_30 : decode cX3_takePrefixOfParent 30 = .ok (.istore 4, 2) := by decide +kernel
theorem dX3_takePrefixOfParent_32 : decode cX3_takePrefixOfParent 32 = .ok (.iload 4, 2) := by decide +kernel
theorem dX3_takePrefixOfParent_34 : decode cX3_takePrefixOfParent 34 = .ok (.ifCond .lt 23, 3) := by decide +kernel
theorem dX3_takePrefixOfParent_37 : decode cX3_takePrefixOfParent 37 = .ok (.aload_n 0, 1) := by decide +kernel
theorem dX3_takePrefixOfParent_38 : decode cX3_takePrefixOfParent 38 = .ok (.iload 4, 2) := by decide +kernel
theorem dX3_takePrefixOfParent_40 : decode cX3_takePrefixOfParent 40 = .ok (.iload_n 2, 1) := by decide +kernel
theorem dX3_takePrefixOfParent_41 : decode cX3_takePrefixOfParent 41 = .ok (.iadd, 1) := by decide +kernel
theorem dX3_takePrefixOfParent_42 : decode cX3_takePrefixOfParent 42 = .ok (.aload_n 0, 1) := by decide +kernel
theorem dX3_takePrefixOfParent_43 : decode cX3_takePrefixOfParent 43 = .ok (.iload 4, 2) := by decide +kernel
theorem dX3_takePrefixOfParent_45 : decode cX3_takePrefixOfParent 45 = .ok (.invokevirtual 67, 3) := by decide +kernel
theorem dX3_takePrefixOfParent_48 : decode cX3_takePrefixOfParent 48 = .ok (.invokevirtual 57, 3) := by decide +kernel
theorem dX3_takePrefixOfParent_51 : decode cX3_takePrefixOfParent 51 = .ok (.iinc 4 (-1), 3) := by decide +kernel
theorem dX3_takePrefixOfParent_54 : decode cX3_takePrefixOfParent 54 = .ok (.goto (-22), 3) := by decide +kernel
theorem dX3_takePrefixOfParent_57 : decode cX3_takePrefixOfParent 57 = .ok (.aload_n 0, 1) := by decide +kernel
theorem dX3_takePrefixOfParent_58 : decode cX3_takePrefixOfParent 58 = .ok (.iload_n 2, 1) := by decide +kernel
theorem dX3_takePrefixOfParent_59 : decode cX3_takePrefixOfParent 59 = .ok (.iconst 1, 1) := by decide +kernel
theorem dX3_takePrefixOfParent_60 : decode cX3_takePrefixOfParent 60 = .ok (.isub, 1) := by decide +kernel
theorem dX3_takePrefixOfParent_61 : decode cX3_takePrefixOfParent 61 = .ok (.aload_n 0, 1) := by decide +kernel
theorem dX3_takePrefixOfParent_62 : decode cX3_takePrefixOfParent 62 = .ok (.getfield 38, 3) := by decide +kernel
theorem dX3_takePrefixOfParent_65 : decode cX3_takePrefixOfParent 65 = .ok (.invokevirtual 57, 3) := by decide +kernel
theorem dX3_takePrefixOfParent_68 : decode cX3_takePrefixOfParent 68 = .ok (.iconst 0, 1) := by decide +kernel
theorem dX3_takePrefixOfParent_69 : decode cX3_takePrefixOfParent 69 = .ok (.istore 4, 2) := by decide +kernel
theorem dX3_takePrefixOfParent_71 : decode cX3_takePrefixOfParent 71 = .ok (.iload 4, 2) := by decide +kernel
theorem dX3_takePrefixOfParent_73 : decode cX3_takePrefixOfParent 73 = .ok (.aload_n 1, 1) := by decide +kernel
theorem dX3_takePrefixOfParent_74 : decode cX3_takePrefixOfParent 74 = .ok (.getfield 18, 3) := by decide +kernel
theorem dX3_takePrefixOfParent_77 : decode cX3_takePrefixOfParent 77 = .ok (.if_icmp .ge 21, 3) := by decide +kernel
theorem dX3_takePrefixOfParent_80 : decode cX3_takePrefixOfParent 80 = .ok (.aload_n 0, 1) := by decide +kernel
theorem dX3_takePrefixOfParent_81 : decode cX3_takePrefixOfParent 81 = .ok (.iload 4, 2) := by decide +kernel
theorem dX3_takePrefixOfParent_83 : decode cX3_takePrefixOfParent 83 = .ok (.aload_n 1, 1) := by decide +kernel
theorem dX3_takePrefixOfParent_84 : decode cX3_takePrefixOfParent 84 = .ok (.iload 4, 2) := by decide +kernel
theorem dX3_takePrefixOfParent_86 : decode cX3_takePrefixOfParent 86 = .ok (.invokevirtual 67, 3) := by decide +kernel
theorem dX3_takePrefixOfParent_89 : decode cX3_takePrefixOfParent 89 = .ok (.invokevirtual 57, 3) := by decide +kernel
theorem dX3_takePrefixOfParent_92 : decode cX3_takePrefixOfParent 92 = .ok (.iinc 4 1, 3) := by decide +kernel
theorem dX3_takePrefixOfParent_95 : decode cX3_takePrefixOfParent 95 = .ok (.goto (-24), 3) := by decide +kernel
theorem dX3_takePrefixOfParent_98 : decode cX3_takePrefixOfParent 98 = .ok (.return_, 1) := by decide +kernel
set_option maxRecDepth 100000 in
set_option maxHeartbeats 4000000 in
theorem bX3_takePrefixOfParent_71 {l : Launch} {g : xG} (a0 : Nat) (r1 : Option Nat) (x2 : Int32) (x3 : Int32) (x4 : Int32) {M : xM} {Q : Option Value → xM → Prop} (h : (∃ a1, r1 = some a1 ∧ xat M a1 1 ∧ (((xI M a1 1) ≤ x4 → (Q none M)) ∧ (¬ (xI M a1 1) ≤ x4 → (xSp l g mX3_prefixAt 0 0 [va_rf r1, .int x4] M (fun ρ6 M5 => ∃ v4 : Int32, ρ6 = some (.int v4) ∧ (xat M5 a0 1 ∧ xSp l g mX3_setPrefixAt 0 0 [va_rf (some a0), .int x4, .int v4] M5 (fun ρ10 M9 => ρ10 = none ∧ xWp l g mX3_takePrefixOfParent 0 0 71 [(1, va_rf (some a0)), (1, va_rf r1), (1, .int x2), (1, .int x3), (1, .int (x4 + 1))] [] (0, 0) M9 Q)))))))) : xWp l g mX3_takePrefixOfParent 0 0 71 [(1, va_rf (some a0)), (1, va_rf r1), (1, .int x2), (1, .int x3), (1, .int x4)] [] (0, 0) M Q := by
  refine xr_iload dX3_takePrefixOfParent_71 rfl ?_
  refine xr_aload_n 1 dX3_takePrefixOfParent_73 rfl rfl ?_
  obtain ⟨a1, e2, h⟩ := h
  obtain ⟨t3, h⟩ := h
  refine yr_getI dX3_takePrefixOfParent_74 fl_RX3_18 e2 t3 ?_
  obtain ⟨ht, hf⟩ := h
  refine xr_icmp_ge 98 dX3_takePrefixOfParent_77 (by decide) (fun c13 => ?_) (fun c13 => ?_)
  · replace h := ht c13
    clear ht hf
    exact xr_ret (by decide) (xRv rfl dX3_takePrefixOfParent_98) h
  · replace h := hf c13
    clear ht hf
    refine xr_aload_n 0 dX3_takePrefixOfParent_80 rfl rfl ?_
    refine xr_iload dX3_takePrefixOfParent_81 rfl ?_
    refine xr_aload_n 1 dX3_takePrefixOfParent_83 rfl rfl ?_
    refine xr_iload dX3_takePrefixOfParent_84 rfl ?_
    refine yr_callV (r := r1) [.int x4] dX3_takePrefixOfParent_86 cv_X3_takePrefixOfParent_67 e2 t3 rfl (Nat.le_trans (wt_i (wt_r wt_0)) (by decide)) (by decide) (xSp.mono h ?_)
    clear h
    intro ρ6 M5 h
    obtain ⟨v4, rfl, h⟩ := h
    obtain ⟨t12, h⟩ := h
    refine yr_callV (r := (some a0)) [.int x4, .int v4] dX3_takePrefixOfParent_89 cv_X3_takePrefixOfParent_57 rfl t12 rfl (Nat.le_trans wt_0 (by decide)) (by decide) (xSp.mono h ?_)
    clear h
    intro ρ10 M9 h
    obtain ⟨rfl, h⟩ := h
    refine ziinc (x4 + 1) dX3_takePrefixOfParent_92 rfl rfl (L1 := [(1, va_rf (some a0)), (1, va_rf r1), (1, .int x2), (1, .int x3), (1, .int (x4 + 1))]) (by decide) rfl ?_
    refine xr_goto 71 dX3_takePrefixOfParent_95 (by decide) ?_
    exact h
set_option maxRecDepth 100000 in
set_option maxHeartbeats 4000000 in
theorem bX3_takePrefixOfParent_32 {l : Launch} {g : xG} (a0 : Nat) (r1 : Option Nat) (x2 : Int32) (x3 : Int32) (x4 : Int32) {M : xM} {Q : Option Value → xM → Prop} (h : ((x4 < 0 → (xat M a0 1 ∧ (xSp l g mX3_setPrefixAt 0 0 [va_rf (some a0), .int (x2 - 1), .int (xI M a0 6)] M (fun ρ4 M3 => ρ4 = none ∧ xWp l g mX3_takePrefixOfParent 0 0 71 [(1, va_rf (some a0)), (1, va_rf r1), (1, .int x2), (1, .int x3), (1, .int 0)] [] (0, 0) M3 Q)))) ∧ (¬ x4 < 0 → (xat M a0 1 ∧ xSp l g mX3_prefixAt 0 0 [va_rf (some a0), .int x4] M (fun ρ8 M7 => ∃ v6 : Int32, ρ8 = some (.int v6) ∧ (xat M7 a0 1 ∧ xSp l g mX3_setPrefixAt 0 0 [va_rf (some a0), .int (x4 + x2), .int v6] M7 (fun ρ13 M12 => ρ13 = none ∧ xWp l g mX3_takePrefixOfParent 0 0 32 [(1, va_rf (some a0)), (1, va_rf r1), (1, .int x2), (1, .int x3), (1, .int (x4 + (-1)))] [] (0, 0) M12 Q))))))) : xWp l g mX3_takePrefixOfParent 0 0 32 [(1, va_rf (some a0)), (1, va_rf r1), (1, .int x2), (1, .int x3), (1, .int x4)] [] (0, 0) M Q := by
  refine xr_iload dX3_takePrefixOfParent_32 rfl ?_
  obtain ⟨ht, hf⟩ := h
  refine xr_if_lt 57 dX3_takePrefixOfParent_34 (by decide) (fun c16 => ?_) (fun c16 => ?_)
  · replace h := ht c16
    clear ht hf
    refine xr_aload_n 0 dX3_takePrefixOfParent_57 rfl rfl ?_
    refine xr_iload_n 2 dX3_takePrefixOfParent_58 rfl rfl ?_
    refine xr_iconst 1 dX3_takePrefixOfParent_59 (by decide) ?_
    refine xr_isub dX3_takePrefixOfParent_60 ?_
    refine xr_aload_n 0 dX3_takePrefixOfParent_61 rfl rfl ?_
    obtain ⟨t1, h⟩ := h
    refine yr_getI dX3_takePrefixOfParent_62 fl_RX3_38 rfl t1 ?_
    refine yr_callV (r := (some a0)) [.int (x2 - 1), .int (xI M a0 6)] dX3_takePrefixOfParent_65 cv_X3_takePrefixOfParent_57 rfl t1 rfl (Nat.le_trans wt_0 (by decide)) (by decide) (xSp.mono h ?_)
    clear h
    intro ρ4 M3 h
    obtain ⟨rfl, h⟩ := h
    refine xr_iconst 0 dX3_takePrefixOfParent_68 (by decide) ?_
    refine zistore dX3_takePrefixOfParent_69 (L1 := [(1, va_rf (some a0)), (1, va_rf r1), (1, .int x2), (1, .int x3), (1, .int 0)]) (by decide) rfl ?_
    exact h
  · replace h := hf c16
    clear ht hf
    refine xr_aload_n 0 dX3_takePrefixOfParent_37 rfl rfl ?_
    refine xr_iload dX3_takePrefixOfParent_38 rfl ?_
    refine xr_iload_n 2 dX3_takePrefixOfParent_40 rfl rfl ?_
    refine xr_iadd dX3_takePrefixOfParent_41 ?_
    refine xr_aload_n 0 dX3_takePrefixOfParent_42 rfl rfl ?_
    refine xr_iload dX3_takePrefixOfParent_43 rfl ?_
    obtain ⟨t10, h⟩ := h
    refine yr_callV (r := (some a0)) [.int x4] dX3_takePrefixOfParent_45 cv_X3_takePrefixOfParent_67 rfl t10 rfl (Nat.le_trans (wt_i (wt_r wt_0)) (by decide)) (by decide) (xSp.mono h ?_)
    clear h
    intro ρ8 M7 h
    obtain ⟨v6, rfl, h⟩ := h
    obtain ⟨t15, h⟩ := h
    refine yr_callV (r := (some a0)) [.int (x4 + x2), .int v6] dX3_takePrefixOfParent_48 cv_X3_takePrefixOfParent_57 rfl t15 rfl (Nat.le_trans wt_0 (by decide)) (by decide) (xSp.mono h ?_)
    clear h
    intro ρ13 M12 h
    obtain ⟨rfl, h⟩ := h
    refine ziinc (x4 + (-1)) dX3_takePrefixOfParent_51 rfl rfl (L1 := [(1, va_rf (some a0)), (1, va_rf r1), (1, .int x2), (1, .int x3), (1, .int (x4 + (-1)))]) (by decide) rfl ?_
    refine xr_goto 32 dX3_takePrefixOfParent_54 (by decide) ?_
    exact h
set_option maxRecDepth 100000 in
set_option maxHeartbeats 4000000 in
theorem bX3_takePrefixOfParent_0 {l : Launch} {g : xG} (a0 : Nat) (r1 : Option Nat) {M : xM} {Q : Option Value → xM → Prop} (h : (∃ a1, r1 = some a1 ∧ xat M a1 1 ∧ (xat M a0 1 ∧ (∃ a5, (xR M a0 0) = some a5 ∧ xat M a5 9 ∧ xWp l g mX3_takePrefixOfParent 0 0 32 [(1, va_rf (some a0)), (1, va_rf r1), (1, .int ((xI M a1 1) + 1)), (1, .int (xI M a0 1)), (1, .int ((xI M a0 1) - 1))] [] (0, 0) (xsI M a0 1 (if (nI (xN M a5)) < ((xI M a0 1) + ((xI M a1 1) + 1)) then (nI (xN M a5)) else ((xI M a0 1) + ((xI M a1 1) + 1)))) Q)))) : xWp l g mX3_takePrefixOfParent 0 0 0 [(1, va_rf (some a0)), (1, va_rf r1), (0, .null), (0, .null), (0, .null)] [] (0, 0) M Q := by
  refine xr_aload_n 1 dX3_takePrefixOfParent_0 rfl rfl ?_
  obtain ⟨a1, e2, h⟩ := h
  obtain ⟨t3, h⟩ := h
  refine yr_getI dX3_takePrefixOfParent_1 fl_RX3_18 e2 t3 ?_
  refine xr_iconst 1 dX3_takePrefixOfParent_4 (by decide) ?_
  refine xr_iadd dX3_takePrefixOfParent_5 ?_
  refine zistore_n 2 dX3_takePrefixOfParent_6 rfl (L1 := [(1, va_rf (some a0)), (1, va_rf r1), (1, .int ((xI M a1 1) + 1)), (0, .null), (0, .null)]) (by decide) rfl ?_
  refine xr_aload_n 0 dX3_takePrefixOfParent_7 rfl rfl ?_
  obtain ⟨t4, h⟩ := h
  refine yr_getI dX3_takePrefixOfParent_8 fl_RX3_18 rfl t4 ?_
  refine zistore_n 3 dX3_takePrefixOfParent_11 rfl (L1 := [(1, va_rf (some a0)), (1, va_rf r1), (1, .int ((xI M a1 1) + 1)), (1, .int (xI M a0 1)), (0, .null)]) (by decide) rfl ?_
  refine xr_aload_n 0 dX3_takePrefixOfParent_12 rfl rfl ?_
  refine xr_iload_n 3 dX3_takePrefixOfParent_13 rfl rfl ?_
  refine xr_iload_n 2 dX3_takePrefixOfParent_14 rfl rfl ?_
  refine xr_iadd dX3_takePrefixOfParent_15 ?_
  refine xr_aload_n 0 dX3_takePrefixOfParent_16 rfl rfl ?_
  refine yr_getR dX3_takePrefixOfParent_17 fl_RX3_9 rfl t4 ?_
  obtain ⟨a5, e6, h⟩ := h
  obtain ⟨t7, h⟩ := h
  refine yr_alen9 dX3_takePrefixOfParent_20 e6 t7 ?_
  refine xr_mmin dX3_takePrefixOfParent_21 ml_RX3_71 stat_min ini_Math code_min (by decide) (wt_13 (Nat.le_of_ble_eq_true rfl) (by decide)) (by decide) ?_
  refine yr_putI dX3_takePrefixOfParent_24 fp_RX3_18 rfl t4 ?_
  refine xr_iload_n 3 dX3_takePrefixOfParent_27 rfl rfl ?_
  refine xr_iconst 1 dX3_takePrefixOfParent_28 (by decide) ?_
  refine xr_isub dX3_takePrefixOfParent_29 ?_
  refine zistore dX3_takePrefixOfParent_30 (L1 := [(1, va_rf (some a0)), (1, va_rf r1), (1, .int ((xI M a1 1) + 1)), (1, .int (xI M a0 1)), (1, .int ((xI M a0 1) - 1))]) (by decide) rfl ?_
  exact h
theorem dX3_matching_0 : decode cX3_matching 0 = .ok (.iconst 0, 1) := by decide +kernel
theorem dX3_matching_1 : decode cX3_matching 1 = .ok (.istore_n 3, 1) := by decide +kernel
theorem dX3_matching_2 : decode cX3_matching 2 = .ok (.iload_n 3, 1) := by decide +kernel
theorem dX3_matching_3 : decode cX3_matching 3 = .ok (.aload_n 0, 1) := by decide +kernel
theorem dX3_matching_4 : decode cX3_matching 4 = .ok (.getfield 18, 3) := by decide +kernel
theorem dX3_matching_7 : decode cX3_matching 7 = .ok (.if_icmp .ge 24, 3) := by decide +kernel
theorem dX3_matching_10 : decode cX3_matching 10 = .ok (.aload_n 0, 1) := by decide +kernel
theorem dX3_matching_11 : decode cX3_matching 11 = .ok (.iload_n 3, 1) := by decide +kernel
theorem dX3_matching_12 : decode cX3_matching 12 = .ok (.invokevirtual 67, 3) := by decide +kernel
theorem dX3_matching_15 : decode cX3_matching 15 = .ok (.aload_n 1, 1) := by decide +kernel
theorem dX3_matching_16 : decode cX3_matching 16 = .ok (.iload_n 2, 1) := by decide +kernel
theorem dX3_matching_17 : decode cX3_matching 17 = .ok (.iload_n 3, 1) := by decide +kernel
theorem dX3_matching_18 : decode cX3_matching 18 = .ok (.iadd, 1) := by decide +kernel
theorem dX3_matching_19 : decode cX3_matching 19 = .ok (.invokevirtual 74, 3) := by decide +kernel
theorem dX3_matching_22 : decode cX3_matching 22 = .ok (.if_icmp .ne 9, 3) := by decide +kernel
theorem dX3_matching_25 : decode cX3_matching 25 = .ok (.iinc 3 1, 3) := by decide +kernel
theorem dX3_matching_28 : decode cX3_matching 28 = .ok (.goto (-26), 3) := by decide +kernel
theorem dX3_matching_31 : decode cX3_matching 31 = .ok (.iload_n 3, 1) := by decide +kernel
theorem dX3_matching_32 : decode cX3_matching 32 = .ok (.ireturn, 1) := by decide +kernel
set_option maxRecDepth 100000 in
set_option maxHeartbeats 4000000 in
theorem bX3_matching_2 {l : Launch} {g : xG} (a0 : Nat) (r1 : Option Nat) (x2 : Int32) (x3 : Int32) {M : xM} {Q : Option Value → xM → Prop} (h : (xat M a0 1 ∧ (((xI M a0 1) ≤ x3 → (Q (some (.int x3)) M)) ∧ (¬ (xI M a0 1) ≤ x3 → (xSp l g mX3_prefixAt 0 0 [va_rf (some a0), .int x3] M (fun ρ4 M3 => ∃ v2 : Int32, ρ4 = some (.int v2) ∧ (∃ a10, r1 = some a10 ∧ xat M3 a10 4 ∧ xSp l g mX7_byteAt 0 0 [va_rf r1, .int (x2 + x3)] M3 (fun ρ8 M7 => ∃ v6 : Int32, ρ8 = some (.int v6) ∧ ((¬ v2 = v6 → (Q (some (.int x3)) M7)) ∧ (v2 = v6 → xWp l g mX3_matching 0 0 2 [(1, va_rf (some a0)), (1, va_rf r1), (1, .int x2), (1, .int (x3 + 1))] [] (0, 0) M7 Q)))))))))) : xWp l g mX3_matching 0 0 2 [(1, va_rf (some a0)), (1, va_rf r1), (1, .int x2), (1, .int x3)] [] (0, 0) M Q := by
  refine xr_iload_n 3 dX3_matching_2 rfl rfl ?_
  refine xr_aload_n 0 dX3_matching_3 rfl rfl ?_
  obtain ⟨t1, h⟩ := h
  refine yr_getI dX3_matching_4 fl_RX3_18 rfl t1 ?_
  obtain ⟨ht, hf⟩ := h
  refine xr_icmp_ge 31 dX3_matching_7 (by decide) (fun c14 => ?_) (fun c14 => ?_)
  · replace h := ht c14
    clear ht hf
    refine xr_iload_n 3 dX3_matching_31 rfl rfl ?_
    exact xr_retv (by decide) (xRi rfl rfl dX3_matching_32) h
  · replace h := hf c14
    clear ht hf
    refine xr_aload_n 0 dX3_matching_10 rfl rfl ?_
    refine xr_iload_n 3 dX3_matching_11 rfl rfl ?_
    refine yr_callV (r := (some a0)) [.int x3] dX3_matching_12 cv_X3_matching_67 rfl t1 rfl (Nat.le_trans wt_0 (by decide)) (by decide) (xSp.mono h ?_)
    clear h
    intro ρ4 M3 h
    obtain ⟨v2, rfl, h⟩ := h
    refine xr_aload_n 1 dX3_matching_15 rfl rfl ?_
    refine xr_iload_n 2 dX3_matching_16 rfl rfl ?_
    refine xr_iload_n 3 dX3_matching_17 rfl rfl ?_
    refine xr_iadd dX3_matching_18 ?_
    obtain ⟨a10, e11, h⟩ := h
    obtain ⟨t12, h⟩ := h
    refine yr_callV (r := r1) [.int (x2 + x3)] dX3_matching_19 cv_X3_matching_74 e11 t12 rfl (Nat.le_trans (wt_i wt_0) (by decide)) (by decide) (xSp.mono h ?_)
    clear h
    intro ρ8 M7 h
    obtain ⟨v6, rfl, h⟩ := h
    obtain ⟨ht, hf⟩ := h
    refine xr_icmp_ne 31 dX3_matching_22 (by decide) (fun c13 => ?_) (fun c13 => ?_)
    · replace h := ht c13
      clear ht hf
      refine xr_iload_n 3 dX3_matching_31 rfl rfl ?_
      exact xr_retv (by decide) (xRi rfl rfl dX3_matching_32) h
    · replace h := hf c13
      clear ht hf
      refine ziinc (x3 + 1) dX3_matching_25 rfl rfl (L1 := [(1, va_rf (some a0)), (1, va_rf r1), (1, .int x2), (1, .int (x3 + 1))]) (by decide) rfl ?_
      refine xr_goto 2 dX3_matching_28 (by decide) ?_
      exact h
set_option maxRecDepth 100000 in
set_option maxHeartbeats 4000000 in
theorem bX3_matching_0 {l : Launch} {g : xG} (a0 : Nat) (r1 : Option Nat) (x2 : Int32) {M : xM} {Q : Option Value → xM → Prop} (h : xWp l g mX3_matching 0 0 2 [(1, va_rf (some a0)), (1, va_rf r1), (1, .int x2), (1, .int 0)] [] (0, 0) M Q) : xWp l g mX3_matching 0 0 0 [(1, va_rf (some a0)), (1, va_rf r1), (1, .int x2), (0, .null)] [] (0, 0) M Q := by
  refine xr_iconst 0 dX3_matching_0 (by decide) ?_
  refine zistore_n 3 dX3_matching_1 rfl (L1 := [(1, va_rf (some a0)), (1, va_rf r1), (1, .int x2), (1, .int 0)]) (by decide) rfl ?_
  exact h
theorem dX3_setValue_0 : decode cX3_setValue 0 = .ok (.aload_n 0, 1) := by decide +kernel
theorem dX3_setValue_1 : decode cX3_setValue 1 = .ok (.iconst 1, 1) := by decide +kernel
theorem dX3_setValue_2 : decode cX3_setValue 2 = .ok (.putfield 27, 3) := by decide +kernel
theorem dX3_setValue_5 : decode cX3_setValue 5 = .ok (.aload_n 0, 1) := by decide +kernel
theorem dX3_setValue_6 : decode cX3_setValue 6 = .ok (.lload_n 1, 1) := by decide +kernel
theorem dX3_setValue_7 : decode cX3_setValue 7 = .ok (.putfield 31, 3) := by decide +kernel
theorem dX3_setValue_10 : decode cX3_setValue 10 = .ok (.return_, 1) := by decide +kernel
set_option maxRecDepth 100000 in
set_option maxHeartbeats 4000000 in
theorem bX3_setValue_0 {l : Launch} {g : xG} (a0 : Nat) (j1 : Int64) {M : xM} {Q : Option Value → xM → Prop} (h : (xat M a0 1 ∧ (Q none (xsJ (xsI M a0 3 1) a0 4 j1)))) : xWp l g mX3_setValue 0 0 0 [(1, va_rf (some a0)), (2, .long j1), (0, .null)] [] (0, 0) M Q := by
  refine xr_aload_n 0 dX3_setValue_0 rfl rfl ?_
  refine xr_iconst 1 dX3_setValue_1 (by decide) ?_
  obtain ⟨t1, h⟩ := h
  refine yr_putZ dX3_setValue_2 fp_RX3_27 rfl t1 (by decide) ?_
  refine xr_aload_n 0 dX3_setValue_5 rfl rfl ?_
  refine xr_lload_n 1 dX3_setValue_6 rfl rfl ?_
  refine yr_putJ dX3_setValue_7 fp_RX3_31 rfl t1 ?_
  exact xr_ret (by decide) (xRv rfl dX3_setValue_10) h
theorem dX3_loseValue_0 : decode cX3_loseValue 0 = .ok (.aload_n 0, 1) := by decide +kernel
theorem dX3_loseValue_1 : decode cX3_loseValue 1 = .ok (.iconst 0, 1) := by decide +kernel
theorem dX3_loseValue_2 : decode cX3_loseValue 2 = .ok (.putfield 27, 3) := by decide +kernel
theorem dX3_loseValue_5 : decode cX3_loseValue 5 = .ok (.aload_n 0, 1) := by decide +kernel
theorem dX3_loseValue_6 : decode cX3_loseValue 6 = .ok (.lconst 0, 1) := by decide +kernel
theorem dX3_loseValue_7 : decode cX3_loseValue 7 = .ok (.putfield 31, 3) := by decide +kernel
theorem dX3_loseValue_10 : decode cX3_loseValue 10 = .ok (.return_, 1) := by decide +kernel
set_option maxRecDepth 100000 in
set_option maxHeartbeats 4000000 in
theorem bX3_loseValue_0 {l : Launch} {g : xG} (a0 : Nat) {M : xM} {Q : Option Value → xM → Prop} (h : (xat M a0 1 ∧ (Q none (xsJ (xsI M a0 3 0) a0 4 0)))) : xWp l g mX3_loseValue 0 0 0 [(1, va_rf (some a0))] [] (0, 0) M Q := by
  refine xr_aload_n 0 dX3_loseValue_0 rfl rfl ?_
  refine xr_iconst 0 dX3_loseValue_1 (by decide) ?_
  obtain ⟨t1, h⟩ := h
  refine yr_putZ dX3_loseValue_2 fp_RX3_27 rfl t1 (by decide) ?_
  refine xr_aload_n 0 dX3_loseValue_5 rfl rfl ?_
  refine xr_lconst 0 dX3_loseValue_6 (by decide) ?_
  refine yr_putJ dX3_loseValue_7 fp_RX3_31 rfl t1 ?_
  exact xr_ret (by decide) (xRv rfl dX3_loseValue_10) h
theorem dX3_lastBelow_0 : decode cX3_lastBelow 0 = .ok (.aconst_null, 1) := by decide +kernel
theorem dX3_lastBelow_1 : decode cX3_lastBelow 1 = .ok (.astore_n 2, 1) := by decide +kernel
theorem dX3_lastBelow_2 : decode cX3_lastBelow 2 = .ok (.aload_n 0, 1) := by decide +kernel
theorem dX3_lastBelow_3 : decode cX3_lastBelow 3 = .ok (.getfield 51, 3) := by decide +kernel
theorem dX3_lastBelow_6 : decode cX3_lastBelow 6 = .ok (.astore_n 3, 1) := by decide +kernel
theorem dX3_lastBelow_7 : decode cX3_lastBelow 7 = .ok (.aload_n 3, 1) := by decide +kernel
theorem dX3_lastBelow_8 : decode cX3_lastBelow 8 = .ok (.ifnull 21, 3) := by decide +kernel
theorem dX3_lastBelow_11 : decode cX3_lastBelow 11 = .ok (.aload_n 3, 1) := by decide +kernel
theorem dX3_lastBelow_12 : decode cX3_lastBelow 12 = .ok (.getfield 38, 3) := by decide +kernel
theorem dX3_lastBelow_15 : decode cX3_lastBelow 15 = .ok (.iload_n 1, 1) := by decide +kernel
theorem dX3_lastBelow_16 : decode cX3_lastBelow 16 = .ok (.if_icmp .ge 13, 3) := by decide +kernel
theorem dX3_lastBelow_19 : decode cX3_lastBelow 19 = .ok (.aload_n 3, 1) := by decide +kernel
theorem dX3_lastBelow_20 : decode cX3_lastBelow 20 = .ok (.astore_n 2, 1) := by decide +kernel
theorem dX3_lastBelow_21 : decode cX3_lastBelow 21 = .ok (.aload_n 3, 1) := by decide +kernel
theorem dX3_lastBelow_22 : decode cX3_lastBelow 22 = .ok (.getfield 54, 3) := by decide +kernel
theorem dX3_lastBelow_25 : decode cX3_lastBelow 25 = .ok (.astore_n 3, 1) := by decide +kernel
theorem dX3_lastBelow_26 : decode cX3_lastBelow 26 = .ok (.goto (-19), 3) := by decide +kernel
theorem dX3_lastBelow_29 : decode cX3_lastBelow 29 = .ok (.aload_n 2, 1) := by decide +kernel
theorem dX3_lastBelow_30 : decode cX3_lastBelow 30 = .ok (.areturn, 1) := by decide +kernel
set_option maxRecDepth 100000 in
set_option maxHeartbeats 4000000 in
theorem bX3_lastBelow_7 {l : Launch} {g : xG} (a0 : Nat) (x1 : Int32) (r2 : Option Nat) (r3 : Option Nat) {M : xM} {Q : Option Value → xM → Prop} (h : ((r3 = none → (Q (some (va_rf r2)) M)) ∧ (¬ r3 = none → (∃ a1, r3 = some a1 ∧ xat M a1 1 ∧ ((x1 ≤ (xI M a1 6) → (Q (some (va_rf r2)) M)) ∧ (¬ x1 ≤ (xI M a1 6) → xWp l g mX3_lastBelow 0 0 7 [(1, va_rf (some a0)), (1, .int x1), (1, va_rf r3), (1, va_rf (xR M a1 11))] [] (0, 0) M Q)))))) : xWp l g mX3_lastBelow 0 0 7 [(1, va_rf (some a0)), (1, .int x1), (1, va_rf r2), (1, va_rf r3)] [] (0, 0) M Q := by
  refine xr_aload_n 3 dX3_lastBelow_7 rfl rfl ?_
  obtain ⟨ht, hf⟩ := h
  refine xr_ifnull 29 dX3_lastBelow_8 (by decide) (fun c5 => ?_) (fun c5 => ?_)
  · replace h := ht c5
    clear ht hf
    refine xr_aload_n 2 dX3_lastBelow_29 rfl rfl ?_
    exact xr_retv (by decide) (xRa rfl dX3_lastBelow_30) h
  · replace h := hf c5
    clear ht hf
    refine xr_aload_n 3 dX3_lastBelow_11 rfl rfl ?_
    obtain ⟨a1, e2, h⟩ := h
    obtain ⟨t3, h⟩ := h
    refine yr_getI dX3_lastBelow_12 fl_RX3_38 e2 t3 ?_
    refine xr_iload_n 1 dX3_lastBelow_15 rfl rfl ?_
    obtain ⟨ht, hf⟩ := h
    refine xr_icmp_ge 29 dX3_lastBelow_16 (by decide) (fun c4 => ?_) (fun c4 => ?_)
    · replace h := ht c4
      clear ht hf
      refine xr_aload_n 2 dX3_lastBelow_29 rfl rfl ?_
      exact xr_retv (by decide) (xRa rfl dX3_lastBelow_30) h
    · replace h := hf c4
      clear ht hf
      refine xr_aload_n 3 dX3_lastBelow_19 rfl rfl ?_
      refine zastore_n 2 dX3_lastBelow_20 rfl (L1 := [(1, va_rf (some a0)), (1, .int x1), (1, va_rf r3), (1, va_rf r3)]) (by decide) rfl ?_
      refine xr_aload_n 3 dX3_lastBelow_21 rfl rfl ?_
      refine yr_getR dX3_lastBelow_22 fl_RX3_54 e2 t3 ?_
      refine zastore_n 3 dX3_lastBelow_25 rfl (L1 := [(1, va_rf (some a0)), (1, .int x1), (1, va_rf r3), (1, va_rf (xR M a1 11))]) (by decide) rfl ?_
      refine xr_goto 7 dX3_lastBelow_26 (by decide) ?_
      exact h
set_option maxRecDepth 100000 in
set_option maxHeartbeats 4000000 in
theorem bX3_lastBelow_0 {l : Launch} {g : xG} (a0 : Nat) (x1 : Int32) {M : xM} {Q : Option Value → xM → Prop} (h : (xat M a0 1 ∧ xWp l g mX3_lastBelow 0 0 7 [(1, va_rf (some a0)), (1, .int x1), (1, va_rf none), (1, va_rf (xR M a0 10))] [] (0, 0) M Q)) : xWp l g mX3_lastBelow 0 0 0 [(1, va_rf (some a0)), (1, .int x1), (0, .null), (0, .null)] [] (0, 0) M Q := by
  refine xr_null dX3_lastBelow_0 ?_
  refine zastore_n 2 dX3_lastBelow_1 rfl (L1 := [(1, va_rf (some a0)), (1, .int x1), (1, va_rf none), (0, .null)]) (by decide) rfl ?_
  refine xr_aload_n 0 dX3_lastBelow_2 rfl rfl ?_
  obtain ⟨t1, h⟩ := h
  refine yr_getR dX3_lastBelow_3 fl_RX3_51 rfl t1 ?_
  refine zastore_n 3 dX3_lastBelow_6 rfl (L1 := [(1, va_rf (some a0)), (1, .int x1), (1, va_rf none), (1, va_rf (xR M a0 10))]) (by decide) rfl ?_
  exact h
theorem dX3_firstFrom_0 : decode cX3_firstFrom 0 = .ok (.aload_n 0, 1) := by decide +kernel
theorem dX3_firstFrom_1 : decode cX3_firstFrom 1 = .ok (.getfield 51, 3) := by decide +kernel
theorem dX3_firstFrom_4 : decode cX3_firstFrom 4 = .ok (.astore_n 2, 1) := by decide +kernel
theorem dX3_firstFrom_5 : decode cX3_firstFrom 5 = .ok (.aload_n 2, 1) := by decide +kernel
theorem dX3_firstFrom_6 : decode cX3_firstFrom 6 = .ok (.ifnull 21, 3) := by decide +kernel
theorem dX3_firstFrom_9 : decode cX3_firstFrom 9 = .ok (.aload_n 2, 1) := by decide +kernel
theorem dX3_firstFrom_10 : decode cX3_firstFrom 10 = .ok (.getfield 38, 3) := by decide +kernel
theorem dX3_firstFrom_13 : decode cX3_firstFrom 13 = .ok (.iload_n 1, 1) := by decide +kernel
theorem dX3_firstFrom_14 : decode cX3_firstFrom 14 = .ok (.if_icmp .lt 5, 3) := by decide +kernel
theorem dX3_firstFrom_17 : decode cX3_firstFrom 17 = .ok (.aload_n 2, 1) := by decide +kernel
theorem dX3_firstFrom_18 : decode cX3_firstFrom 18 = .ok (.areturn, 1) := by decide +kernel
theorem dX3_firstFrom_19 : decode cX3_firstFrom 19 = .ok (.aload_n 2, 1) := by decide +kernel
theorem dX3_firstFrom_20 : decode cX3_firstFrom 20 = .ok (.getfield 54, 3) := by decide +kernel
theorem dX3_firstFrom_23 : decode cX3_firstFrom 23 = .ok (.astore_n 2, 1) := by decide +kernel
theorem dX3_firstFrom_24 : decode cX3_firstFrom 24 = .ok (.goto (-19), 3) := by decide +kernel
theorem dX3_firstFrom_27 : decode cX3_firstFrom 27 = .ok (.aconst_null, 1) := by decide +kernel
theorem dX3_firstFrom_28 : decode cX3_firstFrom 28 = .ok (.areturn, 1) := by decide +kernel
set_option maxRecDepth 100000 in
set_option maxHeartbeats 4000000 in
theorem bX3_firstFrom_5 {l : Launch} {g : xG} (a0 : Nat) (x1 : Int32) (r2 : Option Nat) {M : xM} {Q : Option Value → xM → Prop} (h : ((r2 = none → (Q (some (va_rf none)) M)) ∧ (¬ r2 = none → (∃ a1, r2 = some a1 ∧ xat M a1 1 ∧ (((xI M a1 6) < x1 → xWp l g mX3_firstFrom 0 0 5 [(1, va_rf (some a0)), (1, .int x1), (1, va_rf (xR M a1 11))] [] (0, 0) M Q) ∧ (¬ (xI M a1 6) < x1 → (Q (some (va_rf r2)) M))))))) : xWp l g mX3_firstFrom 0 0 5 [(1, va_rf (some a0)), (1, .int x1), (1, va_rf r2)] [] (0, 0) M Q := by
  refine xr_aload_n 2 dX3_firstFrom_5 rfl rfl ?_
  obtain ⟨ht, hf⟩ := h
  refine xr_ifnull 27 dX3_firstFrom_6 (by decide) (fun c5 => ?_) (fun c5 => ?_)
  · replace h := ht c5
    clear ht hf
    refine xr_null dX3_firstFrom_27 ?_
    exact xr_retv (by decide) (xRa rfl dX3_firstFrom_28) h
  · replace h := hf c5
    clear ht hf
    refine xr_aload_n 2 dX3_firstFrom_9 rfl rfl ?_
    obtain ⟨a1, e2, h⟩ := h
    obtain ⟨t3, h⟩ := h
    refine yr_getI dX3_firstFrom_10 fl_RX3_38 e2 t3 ?_
    refine xr_iload_n 1 dX3_firstFrom_13 rfl rfl ?_
    obtain ⟨ht, hf⟩ := h
    refine xr_icmp_lt 19 dX3_firstFrom_14 (by decide) (fun c4 => ?_) (fun c4 => ?_)
    · replace h := ht c4
      clear ht hf
      refine xr_aload_n 2 dX3_firstFrom_19 rfl rfl ?_
      refine yr_getR dX3_firstFrom_20 fl_RX3_54 e2 t3 ?_
      refine zastore_n 2 dX3_firstFrom_23 rfl (L1 := [(1, va_rf (some a0)), (1, .int x1), (1, va_rf (xR M a1 11))]) (by decide) rfl ?_
      refine xr_goto 5 dX3_firstFrom_24 (by decide) ?_
      exact h
    · replace h := hf c4
      clear ht hf
      refine xr_aload_n 2 dX3_firstFrom_17 rfl rfl ?_
      exact xr_retv (by decide) (xRa rfl dX3_firstFrom_18) h
set_option maxRecDepth 100000 in
set_option maxHeartbeats 4000000 in
theorem bX3_firstFrom_0 {l : Launch} {g : xG} (a0 : Nat) (x1 : Int32) {M : xM} {Q : Option Value → xM → Prop} (h : (xat M a0 1 ∧ xWp l g mX3_firstFrom 0 0 5 [(1, va_rf (some a0)), (1, .int x1), (1, va_rf (xR M a0 10))] [] (0, 0) M Q)) : xWp l g mX3_firstFrom 0 0 0 [(1, va_rf (some a0)), (1, .int x1), (0, .null)] [] (0, 0) M Q := by
  refine xr_aload_n 0 dX3_firstFrom_0 rfl rfl ?_
  obtain ⟨t1, h⟩ := h
  refine yr_getR dX3_firstFrom_1 fl_RX3_51 rfl t1 ?_
  refine zastore_n 2 dX3_firstFrom_4 rfl (L1 := [(1, va_rf (some a0)), (1, .int x1), (1, va_rf (xR M a0 10))]) (by decide) rfl ?_
  exact h
theorem dX3_childBy_0 : decode cX3_childBy 0 = .ok (.aload_n 0, 1) := by decide +kernel
theorem dX3_childBy_1 : decode cX3_childBy 1 = .ok (.iload_n 1, 1) := by decide +kernel
theorem dX3_childBy_2 : decode cX3_childBy 2 = .ok (.invokevirtual 79, 3) := by decide +kernel
theorem dX3_childBy_5 : decode cX3_childBy 5 = .ok (.astore_n 2, 1) := by decide +kernel
theorem dX3_childBy_6 : decode cX3_childBy 6 = .ok (.aload_n 2, 1) := by decide +kernel
theorem dX3_childBy_7 : decode cX3_childBy 7 = .ok (.ifnull 15, 3) := by decide +kernel
theorem dX3_childBy_10 : decode cX3_childBy 10 = .ok (.aload_n 2, 1) := by decide +kernel
theorem dX3_childBy_11 : decode cX3_childBy 11 = .ok (.getfield 38, 3) := by decide +kernel
theorem dX3_childBy_14 : decode cX3_childBy 14 = .ok (.iload_n 1, 1) := by decide +kernel
theorem dX3_childBy_15 : decode cX3_childBy 15 = .ok (.if_icmp .ne 7, 3) := by decide +kernel
theorem dX3_childBy_18 : decode cX3_childBy 18 = .ok (.aload_n 2, 1) := by decide +kernel
theorem dX3_childBy_19 : decode cX3_childBy 19 = .ok (.goto 4, 3) := by decide +kernel
theorem dX3_childBy_22 : decode cX3_childBy 22 = .ok (.aconst_null, 1) := by decide +kernel
theorem dX3_childBy_23 : decode cX3_childBy 23 = .ok (.areturn, 1) := by decide +kernel
set_option maxRecDepth 100000 in
set_option maxHeartbeats 4000000 in
theorem bX3_childBy_0 {l : Launch} {g : xG} (a0 : Nat) (x1 : Int32) {M : xM} {Q : Option Value → xM → Prop} (h : (xat M a0 1 ∧ xSp l g mX3_firstFrom 0 0 [va_rf (some a0), .int x1] M (fun ρ3 M2 => ∃ v1 : Option Nat, ρ3 = some (va_rf v1) ∧ ((v1 = none → (Q (some (va_rf none)) M2)) ∧ (¬ v1 = none → (∃ a6, v1 = some a6 ∧ xat M2 a6 1 ∧ ((¬ (xI M2 a6 6) = x1 → (Q (some (va_rf none)) M2)) ∧ ((xI M2 a6 6) = x1 → (Q (some (va_rf v1)) M2))))))))) : xWp l g mX3_childBy 0 0 0 [(1, va_rf (some a0)), (1, .int x1), (0, .null)] [] (0, 0) M Q := by
  refine xr_aload_n 0 dX3_childBy_0 rfl rfl ?_
  refine xr_iload_n 1 dX3_childBy_1 rfl rfl ?_
  obtain ⟨t5, h⟩ := h
  refine yr_callV (r := (some a0)) [.int x1] dX3_childBy_2 cv_X3_childBy_79 rfl t5 rfl (Nat.le_trans wt_0 (by decide)) (by decide) (xSp.mono h ?_)
  clear h
  intro ρ3 M2 h
  obtain ⟨v1, rfl, h⟩ := h
  refine zastore_n 2 dX3_childBy_5 rfl (L1 := [(1, va_rf (some a0)), (1, .int x1), (1, va_rf v1)]) (by decide) rfl ?_
  refine xr_aload_n 2 dX3_childBy_6 rfl rfl ?_
  obtain ⟨ht, hf⟩ := h
  refine xr_ifnull 22 dX3_childBy_7 (by decide) (fun c10 => ?_) (fun c10 => ?_)
  · replace h := ht c10
    clear ht hf
    refine xr_null dX3_childBy_22 ?_
    exact xr_retv (by decide) (xRa rfl dX3_childBy_23) h
  · replace h := hf c10
    clear ht hf
    refine xr_aload_n 2 dX3_childBy_10 rfl rfl ?_
    obtain ⟨a6, e7, h⟩ := h
    obtain ⟨t8, h⟩ := h
    refine yr_getI dX3_childBy_11 fl_RX3_38 e7 t8 ?_
    refine xr_iload_n 1 dX3_childBy_14 rfl rfl ?_
    obtain ⟨ht, hf⟩ := h
    refine xr_icmp_ne 22 dX3_childBy_15 (by decide) (fun c9 => ?_) (fun c9 => ?_)
    · replace h := ht c9
      clear ht hf
      refine xr_null dX3_childBy_22 ?_
      exact xr_retv (by decide) (xRa rfl dX3_childBy_23) h
    · replace h := hf c9
      clear ht hf
      refine xr_aload_n 2 dX3_childBy_18 rfl rfl ?_
      refine xr_goto 23 dX3_childBy_19 (by decide) ?_
      exact xr_retv (by decide) (xRa rfl dX3_childBy_23) h
theorem dX3_setNextOf_0 : decode cX3_setNextOf 0 = .ok (.aload_n 1, 1) := by decide +kernel
theorem dX3_setNextOf_1 : decode cX3_setNextOf 1 = .ok (.ifnonnull 11, 3) := by decide +kernel
theorem dX3_setNextOf_4 : decode cX3_setNextOf 4 = .ok (.aload_n 0, 1) := by decide +kernel
theorem dX3_setNextOf_5 : decode cX3_setNextOf 5 = .ok (.aload_n 2, 1) := by decide +kernel
theorem dX3_setNextOf_6 : decode cX3_setNextOf 6 = .ok (.putfield 51, 3) := by decide +kernel
theorem dX3_setNextOf_9 : decode cX3_setNextOf 9 = .ok (.goto 8, 3) := by decide +kernel
theorem dX3_setNextOf_12 : decode cX3_setNextOf 12 = .ok (.aload_n 1, 1) := by decide +kernel
theorem dX3_setNextOf_13 : decode cX3_setNextOf 13 = .ok (.aload_n 2, 1) := by decide +kernel
theorem dX3_setNextOf_14 : decode cX3_setNextOf 14 = .ok (.putfield 54, 3) := by decide +kernel
theorem dX3_setNextOf_17 : decode cX3_setNextOf 17 = .ok (.return_, 1) := by decide +kernel
set_option maxRecDepth 100000 in
set_option maxHeartbeats 4000000 in
theorem bX3_setNextOf_0 {l : Launch} {g : xG} (a0 : Nat) (r1 : Option Nat) (r2 : Option Nat) {M : xM} {Q : Option Value → xM → Prop} (h : ((¬ r1 = none → (∃ a1, r1 = some a1 ∧ xat M a1 1 ∧ (Q none (xsR M a1 11 r2)))) ∧ (r1 = none → (xat M a0 1 ∧ (Q none (xsR M a0 10 r2)))))) : xWp l g mX3_setNextOf 0 0 0 [(1, va_rf (some a0)), (1, va_rf r1), (1, va_rf r2)] [] (0, 0) M Q := by
  refine xr_aload_n 1 dX3_setNextOf_0 rfl rfl ?_
  obtain ⟨ht, hf⟩ := h
  refine xr_ifnonnull 12 dX3_setNextOf_1 (by decide) (fun c5 => ?_) (fun c5 => ?_)
  · replace h := ht c5
    clear ht hf
    refine xr_aload_n 1 dX3_setNextOf_12 rfl rfl ?_
    refine xr_aload_n 2 dX3_setNextOf_13 rfl rfl ?_
    obtain ⟨a1, e2, h⟩ := h
    obtain ⟨t3, h⟩ := h
    refine yr_putR dX3_setNextOf_14 fp_RX3_54 e2 t3 ?_
    exact xr_ret (by decide) (xRv rfl dX3_setNextOf_17) h
  · replace h := hf c5
    clear ht hf
    refine xr_aload_n 0 dX3_setNextOf_4 rfl rfl ?_
    refine xr_aload_n 2 dX3_setNextOf_5 rfl rfl ?_
    obtain ⟨t4, h⟩ := h
    refine yr_putR dX3_setNextOf_6 fp_RX3_51 rfl t4 ?_
    refine xr_goto 17 dX3_setNextOf_9 (by decide) ?_
    exact xr_ret (by decide) (xRv rfl dX3_setNextOf_17) h
theorem dX3_gain_0 : decode cX3_gain 0 = .ok (.aload_n 0, 1) := by decide +kernel
theorem dX3_gain_1 : decode cX3_gain 1 = .ok (.aload_n 1, 1) := by decide +kernel
theorem dX3_gain_2 : decode cX3_gain 2 = .ok (.getfield 38, 3) := by decide +kernel
theorem dX3_gain_5 : decode cX3_gain 5 = .ok (.invokevirtual 83, 3) := by decide +kernel
theorem dX3_gain_8 : decode cX3_gain 8 = .ok (.astore_n 2, 1) := by decide +kernel
theorem dX3_gain_9 : decode cX3_gain 9 = .ok (.aload_n 1, 1) := by decide +kernel
theorem dX3_gain_10 : decode cX3_gain 10 = .ok (.aload_n 0, 1) := by decide +kernel
theorem dX3_gain_11 : decode cX3_gain 11 = .ok (.putfield 47, 3) := by decide +kernel
theorem dX3_gain_14 : decode cX3_gain 14 = .ok (.aload_n 1, 1) := by decide +kernel
theorem dX3_gain_15 : decode cX3_gain 15 = .ok (.aload_n 2, 1) := by decide +kernel
theorem dX3_gain_16 : decode cX3_gain 16 = .ok (.ifnonnull 10, 3) := by decide +kernel
theorem dX3_gain_19 : decode cX3_gain 19 = .ok (.aload_n 0, 1) := by decide +kernel
theorem dX3_gain_20 : decode cX3_gain 20 = .ok (.getfield 51, 3) := by decide +kernel
theorem dX3_gain_23 : decode cX3_gain 23 = .ok (.goto 7, 3) := by decide +kernel
theorem dX3_gain_26 : decode cX3_gain 26 = .ok (.aload_n 2, 1) := by decide +kernel
theorem dX3_gain_27 : decode cX3_gain 27 = .ok (.getfield 54, 3) := by decide +kernel
theorem dX3_gain_30 : decode cX3_gain 30 = .ok (.putfield 54, 3) := by decide +kernel
theorem dX3_gain_33 : decode cX3_gain 33 = .ok (.aload_n 0, 1) := by decide +kernel
theorem dX3_gain_34 : decode cX3_gain 34 = .ok (.aload_n 2, 1) := by decide +kernel
theorem dX3_gain_35 : decode cX3_gain 35 = .ok (.aload_n 1, 1) := by decide +kernel
theorem dX3_gain_36 : decode cX3_gain 36 = .ok (.invokevirtual 86, 3) := by decide +kernel
theorem dX3_gain_39 : decode cX3_gain 39 = .ok (.aload_n 0, 1) := by decide +kernel
theorem dX3_gain_40 : decode cX3_gain 40 = .ok (.dup, 1) := by decide +kernel
theorem dX3_gain_41 : decode cX3_gain 41 = .ok (.getfield 35, 3) := by decide +kernel
theorem dX3_gain_44 : decode cX3_gain 44 = .ok (.iconst 1, 1) := by decide +kernel
theorem dX3_gain_45 : decode cX3_gain 45 = .ok (.iadd, 1) := by decide +kernel
theorem dX3_gain_46 : decode cX3_gain 46 = .ok (.putfield 35, 3) := by decide +kernel
theorem dX3_gain_49 : decode cX3_gain 49 = .ok (.aload_n 0, 1) := by decide +kernel
theorem dX3_gain_50 : decode cX3_gain 50 = .ok (.aload_n 0, 1) := by decide +kernel
theorem dX3_gain_51 : decode cX3_gain 51 = .ok (.getfield 24, 3) := by decide +kernel
theorem dX3_gain_54 : decode cX3_gain 54 = .ok (.aload_n 0, 1) := by decide +kernel
theorem dX3_gain_55 : decode cX3_gain 55 = .ok (.getfield 35, 3) := by decide +kernel
theorem dX3_gain_58 : decode cX3_gain 58 = .ok (.invokestatic 90, 3) := by decide +kernel
theorem dX3_gain_61 : decode cX3_gain 61 = .ok (.putfield 24, 3) := by decide +kernel
theorem dX3_gain_64 : decode cX3_gain 64 = .ok (.return_, 1) := by decide +kernel
set_option maxRecDepth 100000 in
set_option maxHeartbeats 4000000 in
theorem bX3_gain_0 {l : Launch} {g : xG} (a0 : Nat) (r1 : Option Nat) {M : xM} {Q : Option Value → xM → Prop} (h : (∃ a1, r1 = some a1 ∧ xat M a1 1 ∧ (xat M a0 1 ∧ xSp l g mX3_lastBelow 0 0 [va_rf (some a0), .int (xI M a1 6)] M (fun ρ6 M5 => ∃ v4 : Option Nat, ρ6 = some (va_rf v4) ∧ (xat M5 a1 1 ∧ ((¬ v4 = none → (∃ a10, v4 = some a10 ∧ xat (xsR M5 a1 9 (some a0)) a10 1 ∧ (xat (xsR (xsR M5 a1 9 (some a0)) a1 11 (xR (xsR M5 a1 9 (some a0)) a10 11)) a0 1 ∧ xSp l g mX3_setNextOf 0 0 [va_rf (some a0), va_rf v4, va_rf r1] (xsR (xsR M5 a1 9 (some a0)) a1 11 (xR (xsR M5 a1 9 (some a0)) a10 11)) (fun ρ15 M14 => ρ15 = none ∧ (xat M14 a0 1 ∧ (xSp l g mX1_grown 0 0 [.int (xI (xsI M14 a0 5 ((xI M14 a0 5) + 1)) a0 2), .int (xI (xsI M14 a0 5 ((xI M14 a0 5) + 1)) a0 5)] (xsI M14 a0 5 ((xI M14 a0 5) + 1)) (fun ρ21 M20 => ∃ v19 : Int32, ρ21 = some (.int v19) ∧ (xat M20 a0 1 ∧ (Q none (xsI M20 a0 2 v19)))))))))) ∧ (v4 = none → (xat (xsR M5 a1 9 (some a0)) a0 1 ∧ (xSp l g mX3_setNextOf 0 0 [va_rf (some a0), va_rf v4, va_rf r1] (xsR (xsR M5 a1 9 (some a0)) a1 11 (xR (xsR M5 a1 9 (some a0)) a0 10)) (fun ρ27 M26 => ρ27 = none ∧ (xat M26 a0 1 ∧ (xSp l g mX1_grown 0 0 [.int (xI (xsI M26 a0 5 ((xI M26 a0 5) + 1)) a0 2), .int (xI (xsI M26 a0 5 ((xI M26 a0 5) + 1)) a0 5)] (xsI M26 a0 5 ((xI M26 a0 5) + 1)) (fun ρ32 M31 => ∃ v30 : Int32, ρ32 = some (.int v30) ∧ (xat M31 a0 1 ∧ (Q none (xsI M31 a0 2 v30)))))))))))))))) : xWp l g mX3_gain 0 0 0 [(1, va_rf (some a0)), (1, va_rf r1), (0, .null)] [] (0, 0) M Q := by
  refine xr_aload_n 0 dX3_gain_0 rfl rfl ?_
  refine xr_aload_n 1 dX3_gain_1 rfl rfl ?_
  obtain ⟨a1, e2, h⟩ := h
  obtain ⟨t3, h⟩ := h
  refine yr_getI dX3_gain_2 fl_RX3_38 e2 t3 ?_
  obtain ⟨t8, h⟩ := h
  refine yr_callV (r := (some a0)) [.int (xI M a1 6)] dX3_gain_5 cv_X3_gain_83 rfl t8 rfl (Nat.le_trans wt_0 (by decide)) (by decide) (xSp.mono h ?_)
  clear h
  intro ρ6 M5 h
  obtain ⟨v4, rfl, h⟩ := h
  refine zastore_n 2 dX3_gain_8 rfl (L1 := [(1, va_rf (some a0)), (1, va_rf r1), (1, va_rf v4)]) (by decide) rfl ?_
  refine xr_aload_n 1 dX3_gain_9 rfl rfl ?_
  refine xr_aload_n 0 dX3_gain_10 rfl rfl ?_
  obtain ⟨t9, h⟩ := h
  refine yr_putR dX3_gain_11 fp_RX3_47 e2 t9 ?_
  refine xr_aload_n 1 dX3_gain_14 rfl rfl ?_
  refine xr_aload_n 2 dX3_gain_15 rfl rfl ?_
  obtain ⟨ht, hf⟩ := h
  refine xr_ifnonnull 26 dX3_gain_16 (by decide) (fun c35 => ?_) (fun c35 => ?_)
  · replace h := ht c35
    clear ht hf
    refine xr_aload_n 2 dX3_gain_26 rfl rfl ?_
    obtain ⟨a10, e11, h⟩ := h
    obtain ⟨t12, h⟩ := h
    refine yr_getR dX3_gain_27 fl_RX3_54 e11 t12 ?_
    refine yr_putR dX3_gain_30 fp_RX3_54 e2 t9 ?_
    refine xr_aload_n 0 dX3_gain_33 rfl rfl ?_
    refine xr_aload_n 2 dX3_gain_34 rfl rfl ?_
    refine xr_aload_n 1 dX3_gain_35 rfl rfl ?_
    obtain ⟨t17, h⟩ := h
    refine yr_callV (r := (some a0)) [va_rf v4, va_rf r1] dX3_gain_36 cv_X3_gain_86 rfl t17 rfl (Nat.le_trans wt_0 (by decide)) (by decide) (xSp.mono h ?_)
    clear h
    intro ρ15 M14 h
    obtain ⟨rfl, h⟩ := h
    refine xr_aload_n 0 dX3_gain_39 rfl rfl ?_
    refine xr_dup dX3_gain_40 (va_rf_cat _) ?_
    obtain ⟨t18, h⟩ := h
    refine yr_getI dX3_gain_41 fl_RX3_35 rfl t18 ?_
    refine xr_iconst 1 dX3_gain_44 (by decide) ?_
    refine xr_iadd dX3_gain_45 ?_
    refine yr_putI dX3_gain_46 fp_RX3_35 rfl t18 ?_
    refine xr_aload_n 0 dX3_gain_49 rfl rfl ?_
    refine xr_aload_n 0 dX3_gain_50 rfl rfl ?_
    refine yr_getI dX3_gain_51 fl_RX3_24 rfl t18 ?_
    refine xr_aload_n 0 dX3_gain_54 rfl rfl ?_
    refine yr_getI dX3_gain_55 fl_RX3_35 rfl t18 ?_
    refine xr_callS [.int (xI (xsI M14 a0 5 ((xI M14 a0 5) + 1)) a0 2), .int (xI (xsI M14 a0 5 ((xI M14 a0 5) + 1)) a0 5)] dX3_gain_58 cs_X3_gain_90 rfl (Nat.le_trans (wt_r wt_0) (by decide)) (by decide) (xSp.mono h ?_)
    clear h
    intro ρ21 M20 h
    obtain ⟨v19, rfl, h⟩ := h
    obtain ⟨t23, h⟩ := h
    refine yr_putI dX3_gain_61 fp_RX3_24 rfl t23 ?_
    exact xr_ret (by decide) (xRv rfl dX3_gain_64) h
  · replace h := hf c35
    clear ht hf
    refine xr_aload_n 0 dX3_gain_19 rfl rfl ?_
    obtain ⟨t24, h⟩ := h
    refine yr_getR dX3_gain_20 fl_RX3_51 rfl t24 ?_
    refine xr_goto 30 dX3_gain_23 (by decide) ?_
    refine yr_putR dX3_gain_30 fp_RX3_54 e2 t9 ?_
    refine xr_aload_n 0 dX3_gain_33 rfl rfl ?_
    refine xr_aload_n 2 dX3_gain_34 rfl rfl ?_
    refine xr_aload_n 1 dX3_gain_35 rfl rfl ?_
    refine yr_callV (r := (some a0)) [va_rf v4, va_rf r1] dX3_gain_36 cv_X3_gain_86 rfl t24 rfl (Nat.le_trans wt_0 (by decide)) (by decide) (xSp.mono h ?_)
    clear h
    intro ρ27 M26 h
    obtain ⟨rfl, h⟩ := h
    refine xr_aload_n 0 dX3_gain_39 rfl rfl ?_
    refine xr_dup dX3_gain_40 (va_rf_cat _) ?_
    obtain ⟨t29, h⟩ := h
    refine yr_getI dX3_gain_41 fl_RX3_35 rfl t29 ?_
    refine xr_iconst 1 dX3_gain_44 (by decide) ?_
    refine xr_iadd dX3_gain_45 ?_
    refine yr_putI dX3_gain_46 fp_RX3_35 rfl t29 ?_
    refine xr_aload_n 0 dX3_gain_49 rfl rfl ?_
    refine xr_aload_n 0 dX3_gain_50 rfl rfl ?_
    refine yr_getI dX3_gain_51 fl_RX3_24 rfl t29 ?_
    refine xr_aload_n 0 dX3_gain_54 rfl rfl ?_
    refine yr_getI dX3_gain_55 fl_RX3_35 rfl t29 ?_
    refine xr_callS [.int (xI (xsI M26 a0 5 ((xI M26 a0 5) + 1)) a0 2), .int (xI (xsI M26 a0 5 ((xI M26 a0 5) + 1)) a0 5)] dX3_gain_58 cs_X3_gain_90 rfl (Nat.le_trans (wt_r wt_0) (by decide)) (by decide) (xSp.mono h ?_)
    clear h
    intro ρ32 M31 h
    obtain ⟨v30, rfl, h⟩ := h
    obtain ⟨t34, h⟩ := h
    refine yr_putI dX3_gain_61 fp_RX3_24 rfl t34 ?_
    exact xr_ret (by decide) (xRv rfl dX3_gain_64) h
theorem dX3_lose_0 : decode cX3_lose 0 = .ok (.aload_n 0, 1) := by decide +kernel
theorem dX3_lose_1 : decode cX3_lose 1 = .ok (.aload_n 0, 1) := by decide +kernel
theorem dX3_lose_2 : decode cX3_lose 2 = .ok (.aload_n 1, 1) := by decide +kernel
theorem dX3_lose_3 : decode cX3_lose 3 = .ok (.getfield 38, 3) := by decide +kernel
theorem dX3_lose_6 : decode cX3_lose 6 = .ok (.invokevirtual 83, 3) := by decide +kernel
theorem dX3_lose_9 : decode cX3_lose 9 = .ok (.aload_n 1, 1) := by decide +kernel
theorem dX3_lose_10 : decode cX3_lose 10 = .ok (.getfield 54, 3) := by decide +kernel
theorem dX3_lose_13 : decode cX3_lose 13 = .ok (.invokevirtual 86, 3) := by decide +kernel
theorem dX3_lose_16 : decode cX3_lose 16 = .ok (.aload_n 0, 1) := by decide +kernel
theorem dX3_lose_17 : decode cX3_lose 17 = .ok (.dup, 1) := by decide +kernel
theorem dX3_lose_18 : decode cX3_lose 18 = .ok (.getfield 35, 3) := by decide +kernel
theorem dX3_lose_21 : decode cX3_lose 21 = .ok (.iconst 1, 1) := by decide +kernel
theorem dX3_lose_22 : decode cX3_lose 22 = .ok (.isub, 1) := by decide +kernel
theorem dX3_lose_23 : decode cX3_lose 23 = .ok (.putfield 35, 3) := by decide +kernel
theorem dX3_lose_26 : decode cX3_lose 26 = .ok (.aload_n 0, 1) := by decide +kernel
theorem dX3_lose_27 : decode cX3_lose 27 = .ok (.aload_n 0, 1) := by decide +kernel
theorem dX3_lose_28 : decode cX3_lose 28 = .ok (.getfield 24, 3) := by decide +kernel
theorem dX3_lose_31 : decode cX3_lose 31 = .ok (.aload_n 0, 1) := by decide +kernel
theorem dX3_lose_32 : decode cX3_lose 32 = .ok (.getfield 35, 3) := by decide +kernel
theorem dX3_lose_35 : decode cX3_lose 35 = .ok (.invokestatic 93, 3) := by decide +kernel
theorem dX3_lose_38 : decode cX3_lose 38 = .ok (.putfield 24, 3) := by decide +kernel
theorem dX3_lose_41 : decode cX3_lose 41 = .ok (.return_, 1) := by decide +kernel
set_option maxRecDepth 100000 in
set_option maxHeartbeats 4000000 in
theorem bX3_lose_0 {l : Launch} {g : xG} (a0 : Nat) (r1 : Option Nat) {M : xM} {Q : Option Value → xM → Prop} (h : (∃ a1, r1 = some a1 ∧ xat M a1 1 ∧ (xat M a0 1 ∧ xSp l g mX3_lastBelow 0 0 [va_rf (some a0), .int (xI M a1 6)] M (fun ρ6 M5 => ∃ v4 : Option Nat, ρ6 = some (va_rf v4) ∧ (xat M5 a1 1 ∧ (xat M5 a0 1 ∧ xSp l g mX3_setNextOf 0 0 [va_rf (some a0), va_rf v4, va_rf (xR M5 a1 11)] M5 (fun ρ12 M11 => ρ12 = none ∧ (xat M11 a0 1 ∧ (xSp l g mX1_shrunk 0 0 [.int (xI (xsI M11 a0 5 ((xI M11 a0 5) - 1)) a0 2), .int (xI (xsI M11 a0 5 ((xI M11 a0 5) - 1)) a0 5)] (xsI M11 a0 5 ((xI M11 a0 5) - 1)) (fun ρ18 M17 => ∃ v16 : Int32, ρ18 = some (.int v16) ∧ (xat M17 a0 1 ∧ (Q none (xsI M17 a0 2 v16))))))))))))) : xWp l g mX3_lose 0 0 0 [(1, va_rf (some a0)), (1, va_rf r1)] [] (0, 0) M Q := by
  refine xr_aload_n 0 dX3_lose_0 rfl rfl ?_
  refine xr_aload_n 0 dX3_lose_1 rfl rfl ?_
  refine xr_aload_n 1 dX3_lose_2 rfl rfl ?_
  obtain ⟨a1, e2, h⟩ := h
  obtain ⟨t3, h⟩ := h
  refine yr_getI dX3_lose_3 fl_RX3_38 e2 t3 ?_
  obtain ⟨t8, h⟩ := h
  refine yr_callV (r := (some a0)) [.int (xI M a1 6)] dX3_lose_6 cv_X3_lose_83 rfl t8 rfl (Nat.le_trans (wt_r wt_0) (by decide)) (by decide) (xSp.mono h ?_)
  clear h
  intro ρ6 M5 h
  obtain ⟨v4, rfl, h⟩ := h
  refine xr_aload_n 1 dX3_lose_9 rfl rfl ?_
  obtain ⟨t9, h⟩ := h
  refine yr_getR dX3_lose_10 fl_RX3_54 e2 t9 ?_
  obtain ⟨t14, h⟩ := h
  refine yr_callV (r := (some a0)) [va_rf v4, va_rf (xR M5 a1 11)] dX3_lose_13 cv_X3_lose_86 rfl t14 rfl (Nat.le_trans wt_0 (by decide)) (by decide) (xSp.mono h ?_)
  clear h
  intro ρ12 M11 h
  obtain ⟨rfl, h⟩ := h
  refine xr_aload_n 0 dX3_lose_16 rfl rfl ?_
  refine xr_dup dX3_lose_17 (va_rf_cat _) ?_
  obtain ⟨t15, h⟩ := h
  refine yr_getI dX3_lose_18 fl_RX3_35 rfl t15 ?_
  refine xr_iconst 1 dX3_lose_21 (by decide) ?_
  refine xr_isub dX3_lose_22 ?_
  refine yr_putI dX3_lose_23 fp_RX3_35 rfl t15 ?_
  refine xr_aload_n 0 dX3_lose_26 rfl rfl ?_
  refine xr_aload_n 0 dX3_lose_27 rfl rfl ?_
  refine yr_getI dX3_lose_28 fl_RX3_24 rfl t15 ?_
  refine xr_aload_n 0 dX3_lose_31 rfl rfl ?_
  refine yr_getI dX3_lose_32 fl_RX3_35 rfl t15 ?_
  refine xr_callS [.int (xI (xsI M11 a0 5 ((xI M11 a0 5) - 1)) a0 2), .int (xI (xsI M11 a0 5 ((xI M11 a0 5) - 1)) a0 5)] dX3_lose_35 cs_X3_lose_93 rfl (Nat.le_trans (wt_r wt_0) (by decide)) (by decide) (xSp.mono h ?_)
  clear h
  intro ρ18 M17 h
  obtain ⟨v16, rfl, h⟩ := h
  obtain ⟨t20, h⟩ := h
  refine yr_putI dX3_lose_38 fp_RX3_24 rfl t20 ?_
  exact xr_ret (by decide) (xRv rfl dX3_lose_41) h
theorem dX3_yieldTo_0 : decode cX3_yieldTo 0 = .ok (.aload_n 1, 1) := by decide +kernel
theorem dX3_yieldTo_1 : decode cX3_yieldTo 1 = .ok (.aload_n 0, 1) := by decide +kernel
theorem dX3_yieldTo_2 : decode cX3_yieldTo 2 = .ok (.getfield 47, 3) := by decide +kernel
theorem dX3_yieldTo_5 : decode cX3_yieldTo 5 = .ok (.putfield 47, 3) := by decide +kernel
theorem dX3_yieldTo_8 : decode cX3_yieldTo 8 = .ok (.aload_n 1, 1) := by decide +kernel
theorem dX3_yieldTo_9 : decode cX3_yieldTo 9 = .ok (.aload_n 0, 1) := by decide +kernel
theorem dX3_yieldTo_10 : decode cX3_yieldTo 10 = .ok (.getfield 38, 3) := by decide +kernel
theorem dX3_yieldTo_13 : decode cX3_yieldTo 13 = .ok (.putfield 38, 3) := by decide +kernel
theorem dX3_yieldTo_16 : decode cX3_yieldTo 16 = .ok (.aload_n 1, 1) := by decide +kernel
theorem dX3_yieldTo_17 : decode cX3_yieldTo 17 = .ok (.aload_n 0, 1) := by decide +kernel
theorem dX3_yieldTo_18 : decode cX3_yieldTo 18 = .ok (.getfield 54, 3) := by decide +kernel
theorem dX3_yieldTo_21 : decode cX3_yieldTo 21 = .ok (.putfield 54, 3) := by decide +kernel
theorem dX3_yieldTo_24 : decode cX3_yieldTo 24 = .ok (.aload_n 0, 1) := by decide +kernel
theorem dX3_yieldTo_25 : decode cX3_yieldTo 25 = .ok (.getfield 47, 3) := by decide +kernel
theorem dX3_yieldTo_28 : decode cX3_yieldTo 28 = .ok (.ifnull 22, 3) := by decide +kernel
theorem dX3_yieldTo_31 : decode cX3_yieldTo 31 = .ok (.aload_n 0, 1) := by decide +kernel
theorem dX3_yieldTo_32 : decode cX3_yieldTo 32 = .ok (.getfield 47, 3) := by decide +kernel
theorem dX3_yieldTo_35 : decode cX3_yieldTo 35 = .ok (.aload_n 0, 1) := by decide +kernel
theorem dX3_yieldTo_36 : decode cX3_yieldTo 36 = .ok (.getfield 47, 3) := by decide +kernel
theorem dX3_yieldTo_39 : decode cX3_yieldTo 39 = .ok (.aload_n 0, 1) := by decide +kernel
theorem dX3_yieldTo_40 : decode cX3_yieldTo 40 = .ok (.getfield 38, 3) := by decide +kernel
theorem dX3_yieldTo_43 : decode cX3_yieldTo 43 = .ok (.invokevirtual 83, 3) := by decide +kernel
theorem dX3_yieldTo_46 : decode cX3_yieldTo 46 = .ok (.aload_n 1, 1) := by decide +kernel
theorem dX3_yieldTo_47 : decode cX3_yieldTo 47 = .ok (.invokevirtual 86, 3) := by decide +kernel
theorem dX3_yieldTo_50 : decode cX3_yieldTo 50 = .ok (.return_, 1) := by decide +kernel
set_option maxRecDepth 100000 in
set_option maxHeartbeats 4000000 in
theorem bX3_yieldTo_0 {l : Launch} {g : xG} (a0 : Nat) (r1 : Option Nat) {M : xM} {Q : Option Value → xM → Prop} (h : (xat M a0 1 ∧ (∃ a2, r1 = some a2 ∧ xat M a2 1 ∧ (((xR (xsR (xsI (xsR M a2 9 (xR M a0 9)) a2 6 (xI (xsR M a2 9 (xR M a0 9)) a0 6)) a2 11 (xR (xsI (xsR M a2 9 (xR M a0 9)) a2 6 (xI (xsR M a2 9 (xR M a0 9)) a0 6)) a0 11)) a0 9) = none → (Q none (xsR (xsI (xsR M a2 9 (xR M a0 9)) a2 6 (xI (xsR M a2 9 (xR M a0 9)) a0 6)) a2 11 (xR (xsI (xsR M a2 9 (xR M a0 9)) a2 6 (xI (xsR M a2 9 (xR M a0 9)) a0 6)) a0 11)))) ∧ (¬ (xR (xsR (xsI (xsR M a2 9 (xR M a0 9)) a2 6 (xI (xsR M a2 9 (xR M a0 9)) a0 6)) a2 11 (xR (xsI (xsR M a2 9 (xR M a0 9)) a2 6 (xI (xsR M a2 9 (xR M a0 9)) a0 6)) a0 11)) a0 9) = none → (∃ a9, (xR (xsR (xsI (xsR M a2 9 (xR M a0 9)) a2 6 (xI (xsR M a2 9 (xR M a0 9)) a0 6)) a2 11 (xR (xsI (xsR M a2 9 (xR M a0 9)) a2 6 (xI (xsR M a2 9 (xR M a0 9)) a0 6)) a0 11)) a0 9) = some a9 ∧ xat (xsR (xsI (xsR M a2 9 (xR M a0 9)) a2 6 (xI (xsR M a2 9 (xR M a0 9)) a0 6)) a2 11 (xR (xsI (xsR M a2 9 (xR M a0 9)) a2 6 (xI (xsR M a2 9 (xR M a0 9)) a0 6)) a0 11)) a9 1 ∧ xSp l g mX3_lastBelow 0 0 [va_rf (xR (xsR (xsI (xsR M a2 9 (xR M a0 9)) a2 6 (xI (xsR M a2 9 (xR M a0 9)) a0 6)) a2 11 (xR (xsI (xsR M a2 9 (xR M a0 9)) a2 6 (xI (xsR M a2 9 (xR M a0 9)) a0 6)) a0 11)) a0 9), .int (xI (xsR (xsI (xsR M a2 9 (xR M a0 9)) a2 6 (xI (xsR M a2 9 (xR M a0 9)) a0 6)) a2 11 (xR (xsI (xsR M a2 9 (xR M a0 9)) a2 6 (xI (xsR M a2 9 (xR M a0 9)) a0 6)) a0 11)) a0 6)] (xsR (xsI (xsR M a2 9 (xR M a0 9)) a2 6 (xI (xsR M a2 9 (xR M a0 9)) a0 6)) a2 11 (xR (xsI (xsR M a2 9 (xR M a0 9)) a2 6 (xI (xsR M a2 9 (xR M a0 9)) a0 6)) a0 11)) (fun ρ7 M6 => ∃ v5 : Option Nat, ρ7 = some (va_rf v5) ∧ (∃ a16, (xR (xsR (xsI (xsR M a2 9 (xR M a0 9)) a2 6 (xI (xsR M a2 9 (xR M a0 9)) a0 6)) a2 11 (xR (xsI (xsR M a2 9 (xR M a0 9)) a2 6 (xI (xsR M a2 9 (xR M a0 9)) a0 6)) a0 11)) a0 9) = some a16 ∧ xat M6 a16 1 ∧ xSp l g mX3_setNextOf 0 0 [va_rf (xR (xsR (xsI (xsR M a2 9 (xR M a0 9)) a2 6 (xI (xsR M a2 9 (xR M a0 9)) a0 6)) a2 11 (xR (xsI (xsR M a2 9 (xR M a0 9)) a2 6 (xI (xsR M a2 9 (xR M a0 9)) a0 6)) a0 11)) a0 9), va_rf v5, va_rf r1] M6 (fun ρ14 M13 => ρ14 = none ∧ (Q none M13)))))))))) : xWp l g mX3_yieldTo 0 0 0 [(1, va_rf (some a0)), (1, va_rf r1)] [] (0, 0) M Q := by
  refine xr_aload_n 1 dX3_yieldTo_0 rfl rfl ?_
  refine xr_aload_n 0 dX3_yieldTo_1 rfl rfl ?_
  obtain ⟨t1, h⟩ := h
  refine yr_getR dX3_yieldTo_2 fl_RX3_47 rfl t1 ?_
  obtain ⟨a2, e3, h⟩ := h
  obtain ⟨t4, h⟩ := h
  refine yr_putR dX3_yieldTo_5 fp_RX3_47 e3 t4 ?_
  refine xr_aload_n 1 dX3_yieldTo_8 rfl rfl ?_
  refine xr_aload_n 0 dX3_yieldTo_9 rfl rfl ?_
  refine yr_getI dX3_yieldTo_10 fl_RX3_38 rfl t1 ?_
  refine yr_putI dX3_yieldTo_13 fp_RX3_38 e3 t4 ?_
  refine xr_aload_n 1 dX3_yieldTo_16 rfl rfl ?_
  refine xr_aload_n 0 dX3_yieldTo_17 rfl rfl ?_
  refine yr_getR dX3_yieldTo_18 fl_RX3_54 rfl t1 ?_
  refine yr_putR dX3_yieldTo_21 fp_RX3_54 e3 t4 ?_
  refine xr_aload_n 0 dX3_yieldTo_24 rfl rfl ?_
  refine yr_getR dX3_yieldTo_25 fl_RX3_47 rfl t1 ?_
  obtain ⟨ht, hf⟩ := h
  refine xr_ifnull 50 dX3_yieldTo_28 (by decide) (fun c19 => ?_) (fun c19 => ?_)
  · replace h := ht c19
    clear ht hf
    exact xr_ret (by decide) (xRv rfl dX3_yieldTo_50) h
  · replace h := hf c19
    clear ht hf
    refine xr_aload_n 0 dX3_yieldTo_31 rfl rfl ?_
    refine yr_getR dX3_yieldTo_32 fl_RX3_47 rfl t1 ?_
    refine xr_aload_n 0 dX3_yieldTo_35 rfl rfl ?_
    refine yr_getR dX3_yieldTo_36 fl_RX3_47 rfl t1 ?_
    refine xr_aload_n 0 dX3_yieldTo_39 rfl rfl ?_
    refine yr_getI dX3_yieldTo_40 fl_RX3_38 rfl t1 ?_
    obtain ⟨a9, e10, h⟩ := h
    obtain ⟨t11, h⟩ := h
    refine yr_callV (r := (xR (xsR (xsI (xsR M a2 9 (xR M a0 9)) a2 6 (xI (xsR M a2 9 (xR M a0 9)) a0 6)) a2 11 (xR (xsI (xsR M a2 9 (xR M a0 9)) a2 6 (xI (xsR M a2 9 (xR M a0 9)) a0 6)) a0 11)) a0 9)) [.int (xI (xsR (xsI (xsR M a2 9 (xR M a0 9)) a2 6 (xI (xsR M a2 9 (xR M a0 9)) a0 6)) a2 11 (xR (xsI (xsR M a2 9 (xR M a0 9)) a2 6 (xI (xsR M a2 9 (xR M a0 9)) a0 6)) a0 11)) a0 6)] dX3_yieldTo_43 cv_X3_yieldTo_83 e10 t11 rfl (Nat.le_trans (wt_r wt_0) (by decide)) (by decide) (xSp.mono h ?_)
    clear h
    intro ρ7 M6 h
    obtain ⟨v5, rfl, h⟩ := h
    refine xr_aload_n 1 dX3_yieldTo_46 rfl rfl ?_
    obtain ⟨a16, e17, h⟩ := h
    obtain ⟨t18, h⟩ := h
    refine yr_callV (r := (xR (xsR (xsI (xsR M a2 9 (xR M a0 9)) a2 6 (xI (xsR M a2 9 (xR M a0 9)) a0 6)) a2 11 (xR (xsI (xsR M a2 9 (xR M a0 9)) a2 6 (xI (xsR M a2 9 (xR M a0 9)) a0 6)) a0 11)) a0 9)) [va_rf v5, va_rf r1] dX3_yieldTo_47 cv_X3_yieldTo_86 e17 t18 rfl (Nat.le_trans wt_0 (by decide)) (by decide) (xSp.mono h ?_)
    clear h
    intro ρ14 M13 h
    obtain ⟨rfl, h⟩ := h
    exact xr_ret (by decide) (xRv rfl dX3_yieldTo_50) h
theorem dX3_freshen_0 : decode cX3_freshen 0 = .ok (.aload_n 0, 1) := by decide +kernel
theorem dX3_freshen_1 : decode cX3_freshen 1 = .ok (.astore_n 1, 1) := by decide +kernel
theorem dX3_freshen_2 : decode cX3_freshen 2 = .ok (.aload_n 1, 1) := by decide +kernel
theorem dX3_freshen_3 : decode cX3_freshen 3 = .ok (.ifnull 21, 3) := by decide +kernel
theorem dX3_freshen_6 : decode cX3_freshen 6 = .ok (.aload_n 1, 1) := by decide +kernel
theorem dX3_freshen_7 : decode cX3_freshen 7 = .ok (.iconst 1, 1) := by decide +kernel
theorem dX3_freshen_8 : decode cX3_freshen 8 = .ok (.putfield 44, 3) := by decide +kernel
theorem dX3_freshen_11 : decode cX3_freshen 11 = .ok (.aload_n 1, 1) := by decide +kernel
theorem dX3_freshen_12 : decode cX3_freshen 12 = .ok (.iconst 0, 1) := by decide +kernel
theorem dX3_freshen_13 : decode cX3_freshen 13 = .ok (.putfield 41, 3) := by decide +kernel
theorem dX3_freshen_16 : decode cX3_freshen 16 = .ok (.aload_n 1, 1) := by decide +kernel
theorem dX3_freshen_17 : decode cX3_freshen 17 = .ok (.getfield 47, 3) := by decide +kernel
theorem dX3_freshen_20 : decode cX3_freshen 20 = .ok (.astore_n 1, 1) := by decide +kernel
theorem dX3_freshen_21 : decode cX3_freshen 21 = .ok (.goto (-19), 3) := by decide +kernel
theorem dX3_freshen_24 : decode cX3_freshen 24 = .ok (.return_, 1) := by decide +kernel
set_option maxRecDepth 100000 in
set_option maxHeartbeats 4000000 in
theorem bX3_freshen_2 {l : Launch} {g : xG} (a0 : Nat) (r1 : Option Nat) {M : xM} {Q : Option Value → xM → Prop} (h : ((r1 = none → (Q none M)) ∧ (¬ r1 = none → (∃ a1, r1 = some a1 ∧ xat M a1 1 ∧ xWp l g mX3_freshen 0 0 2 [(1, va_rf (some a0)), (1, va_rf (xR (xsI (xsI M a1 8 1) a1 7 0) a1 9))] [] (0, 0) (xsI (xsI M a1 8 1) a1 7 0) Q)))) : xWp l g mX3_freshen 0 0 2 [(1, va_rf (some a0)), (1, va_rf r1)] [] (0, 0) M Q := by
  refine xr_aload_n 1 dX3_freshen_2 rfl rfl ?_
  obtain ⟨ht, hf⟩ := h
  refine xr_ifnull 24 dX3_freshen_3 (by decide) (fun c4 => ?_) (fun c4 => ?_)
  · replace h := ht c4
    clear ht hf
    exact xr_ret (by decide) (xRv rfl dX3_freshen_24) h
  · replace h := hf c4
    clear ht hf
    refine xr_aload_n 1 dX3_freshen_6 rfl rfl ?_
    refine xr_iconst 1 dX3_freshen_7 (by decide) ?_
    obtain ⟨a1, e2, h⟩ := h
    obtain ⟨t3, h⟩ := h
    refine yr_putZ dX3_freshen_8 fp_RX3_44 e2 t3 (by decide) ?_
    refine xr_aload_n 1 dX3_freshen_11 rfl rfl ?_
    refine xr_iconst 0 dX3_freshen_12 (by decide) ?_
    refine yr_putI dX3_freshen_13 fp_RX3_41 e2 t3 ?_
    refine xr_aload_n 1 dX3_freshen_16 rfl rfl ?_
    refine yr_getR dX3_freshen_17 fl_RX3_47 e2 t3 ?_
    refine zastore_n 1 dX3_freshen_20 rfl (L1 := [(1, va_rf (some a0)), (1, va_rf (xR (xsI (xsI M a1 8 1) a1 7 0) a1 9))]) (by decide) rfl ?_
    refine xr_goto 2 dX3_freshen_21 (by decide) ?_
    exact h
set_option maxRecDepth 100000 in
set_option maxHeartbeats 4000000 in
theorem bX3_freshen_0 {l : Launch} {g : xG} (a0 : Nat) {M : xM} {Q : Option Value → xM → Prop} (h : xWp l g mX3_freshen 0 0 2 [(1, va_rf (some a0)), (1, va_rf (some a0))] [] (0, 0) M Q) : xWp l g mX3_freshen 0 0 0 [(1, va_rf (some a0)), (0, .null)] [] (0, 0) M Q := by
  refine xr_aload_n 0 dX3_freshen_0 rfl rfl ?_
  refine zastore_n 1 dX3_freshen_1 rfl (L1 := [(1, va_rf (some a0)), (1, va_rf (some a0))]) (by decide) rfl ?_
  exact h
theorem dX3_following_0 : decode cX3_following 0 = .ok (.aload_n 0, 1) := by decide +kernel
theorem dX3_following_1 : decode cX3_following 1 = .ok (.getfield 51, 3) := by decide +kernel
theorem dX3_following_4 : decode cX3_following 4 = .ok (.ifnull 10, 3) := by decide +kernel
theorem dX3_following_7 : decode cX3_following 7 = .ok (.aload_n 0, 1) := by decide +kernel
theorem dX3_following_8 : decode cX3_following 8 = .ok (.getfield 51, 3) := by decide +kernel
theorem dX3_following_11 : decode cX3_following 11 = .ok (.goto 7, 3) := by decide +kernel
theorem dX3_following_14 : decode cX3_following 14 = .ok (.aload_n 0, 1) := by decide +kernel
theorem dX3_following_15 : decode cX3_following 15 = .ok (.invokevirtual 96, 3) := by decide +kernel
theorem dX3_following_18 : decode cX3_following 18 = .ok (.areturn, 1) := by decide +kernel
set_option maxRecDepth 100000 in
set_option maxHeartbeats 4000000 in
theorem bX3_following_0 {l : Launch} {g : xG} (a0 : Nat) {M : xM} {Q : Option Value → xM → Prop} (h : (xat M a0 1 ∧ (((xR M a0 10) = none → (xSp l g mX3_behind 0 0 [va_rf (some a0)] M (fun ρ4 M3 => ∃ v2 : Option Nat, ρ4 = some (va_rf v2) ∧ (Q (some (va_rf v2)) M3)))) ∧ (¬ (xR M a0 10) = none → (Q (some (va_rf (xR M a0 10))) M))))) : xWp l g mX3_following 0 0 0 [(1, va_rf (some a0))] [] (0, 0) M Q := by
  refine xr_aload_n 0 dX3_following_0 rfl rfl ?_
  obtain ⟨t1, h⟩ := h
  refine yr_getR dX3_following_1 fl_RX3_51 rfl t1 ?_
  obtain ⟨ht, hf⟩ := h
  refine xr_ifnull 14 dX3_following_4 (by decide) (fun c6 => ?_) (fun c6 => ?_)
  · replace h := ht c6
    clear ht hf
    refine xr_aload_n 0 dX3_following_14 rfl rfl ?_
    refine yr_callV (r := (some a0)) [] dX3_following_15 cv_X3_following_96 rfl t1 rfl (Nat.le_trans wt_0 (by decide)) (by decide) (xSp.mono h ?_)
    clear h
    intro ρ4 M3 h
    obtain ⟨v2, rfl, h⟩ := h
    exact xr_retv (by decide) (xRa rfl dX3_following_18) h
  · replace h := hf c6
    clear ht hf
    refine xr_aload_n 0 dX3_following_7 rfl rfl ?_
    refine yr_getR dX3_following_8 fl_RX3_51 rfl t1 ?_
    refine xr_goto 18 dX3_following_11 (by decide) ?_
    exact xr_retv (by decide) (xRa rfl dX3_following_18) h
theorem dX3_behind_0 : decode cX3_behind 0 = .ok (.aload_n 0, 1) := by decide +kernel
theorem dX3_behind_1 : decode cX3_behind 1 = .ok (.astore_n 1, 1) := by decide +kernel
theorem dX3_behind_2 : decode cX3_behind 2 = .ok (.aload_n 1, 1) := by decide +kernel
theorem dX3_behind_3 : decode cX3_behind 3 = .ok (.ifnull 23, 3) := by decide +kernel
theorem dX3_behind_6 : decode cX3_behind 6 = .ok (.aload_n 1, 1) := by decide +kernel
theorem dX3_behind_7 : decode cX3_behind 7 = .ok (.getfield 54, 3) := by decide +kernel
theorem dX3_behind_10 : decode cX3_behind 10 = .ok (.ifnull 8, 3) := by decide +kernel
theorem dX3_behind_13 : decode cX3_behind 13 = .ok (.aload_n 1, 1) := by decide +kernel
theorem dX3_behind_14 : decode cX3_behind 14 = .ok (.getfield 54, 3) := by decide +kernel
theorem dX3_behind_17 : decode cX3_behind 17 = .ok (.areturn, 1) := by decide +kernel
theorem dX3_behind_18 : decode cX3_behind 18 = .ok (.aload_n 1, 1) := by decide +kernel
theorem dX3_behind_19 : decode cX3_behind 19 = .ok (.getfield 47, 3) := by decide +kernel
theorem dX3_behind_22 : decode cX3_behind 22 = .ok (.astore_n 1, 1) := by decide +kernel
theorem dX3_behind_23 : decode cX3_behind 23 = .ok (.goto (-21), 3) := by decide +kernel
theorem dX3_behind_26 : decode cX3_behind 26 = .ok (.aconst_null, 1) := by decide +kernel
theorem dX3_behind_27 : decode cX3_behind 27 = .ok (.areturn, 1) := by decide +kernel
set_option maxRecDepth 100000 in
set_option maxHeartbeats 4000000 in
theorem bX3_behind_2 {l : Launch} {g : xG} (a0 : Nat) (r1 : Option Nat) {M : xM} {Q : Option Value → xM → Prop} (h : ((r1 = none → (Q (some (va_rf none)) M)) ∧ (¬ r1 = none → (∃ a1, r1 = some a1 ∧ xat M a1 1 ∧ (((xR M a1 11) = none → xWp l g mX3_behind 0 0 2 [(1, va_rf (some a0)), (1, va_rf (xR M a1 9))] [] (0, 0) M Q) ∧ (¬ (xR M a1 11) = none → (Q (some (va_rf (xR M a1 11))) M))))))) : xWp l g mX3_behind 0 0 2 [(1, va_rf (some a0)), (1, va_rf r1)] [] (0, 0) M Q := by
  refine xr_aload_n 1 dX3_behind_2 rfl rfl ?_
  obtain ⟨ht, hf⟩ := h
  refine xr_ifnull 26 dX3_behind_3 (by decide) (fun c5 => ?_) (fun c5 => ?_)
  · replace h := ht c5
    clear ht hf
    refine xr_null dX3_behind_26 ?_
    exact xr_retv (by decide) (xRa rfl dX3_behind_27) h
  · replace h := hf c5
    clear ht hf
    refine xr_aload_n 1 dX3_behind_6 rfl rfl ?_
    obtain ⟨a1, e2, h⟩ := h
    obtain ⟨t3, h⟩ := h
    refine yr_getR dX3_behind_7 fl_RX3_54 e2 t3 ?_
    obtain ⟨ht, hf⟩ := h
    refine xr_ifnull 18 dX3_behind_10 (by decide) (fun c4 => ?_) (fun c4 => ?_)
    · replace h := ht c4
      clear ht hf
      refine xr_aload_n 1 dX3_behind_18 rfl rfl ?_
      refine yr_getR dX3_behind_19 fl_RX3_47 e2 t3 ?_
      refine zastore_n 1 dX3_behind_22 rfl (L1 := [(1, va_rf (some a0)), (1, va_rf (xR M a1 9))]) (by decide) rfl ?_
      refine xr_goto 2 dX3_behind_23 (by decide) ?_
      exact h
    · replace h := hf c4
      clear ht hf
      refine xr_aload_n 1 dX3_behind_13 rfl rfl ?_
      refine yr_getR dX3_behind_14 fl_RX3_54 e2 t3 ?_
      exact xr_retv (by decide) (xRa rfl dX3_behind_17) h
set_option maxRecDepth 100000 in
set_option maxHeartbeats 4000000 in
theorem bX3_behind_0 {l : Launch} {g : xG} (a0 : Nat) {M : xM} {Q : Option Value → xM → Prop} (h : xWp l g mX3_behind 0 0 2 [(1, va_rf (some a0)), (1, va_rf (some a0))] [] (0, 0) M Q) : xWp l g mX3_behind 0 0 0 [(1, va_rf (some a0)), (0, .null)] [] (0, 0) M Q := by
  refine xr_aload_n 0 dX3_behind_0 rfl rfl ?_
  refine zastore_n 1 dX3_behind_1 rfl (L1 := [(1, va_rf (some a0)), (1, va_rf (some a0))]) (by decide) rfl ?_
  exact h
theorem dX3_lowest_0 : decode cX3_lowest 0 = .ok (.aload_n 0, 1) := by decide +kernel
theorem dX3_lowest_1 : decode cX3_lowest 1 = .ok (.astore_n 1, 1) := by decide +kernel
theorem dX3_lowest_2 : decode cX3_lowest 2 = .ok (.aload_n 0, 1) := by decide +kernel
theorem dX3_lowest_3 : decode cX3_lowest 3 = .ok (.getfield 51, 3) := by decide +kernel
theorem dX3_lowest_6 : decode cX3_lowest 6 = .ok (.astore_n 2, 1) := by decide +kernel
theorem dX3_lowest_7 : decode cX3_lowest 7 = .ok (.aload_n 2, 1) := by decide +kernel
theorem dX3_lowest_8 : decode cX3_lowest 8 = .ok (.ifnull 13, 3) := by decide +kernel
theorem dX3_lowest_11 : decode cX3_lowest 11 = .ok (.aload_n 2, 1) := by decide +kernel
theorem dX3_lowest_12 : decode cX3_lowest 12 = .ok (.astore_n 1, 1) := by decide +kernel
theorem dX3_lowest_13 : decode cX3_lowest 13 = .ok (.aload_n 2, 1) := by decide +kernel
theorem dX3_lowest_14 : decode cX3_lowest 14 = .ok (.getfield 51, 3) := by decide +kernel
theorem dX3_lowest_17 : decode cX3_lowest 17 = .ok (.astore_n 2, 1) := by decide +kernel
theorem dX3_lowest_18 : decode cX3_lowest 18 = .ok (.goto (-11), 3) := by decide +kernel
theorem dX3_lowest_21 : decode cX3_lowest 21 = .ok (.aload_n 1, 1) := by decide +kernel
theorem dX3_lowest_22 : decode cX3_lowest 22 = .ok (.areturn, 1) := by decide +kernel
set_option maxRecDepth 100000 in
set_option maxHeartbeats 4000000 in
theorem bX3_lowest_7 {l : Launch} {g : xG} (a0 : Nat) (r1 : Option Nat) (r2 : Option Nat) {M : xM} {Q : Option Value → xM → Prop} (h : ((r2 = none → (Q (some (va_rf r1)) M)) ∧ (¬ r2 = none → (∃ a1, r2 = some a1 ∧ xat M a1 1 ∧ xWp l g mX3_lowest 0 0 7 [(1, va_rf (some a0)), (1, va_rf r2), (1, va_rf (xR M a1 10))] [] (0, 0) M Q)))) : xWp l g mX3_lowest 0 0 7 [(1, va_rf (some a0)), (1, va_rf r1), (1, va_rf r2)] [] (0, 0) M Q := by
  refine xr_aload_n 2 dX3_lowest_7 rfl rfl ?_
  obtain ⟨ht, hf⟩ := h
  refine xr_ifnull 21 dX3_lowest_8 (by decide) (fun c4 => ?_) (fun c4 => ?_)
  · replace h := ht c4
    clear ht hf
    refine xr_aload_n 1 dX3_lowest_21 rfl rfl ?_
    exact xr_retv (by decide) (xRa rfl dX3_lowest_22) h
  · replace h := hf c4
    clear ht hf
    refine xr_aload_n 2 dX3_lowest_11 rfl rfl ?_
    refine zastore_n 1 dX3_lowest_12 rfl (L1 := [(1, va_rf (some a0)), (1, va_rf r2), (1, va_rf r2)]) (by decide) rfl ?_
    refine xr_aload_n 2 dX3_lowest_13 rfl rfl ?_
    obtain ⟨a1, e2, h⟩ := h
    obtain ⟨t3, h⟩ := h
    refine yr_getR dX3_lowest_14 fl_RX3_51 e2 t3 ?_
    refine zastore_n 2 dX3_lowest_17 rfl (L1 := [(1, va_rf (some a0)), (1, va_rf r2), (1, va_rf (xR M a1 10))]) (by decide) rfl ?_
    refine xr_goto 7 dX3_lowest_18 (by decide) ?_
    exact h
set_option maxRecDepth 100000 in
set_option maxHeartbeats 4000000 in
theorem bX3_lowest_0 {l : Launch} {g : xG} (a0 : Nat) {M : xM} {Q : Option Value → xM → Prop} (h : (xat M a0 1 ∧ xWp l g mX3_lowest 0 0 7 [(1, va_rf (some a0)), (1, va_rf (some a0)), (1, va_rf (xR M a0 10))] [] (0, 0) M Q)) : xWp l g mX3_lowest 0 0 0 [(1, va_rf (some a0)), (0, .null), (0, .null)] [] (0, 0) M Q := by
  refine xr_aload_n 0 dX3_lowest_0 rfl rfl ?_
  refine zastore_n 1 dX3_lowest_1 rfl (L1 := [(1, va_rf (some a0)), (1, va_rf (some a0)), (0, .null)]) (by decide) rfl ?_
  refine xr_aload_n 0 dX3_lowest_2 rfl rfl ?_
  obtain ⟨t1, h⟩ := h
  refine yr_getR dX3_lowest_3 fl_RX3_51 rfl t1 ?_
  refine zastore_n 2 dX3_lowest_6 rfl (L1 := [(1, va_rf (some a0)), (1, va_rf (some a0)), (1, va_rf (xR M a0 10))]) (by decide) rfl ?_
  exact h
theorem dX3_above_0 : decode cX3_above 0 = .ok (.aload_n 0, 1) := by decide +kernel
theorem dX3_above_1 : decode cX3_above 1 = .ok (.getfield 54, 3) := by decide +kernel
theorem dX3_above_4 : decode cX3_above 4 = .ok (.ifnull 13, 3) := by decide +kernel
theorem dX3_above_7 : decode cX3_above 7 = .ok (.aload_n 0, 1) := by decide +kernel
theorem dX3_above_8 : decode cX3_above 8 = .ok (.getfield 54, 3) := by decide +kernel
theorem dX3_above_11 : decode cX3_above 11 = .ok (.invokevirtual 100, 3) := by decide +kernel
theorem dX3_above_14 : decode cX3_above 14 = .ok (.goto 7, 3) := by decide +kernel
theorem dX3_above_17 : decode cX3_above 17 = .ok (.aload_n 0, 1) := by decide +kernel
theorem dX3_above_18 : decode cX3_above 18 = .ok (.getfield 47, 3) := by decide +kernel
theorem dX3_above_21 : decode cX3_above 21 = .ok (.areturn, 1) := by decide +kernel
set_option maxRecDepth 100000 in
set_option maxHeartbeats 4000000 in
theorem bX3_above_0 {l : Launch} {g : xG} (a0 : Nat) {M : xM} {Q : Option Value → xM → Prop} (h : (xat M a0 1 ∧ (((xR M a0 11) = none → (Q (some (va_rf (xR M a0 9))) M)) ∧ (¬ (xR M a0 11) = none → (∃ a6, (xR M a0 11) = some a6 ∧ xat M a6 1 ∧ xSp l g mX3_lowest 0 0 [va_rf (xR M a0 11)] M (fun ρ4 M3 => ∃ v2 : Option Nat, ρ4 = some (va_rf v2) ∧ (Q (some (va_rf v2)) M3))))))) : xWp l g mX3_above 0 0 0 [(1, va_rf (some a0))] [] (0, 0) M Q := by
  refine xr_aload_n 0 dX3_above_0 rfl rfl ?_
  obtain ⟨t1, h⟩ := h
  refine yr_getR dX3_above_1 fl_RX3_54 rfl t1 ?_
  obtain ⟨ht, hf⟩ := h
  refine xr_ifnull 17 dX3_above_4 (by decide) (fun c9 => ?_) (fun c9 => ?_)
  · replace h := ht c9
    clear ht hf
    refine xr_aload_n 0 dX3_above_17 rfl rfl ?_
    refine yr_getR dX3_above_18 fl_RX3_47 rfl t1 ?_
    exact xr_retv (by decide) (xRa rfl dX3_above_21) h
  · replace h := hf c9
    clear ht hf
    refine xr_aload_n 0 dX3_above_7 rfl rfl ?_
    refine yr_getR dX3_above_8 fl_RX3_54 rfl t1 ?_
    obtain ⟨a6, e7, h⟩ := h
    obtain ⟨t8, h⟩ := h
    refine yr_callV (r := (xR M a0 11)) [] dX3_above_11 cv_X3_above_100 e7 t8 rfl (Nat.le_trans wt_0 (by decide)) (by decide) (xSp.mono h ?_)
    clear h
    intro ρ4 M3 h
    obtain ⟨v2, rfl, h⟩ := h
    refine xr_goto 21 dX3_above_14 (by decide) ?_
    exact xr_retv (by decide) (xRa rfl dX3_above_21) h
theorem dX3_lead_0 : decode cX3_lead 0 = .ok (.iconst 0, 1) := by decide +kernel
theorem dX3_lead_1 : decode cX3_lead 1 = .ok (.istore_n 1, 1) := by decide +kernel
theorem dX3_lead_2 : decode cX3_lead 2 = .ok (.aload_n 0, 1) := by decide +kernel
theorem dX3_lead_3 : decode cX3_lead 3 = .ok (.getfield 47, 3) := by decide +kernel
theorem dX3_lead_6 : decode cX3_lead 6 = .ok (.astore_n 2, 1) := by decide +kernel
theorem dX3_lead_7 : decode cX3_lead 7 = .ok (.aload_n 2, 1) := by decide +kernel
theorem dX3_lead_8 : decode cX3_lead 8 = .ok (.ifnull 20, 3) := by decide +kernel
theorem dX3_lead_11 : decode cX3_lead 11 = .ok (.iload_n 1, 1) := by decide +kernel
theorem dX3_lead_12 : decode cX3_lead 12 = .ok (.aload_n 2, 1) := by decide +kernel
theorem dX3_lead_13 : decode cX3_lead 13 = .ok (.getfield 18, 3) := by decide +kernel
theorem dX3_lead_16 : decode cX3_lead 16 = .ok (.iconst 1, 1) := by decide +kernel
theorem dX3_lead_17 : decode cX3_lead 17 = .ok (.iadd, 1) := by decide +kernel
theorem dX3_lead_18 : decode cX3_lead 18 = .ok (.iadd, 1) := by decide +kernel
theorem dX3_lead_19 : decode cX3_lead 19 = .ok (.istore_n 1, 1) := by decide +kernel
theorem dX3_lead_20 : decode cX3_lead 20 = .ok (.aload_n 2, 1) := by decide +kernel
theorem dX3_lead_21 : decode cX3_lead 21 = .ok (.getfield 47, 3) := by decide +kernel
theorem dX3_lead_24 : decode cX3_lead 24 = .ok (.astore_n 2, 1) := by decide +kernel
theorem dX3_lead_25 : decode cX3_lead 25 = .ok (.goto (-18), 3) := by decide +kernel
theorem dX3_lead_28 : decode cX3_lead 28 = .ok (.iload_n 1, 1) := by decide +kernel
theorem dX3_lead_29 : decode cX3_lead 29 = .ok (.ireturn, 1) := by decide +kernel
set_option maxRecDepth 100000 in
set_option maxHeartbeats 4000000 in
theorem bX3_lead_7 {l : Launch} {g : xG} (a0 : Nat) (x1 : Int32) (r2 : Option Nat) {M : xM} {Q : Option Value → xM → Prop} (h : ((r2 = none → (Q (some (.int x1)) M)) ∧ (¬ r2 = none → (∃ a1, r2 = some a1 ∧ xat M a1 1 ∧ xWp l g mX3_lead 0 0 7 [(1, va_rf (some a0)), (1, .int (x1 + ((xI M a1 1) + 1))), (1, va_rf (xR M a1 9))] [] (0, 0) M Q)))) : xWp l g mX3_lead 0 0 7 [(1, va_rf (some a0)), (1, .int x1), (1, va_rf r2)] [] (0, 0) M Q := by
  refine xr_aload_n 2 dX3_lead_7 rfl rfl ?_
  obtain ⟨ht, hf⟩ := h
  refine xr_ifnull 28 dX3_lead_8 (by decide) (fun c4 => ?_) (fun c4 => ?_)
  · replace h := ht c4
    clear ht hf
    refine xr_iload_n 1 dX3_lead_28 rfl rfl ?_
    exact xr_retv (by decide) (xRi rfl rfl dX3_lead_29) h
  · replace h := hf c4
    clear ht hf
    refine xr_iload_n 1 dX3_lead_11 rfl rfl ?_
    refine xr_aload_n 2 dX3_lead_12 rfl rfl ?_
    obtain ⟨a1, e2, h⟩ := h
    obtain ⟨t3, h⟩ := h
    refine yr_getI dX3_lead_13 fl_RX3_18 e2 t3 ?_
    refine xr_iconst 1 dX3_lead_16 (by decide) ?_
    refine xr_iadd dX3_lead_17 ?_
    refine xr_iadd dX3_lead_18 ?_
    refine zistore_n 1 dX3_lead_19 rfl (L1 := [(1, va_rf (some a0)), (1, .int (x1 + ((xI M a1 1) + 1))), (1, va_rf r2)]) (by decide) rfl ?_
    refine xr_aload_n 2 dX3_lead_20 rfl rfl ?_
    refine yr_getR dX3_lead_21 fl_RX3_47 e2 t3 ?_
    refine zastore_n 2 dX3_lead_24 rfl (L1 := [(1, va_rf (some a0)), (1, .int (x1 + ((xI M a1 1) + 1))), (1, va_rf (xR M a1 9))]) (by decide) rfl ?_
    refine xr_goto 7 dX3_lead_25 (by decide) ?_
    exact h
set_option maxRecDepth 100000 in
set_option maxHeartbeats 4000000 in
theorem bX3_lead_0 {l : Launch} {g : xG} (a0 : Nat) {M : xM} {Q : Option Value → xM → Prop} (h : (xat M a0 1 ∧ xWp l g mX3_lead 0 0 7 [(1, va_rf (some a0)), (1, .int 0), (1, va_rf (xR M a0 9))] [] (0, 0) M Q)) : xWp l g mX3_lead 0 0 0 [(1, va_rf (some a0)), (0, .null), (0, .null)] [] (0, 0) M Q := by
  refine xr_iconst 0 dX3_lead_0 (by decide) ?_
  refine zistore_n 1 dX3_lead_1 rfl (L1 := [(1, va_rf (some a0)), (1, .int 0), (0, .null)]) (by decide) rfl ?_
  refine xr_aload_n 0 dX3_lead_2 rfl rfl ?_
  obtain ⟨t1, h⟩ := h
  refine yr_getR dX3_lead_3 fl_RX3_47 rfl t1 ?_
  refine zastore_n 2 dX3_lead_6 rfl (L1 := [(1, va_rf (some a0)), (1, .int 0), (1, va_rf (xR M a0 9))]) (by decide) rfl ?_
  exact h
theorem dX3_level_0 : decode cX3_level 0 = .ok (.iconst 0, 1) := by decide +kernel
theorem dX3_level_1 : decode cX3_level 1 = .ok (.istore_n 1, 1) := by decide +kernel
theorem dX3_level_2 : decode cX3_level 2 = .ok (.aload_n 0, 1) := by decide +kernel
theorem dX3_level_3 : decode cX3_level 3 = .ok (.astore_n 2, 1) := by decide +kernel
theorem dX3_level_4 : decode cX3_level 4 = .ok (.aload_n 2, 1) := by decide +kernel
theorem dX3_level_5 : decode cX3_level 5 = .ok (.ifnull 14, 3) := by decide +kernel
theorem dX3_level_8 : decode cX3_level 8 = .ok (.iinc 1 1, 3) := by decide +kernel
theorem dX3_level_11 : decode cX3_level 11 = .ok (.aload_n 2, 1) := by decide +kernel
theorem dX3_level_12 : decode cX3_level 12 = .ok (.getfield 47, 3) := by decide +kernel
theorem dX3_level_15 : decode cX3_level 15 = .ok (.astore_n 2, 1) := by decide +kernel
theorem dX3_level_16 : decode cX3_level 16 = .ok (.goto (-12), 3) := by decide +kernel
theorem dX3_level_19 : decode cX3_level 19 = .ok (.iload_n 1, 1) := by decide +kernel
theorem dX3_level_20 : decode cX3_level 20 = .ok (.ireturn, 1) := by decide +kernel
set_option maxRecDepth 100000 in
set_option maxHeartbeats 4000000 in
theorem bX3_level_4 {l : Launch} {g : xG} (a0 : Nat) (x1 : Int32) (r2 : Option Nat) {M : xM} {Q : Option Value → xM → Prop} (h : ((r2 = none → (Q (some (.int x1)) M)) ∧ (¬ r2 = none → (∃ a1, r2 = some a1 ∧ xat M a1 1 ∧ xWp l g mX3_level 0 0 4 [(1, va_rf (some a0)), (1, .int (x1 + 1)), (1, va_rf (xR M a1 9))] [] (0, 0) M Q)))) : xWp l g mX3_level 0 0 4 [(1, va_rf (some a0)), (1, .int x1), (1, va_rf r2)] [] (0, 0) M Q := by
  refine xr_aload_n 2 dX3_level_4 rfl rfl ?_
  obtain ⟨ht, hf⟩ := h
  refine xr_ifnull 19 dX3_level_5 (by decide) (fun c4 => ?_) (fun c4 => ?_)
  · replace h := ht c4
    clear ht hf
    refine xr_iload_n 1 dX3_level_19 rfl rfl ?_
    exact xr_retv (by decide) (xRi rfl rfl dX3_level_20) h
  · replace h := hf c4
    clear ht hf
    refine ziinc (x1 + 1) dX3_level_8 rfl rfl (L1 := [(1, va_rf (some a0)), (1, .int (x1 + 1)), (1, va_rf r2)]) (by decide) rfl ?_
    refine xr_aload_n 2 dX3_level_11 rfl rfl ?_
    obtain ⟨a1, e2, h⟩ := h
    obtain ⟨t3, h⟩ := h
    refine yr_getR dX3_level_12 fl_RX3_47 e2 t3 ?_
    refine zastore_n 2 dX3_level_15 rfl (L1 := [(1, va_rf (some a0)), (1, .int (x1 + 1)), (1, va_rf (xR M a1 9))]) (by decide) rfl ?_
    refine xr_goto 4 dX3_level_16 (by decide) ?_
    exact h
set_option maxRecDepth 100000 in
set_option maxHeartbeats 4000000 in
theorem bX3_level_0 {l : Launch} {g : xG} (a0 : Nat) {M : xM} {Q : Option Value → xM → Prop} (h : xWp l g mX3_level 0 0 4 [(1, va_rf (some a0)), (1, .int 0), (1, va_rf (some a0))] [] (0, 0) M Q) : xWp l g mX3_level 0 0 0 [(1, va_rf (some a0)), (0, .null), (0, .null)] [] (0, 0) M Q := by
  refine xr_iconst 0 dX3_level_0 (by decide) ?_
  refine zistore_n 1 dX3_level_1 rfl (L1 := [(1, va_rf (some a0)), (1, .int 0), (0, .null)]) (by decide) rfl ?_
  refine xr_aload_n 0 dX3_level_2 rfl rfl ?_
  refine zastore_n 2 dX3_level_3 rfl (L1 := [(1, va_rf (some a0)), (1, .int 0), (1, va_rf (some a0))]) (by decide) rfl ?_
  exact h
theorem dX3_spell_0 : decode cX3_spell 0 = .ok (.aload_n 1, 1) := by decide +kernel
theorem dX3_spell_1 : decode cX3_spell 1 = .ok (.aload_n 0, 1) := by decide +kernel
theorem dX3_spell_2 : decode cX3_spell 2 = .ok (.invokevirtual 103, 3) := by decide +kernel
theorem dX3_spell_5 : decode cX3_spell 5 = .ok (.aload_n 0, 1) := by decide +kernel
theorem dX3_spell_6 : decode cX3_spell 6 = .ok (.getfield 18, 3) := by decide +kernel
theorem dX3_spell_9 : decode cX3_spell 9 = .ok (.iadd, 1) := by decide +kernel
theorem dX3_spell_10 : decode cX3_spell 10 = .ok (.putfield 107, 3) := by decide +kernel
theorem dX3_spell_13 : decode cX3_spell 13 = .ok (.aload_n 0, 1) := by decide +kernel
theorem dX3_spell_14 : decode cX3_spell 14 = .ok (.astore_n 2, 1) := by decide +kernel
theorem dX3_spell_15 : decode cX3_spell 15 = .ok (.aload_n 2, 1) := by decide +kernel
theorem dX3_spell_16 : decode cX3_spell 16 = .ok (.ifnull 66, 3) := by decide +kernel
theorem dX3_spell_19 : decode cX3_spell 19 = .ok (.aload_n 2, 1) := by decide +kernel
theorem dX3_spell_20 : decode cX3_spell 20 = .ok (.invokevirtual 103, 3) := by decide +kernel
theorem dX3_spell_23 : decode cX3_spell 23 = .ok (.istore_n 3, 1) := by decide +kernel
theorem dX3_spell_24 : decode cX3_spell 24 = .ok (.iconst 0, 1) := by decide +kernel
theorem dX3_spell_25 : decode cX3_spell 25 = .ok (.istore 4, 2) := by decide +kernel
theorem dX3_spell_27 : decode cX3_spell 27 = .ok (.iload 4, 2) := by decide +kernel
theorem dX3_spell_29 : decode cX3_spell 29 = .ok (.aload_n 2, 1) := by decide +kernel
theorem dX3_spell_30 : decode cX3_spell 30 = .ok (.getfield 18, 3) := by decide +kernel
theorem dX3_spell_33 : decode cX3_spell 33 = .ok (.if_icmp .ge 23, 3) := by decide +kernel
theorem dX3_spell_36 : decode cX3_spell 36 = .ok (.aload_n 1, 1) := by decide +kernel
theorem dX3_spell_37 : decode cX3_spell 37 = .ok (.iload_n 3, 1) := by decide +kernel
theorem dX3_spell_38 : decode cX3_spell 38 = .ok (.iload 4, 2) := by decide +kernel
theorem dX3_spell_40 : decode cX3_spell 40 = .ok (.iadd, 1) := by decide +kernel
theorem dX3_spell_41 : decode cX3_spell 41 = .ok (.aload_n 2, 1) := by decide +kernel
theorem dX3_spell_42 : decode cX3_spell 42 = .ok (.iload 4, 2) := by decide +kernel
theorem dX3_spell_44 : decode cX3_spell 44 = .ok (.invokevirtual 67, 3) := by decide +kernel
theorem dX3_spell_47 : decode cX3_spell 47 = .ok (.invokevirtual 110, 3) := by decide +kernel
theorem dX3_spell_50 : decode cX3_spell 50 = .ok (.iinc 4 1, 3) := by decide +kernel
theorem dX3_spell_53 : decode cX3_spell 53 = .ok (.goto (-26), 3) := by decide +kernel
theorem dX3_spell_56 : decode cX3_spell 56 = .ok (.aload_n 2, 1) := by decide +kernel
theorem dX3_spell_57 : decode cX3_spell 57 = .ok (.getfield 47, 3) := by decide +kernel
theorem dX3_spell_60 : decode cX3_spell 60 = .ok (.ifnull 14, 3) := by decide +kernel
theorem dX3_spell_63 : decode cX3_spell 63 = .ok (.aload_n 1, 1) := by decide +kernel
theorem dX3_spell_64 : decode cX3_spell 64 = .ok (.iload_n 3, 1) := by decide +kernel
theorem dX3_spell_65 : decode cX3_spell 65 = .ok (.iconst 1, 1) := by decide +kernel
theorem dX3_spell_66 : decode cX3_spell 66 = .ok (.isub, 1) := by decide +kernel
theorem dX3_spell_67 : decode cX3_spell 67 = .ok (.aload_n 2, 1) := by decide +kernel
theorem dX3_spell_68 : decode cX3_spell 68 = .ok (.getfield 38, 3) := by decide +kernel
theorem dX3_spell_71 : decode cX3_spell 71 = .ok (.invokevirtual 110, 3) := by decide +kernel
theorem dX3_spell_74 : decode cX3_spell 74 = .ok (.aload_n 2, 1) := by decide +kernel
theorem dX3_spell_75 : decode cX3_spell 75 = .ok (.getfield 47, 3) := by decide +kernel
theorem dX3_spell_78 : decode cX3_spell 78 = .ok (.astore_n 2, 1) := by decide +kernel
theorem dX3_spell_79 : decode cX3_spell 79 = .ok (.goto (-64), 3) := by decide +kernel
theorem dX3_spell_82 : decode cX3_spell 82 = .ok (.return_, 1) := by decide +kernel
set_option maxRecDepth 100000 in
set_option maxHeartbeats 4000000 in
theorem bX3_spell_27 {l : Launch} {g : xG} (a0 : Nat) (r1 : Option Nat) (r2 : Option Nat) (x3 : Int32) (x4 : Int32) {M : xM} {Q : Option Value → xM → Prop} (h : (∃ a1, r2 = some a1 ∧ xat M a1 1 ∧ (((xI M a1 1) ≤ x4 → (((xR M a1 9) = none → xWp l g mX3_spell 0 0 15 [(1, va_rf (some a0)), (1, va_rf r1), (1, va_rf (xR M a1 9)), (1, .int x3), (1, .int x4)] [] (0, 0) M Q) ∧ (¬ (xR M a1 9) = none → (∃ a8, r1 = some a8 ∧ xat M a8 4 ∧ xSp l g mX7_setByte 0 0 [va_rf r1, .int (x3 - 1), .int (xI M a1 6)] M (fun ρ6 M5 => ρ6 = none ∧ (xat M5 a1 1 ∧ xWp l g mX3_spell 0 0 15 [(1, va_rf (some a0)), (1, va_rf r1), (1, va_rf (xR M5 a1 9)), (1, .int x3), (1, .int x4)] [] (0, 0) M5 Q)))))) ∧ (¬ (xI M a1 1) ≤ x4 → (xSp l g mX3_prefixAt 0 0 [va_rf r2, .int x4] M (fun ρ15 M14 => ∃ v13 : Int32, ρ15 = some (.int v13) ∧ (∃ a21, r1 = some a21 ∧ xat M14 a21 4 ∧ xSp l g mX7_setByte 0 0 [va_rf r1, .int (x3 + x4), .int v13] M14 (fun ρ19 M18 => ρ19 = none ∧ xWp l g mX3_spell 0 0 27 [(1, va_rf (some a0)), (1, va_rf r1), (1, va_rf r2), (1, .int x3), (1, .int (x4 + 1))] [] (0, 0) M18 Q)))))))) : xWp l g mX3_spell 0 0 27 [(1, va_rf (some a0)), (1, va_rf r1), (1, va_rf r2), (1, .int x3), (1, .int x4)] [] (0, 0) M Q := by
  refine xr_iload dX3_spell_27 rfl ?_
  refine xr_aload_n 2 dX3_spell_29 rfl rfl ?_
  obtain ⟨a1, e2, h⟩ := h
  obtain ⟨t3, h⟩ := h
  refine yr_getI dX3_spell_30 fl_RX3_18 e2 t3 ?_
  obtain ⟨ht, hf⟩ := h
  refine xr_icmp_ge 56 dX3_spell_33 (by decide) (fun c24 => ?_) (fun c24 => ?_)
  · replace h := ht c24
    clear ht hf
    refine xr_aload_n 2 dX3_spell_56 rfl rfl ?_
    refine yr_getR dX3_spell_57 fl_RX3_47 e2 t3 ?_
    obtain ⟨ht, hf⟩ := h
    refine xr_ifnull 74 dX3_spell_60 (by decide) (fun c12 => ?_) (fun c12 => ?_)
    · replace h := ht c12
      clear ht hf
      refine xr_aload_n 2 dX3_spell_74 rfl rfl ?_
      refine yr_getR dX3_spell_75 fl_RX3_47 e2 t3 ?_
      refine zastore_n 2 dX3_spell_78 rfl (L1 := [(1, va_rf (some a0)), (1, va_rf r1), (1, va_rf (xR M a1 9)), (1, .int x3), (1, .int x4)]) (by decide) rfl ?_
      refine xr_goto 15 dX3_spell_79 (by decide) ?_
      exact h
    · replace h := hf c12
      clear ht hf
      refine xr_aload_n 1 dX3_spell_63 rfl rfl ?_
      refine xr_iload_n 3 dX3_spell_64 rfl rfl ?_
      refine xr_iconst 1 dX3_spell_65 (by decide) ?_
      refine xr_isub dX3_spell_66 ?_
      refine xr_aload_n 2 dX3_spell_67 rfl rfl ?_
      refine yr_getI dX3_spell_68 fl_RX3_38 e2 t3 ?_
      obtain ⟨a8, e9, h⟩ := h
      obtain ⟨t10, h⟩ := h
      refine yr_callV (r := r1) [.int (x3 - 1), .int (xI M a1 6)] dX3_spell_71 cv_X3_spell_110 e9 t10 rfl (Nat.le_trans wt_0 (by decide)) (by decide) (xSp.mono h ?_)
      clear h
      intro ρ6 M5 h
      obtain ⟨rfl, h⟩ := h
      refine xr_aload_n 2 dX3_spell_74 rfl rfl ?_
      obtain ⟨t11, h⟩ := h
      refine yr_getR dX3_spell_75 fl_RX3_47 e2 t11 ?_
      refine zastore_n 2 dX3_spell_78 rfl (L1 := [(1, va_rf (some a0)), (1, va_rf r1), (1, va_rf (xR M5 a1 9)), (1, .int x3), (1, .int x4)]) (by decide) rfl ?_
      refine xr_goto 15 dX3_spell_79 (by decide) ?_
      exact h
  · replace h := hf c24
    clear ht hf
    refine xr_aload_n 1 dX3_spell_36 rfl rfl ?_
    refine xr_iload_n 3 dX3_spell_37 rfl rfl ?_
    refine xr_iload dX3_spell_38 rfl ?_
    refine xr_iadd dX3_spell_40 ?_
    refine xr_aload_n 2 dX3_spell_41 rfl rfl ?_
    refine xr_iload dX3_spell_42 rfl ?_
    refine yr_callV (r := r2) [.int x4] dX3_spell_44 cv_X3_spell_67 e2 t3 rfl (Nat.le_trans (wt_i (wt_r wt_0)) (by decide)) (by decide) (xSp.mono h ?_)
    clear h
    intro ρ15 M14 h
    obtain ⟨v13, rfl, h⟩ := h
    obtain ⟨a21, e22, h⟩ := h
    obtain ⟨t23, h⟩ := h
    refine yr_callV (r := r1) [.int (x3 + x4), .int v13] dX3_spell_47 cv_X3_spell_110 e22 t23 rfl (Nat.le_trans wt_0 (by decide)) (by decide) (xSp.mono h ?_)
    clear h
    intro ρ19 M18 h
    obtain ⟨rfl, h⟩ := h
    refine ziinc (x4 + 1) dX3_spell_50 rfl rfl (L1 := [(1, va_rf (some a0)), (1, va_rf r1), (1, va_rf r2), (1, .int x3), (1, .int (x4 + 1))]) (by decide) rfl ?_
    refine xr_goto 27 dX3_spell_53 (by decide) ?_
    exact h
set_option maxRecDepth 100000 in
set_option maxHeartbeats 4000000 in
theorem bX3_spell_15 {l : Launch} {g : xG} (a0 : Nat) (r1 : Option Nat) (r2 : Option Nat) (w3 : Value) (w4 : Value) {M : xM} {Q : Option Value → xM → Prop} (h : ((r2 = none → (Q none M)) ∧ (¬ r2 = none → (∃ a5, r2 = some a5 ∧ xat M a5 1 ∧ xSp l g mX3_lead 0 0 [va_rf r2] M (fun ρ3 M2 => ∃ v1 : Int32, ρ3 = some (.int v1) ∧ xWp l g mX3_spell 0 0 27 [(1, va_rf (some a0)), (1, va_rf r1), (1, va_rf r2), (1, .int v1), (1, .int 0)] [] (0, 0) M2 Q))))) : xWp l g mX3_spell 0 0 15 [(1, va_rf (some a0)), (1, va_rf r1), (1, va_rf r2), (0, w3), (0, w4)] [] (0, 0) M Q := by
  refine xr_aload_n 2 dX3_spell_15 rfl rfl ?_
  obtain ⟨ht, hf⟩ := h
  refine xr_ifnull 82 dX3_spell_16 (by decide) (fun c8 => ?_) (fun c8 => ?_)
  · replace h := ht c8
    clear ht hf
    exact xr_ret (by decide) (xRv rfl dX3_spell_82) h
  · replace h := hf c8
    clear ht hf
    refine xr_aload_n 2 dX3_spell_19 rfl rfl ?_
    obtain ⟨a5, e6, h⟩ := h
    obtain ⟨t7, h⟩ := h
    refine yr_callV (r := r2) [] dX3_spell_20 cv_X3_spell_103 e6 t7 rfl (Nat.le_trans wt_0 (by decide)) (by decide) (xSp.mono h ?_)
    clear h
    intro ρ3 M2 h
    obtain ⟨v1, rfl, h⟩ := h
    refine zistore_n 3 dX3_spell_23 rfl (L1 := [(1, va_rf (some a0)), (1, va_rf r1), (1, va_rf r2), (1, .int v1), (0, w4)]) (by decide) rfl ?_
    refine xr_iconst 0 dX3_spell_24 (by decide) ?_
    refine zistore dX3_spell_25 (L1 := [(1, va_rf (some a0)), (1, va_rf r1), (1, va_rf r2), (1, .int v1), (1, .int 0)]) (by decide) rfl ?_
    exact h
set_option maxRecDepth 100000 in
set_option maxHeartbeats 4000000 in
theorem bX3_spell_0 {l : Launch} {g : xG} (a0 : Nat) (r1 : Option Nat) {M : xM} {Q : Option Value → xM → Prop} (h : (xat M a0 1 ∧ xSp l g mX3_lead 0 0 [va_rf (some a0)] M (fun ρ3 M2 => ∃ v1 : Int32, ρ3 = some (.int v1) ∧ (xat M2 a0 1 ∧ (∃ a7, r1 = some a7 ∧ xat M2 a7 4 ∧ xWp l g mX3_spell 0 0 15 [(1, va_rf (some a0)), (1, va_rf r1), (1, va_rf (some a0)), (0, .null), (0, .null)] [] (0, 0) (xsI M2 a7 1 (v1 + (xI M2 a0 1))) Q))))) : xWp l g mX3_spell 0 0 0 [(1, va_rf (some a0)), (1, va_rf r1), (0, .null), (0, .null), (0, .null)] [] (0, 0) M Q := by
  refine xr_aload_n 1 dX3_spell_0 rfl rfl ?_
  refine xr_aload_n 0 dX3_spell_1 rfl rfl ?_
  obtain ⟨t5, h⟩ := h
  refine yr_callV (r := (some a0)) [] dX3_spell_2 cv_X3_spell_103 rfl t5 rfl (Nat.le_trans (wt_r wt_0) (by decide)) (by decide) (xSp.mono h ?_)
  clear h
  intro ρ3 M2 h
  obtain ⟨v1, rfl, h⟩ := h
  refine xr_aload_n 0 dX3_spell_5 rfl rfl ?_
  obtain ⟨t6, h⟩ := h
  refine yr_getI dX3_spell_6 fl_RX3_18 rfl t6 ?_
  refine xr_iadd dX3_spell_9 ?_
  obtain ⟨a7, e8, h⟩ := h
  obtain ⟨t9, h⟩ := h
  refine yr_putI dX3_spell_10 fp_RX3_107 e8 t9 ?_
  refine xr_aload_n 0 dX3_spell_13 rfl rfl ?_
  refine zastore_n 2 dX3_spell_14 rfl (L1 := [(1, va_rf (some a0)), (1, va_rf r1), (1, va_rf (some a0)), (0, .null), (0, .null)]) (by decide) rfl ?_
  exact h
theorem dX3_hasReason_0 : decode cX3_hasReason 0 = .ok (.aload_n 0, 1) := by decide +kernel
theorem dX3_hasReason_1 : decode cX3_hasReason 1 = .ok (.getfield 27, 3) := by decide +kernel
theorem dX3_hasReason_4 : decode cX3_hasReason 4 = .ok (.ifCond .ne 11, 3) := by decide +kernel
theorem dX3_hasReason_7 : decode cX3_hasReason 7 = .ok (.aload_n 0, 1) := by decide +kernel
theorem dX3_hasReason_8 : decode cX3_hasReason 8 = .ok (.getfield 35, 3) := by decide +kernel
theorem dX3_hasReason_11 : decode cX3_hasReason 11 = .ok (.iconst 2, 1) := by decide +kernel
theorem dX3_hasReason_12 : decode cX3_hasReason 12 = .ok (.if_icmp .lt 5, 3) := by decide +kernel
theorem dX3_hasReason_15 : decode cX3_hasReason 15 = .ok (.iconst 1, 1) := by decide +kernel
theorem dX3_hasReason_16 : decode cX3_hasReason 16 = .ok (.ireturn, 1) := by decide +kernel
theorem dX3_hasReason_17 : decode cX3_hasReason 17 = .ok (.aload_n 0, 1) := by decide +kernel
theorem dX3_hasReason_18 : decode cX3_hasReason 18 = .ok (.getfield 47, 3) := by decide +kernel
theorem dX3_hasReason_21 : decode cX3_hasReason 21 = .ok (.ifnonnull 29, 3) := by decide +kernel
theorem dX3_hasReason_24 : decode cX3_hasReason 24 = .ok (.aload_n 0, 1) := by decide +kernel
theorem dX3_hasReason_25 : decode cX3_hasReason 25 = .ok (.getfield 35, 3) := by decide +kernel
theorem dX3_hasReason_28 : decode cX3_hasReason 28 = .ok (.ifCond .ne 22, 3) := by decide +kernel
theorem dX3_hasReason_31 : decode cX3_hasReason 31 = .ok (.aload_n 0, 1) := by decide +kernel
theorem dX3_hasReason_32 : decode cX3_hasReason 32 = .ok (.getfield 18, 3) := by decide +kernel
theorem dX3_hasReason_35 : decode cX3_hasReason 35 = .ok (.ifCond .ne 15, 3) := by decide +kernel
theorem dX3_hasReason_38 : decode cX3_hasReason 38 = .ok (.aload_n 0, 1) := by decide +kernel
theorem dX3_hasReason_39 : decode cX3_hasReason 39 = .ok (.getfield 24, 3) := by decide +kernel
theorem dX3_hasReason_42 : decode cX3_hasReason 42 = .ok (.iconst 1, 1) := by decide +kernel
theorem dX3_hasReason_43 : decode cX3_hasReason 43 = .ok (.if_icmp .ne 7, 3) := by decide +kernel
theorem dX3_hasReason_46 : decode cX3_hasReason 46 = .ok (.iconst 1, 1) := by decide +kernel
theorem dX3_hasReason_47 : decode cX3_hasReason 47 = .ok (.goto 4, 3) := by decide +kernel
theorem dX3_hasReason_50 : decode cX3_hasReason 50 = .ok (.iconst 0, 1) := by decide +kernel
theorem dX3_hasReason_51 : decode cX3_hasReason 51 = .ok (.ireturn, 1) := by decide +kernel
set_option maxRecDepth 100000 in
set_option maxHeartbeats 4000000 in
theorem bX3_hasReason_0 {l : Launch} {g : xG} (a0 : Nat) {M : xM} {Q : Option Value → xM → Prop} (h : (xat M a0 1 ∧ ((¬ (xI M a0 3) = 0 → (Q (some (.int 1)) M)) ∧ ((xI M a0 3) = 0 → (((xI M a0 5) < 2 → ((¬ (xR M a0 9) = none → (Q (some (.int 0)) M)) ∧ ((xR M a0 9) = none → ((¬ (xI M a0 5) = 0 → (Q (some (.int 0)) M)) ∧ ((xI M a0 5) = 0 → ((¬ (xI M a0 1) = 0 → (Q (some (.int 0)) M)) ∧ ((xI M a0 1) = 0 → ((¬ (xI M a0 2) = 1 → (Q (some (.int 0)) M)) ∧ ((xI M a0 2) = 1 → (Q (some (.int 1)) M)))))))))) ∧ (¬ (xI M a0 5) < 2 → (Q (some (.int 1)) M))))))) : xWp l g mX3_hasReason 0 0 0 [(1, va_rf (some a0))] [] (0, 0) M Q := by
  refine xr_aload_n 0 dX3_hasReason_0 rfl rfl ?_
  obtain ⟨t1, h⟩ := h
  refine yr_getZ dX3_hasReason_1 fl_RX3_27 rfl t1 ?_
  obtain ⟨ht, hf⟩ := h
  refine xr_if_ne 15 dX3_hasReason_4 (by decide) (fun c7 => ?_) (fun c7 => ?_)
  · replace h := ht c7
    clear ht hf
    refine xr_iconst 1 dX3_hasReason_15 (by decide) ?_
    exact xr_retv (by decide) (xRi rfl rfl dX3_hasReason_16) h
  · replace h := hf c7
    clear ht hf
    refine xr_aload_n 0 dX3_hasReason_7 rfl rfl ?_
    refine yr_getI dX3_hasReason_8 fl_RX3_35 rfl t1 ?_
    refine xr_iconst 2 dX3_hasReason_11 (by decide) ?_
    obtain ⟨ht, hf⟩ := h
    refine xr_icmp_lt 17 dX3_hasReason_12 (by decide) (fun c6 => ?_) (fun c6 => ?_)
    · replace h := ht c6
      clear ht hf
      refine xr_aload_n 0 dX3_hasReason_17 rfl rfl ?_
      refine yr_getR dX3_hasReason_18 fl_RX3_47 rfl t1 ?_
      obtain ⟨ht, hf⟩ := h
      refine xr_ifnonnull 50 dX3_hasReason_21 (by decide) (fun c5 => ?_) (fun c5 => ?_)
      · replace h := ht c5
        clear ht hf
        refine xr_iconst 0 dX3_hasReason_50 (by decide) ?_
        exact xr_retv (by decide) (xRi rfl rfl dX3_hasReason_51) h
      · replace h := hf c5
        clear ht hf
        refine xr_aload_n 0 dX3_hasReason_24 rfl rfl ?_
        refine yr_getI dX3_hasReason_25 fl_RX3_35 rfl t1 ?_
        obtain ⟨ht, hf⟩ := h
        refine xr_if_ne 50 dX3_hasReason_28 (by decide) (fun c4 => ?_) (fun c4 => ?_)
        · replace h := ht c4
          clear ht hf
          refine xr_iconst 0 dX3_hasReason_50 (by decide) ?_
          exact xr_retv (by decide) (xRi rfl rfl dX3_hasReason_51) h
        · replace h := hf c4
          clear ht hf
          refine xr_aload_n 0 dX3_hasReason_31 rfl rfl ?_
          refine yr_getI dX3_hasReason_32 fl_RX3_18 rfl t1 ?_
          obtain ⟨ht, hf⟩ := h
          refine xr_if_ne 50 dX3_hasReason_35 (by decide) (fun c3 => ?_) (fun c3 => ?_)
          · replace h := ht c3
            clear ht hf
            refine xr_iconst 0 dX3_hasReason_50 (by decide) ?_
            exact xr_retv (by decide) (xRi rfl rfl dX3_hasReason_51) h
          · replace h := hf c3
            clear ht hf
            refine xr_aload_n 0 dX3_hasReason_38 rfl rfl ?_
            refine yr_getI dX3_hasReason_39 fl_RX3_24 rfl t1 ?_
            refine xr_iconst 1 dX3_hasReason_42 (by decide) ?_
            obtain ⟨ht, hf⟩ := h
            refine xr_icmp_ne 50 dX3_hasReason_43 (by decide) (fun c2 => ?_) (fun c2 => ?_)
            · replace h := ht c2
              clear ht hf
              refine xr_iconst 0 dX3_hasReason_50 (by decide) ?_
              exact xr_retv (by decide) (xRi rfl rfl dX3_hasReason_51) h
            · replace h := hf c2
              clear ht hf
              refine xr_iconst 1 dX3_hasReason_46 (by decide) ?_
              refine xr_goto 51 dX3_hasReason_47 (by decide) ?_
              exact xr_retv (by decide) (xRi rfl rfl dX3_hasReason_51) h
    · replace h := hf c6
      clear ht hf
      refine xr_iconst 1 dX3_hasReason_15 (by decide) ?_
      exact xr_retv (by decide) (xRi rfl rfl dX3_hasReason_16) h
theorem dX3_twinOf_0 : decode cX3_twinOf 0 = .ok (.aload_n 0, 1) := by decide +kernel
theorem dX3_twinOf_1 : decode cX3_twinOf 1 = .ok (.ifnonnull 7, 3) := by decide +kernel
theorem dX3_twinOf_4 : decode cX3_twinOf 4 = .ok (.aconst_null, 1) := by decide +kernel
theorem dX3_twinOf_5 : decode cX3_twinOf 5 = .ok (.goto 7, 3) := by decide +kernel
theorem dX3_twinOf_8 : decode cX3_twinOf 8 = .ok (.aload_n 0, 1) := by decide +kernel
theorem dX3_twinOf_9 : decode cX3_twinOf 9 = .ok (.getfield 113, 3) := by decide +kernel
theorem dX3_twinOf_12 : decode cX3_twinOf 12 = .ok (.areturn, 1) := by decide +kernel
set_option maxRecDepth 100000 in
set_option maxHeartbeats 4000000 in
theorem bX3_twinOf_0 {l : Launch} {g : xG} (r0 : Option Nat) {M : xM} {Q : Option Value → xM → Prop} (h : ((¬ r0 = none → (∃ a1, r0 = some a1 ∧ xat M a1 1 ∧ (Q (some (va_rf (xR M a1 12))) M))) ∧ (r0 = none → (Q (some (va_rf none)) M)))) : xWp l g mX3_twinOf 0 0 0 [(1, va_rf r0)] [] (0, 0) M Q := by
  refine xr_aload_n 0 dX3_twinOf_0 rfl rfl ?_
  obtain ⟨ht, hf⟩ := h
  refine xr_ifnonnull 8 dX3_twinOf_1 (by decide) (fun c4 => ?_) (fun c4 => ?_)
  · replace h := ht c4
    clear ht hf
    refine xr_aload_n 0 dX3_twinOf_8 rfl rfl ?_
    obtain ⟨a1, e2, h⟩ := h
    obtain ⟨t3, h⟩ := h
    refine yr_getR dX3_twinOf_9 fl_RX3_113 e2 t3 ?_
    exact xr_retv (by decide) (xRa rfl dX3_twinOf_12) h
  · replace h := hf c4
    clear ht hf
    refine xr_null dX3_twinOf_4 ?_
    refine xr_goto 12 dX3_twinOf_5 (by decide) ?_
    exact xr_retv (by decide) (xRa rfl dX3_twinOf_12) h
theorem dX3_mirror_0 : decode cX3_mirror 0 = .ok (.aload_n 0, 1) := by decide +kernel
theorem dX3_mirror_1 : decode cX3_mirror 1 = .ok (.aload_n 1, 1) := by decide +kernel
theorem dX3_mirror_2 : decode cX3_mirror 2 = .ok (.getfield 18, 3) := by decide +kernel
theorem dX3_mirror_5 : decode cX3_mirror 5 = .ok (.putfield 18, 3) := by decide +kernel
theorem dX3_mirror_8 : decode cX3_mirror 8 = .ok (.iconst 0, 1) := by decide +kernel
theorem dX3_mirror_9 : decode cX3_mirror 9 = .ok (.istore_n 2, 1) := by decide +kernel
theorem dX3_mirror_10 : decode cX3_mirror 10 = .ok (.iload_n 2, 1) := by decide +kernel
theorem dX3_mirror_11 : decode cX3_mirror 11 = .ok (.aload_n 0, 1) := by decide +kernel
theorem dX3_mirror_12 : decode cX3_mirror 12 = .ok (.getfield 18, 3) := by decide +kernel
theorem dX3_mirror_15 : decode cX3_mirror 15 = .ok (.if_icmp .ge 19, 3) := by decide +kernel
theorem dX3_mirror_18 : decode cX3_mirror 18 = .ok (.aload_n 0, 1) := by decide +kernel
theorem dX3_mirror_19 : decode cX3_mirror 19 = .ok (.iload_n 2, 1) := by decide +kernel
theorem dX3_mirror_20 : decode cX3_mirror 20 = .ok (.aload_n 1, 1) := by decide +kernel
theorem dX3_mirror_21 : decode cX3_mirror 21 = .ok (.iload_n 2, 1) := by decide +kernel
theorem dX3_mirror_22 : decode cX3_mirror 22 = .ok (.invokevirtual 67, 3) := by decide +kernel
theorem dX3_mirror_25 : decode cX3_mirror 25 = .ok (.invokevirtual 57, 3) := by decide +kernel
theorem dX3_mirror_28 : decode cX3_mirror 28 = .ok (.iinc 2 1, 3) := by decide +kernel
theorem dX3_mirror_31 : decode cX3_mirror 31 = .ok (.goto (-21), 3) := by decide +kernel
theorem dX3_mirror_34 : decode cX3_mirror 34 = .ok (.aload_n 0, 1) := by decide +kernel
theorem dX3_mirror_35 : decode cX3_mirror 35 = .ok (.aload_n 1, 1) := by decide +kernel
theorem dX3_mirror_36 : decode cX3_mirror 36 = .ok (.getfield 24, 3) := by decide +kernel
theorem dX3_mirror_39 : decode cX3_mirror 39 = .ok (.putfield 24, 3) := by decide +kernel
theorem dX3_mirror_42 : decode cX3_mirror 42 = .ok (.aload_n 0, 1) := by decide +kernel
theorem dX3_mirror_43 : decode cX3_mirror 43 = .ok (.aload_n 1, 1) := by decide +kernel
theorem dX3_mirror_44 : decode cX3_mirror 44 = .ok (.getfield 27, 3) := by decide +kernel
theorem dX3_mirror_47 : decode cX3_mirror 47 = .ok (.putfield 27, 3) := by decide +kernel
theorem dX3_mirror_50 : decode cX3_mirror 50 = .ok (.aload_n 0, 1) := by decide +kernel
theorem dX3_mirror_51 : decode cX3_mirror 51 = .ok (.aload_n 1, 1) := by decide +kernel
theorem dX3_mirror_52 : decode cX3_mirror 52 = .ok (.getfield 31, 3) := by decide +kernel
theorem dX3_mirror_55 : decode cX3_mirror 55 = .ok (.putfield 31, 3) := by decide +kernel
theorem dX3_mirror_58 : decode cX3_mirror 58 = .ok (.aload_n 0, 1) := by decide +kernel
theorem dX3_mirror_59 : decode cX3_mirror 59 = .ok (.aload_n 1, 1) := by decide +kernel
theorem dX3_mirror_60 : decode cX3_mirror 60 = .ok (.getfield 35, 3) := by decide +kernel
theorem dX3_mirror_63 : decode cX3_mirror 63 = .ok (.putfield 35, 3) := by decide +kernel
theorem dX3_mirror_66 : decode cX3_mirror 66 = .ok (.aload_n 0, 1) := by decide +kernel
theorem dX3_mirror_67 : decode cX3_mirror 67 = .ok (.aload_n 1, 1) := by decide +kernel
theorem dX3_mirror_68 : decode cX3_mirror 68 = .ok (.getfield 38, 3) := by decide +kernel
theorem dX3_mirror_71 : decode cX3_mirror 71 = .ok (.putfield 38, 3) := by decide +kernel
theorem dX3_mirror_74 : decode cX3_mirror 74 = .ok (.aload_n 0, 1) := by decide +kernel
theorem dX3_mirror_75 : decode cX3_mirror 75 = .ok (.aload_n 1, 1) := by decide +kernel
theorem dX3_mirror_76 : decode cX3_mirror 76 = .ok (.getfield 41, 3) := by decide +kernel
theorem dX3_mirror_79 : decode cX3_mirror 79 = .ok (.putfield 41, 3) := by decide +kernel
theorem dX3_mirror_82 : decode cX3_mirror 82 = .ok (.aload_n 0, 1) := by decide +kernel
theorem dX3_mirror_83 : decode cX3_mirror 83 = .ok (.aload_n 1, 1) := by decide +kernel
theorem dX3_mirror_84 : decode cX3_mirror 84 = .ok (.getfield 44, 3) := by decide +kernel
theorem dX3_mirror_87 : decode cX3_mirror 87 = .ok (.putfield 44, 3) := by decide +kernel
theorem dX3_mirror_90 : decode cX3_mirror 90 = .ok (.aload_n 0, 1) := by decide +kernel
theorem dX3_mirror_91 : decode cX3_mirror 91 = .ok (.aload_n 1, 1) := by decide +kernel
theorem dX3_mirror_92 : decode cX3_mirror 92 = .ok (.getfield 47, 3) := by decide +kernel
theorem dX3_mirror_95 : decode cX3_mirror 95 = .ok (.invokestatic 116, 3) := by decide +kernel
theorem dX3_mirror_98 : decode cX3_mirror 98 = .ok (.putfield 47, 3) := by decide +kernel
theorem dX3_mirror_101 : decode cX3_mirror 101 = .ok (.aload_n 0, 1) := by decide +kernel
theorem dX3_mirror_102 : decode cX3_mirror 102 = .ok (.aload_n 1, 1) := by decide +kernel
theorem dX3_mirror_103 : decode cX3_mirror 103 = .ok (.getfield 51, 3) := by decide +kernel
theorem dX3_mirror_106 : decode cX3_mirror 106 = .ok (.invokestatic 116, 3) := by decide +kernel
theorem dX3_mirror_109 : decode cX3_mirror 109 = .ok (.putfield 51, 3) := by decide +kernel
theorem dX3_mirror_112 : decode cX3_mirror 112 = .ok (.aload_n 0, 1) := by decide +kernel
theorem dX3_mirror_113 : decode cX3_mirror 113 = .ok (.aload_n 1, 1) := by decide +kernel
theorem dX3_mirror_114 : decode cX3_mirror 114 = .ok (.getfield 54, 3) := by decide +kernel
theorem dX3_mirror_117 : decode cX3_mirror 117 = .ok (.invokestatic 116, 3) := by decide +kernel
theorem dX3_mirror_120 : decode cX3_mirror 120 = .ok (.putfield 54, 3) := by decide +kernel
theorem dX3_mirror_123 : decode cX3_mirror 123 = .ok (.return_, 1) := by decide +kernel
set_option maxRecDepth 100000 in
set_option maxHeartbeats 4000000 in
theorem bX3_mirror_10 {l : Launch} {g : xG} (a0 : Nat) (r1 : Option Nat) (x2 : Int32) {M : xM} {Q : Option Value → xM → Prop} (h : (xat M a0 1 ∧ (((xI M a0 1) ≤ x2 → (∃ a2, r1 = some a2 ∧ xat M a2 1 ∧ (((xI (xsI M a0 2 (xI M a2 2)) a2 3) = 0 ∨ (xI (xsI M a0 2 (xI M a2 2)) a2 3) = 1) ∧ (((xI (xsI (xsI (xsI (xsJ (xsI (xsI M a0 2 (xI M a2 2)) a0 3 (xI (xsI M a0 2 (xI M a2 2)) a2 3)) a0 4 (xJ (xsI (xsI M a0 2 (xI M a2 2)) a0 3 (xI (xsI M a0 2 (xI M a2 2)) a2 3)) a2 4)) a0 5 (xI (xsJ (xsI (xsI M a0 2 (xI M a2 2)) a0 3 (xI (xsI M a0 2 (xI M a2 2)) a2 3)) a0 4 (xJ (xsI (xsI M a0 2 (xI M a2 2)) a0 3 (xI (xsI M a0 2 (xI M a2 2)) a2 3)) a2 4)) a2 5)) a0 6 (xI (xsI (xsJ (xsI (xsI M a0 2 (xI M a2 2)) a0 3 (xI (xsI M a0 2 (xI M a2 2)) a2 3)) a0 4 (xJ (xsI (xsI M a0 2 (xI M a2 2)) a0 3 (xI (xsI M a0 2 (xI M a2 2)) a2 3)) a2 4)) a0 5 (xI (xsJ (xsI (xsI M a0 2 (xI M a2 2)) a0 3 (xI (xsI M a0 2 (xI M a2 2)) a2 3)) a0 4 (xJ (xsI (xsI M a0 2 (xI M a2 2)) a0 3 (xI (xsI M a0 2 (xI M a2 2)) a2 3)) a2 4)) a2 5)) a2 6)) a0 7 (xI (xsI (xsI (xsJ (xsI (xsI M a0 2 (xI M a2 2)) a0 3 (xI (xsI M a0 2 (xI M a2 2)) a2 3)) a0 4 (xJ (xsI (xsI M a0 2 (xI M a2 2)) a0 3 (xI (xsI M a0 2 (xI M a2 2)) a2 3)) a2 4)) a0 5 (xI (xsJ (xsI (xsI M a0 2 (xI M a2 2)) a0 3 (xI (xsI M a0 2 (xI M a2 2)) a2 3)) a0 4 (xJ (xsI (xsI M a0 2 (xI M a2 2)) a0 3 (xI (xsI M a0 2 (xI M a2 2)) a2 3)) a2 4)) a2 5)) a0 6 (xI (xsI (xsJ (xsI (xsI M a0 2 (xI M a2 2)) a0 3 (xI (xsI M a0 2 (xI M a2 2)) a2 3)) a0 4 (xJ (xsI (xsI M a0 2 (xI M a2 2)) a0 3 (xI (xsI M a0 2 (xI M a2 2)) a2 3)) a2 4)) a0 5 (xI (xsJ (xsI (xsI M a0 2 (xI M a2 2)) a0 3 (xI (xsI M a0 2 (xI M a2 2)) a2 3)) a0 4 (xJ (xsI (xsI M a0 2 (xI M a2 2)) a0 3 (xI (xsI M a0 2 (xI M a2 2)) a2 3)) a2 4)) a2 5)) a2 6)) a2 7)) a2 8) = 0 ∨ (xI (xsI (xsI (xsI (xsJ (xsI (xsI M a0 2 (xI M a2 2)) a0 3 (xI (xsI M a0 2 (xI M a2 2)) a2 3)) a0 4 (xJ (xsI (xsI M a0 2 (xI M a2 2)) a0 3 (xI (xsI M a0 2 (xI M a2 2)) a2 3)) a2 4)) a0 5 (xI (xsJ (xsI (xsI M a0 2 (xI M a2 2)) a0 3 (xI (xsI M a0 2 (xI M a2 2)) a2 3)) a0 4 (xJ (xsI (xsI M a0 2 (xI M a2 2)) a0 3 (xI (xsI M a0 2 (xI M a2 2)) a2 3)) a2 4)) a2 5)) a0 6 (xI (xsI (xsJ (xsI (xsI M a0 2 (xI M a2 2)) a0 3 (xI (xsI M a0 2 (xI M a2 2)) a2 3)) a0 4 (xJ (xsI (xsI M a0 2 (xI M a2 2)) a0 3 (xI (xsI M a0 2 (xI M a2 2)) a2 3)) a2 4)) a0 5 (xI (xsJ (xsI (xsI M a0 2 (xI M a2 2)) a0 3 (xI (xsI M a0 2 (xI M a2 2)) a2 3)) a0 4 (xJ (xsI (xsI M a0 2 (xI M a2 2)) a0 3 (xI (xsI M a0 2 (xI M a2 2)) a2 3)) a2 4)) a2 5)) a2 6)) a0 7 (xI (xsI (xsI (xsJ (xsI (xsI M a0 2 (xI M a2 2)) a0 3 (xI (xsI M a0 2 (xI M a2 2)) a2 3)) a0 4 (xJ (xsI (xsI M a0 2 (xI M a2 2)) a0 3 (xI (xsI M a0 2 (xI M a2 2)) a2 3)) a2 4)) a0 5 (xI (xsJ (xsI (xsI M a0 2 (xI M a2 2)) a0 3 (xI (xsI M a0 2 (xI M a2 2)) a2 3)) a0 4 (xJ (xsI (xsI M a0 2 (xI M a2 2)) a0 3 (xI (xsI M a0 2 (xI M a2 2)) a2 3)) a2 4)) a2 5)) a0 6 (xI (xsI (xsJ (xsI (xsI M a0 2 (xI M a2 2)) a0 3 (xI (xsI M a0 2 (xI M a2 2)) a2 3)) a0 4 (xJ (xsI (xsI M a0 2 (xI M a2 2)) a0 3 (xI (xsI M a0 2 (xI M a2 2)) a2 3)) a2 4)) a0 5 (xI (xsJ (xsI (xsI M a0 2 (xI M a2 2)) a0 3 (xI (xsI M a0 2 (xI M a2 2)) a2 3)) a0 4 (xJ (xsI (xsI M a0 2 (xI M a2 2)) a0 3 (xI (xsI M a0 2 (xI M a2 2)) a2 3)) a2 4)) a2 5)) a2 6)) a2 7)) a2 8) = 1) ∧ (xSp l g mX3_twinOf 0 0 [va_rf (xR (xsI (xsI (xsI (xsI (xsJ (xsI (xsI M a0 2 (xI M a2 2)) a0 3 (xI (xsI M a0 2 (xI M a2 2)) a2 3)) a0 4 (xJ (xsI (xsI M a0 2 (xI M a2 2)) a0 3 (xI (xsI M a0 2 (xI M a2 2)) a2 3)) a2 4)) a0 5 (xI (xsJ (xsI (xsI M a0 2 (xI M a2 2)) a0 3 (xI (xsI M a0 2 (xI M a2 2)) a2 3)) a0 4 (xJ (xsI (xsI M a0 2 (xI M a2 2)) a0 3 (xI (xsI M a0 2 (xI M a2 2)) a2 3)) a2 4)) a2 5)) a0 6 (xI (xsI (xsJ (xsI (xsI M a0 2 (xI M a2 2)) a0 3 (xI (xsI M a0 2 (xI M a2 2)) a2 3)) a0 4 (xJ (xsI (xsI M a0 2 (xI M a2 2)) a0 3 (xI (xsI M a0 2 (xI M a2 2)) a2 3)) a2 4)) a0 5 (xI (xsJ (xsI (xsI M a0 2 (xI M a2 2)) a0 3 (xI (xsI M a0 2 (xI M a2 2)) a2 3)) a0 4 (xJ (xsI (xsI M a0 2 (xI M a2 2)) a0 3 (xI (xsI M a0 2 (xI M a2 2)) a2 3)) a2 4)) a2 5)) a2 6)) a0 7 (xI (xsI (xsI (xsJ (xsI (xsI M a0 2 (xI M a2 2)) a0 3 (xI (xsI M a0 2 (xI M a2 2)) a2 3)) a0 4 (xJ (xsI (xsI M a0 2 (xI M a2 2)) a0 3 (xI (xsI M a0 2 (xI M a2 2)) a2 3)) a2 4)) a0 5 (xI (xsJ (xsI (xsI M a0 2 (xI M a2 2)) a0 3 (xI (xsI M a0 2 (xI M a2 2)) a2 3)) a0 4 (xJ (xsI (xsI M a0 2 (xI M a2 2)) a0 3 (xI (xsI M a0 2 (xI M a2 2)) a2 3)) a2 4)) a2 5)) a0 6 (xI (xsI (xsJ (xsI (xsI M a0 2 (xI M a2 2)) a0 3 (xI (xsI M a0 2 (xI M a2 2)) a2 3)) a0 4 (xJ (xsI (xsI M a0 2 (xI M a2 2)) a0 3 (xI (xsI M a0 2 (xI M a2 2)) a2 3)) a2 4)) a0 5 (xI (xsJ (xsI (xsI M a0 2 (xI M a2 2)) a0 3 (xI (xsI M a0 2 (xI M a2 2)) a2 3)) a0 4 (xJ (xsI (xsI M a0 2 (xI M a2 2)) a0 3 (xI (xsI M a0 2 (xI M a2 2)) a2 3)) a2 4)) a2 5)) a2 6)) a2 7)) a0 8 (xI (xsI (xsI (xsI (xsJ (xsI (xsI M a0 2 (xI M a2 2)) a0 3 (xI (xsI M a0 2 (xI M a2 2)) a2 3)) a0 4 (xJ (xsI (xsI M a0 2 (xI M a2 2)) a0 3 (xI (xsI M a0 2 (xI M a2 2)) a2 3)) a2 4)) a0 5 (xI (xsJ (xsI (xsI M a0 2 (xI M a2 2)) a0 3 (xI (xsI M a0 2 (xI M a2 2)) a2 3)) a0 4 (xJ (xsI (xsI M a0 2 (xI M a2 2)) a0 3 (xI (xsI M a0 2 (xI M a2 2)) a2 3)) a2 4)) a2 5)) a0 6 (xI (xsI (xsJ (xsI (xsI M a0 2 (xI M a2 2)) a0 3 (xI (xsI M a0 2 (xI M a2 2)) a2 3)) a0 4 (xJ (xsI (xsI M a0 2 (xI M a2 2)) a0 3 (xI (xsI M a0 2 (xI M a2 2)) a2 3)) a2 4)) a0 5 (xI (xsJ (xsI (xsI M a0 2 (xI M a2 2)) a0 3 (xI (xsI M a0 2 (xI M a2 2)) a2 3)) a0 4 (xJ (xsI (xsI M a0 2 (xI M a2 2)) a0 3 (xI (xsI M a0 2 (xI M a2 2)) a2 3)) a2 4)) a2 5)) a2 6)) a0 7 (xI (xsI (xsI (xsJ (xsI (xsI M a0 2 (xI M a2 2)) a0 3 (xI (xsI M a0 2 (xI M a2 2)) a2 3)) a0 4 (xJ (xsI (xsI M a0 2 (xI M a2 2)) a0 3 (xI (xsI M a0 2 (xI M a2 2)) a2 3)) a2 4)) a0 5 (xI (xsJ (xsI (xsI M a0 2 (xI M a2 2)) a0 3 (xI (xsI M a0 2 (xI M a2 2)) a2 3)) a0 4 (xJ (xsI (xsI M a0 2 (xI M a2 2)) a0 3 (xI (xsI M a0 2 (xI M a2 2)) a2 3)) a2 4)) a2 5)) a0 6 (xI (xsI (xsJ (xsI (xsI M a0 2 (xI M a2 2)) a0 3 (xI (xsI M a0 2 (xI M a2 2)) a2 3)) a0 4 (xJ (xsI (xsI M a0 2 (xI M a2 2)) a0 3 (xI (xsI M a0 2 (xI M a2 2)) a2 3)) a2 4)) a0 5 (xI (xsJ (xsI (xsI M a0 2 (xI M a2 2)) a0 3 (xI (xsI M a0 2 (xI M a2 2)) a2 3)) a0 4 (xJ (xsI (xsI M a0 2 (xI M a2 2)) a0 3 (xI (xsI M a0 2 (xI M a2 2)) a2 3)) a2 4)) a2 5)) a2 6)) a2 7)) a2 8)) a2 9)] (xsI (xsI (xsI (xsI (xsJ (xsI (xsI M a0 2 (xI M a2 2)) a0 3 (xI (xsI M a0 2 (xI M a2 2)) a2 3)) a0 4 (xJ (xsI (xsI M a0 2 (xI M a2 2)) a0 3 (xI (xsI M a0 2 (xI M a2 2)) a2 3)) a2 4)) a0 5 (xI (xsJ (xsI (xsI M a0 2 (xI M a2 2)) a0 3 (xI (xsI M a0 2 (xI M a2 2)) a2 3)) a0 4 (xJ (xsI (xsI M a0 2 (xI M a2 2)) a0 3 (xI (xsI M a0 2 (xI M a2 2)) a2 3)) a2 4)) a2 5)) a0 6 (xI (xsI (xsJ (xsI (xsI M a0 2 (xI M a2 2)) a0 3 (xI (xsI M a0 2 (xI M a2 2)) a2 3)) a0 4 (xJ (xsI (xsI M a0 2 (xI M a2 2)) a0 3 (xI (xsI M a0 2 (xI M a2 2)) a2 3)) a2 4)) a0 5 (xI (xsJ (xsI (xsI M a0 2 (xI M a2 2)) a0 3 (xI (xsI M a0 2 (xI M a2 2)) a2 3)) a0 4 (xJ (xsI (xsI M a0 2 (xI M a2 2)) a0 3 (xI (xsI M a0 2 (xI M a2 2)) a2 3)) a2 4)) a2 5)) a2 6)) a0 7 (xI (xsI (xsI (xsJ (xsI (xsI M a0 2 (xI M a2 2)) a0 3 (xI (xsI M a0 2 (xI M a2 2)) a2 3)) a0 4 (xJ (xsI (xsI M a0 2 (xI M a2 2)) a0 3 (xI (xsI M a0 2 (xI M a2 2)) a2 3)) a2 4)) a0 5 (xI (xsJ (xsI (xsI M a0 2 (xI M a2 2)) a0 3 (xI (xsI M a0 2 (xI M a2 2)) a2 3)) a0 4 (xJ (xsI (xsI M a0 2 (xI M a2 2)) a0 3 (xI (xsI M a0 2 (xI M a2 2)) a2 3)) a2 4)) a2 5)) a0 6 (xI (xsI (xsJ (xsI (xsI M a0 2 (xI M a2 2)) a0 3 (xI (xsI M a0 2 (xI M a2 2)) a2 3)) a0 4 (xJ (xsI (xsI M a0 2 (xI M a2 2)) a0 3 (xI (xsI M a0 2 (xI M a2 2)) a2 3)) a2 4)) a0 5 (xI (xsJ (xsI (xsI M a0 2 (xI M a2 2)) a0 3 (xI (xsI M a0 2 (xI M a2 2)) a2 3)) a0 4 (xJ (xsI (xsI M a0 2 (xI M a2 2)) a0 3 (xI (xsI M a0 2 (xI M a2 2)) a2 3)) a2 4)) a2 5)) a2 6)) a2 7)) a0 8 (xI (xsI (xsI (xsI (xsJ (xsI (xsI M a0 2 (xI M a2 2)) a0 3 (xI (xsI M a0 2 (xI M a2 2)) a2 3)) a0 4 (xJ (xsI (xsI M a0 2 (xI M a2 2)) a0 3 (xI (xsI M a0 2 (xI M a2 2)) a2 3)) a2 4)) a0 5 (xI (xsJ (xsI (xsI M a0 2 (xI M a2 2)) a0 3 (xI (xsI M a0 2 (xI M a2 2)) a2 3)) a0 4 (xJ (xsI (xsI M a0 2 (xI M a2 2)) a0 3 (xI (xsI M a0 2 (xI M a2 2)) a2 3)) a2 4)) a2 5)) a0 6 (xI (xsI (xsJ (xsI (xsI M a0 2 (xI M a2 2)) a0 3 (xI (xsI M a0 2 (xI M a2 2)) a2 3)) a0 4 (xJ (xsI (xsI M a0 2 (xI M a2 2)) a0 3 (xI (xsI M a0 2 (xI M a2 2)) a2 3)) a2 4)) a0 5 (xI (xsJ (xsI (xsI M a0 2 (xI M a2 2)) a0 3 (xI (xsI M a0 2 (xI M a2 2)) a2 3)) a0 4 (xJ (xsI (xsI M a0 2 (xI M a2 2)) a0 3 (xI (xsI M a0 2 (xI M a2 2)) a2 3)) a2 4)) a2 5)) a2 6)) a0 7 (xI (xsI (xsI (xsJ (xsI (xsI M a0 2 (xI M a2 2)) a0 3 (xI (xsI M a0 2 (xI M a2 2)) a2 3)) a0 4 (xJ (xsI (xsI M a0 2 (xI M a2 2)) a0 3 (xI (xsI M a0 2 (xI M a2 2)) a2 3)) a2 4)) a0 5 (xI (xsJ (xsI (xsI M a0 2 (xI M a2 2)) a0 3 (xI (xsI M a0 2 (xI M a2 2)) a2 3)) a0 4 (xJ (xsI (xsI M a0 2 (xI M a2 2)) a0 3 (xI (xsI M a0 2 (xI M a2 2)) a2 3)) a2 4)) a2 5)) a0 6 (xI (xsI (xsJ (xsI (xsI M a0 2 (xI M a2 2)) a0 3 (xI (xsI M a0 2 (xI M a2 2)) a2 3)) a0 4 (xJ (xsI (xsI M a0 2 (xI M a2 2)) a0 3 (xI (xsI M a0 2 (xI M a2 2)) a2 3)) a2 4)) a0 5 (xI (xsJ (xsI (xsI M a0 2 (xI M a2 2)) a0 3 (xI (xsI M a0 2 (xI M a2 2)) a2 3)) a0 4 (xJ (xsI (xsI M a0 2 (xI M a2 2)) a0 3 (xI (xsI M a0 2 (xI M a2 2)) a2 3)) a2 4)) a2 5)) a2 6)) a2 7)) a2 8)) (fun ρ9 M8 => ∃ v7 : Option Nat, ρ9 = some (va_rf v7) ∧ (xat M8 a0 1 ∧ (xat (xsR M8 a0 9 v7) a2 1 ∧ (xSp l g mX3_twinOf 0 0 [va_rf (xR (xsR M8 a0 9 v7) a2 10)] (xsR M8 a0 9 v7) (fun ρ15 M14 => ∃ v13 : Option Nat, ρ15 = some (va_rf v13) ∧ (xat M14 a0 1 ∧ (xat (xsR M14 a0 10 v13) a2 1 ∧ (xSp l g mX3_twinOf 0 0 [va_rf (xR (xsR M14 a0 10 v13) a2 11)] (xsR M14 a0 10 v13) (fun ρ21 M20 => ∃ v19 : Option Nat, ρ21 = some (va_rf v19) ∧ (xat M20 a0 1 ∧ (Q none (xsR M20 a0 11 v19))))))))))))))))) ∧ (¬ (xI M a0 1) ≤ x2 → (∃ a28, r1 = some a28 ∧ xat M a28 1 ∧ xSp l g mX3_prefixAt 0 0 [va_rf r1, .int x2] M (fun ρ26 M25 => ∃ v24 : Int32, ρ26 = some (.int v24) ∧ (xat M25 a0 1 ∧ xSp l g mX3_setPrefixAt 0 0 [va_rf (some a0), .int x2, .int v24] M25 (fun ρ33 M32 => ρ33 = none ∧ xWp l g mX3_mirror 0 0 10 [(1, va_rf (some a0)), (1, va_rf r1), (1, .int (x2 + 1))] [] (0, 0) M32 Q)))))))) : xWp l g mX3_mirror 0 0 10 [(1, va_rf (some a0)), (1, va_rf r1), (1, .int x2)] [] (0, 0) M Q := by
  refine xr_iload_n 2 dX3_mirror_10 rfl rfl ?_
  refine xr_aload_n 0 dX3_mirror_11 rfl rfl ?_
  obtain ⟨t1, h⟩ := h
  refine yr_getI dX3_mirror_12 fl_RX3_18 rfl t1 ?_
  obtain ⟨ht, hf⟩ := h
  refine xr_icmp_ge 34 dX3_mirror_15 (by decide) (fun c36 => ?_) (fun c36 => ?_)
  · replace h := ht c36
    clear ht hf
    refine xr_aload_n 0 dX3_mirror_34 rfl rfl ?_
    refine xr_aload_n 1 dX3_mirror_35 rfl rfl ?_
    obtain ⟨a2, e3, h⟩ := h
    obtain ⟨t4, h⟩ := h
    refine yr_getI dX3_mirror_36 fl_RX3_24 e3 t4 ?_
    refine yr_putI dX3_mirror_39 fp_RX3_24 rfl t1 ?_
    refine xr_aload_n 0 dX3_mirror_42 rfl rfl ?_
    refine xr_aload_n 1 dX3_mirror_43 rfl rfl ?_
    refine yr_getZ dX3_mirror_44 fl_RX3_27 e3 t4 ?_
    obtain ⟨z5, h⟩ := h
    refine yr_putZ dX3_mirror_47 fp_RX3_27 rfl t1 z5 ?_
    refine xr_aload_n 0 dX3_mirror_50 rfl rfl ?_
    refine xr_aload_n 1 dX3_mirror_51 rfl rfl ?_
    refine yr_getJ dX3_mirror_52 fl_RX3_31 e3 t4 ?_
    refine yr_putJ dX3_mirror_55 fp_RX3_31 rfl t1 ?_
    refine xr_aload_n 0 dX3_mirror_58 rfl rfl ?_
    refine xr_aload_n 1 dX3_mirror_59 rfl rfl ?_
    refine yr_getI dX3_mirror_60 fl_RX3_35 e3 t4 ?_
    refine yr_putI dX3_mirror_63 fp_RX3_35 rfl t1 ?_
    refine xr_aload_n 0 dX3_mirror_66 rfl rfl ?_
    refine xr_aload_n 1 dX3_mirror_67 rfl rfl ?_
    refine yr_getI dX3_mirror_68 fl_RX3_38 e3 t4 ?_
    refine yr_putI dX3_mirror_71 fp_RX3_38 rfl t1 ?_
    refine xr_aload_n 0 dX3_mirror_74 rfl rfl ?_
    refine xr_aload_n 1 dX3_mirror_75 rfl rfl ?_
    refine yr_getI dX3_mirror_76 fl_RX3_41 e3 t4 ?_
    refine yr_putI dX3_mirror_79 fp_RX3_41 rfl t1 ?_
    refine xr_aload_n 0 dX3_mirror_82 rfl rfl ?_
    refine xr_aload_n 1 dX3_mirror_83 rfl rfl ?_
    refine yr_getZ dX3_mirror_84 fl_RX3_44 e3 t4 ?_
    obtain ⟨z6, h⟩ := h
    refine yr_putZ dX3_mirror_87 fp_RX3_44 rfl t1 z6 ?_
    refine xr_aload_n 0 dX3_mirror_90 rfl rfl ?_
    refine xr_aload_n 1 dX3_mirror_91 rfl rfl ?_
    refine yr_getR dX3_mirror_92 fl_RX3_47 e3 t4 ?_
    refine xr_callS [va_rf (xR (xsI (xsI (xsI (xsI (xsJ (xsI (xsI M a0 2 (xI M a2 2)) a0 3 (xI (xsI M a0 2 (xI M a2 2)) a2 3)) a0 4 (xJ (xsI (xsI M a0 2 (xI M a2 2)) a0 3 (xI (xsI M a0 2 (xI M a2 2)) a2 3)) a2 4)) a0 5 (xI (xsJ (xsI (xsI M a0 2 (xI M a2 2)) a0 3 (xI (xsI M a0 2 (xI M a2 2)) a2 3)) a0 4 (xJ (xsI (xsI M a0 2 (xI M a2 2)) a0 3 (xI (xsI M a0 2 (xI M a2 2)) a2 3)) a2 4)) a2 5)) a0 6 (xI (xsI (xsJ (xsI (xsI M a0 2 (xI M a2 2)) a0 3 (xI (xsI M a0 2 (xI M a2 2)) a2 3)) a0 4 (xJ (xsI (xsI M a0 2 (xI M a2 2)) a0 3 (xI (xsI M a0 2 (xI M a2 2)) a2 3)) a2 4)) a0 5 (xI (xsJ (xsI (xsI M a0 2 (xI M a2 2)) a0 3 (xI (xsI M a0 2 (xI M a2 2)) a2 3)) a0 4 (xJ (xsI (xsI M a0 2 (xI M a2 2)) a0 3 (xI (xsI M a0 2 (xI M a2 2)) a2 3)) a2 4)) a2 5)) a2 6)) a0 7 (xI (xsI (xsI (xsJ (xsI (xsI M a0 2 (xI M a2 2)) a0 3 (xI (xsI M a0 2 (xI M a2 2)) a2 3)) a0 4 (xJ (xsI (xsI M a0 2 (xI M a2 2)) a0 3 (xI (xsI M a0 2 (xI M a2 2)) a2 3)) a2 4)) a0 5 (xI (xsJ (xsI (xsI M a0 2 (xI M a2 2)) a0 3 (xI (xsI M a0 2 (xI M a2 2)) a2 3)) a0 4 (xJ (xsI (xsI M a0 2 (xI M a2 2)) a0 3 (xI (xsI M a0 2 (xI M a2 2)) a2 3)) a2 4)) a2 5)) a0 6 (xI (xsI (xsJ (xsI (xsI M a0 2 (xI M a2 2)) a0 3 (xI (xsI M a0 2 (xI M a2 2)) a2 3)) a0 4 (xJ (xsI (xsI M a0 2 (xI M a2 2)) a0 3 (xI (xsI M a0 2 (xI M a2 2)) a2 3)) a2 4)) a0 5 (xI (xsJ (xsI (xsI M a0 2 (xI M a2 2)) a0 3 (xI (xsI M a0 2 (xI M a2 2)) a2 3)) a0 4 (xJ (xsI (xsI M a0 2 (xI M a2 2)) a0 3 (xI (xsI M a0 2 (xI M a2 2)) a2 3)) a2 4)) a2 5)) a2 6)) a2 7)) a0 8 (xI (xsI (xsI (xsI (xsJ (xsI (xsI M a0 2 (xI M a2 2)) a0 3 (xI (xsI M a0 2 (xI M a2 2)) a2 3)) a0 4 (xJ (xsI (xsI M a0 2 (xI M a2 2)) a0 3 (xI (xsI M a0 2 (xI M a2 2)) a2 3)) a2 4)) a0 5 (xI (xsJ (xsI (xsI M a0 2 (xI M a2 2)) a0 3 (xI (xsI M a0 2 (xI M a2 2)) a2 3)) a0 4 (xJ (xsI (xsI M a0 2 (xI M a2 2)) a0 3 (xI (xsI M a0 2 (xI M a2 2)) a2 3)) a2 4)) a2 5)) a0 6 (xI (xsI (xsJ (xsI (xsI M a0 2 (xI M a2 2)) a0 3 (xI (xsI M a0 2 (xI M a2 2)) a2 3)) a0 4 (xJ (xsI (xsI M a0 2 (xI M a2 2)) a0 3 (xI (xsI M a0 2 (xI M a2 2)) a2 3)) a2 4)) a0 5 (xI (xsJ (xsI (xsI M a0 2 (xI M a2 2)) a0 3 (xI (xsI M a0 2 (xI M a2 2)) a2 3)) a0 4 (xJ (xsI (xsI M a0 2 (xI M a2 2)) a0 3 (xI (xsI M a0 2 (xI M a2 2)) a2 3)) a2 4)) a2 5)) a2 6)) a0 7 (xI (xsI (xsI (xsJ (xsI (xsI M a0 2 (xI M a2 2)) a0 3 (xI (xsI M a0 2 (xI M a2 2)) a2 3)) a0 4 (xJ (xsI (xsI M a0 2 (xI M a2 2)) a0 3 (xI (xsI M a0 2 (xI M a2 2)) a2 3)) a2 4)) a0 5 (xI (xsJ (xsI (xsI M a0 2 (xI M a2 2)) a0 3 (xI (xsI M a0 2 (xI M a2 2)) a2 3)) a0 4 (xJ (xsI (xsI M a0 2 (xI M a2 2)) a0 3 (xI (xsI M a0 2 (xI M a2 2)) a2 3)) a2 4)) a2 5)) a0 6 (xI (xsI (xsJ (xsI (xsI M a0 2 (xI M a2 2)) a0 3 (xI (xsI M a0 2 (xI M a2 2)) a2 3)) a0 4 (xJ (xsI (xsI M a0 2 (xI M a2 2)) a0 3 (xI (xsI M a0 2 (xI M a2 2)) a2 3)) a2 4)) a0 5 (xI (xsJ (xsI (xsI M a0 2 (xI M a2 2)) a0 3 (xI (xsI M a0 2 (xI M a2 2)) a2 3)) a0 4 (xJ (xsI (xsI M a0 2 (xI M a2 2)) a0 3 (xI (xsI M a0 2 (xI M a2 2)) a2 3)) a2 4)) a2 5)) a2 6)) a2 7)) a2 8)) a2 9)] dX3_mirror_95 cs_X3_mirror_116 rfl (Nat.le_trans (wt_r wt_0) (by decide)) (by decide) (xSp.mono h ?_)
    clear h
    intro ρ9 M8 h
    obtain ⟨v7, rfl, h⟩ := h
    obtain ⟨t11, h⟩ := h
    refine yr_putR dX3_mirror_98 fp_RX3_47 rfl t11 ?_
    refine xr_aload_n 0 dX3_mirror_101 rfl rfl ?_
    refine xr_aload_n 1 dX3_mirror_102 rfl rfl ?_
    obtain ⟨t12, h⟩ := h
    refine yr_getR dX3_mirror_103 fl_RX3_51 e3 t12 ?_
    refine xr_callS [va_rf (xR (xsR M8 a0 9 v7) a2 10)] dX3_mirror_106 cs_X3_mirror_116 rfl (Nat.le_trans (wt_r wt_0) (by decide)) (by decide) (xSp.mono h ?_)
    clear h
    intro ρ15 M14 h
    obtain ⟨v13, rfl, h⟩ := h
    obtain ⟨t17, h⟩ := h
    refine yr_putR dX3_mirror_109 fp_RX3_51 rfl t17 ?_
    refine xr_aload_n 0 dX3_mirror_112 rfl rfl ?_
    refine xr_aload_n 1 dX3_mirror_113 rfl rfl ?_
    obtain ⟨t18, h⟩ := h
    refine yr_getR dX3_mirror_114 fl_RX3_54 e3 t18 ?_
    refine xr_callS [va_rf (xR (xsR M14 a0 10 v13) a2 11)] dX3_mirror_117 cs_X3_mirror_116 rfl (Nat.le_trans (wt_r wt_0) (by decide)) (by decide) (xSp.mono h ?_)
    clear h
    intro ρ21 M20 h
    obtain ⟨v19, rfl, h⟩ := h
    obtain ⟨t23, h⟩ := h
    refine yr_putR dX3_mirror_120 fp_RX3_54 rfl t23 ?_
    exact xr_ret (by decide) (xRv rfl dX3_mirror_123) h
  · replace h := hf c36
    clear ht hf
    refine xr_aload_n 0 dX3_mirror_18 rfl rfl ?_
    refine xr_iload_n 2 dX3_mirror_19 rfl rfl ?_
    refine xr_aload_n 1 dX3_mirror_20 rfl rfl ?_
    refine xr_iload_n 2 dX3_mirror_21 rfl rfl ?_
    obtain ⟨a28, e29, h⟩ := h
    obtain ⟨t30, h⟩ := h
    refine yr_callV (r := r1) [.int x2] dX3_mirror_22 cv_X3_mirror_67 e29 t30 rfl (Nat.le_trans (wt_i (wt_r wt_0)) (by decide)) (by decide) (xSp.mono h ?_)
    clear h
    intro ρ26 M25 h
    obtain ⟨v24, rfl, h⟩ := h
    obtain ⟨t35, h⟩ := h
    refine yr_callV (r := (some a0)) [.int x2, .int v24] dX3_mirror_25 cv_X3_mirror_57 rfl t35 rfl (Nat.le_trans wt_0 (by decide)) (by decide) (xSp.mono h ?_)
    clear h
    intro ρ33 M32 h
    obtain ⟨rfl, h⟩ := h
    refine ziinc (x2 + 1) dX3_mirror_28 rfl rfl (L1 := [(1, va_rf (some a0)), (1, va_rf r1), (1, .int (x2 + 1))]) (by decide) rfl ?_
    refine xr_goto 10 dX3_mirror_31 (by decide) ?_
    exact h
set_option maxRecDepth 100000 in
set_option maxHeartbeats 4000000 in
theorem bX3_mirror_0 {l : Launch} {g : xG} (a0 : Nat) (r1 : Option Nat) {M : xM} {Q : Option Value → xM → Prop} (h : (∃ a1, r1 = some a1 ∧ xat M a1 1 ∧ (xat M a0 1 ∧ xWp l g mX3_mirror 0 0 10 [(1, va_rf (some a0)), (1, va_rf r1), (1, .int 0)] [] (0, 0) (xsI M a0 1 (xI M a1 1)) Q))) : xWp l g mX3_mirror 0 0 0 [(1, va_rf (some a0)), (1, va_rf r1), (0, .null)] [] (0, 0) M Q := by
  refine xr_aload_n 0 dX3_mirror_0 rfl rfl ?_
  refine xr_aload_n 1 dX3_mirror_1 rfl rfl ?_
  obtain ⟨a1, e2, h⟩ := h
  obtain ⟨t3, h⟩ := h
  refine yr_getI dX3_mirror_2 fl_RX3_18 e2 t3 ?_
  obtain ⟨t4, h⟩ := h
  refine yr_putI dX3_mirror_5 fp_RX3_18 rfl t4 ?_
  refine xr_iconst 0 dX3_mirror_8 (by decide) ?_
  refine zistore_n 2 dX3_mirror_9 rfl (L1 := [(1, va_rf (some a0)), (1, va_rf r1), (1, .int 0)]) (by decide) rfl ?_
  exact h
