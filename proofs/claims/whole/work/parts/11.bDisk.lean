/-! Decode rows and blocks: 11.bDisk -/
theorem dX0_init_0 : decode cX0_init 0 = .ok (.aload_n 0, 1) := by decide +kernel
theorem dX0_init_1 : decode cX0_init 1 = .ok (.invokespecial 3, 3) := by decide +kernel
theorem dX0_init_4 : decode cX0_init 4 = .ok (.aload_n 0, 1) := by decide +kernel
theorem dX0_init_5 : decode cX0_init 5 = .ok (.ldc 9, 2) := by decide +kernel
theorem dX0_init_7 : decode cX0_init 7 = .ok (.newarray .byte, 2) := by decide +kernel
theorem dX0_init_9 : decode cX0_init 9 = .ok (.putfield 10, 3) := by decide +kernel
theorem dX0_init_12 : decode cX0_init 12 = .ok (.aload_n 0, 1) := by decide +kernel
theorem dX0_init_13 : decode cX0_init 13 = .ok (.iconst (-1), 1) := by decide +kernel
theorem dX0_init_14 : decode cX0_init 14 = .ok (.putfield 16, 3) := by decide +kernel
theorem dX0_init_17 : decode cX0_init 17 = .ok (.aload_n 0, 1) := by decide +kernel
theorem dX0_init_18 : decode cX0_init 18 = .ok (.iconst 0, 1) := by decide +kernel
theorem dX0_init_19 : decode cX0_init 19 = .ok (.putfield 20, 3) := by decide +kernel
theorem dX0_init_22 : decode cX0_init 22 = .ok (.return_, 1) := by decide +kernel
set_option maxRecDepth 100000 in
set_option maxHeartbeats 4000000 in
theorem bX0_init_0 {l : Launch} {g : xG} {mc ms : Nat} (a0 : Nat) {M : xM} {Q : Option Value → xM → Prop} (h : ((0 + 1 ≤ mc ∧ 0 + 131072 ≤ ms) ∧ ∀ q4, q4 ∉ xL M → (xat (xnew M q4 8 131072) a0 0 ∧ (((0 + 1) ≤ mc ∧ (0 + 131072) ≤ ms) ∧ Q none (xsI (xsI (xsR (xnew M q4 8 131072) a0 0 (some q4)) a0 1 (-1)) a0 2 0))))) : xWp l g mX0_init mc ms 0 [(1, va_rf (some a0))] [] (0, 0) M Q := by
  refine xr_aload_n 0 dX0_init_0 rfl rfl ?_
  refine xr_obj dX0_init_1 ml_RX0_3 obj_inst obj_code (by decide) (by decide) ?_
  refine xr_aload_n 0 dX0_init_4 rfl rfl ?_
  refine xr_ldc 131072 dX0_init_5 ct_RX0_9 ?_
  obtain ⟨hm6, h⟩ := h
  refine xr_newa (kd := 8) (t := 0) (n := 131072) dX0_init_7 rfl arr_byte (fun _ => rfl) (by decide) (by decide) rfl (by decide) (by decide) (by decide) hm6 (fun q4 hq5 => ?_)
  replace h := h q4 hq5
  obtain ⟨t7, h⟩ := h
  refine yr_putRF dX0_init_9 rfl fp_RX0_10 (Or.inr ⟨_, rfl⟩) rfl t7 ?_
  refine xr_aload_n 0 dX0_init_12 rfl rfl ?_
  refine xr_iconst (-1) dX0_init_13 (by decide) ?_
  refine yr_putI dX0_init_14 fp_RX0_16 rfl t7 ?_
  refine xr_aload_n 0 dX0_init_17 rfl rfl ?_
  refine xr_iconst 0 dX0_init_18 (by decide) ?_
  refine yr_putI dX0_init_19 fp_RX0_20 rfl t7 ?_
  obtain ⟨hm8, h⟩ := h
  exact xr_ret hm8 (xRv rfl dX0_init_22) h
theorem dX0_has_0 : decode cX0_has 0 = .ok (.iload_n 0, 1) := by decide +kernel
theorem dX0_has_1 : decode cX0_has 1 = .ok (.ifCond .lt 25, 3) := by decide +kernel
theorem dX0_has_4 : decode cX0_has 4 = .ok (.iload_n 0, 1) := by decide +kernel
theorem dX0_has_5 : decode cX0_has 5 = .ok (.sipush 256, 3) := by decide +kernel
theorem dX0_has_8 : decode cX0_has 8 = .ok (.if_icmp .ge 18, 3) := by decide +kernel
theorem dX0_has_11 : decode cX0_has 11 = .ok (.iload_n 1, 1) := by decide +kernel
theorem dX0_has_12 : decode cX0_has 12 = .ok (.ifCond .lt 14, 3) := by decide +kernel
theorem dX0_has_15 : decode cX0_has 15 = .ok (.iload_n 1, 1) := by decide +kernel
theorem dX0_has_16 : decode cX0_has 16 = .ok (.sipush 512, 3) := by decide +kernel
theorem dX0_has_19 : decode cX0_has 19 = .ok (.if_icmp .ge 7, 3) := by decide +kernel
theorem dX0_has_22 : decode cX0_has 22 = .ok (.iconst 1, 1) := by decide +kernel
theorem dX0_has_23 : decode cX0_has 23 = .ok (.goto 4, 3) := by decide +kernel
theorem dX0_has_26 : decode cX0_has 26 = .ok (.iconst 0, 1) := by decide +kernel
theorem dX0_has_27 : decode cX0_has 27 = .ok (.ireturn, 1) := by decide +kernel
set_option maxRecDepth 100000 in
set_option maxHeartbeats 4000000 in
theorem bX0_has_0 {l : Launch} {g : xG} (x0 : Int32) (x1 : Int32) {M : xM} {Q : Option Value → xM → Prop} (h : ((x0 < 0 → (Q (some (.int 0)) M)) ∧ (¬ x0 < 0 → ((256 ≤ x0 → (Q (some (.int 0)) M)) ∧ (¬ 256 ≤ x0 → ((x1 < 0 → (Q (some (.int 0)) M)) ∧ (¬ x1 < 0 → ((512 ≤ x1 → (Q (some (.int 0)) M)) ∧ (¬ 512 ≤ x1 → (Q (some (.int 1)) M)))))))))) : xWp l g mX0_has 0 0 0 [(1, .int x0), (1, .int x1)] [] (0, 0) M Q := by
  refine xr_iload_n 0 dX0_has_0 rfl rfl ?_
  obtain ⟨ht, hf⟩ := h
  refine xr_if_lt 26 dX0_has_1 (by decide) (fun c4 => ?_) (fun c4 => ?_)
  · replace h := ht c4
    clear ht hf
    refine xr_iconst 0 dX0_has_26 (by decide) ?_
    exact xr_retv (by decide) (xRi rfl rfl dX0_has_27) h
  · replace h := hf c4
    clear ht hf
    refine xr_iload_n 0 dX0_has_4 rfl rfl ?_
    refine xr_sipush 256 dX0_has_5 (by decide) ?_
    obtain ⟨ht, hf⟩ := h
    refine xr_icmp_ge 26 dX0_has_8 (by decide) (fun c3 => ?_) (fun c3 => ?_)
    · replace h := ht c3
      clear ht hf
      refine xr_iconst 0 dX0_has_26 (by decide) ?_
      exact xr_retv (by decide) (xRi rfl rfl dX0_has_27) h
    · replace h := hf c3
      clear ht hf
      refine xr_iload_n 1 dX0_has_11 rfl rfl ?_
      obtain ⟨ht, hf⟩ := h
      refine xr_if_lt 26 dX0_has_12 (by decide) (fun c2 => ?_) (fun c2 => ?_)
      · replace h := ht c2
        clear ht hf
        refine xr_iconst 0 dX0_has_26 (by decide) ?_
        exact xr_retv (by decide) (xRi rfl rfl dX0_has_27) h
      · replace h := hf c2
        clear ht hf
        refine xr_iload_n 1 dX0_has_15 rfl rfl ?_
        refine xr_sipush 512 dX0_has_16 (by decide) ?_
        obtain ⟨ht, hf⟩ := h
        refine xr_icmp_ge 26 dX0_has_19 (by decide) (fun c1 => ?_) (fun c1 => ?_)
        · replace h := ht c1
          clear ht hf
          refine xr_iconst 0 dX0_has_26 (by decide) ?_
          exact xr_retv (by decide) (xRi rfl rfl dX0_has_27) h
        · replace h := hf c1
          clear ht hf
          refine xr_iconst 1 dX0_has_22 (by decide) ?_
          refine xr_goto 27 dX0_has_23 (by decide) ?_
          exact xr_retv (by decide) (xRi rfl rfl dX0_has_27) h
theorem dX0_byteAt_0 : decode cX0_byteAt 0 = .ok (.iload_n 1, 1) := by decide +kernel
theorem dX0_byteAt_1 : decode cX0_byteAt 1 = .ok (.iload_n 2, 1) := by decide +kernel
theorem dX0_byteAt_2 : decode cX0_byteAt 2 = .ok (.invokestatic 23, 3) := by decide +kernel
theorem dX0_byteAt_5 : decode cX0_byteAt 5 = .ok (.ifCond .eq 22, 3) := by decide +kernel
theorem dX0_byteAt_8 : decode cX0_byteAt 8 = .ok (.aload_n 0, 1) := by decide +kernel
theorem dX0_byteAt_9 : decode cX0_byteAt 9 = .ok (.getfield 10, 3) := by decide +kernel
theorem dX0_byteAt_12 : decode cX0_byteAt 12 = .ok (.iload_n 1, 1) := by decide +kernel
theorem dX0_byteAt_13 : decode cX0_byteAt 13 = .ok (.sipush 512, 3) := by decide +kernel
theorem dX0_byteAt_16 : decode cX0_byteAt 16 = .ok (.imul, 1) := by decide +kernel
theorem dX0_byteAt_17 : decode cX0_byteAt 17 = .ok (.iload_n 2, 1) := by decide +kernel
theorem dX0_byteAt_18 : decode cX0_byteAt 18 = .ok (.iadd, 1) := by decide +kernel
theorem dX0_byteAt_19 : decode cX0_byteAt 19 = .ok (.baload, 1) := by decide +kernel
theorem dX0_byteAt_20 : decode cX0_byteAt 20 = .ok (.sipush 255, 3) := by decide +kernel
theorem dX0_byteAt_23 : decode cX0_byteAt 23 = .ok (.iand, 1) := by decide +kernel
theorem dX0_byteAt_24 : decode cX0_byteAt 24 = .ok (.goto 4, 3) := by decide +kernel
theorem dX0_byteAt_27 : decode cX0_byteAt 27 = .ok (.iconst 0, 1) := by decide +kernel
theorem dX0_byteAt_28 : decode cX0_byteAt 28 = .ok (.ireturn, 1) := by decide +kernel
set_option maxRecDepth 100000 in
set_option maxHeartbeats 4000000 in
theorem bX0_byteAt_0 {l : Launch} {g : xG} (a0 : Nat) (x1 : Int32) (x2 : Int32) {M : xM} {Q : Option Value → xM → Prop} (h : (xSp l g mX0_has 0 0 [.int x1, .int x2] M (fun ρ3 M2 => ∃ v1 : Int32, ρ3 = some (.int v1) ∧ ((v1 = 0 → (Q (some (.int 0)) M2)) ∧ (¬ v1 = 0 → (xat M2 a0 0 ∧ (∃ a6, (xR M2 a0 0) = some a6 ∧ ∃ i8, xai M2 a6 8 ((x1 * 512) + x2) i8 ∧ (Q (some (.int ((xI M2 a6 i8) &&& 255))) M2)))))))) : xWp l g mX0_byteAt 0 0 0 [(1, va_rf (some a0)), (1, .int x1), (1, .int x2)] [] (0, 0) M Q := by
  refine xr_iload_n 1 dX0_byteAt_0 rfl rfl ?_
  refine xr_iload_n 2 dX0_byteAt_1 rfl rfl ?_
  refine xr_callS [.int x1, .int x2] dX0_byteAt_2 cs_X0_byteAt_23 rfl (Nat.le_trans wt_0 (by decide)) (by decide) (xSp.mono h ?_)
  clear h
  intro ρ3 M2 h
  obtain ⟨v1, rfl, h⟩ := h
  obtain ⟨ht, hf⟩ := h
  refine xr_if_eq 27 dX0_byteAt_5 (by decide) (fun c10 => ?_) (fun c10 => ?_)
  · replace h := ht c10
    clear ht hf
    refine xr_iconst 0 dX0_byteAt_27 (by decide) ?_
    exact xr_retv (by decide) (xRi rfl rfl dX0_byteAt_28) h
  · replace h := hf c10
    clear ht hf
    refine xr_aload_n 0 dX0_byteAt_8 rfl rfl ?_
    obtain ⟨t5, h⟩ := h
    refine yr_getR dX0_byteAt_9 fl_RX0_10 rfl t5 ?_
    refine xr_iload_n 1 dX0_byteAt_12 rfl rfl ?_
    refine xr_sipush 512 dX0_byteAt_13 (by decide) ?_
    refine xr_imul dX0_byteAt_16 ?_
    refine xr_iload_n 2 dX0_byteAt_17 rfl rfl ?_
    refine xr_iadd dX0_byteAt_18 ?_
    obtain ⟨a6, e7, h⟩ := h
    obtain ⟨i8, t9, h⟩ := h
    refine yr_bald dX0_byteAt_19 e7 t9 ?_
    refine xr_sipush 255 dX0_byteAt_20 (by decide) ?_
    refine xr_iand dX0_byteAt_23 ?_
    refine xr_goto 28 dX0_byteAt_24 (by decide) ?_
    exact xr_retv (by decide) (xRi rfl rfl dX0_byteAt_28) h
theorem dX0_setByte_0 : decode cX0_setByte 0 = .ok (.iload_n 1, 1) := by decide +kernel
theorem dX0_setByte_1 : decode cX0_setByte 1 = .ok (.iload_n 2, 1) := by decide +kernel
theorem dX0_setByte_2 : decode cX0_setByte 2 = .ok (.invokestatic 23, 3) := by decide +kernel
theorem dX0_setByte_5 : decode cX0_setByte 5 = .ok (.ifCond .eq 17, 3) := by decide +kernel
theorem dX0_setByte_8 : decode cX0_setByte 8 = .ok (.aload_n 0, 1) := by decide +kernel
theorem dX0_setByte_9 : decode cX0_setByte 9 = .ok (.getfield 10, 3) := by decide +kernel
theorem dX0_setByte_12 : decode cX0_setByte 12 = .ok (.iload_n 1, 1) := by decide +kernel
theorem dX0_setByte_13 : decode cX0_setByte 13 = .ok (.sipush 512, 3) := by decide +kernel
theorem dX0_setByte_16 : decode cX0_setByte 16 = .ok (.imul, 1) := by decide +kernel
theorem dX0_setByte_17 : decode cX0_setByte 17 = .ok (.iload_n 2, 1) := by decide +kernel
theorem dX0_setByte_18 : decode cX0_setByte 18 = .ok (.iadd, 1) := by decide +kernel
theorem dX0_setByte_19 : decode cX0_setByte 19 = .ok (.iload_n 3, 1) := by decide +kernel
theorem dX0_setByte_20 : decode cX0_setByte 20 = .ok (.i2b, 1) := by decide +kernel
theorem dX0_setByte_21 : decode cX0_setByte 21 = .ok (.bastore, 1) := by decide +kernel
theorem dX0_setByte_22 : decode cX0_setByte 22 = .ok (.return_, 1) := by decide +kernel
set_option maxRecDepth 100000 in
set_option maxHeartbeats 4000000 in
theorem bX0_setByte_0 {l : Launch} {g : xG} (a0 : Nat) (x1 : Int32) (x2 : Int32) (x3 : Int32) {M : xM} {Q : Option Value → xM → Prop} (h : (xSp l g mX0_has 0 0 [.int x1, .int x2] M (fun ρ3 M2 => ∃ v1 : Int32, ρ3 = some (.int v1) ∧ ((v1 = 0 → (Q none M2)) ∧ (¬ v1 = 0 → (xat M2 a0 0 ∧ (∃ a6, (xR M2 a0 0) = some a6 ∧ ∃ i8, xai M2 a6 8 ((x1 * 512) + x2) i8 ∧ (Q none (xsI M2 a6 i8 x3.toInt8.toInt32.toInt8.toInt32))))))))) : xWp l g mX0_setByte 0 0 0 [(1, va_rf (some a0)), (1, .int x1), (1, .int x2), (1, .int x3)] [] (0, 0) M Q := by
  refine xr_iload_n 1 dX0_setByte_0 rfl rfl ?_
  refine xr_iload_n 2 dX0_setByte_1 rfl rfl ?_
  refine xr_callS [.int x1, .int x2] dX0_setByte_2 cs_X0_setByte_23 rfl (Nat.le_trans wt_0 (by decide)) (by decide) (xSp.mono h ?_)
  clear h
  intro ρ3 M2 h
  obtain ⟨v1, rfl, h⟩ := h
  obtain ⟨ht, hf⟩ := h
  refine xr_if_eq 22 dX0_setByte_5 (by decide) (fun c10 => ?_) (fun c10 => ?_)
  · replace h := ht c10
    clear ht hf
    exact xr_ret (by decide) (xRv rfl dX0_setByte_22) h
  · replace h := hf c10
    clear ht hf
    refine xr_aload_n 0 dX0_setByte_8 rfl rfl ?_
    obtain ⟨t5, h⟩ := h
    refine yr_getR dX0_setByte_9 fl_RX0_10 rfl t5 ?_
    refine xr_iload_n 1 dX0_setByte_12 rfl rfl ?_
    refine xr_sipush 512 dX0_setByte_13 (by decide) ?_
    refine xr_imul dX0_setByte_16 ?_
    refine xr_iload_n 2 dX0_setByte_17 rfl rfl ?_
    refine xr_iadd dX0_setByte_18 ?_
    refine xr_iload_n 3 dX0_setByte_19 rfl rfl ?_
    refine xr_i2b dX0_setByte_20 ?_
    obtain ⟨a6, e7, h⟩ := h
    obtain ⟨i8, t9, h⟩ := h
    refine yr_bast dX0_setByte_21 e7 t9 ?_
    exact xr_ret (by decide) (xRv rfl dX0_setByte_22) h
theorem dX0_setPower_0 : decode cX0_setPower 0 = .ok (.aload_n 0, 1) := by decide +kernel
theorem dX0_setPower_1 : decode cX0_setPower 1 = .ok (.iload_n 1, 1) := by decide +kernel
theorem dX0_setPower_2 : decode cX0_setPower 2 = .ok (.putfield 16, 3) := by decide +kernel
theorem dX0_setPower_5 : decode cX0_setPower 5 = .ok (.aload_n 0, 1) := by decide +kernel
theorem dX0_setPower_6 : decode cX0_setPower 6 = .ok (.iload_n 2, 1) := by decide +kernel
theorem dX0_setPower_7 : decode cX0_setPower 7 = .ok (.putfield 20, 3) := by decide +kernel
theorem dX0_setPower_10 : decode cX0_setPower 10 = .ok (.return_, 1) := by decide +kernel
set_option maxRecDepth 100000 in
set_option maxHeartbeats 4000000 in
theorem bX0_setPower_0 {l : Launch} {g : xG} (a0 : Nat) (x1 : Int32) (x2 : Int32) {M : xM} {Q : Option Value → xM → Prop} (h : (xat M a0 0 ∧ (Q none (xsI (xsI M a0 1 x1) a0 2 x2)))) : xWp l g mX0_setPower 0 0 0 [(1, va_rf (some a0)), (1, .int x1), (1, .int x2)] [] (0, 0) M Q := by
  refine xr_aload_n 0 dX0_setPower_0 rfl rfl ?_
  refine xr_iload_n 1 dX0_setPower_1 rfl rfl ?_
  obtain ⟨t1, h⟩ := h
  refine yr_putI dX0_setPower_2 fp_RX0_16 rfl t1 ?_
  refine xr_aload_n 0 dX0_setPower_5 rfl rfl ?_
  refine xr_iload_n 2 dX0_setPower_6 rfl rfl ?_
  refine yr_putI dX0_setPower_7 fp_RX0_20 rfl t1 ?_
  exact xr_ret (by decide) (xRv rfl dX0_setPower_10) h
theorem dX0_read_0 : decode cX0_read 0 = .ok (.iload_n 1, 1) := by decide +kernel
theorem dX0_read_1 : decode cX0_read 1 = .ok (.iconst 0, 1) := by decide +kernel
theorem dX0_read_2 : decode cX0_read 2 = .ok (.invokestatic 23, 3) := by decide +kernel
theorem dX0_read_5 : decode cX0_read 5 = .ok (.ifCond .eq 23, 3) := by decide +kernel
theorem dX0_read_8 : decode cX0_read 8 = .ok (.aload_n 0, 1) := by decide +kernel
theorem dX0_read_9 : decode cX0_read 9 = .ok (.getfield 10, 3) := by decide +kernel
theorem dX0_read_12 : decode cX0_read 12 = .ok (.iload_n 1, 1) := by decide +kernel
theorem dX0_read_13 : decode cX0_read 13 = .ok (.sipush 512, 3) := by decide +kernel
theorem dX0_read_16 : decode cX0_read 16 = .ok (.imul, 1) := by decide +kernel
theorem dX0_read_17 : decode cX0_read 17 = .ok (.aload_n 2, 1) := by decide +kernel
theorem dX0_read_18 : decode cX0_read 18 = .ok (.getfield 27, 3) := by decide +kernel
theorem dX0_read_21 : decode cX0_read 21 = .ok (.iconst 0, 1) := by decide +kernel
theorem dX0_read_22 : decode cX0_read 22 = .ok (.sipush 512, 3) := by decide +kernel
theorem dX0_read_25 : decode cX0_read 25 = .ok (.invokestatic 30, 3) := by decide +kernel
theorem dX0_read_28 : decode cX0_read 28 = .ok (.return_, 1) := by decide +kernel
set_option maxRecDepth 100000 in
set_option maxHeartbeats 4000000 in
theorem bX0_read_0 {l : Launch} {g : xG} (a0 : Nat) (x1 : Int32) (r2 : Option Nat) {M : xM} {Q : Option Value → xM → Prop} (h : (xSp l g mX0_has 0 0 [.int x1, .int 0] M (fun ρ3 M2 => ∃ v1 : Int32, ρ3 = some (.int v1) ∧ ((v1 = 0 → (Q none M2)) ∧ (¬ v1 = 0 → (xat M2 a0 0 ∧ (∃ a6, r2 = some a6 ∧ xat M2 a6 2 ∧ (∃ a9, (xR M2 a6 0) = some a9 ∧ ∃ a11, (xR M2 a0 0) = some a11 ∧ ∃ n13 n14 n15, xat M2 a11 8 ∧ xat M2 a9 8 ∧ (x1 * 512) = nI n13 ∧ (0 : Int32) = nI n14 ∧ (512 : Int32) = nI n15 ∧ n13 < 2 ^ 31 ∧ n14 < 2 ^ 31 ∧ n15 < 2 ^ 31 ∧ n13 + n15 ≤ xN M2 a11 ∧ n14 + n15 ≤ xN M2 a9 ∧ (∀ j, j < n15 → fits .byte (.int (xI M2 a11 (n13 + j))) = true) ∧ (Q none (xcp M2 a11 a9 n13 n14 n15)))))))))) : xWp l g mX0_read 0 0 0 [(1, va_rf (some a0)), (1, .int x1), (1, va_rf r2)] [] (0, 0) M Q := by
  refine xr_iload_n 1 dX0_read_0 rfl rfl ?_
  refine xr_iconst 0 dX0_read_1 (by decide) ?_
  refine xr_callS [.int x1, .int 0] dX0_read_2 cs_X0_read_23 rfl (Nat.le_trans wt_0 (by decide)) (by decide) (xSp.mono h ?_)
  clear h
  intro ρ3 M2 h
  obtain ⟨v1, rfl, h⟩ := h
  obtain ⟨ht, hf⟩ := h
  refine xr_if_eq 28 dX0_read_5 (by decide) (fun c27 => ?_) (fun c27 => ?_)
  · replace h := ht c27
    clear ht hf
    exact xr_ret (by decide) (xRv rfl dX0_read_28) h
  · replace h := hf c27
    clear ht hf
    refine xr_aload_n 0 dX0_read_8 rfl rfl ?_
    obtain ⟨t5, h⟩ := h
    refine yr_getR dX0_read_9 fl_RX0_10 rfl t5 ?_
    refine xr_iload_n 1 dX0_read_12 rfl rfl ?_
    refine xr_sipush 512 dX0_read_13 (by decide) ?_
    refine xr_imul dX0_read_16 ?_
    refine xr_aload_n 2 dX0_read_17 rfl rfl ?_
    obtain ⟨a6, e7, h⟩ := h
    obtain ⟨t8, h⟩ := h
    refine yr_getN dX0_read_18 rfl lays5 e7 t8 ?_
    refine xr_iconst 0 dX0_read_21 (by decide) ?_
    refine xr_sipush 512 dX0_read_22 (by decide) ?_
    obtain ⟨a9, e10, h⟩ := h
    obtain ⟨a11, e12, h⟩ := h
    obtain ⟨n13, n14, n15, u16, u17, u18, u19, u20, u21, u22, u23, u24, u25, u26, h⟩ := h
    refine ycopy n13 n14 n15 dX0_read_25 ml_RX0_30 nat_copy stat_copy ini_System (by decide) (by decide) e12 e10 u16 u17 u18 u19 u20 u21 u22 u23 u24 u25 u26 ?_
    exact xr_ret (by decide) (xRv rfl dX0_read_28) h
theorem dX0_write_0 : decode cX0_write 0 = .ok (.aload_n 0, 1) := by decide +kernel
theorem dX0_write_1 : decode cX0_write 1 = .ok (.getfield 16, 3) := by decide +kernel
theorem dX0_write_4 : decode cX0_write 4 = .ok (.ifCond .ne 7, 3) := by decide +kernel
theorem dX0_write_7 : decode cX0_write 7 = .ok (.iconst 1, 1) := by decide +kernel
theorem dX0_write_8 : decode cX0_write 8 = .ok (.goto 4, 3) := by decide +kernel
theorem dX0_write_11 : decode cX0_write 11 = .ok (.iconst 0, 1) := by decide +kernel
theorem dX0_write_12 : decode cX0_write 12 = .ok (.istore_n 3, 1) := by decide +kernel
theorem dX0_write_13 : decode cX0_write 13 = .ok (.iload_n 1, 1) := by decide +kernel
theorem dX0_write_14 : decode cX0_write 14 = .ok (.iconst 0, 1) := by decide +kernel
theorem dX0_write_15 : decode cX0_write 15 = .ok (.invokestatic 23, 3) := by decide +kernel
theorem dX0_write_18 : decode cX0_write 18 = .ok (.ifCond .eq 34, 3) := by decide +kernel
theorem dX0_write_21 : decode cX0_write 21 = .ok (.aload_n 2, 1) := by decide +kernel
theorem dX0_write_22 : decode cX0_write 22 = .ok (.getfield 27, 3) := by decide +kernel
theorem dX0_write_25 : decode cX0_write 25 = .ok (.iconst 0, 1) := by decide +kernel
theorem dX0_write_26 : decode cX0_write 26 = .ok (.aload_n 0, 1) := by decide +kernel
theorem dX0_write_27 : decode cX0_write 27 = .ok (.getfield 10, 3) := by decide +kernel
theorem dX0_write_30 : decode cX0_write 30 = .ok (.iload_n 1, 1) := by decide +kernel
theorem dX0_write_31 : decode cX0_write 31 = .ok (.sipush 512, 3) := by decide +kernel
theorem dX0_write_34 : decode cX0_write 34 = .ok (.imul, 1) := by decide +kernel
theorem dX0_write_35 : decode cX0_write 35 = .ok (.iload_n 3, 1) := by decide +kernel
theorem dX0_write_36 : decode cX0_write 36 = .ok (.ifCond .eq 10, 3) := by decide +kernel
theorem dX0_write_39 : decode cX0_write 39 = .ok (.aload_n 0, 1) := by decide +kernel
theorem dX0_write_40 : decode cX0_write 40 = .ok (.getfield 20, 3) := by decide +kernel
theorem dX0_write_43 : decode cX0_write 43 = .ok (.goto 6, 3) := by decide +kernel
theorem dX0_write_46 : decode cX0_write 46 = .ok (.sipush 512, 3) := by decide +kernel
theorem dX0_write_49 : decode cX0_write 49 = .ok (.invokestatic 30, 3) := by decide +kernel
theorem dX0_write_52 : decode cX0_write 52 = .ok (.iload_n 3, 1) := by decide +kernel
theorem dX0_write_53 : decode cX0_write 53 = .ok (.ifCond .eq 12, 3) := by decide +kernel
theorem dX0_write_56 : decode cX0_write 56 = .ok (.aload_n 0, 1) := by decide +kernel
theorem dX0_write_57 : decode cX0_write 57 = .ok (.iload_n 1, 1) := by decide +kernel
theorem dX0_write_58 : decode cX0_write 58 = .ok (.iconst 0, 1) := by decide +kernel
theorem dX0_write_59 : decode cX0_write 59 = .ok (.sipush 255, 3) := by decide +kernel
theorem dX0_write_62 : decode cX0_write 62 = .ok (.invokevirtual 36, 3) := by decide +kernel
theorem dX0_write_65 : decode cX0_write 65 = .ok (.aload_n 0, 1) := by decide +kernel
theorem dX0_write_66 : decode cX0_write 66 = .ok (.getfield 16, 3) := by decide +kernel
theorem dX0_write_69 : decode cX0_write 69 = .ok (.iconst (-1), 1) := by decide +kernel
theorem dX0_write_70 : decode cX0_write 70 = .ok (.if_icmp .le 13, 3) := by decide +kernel
theorem dX0_write_73 : decode cX0_write 73 = .ok (.aload_n 0, 1) := by decide +kernel
theorem dX0_write_74 : decode cX0_write 74 = .ok (.dup, 1) := by decide +kernel
theorem dX0_write_75 : decode cX0_write 75 = .ok (.getfield 16, 3) := by decide +kernel
theorem dX0_write_78 : decode cX0_write 78 = .ok (.iconst 1, 1) := by decide +kernel
theorem dX0_write_79 : decode cX0_write 79 = .ok (.isub, 1) := by decide +kernel
theorem dX0_write_80 : decode cX0_write 80 = .ok (.putfield 16, 3) := by decide +kernel
theorem dX0_write_83 : decode cX0_write 83 = .ok (.iload_n 3, 1) := by decide +kernel
theorem dX0_write_84 : decode cX0_write 84 = .ok (.ifCond .ne 7, 3) := by decide +kernel
theorem dX0_write_87 : decode cX0_write 87 = .ok (.iconst 1, 1) := by decide +kernel
theorem dX0_write_88 : decode cX0_write 88 = .ok (.goto 4, 3) := by decide +kernel
theorem dX0_write_91 : decode cX0_write 91 = .ok (.iconst 0, 1) := by decide +kernel
theorem dX0_write_92 : decode cX0_write 92 = .ok (.ireturn, 1) := by decide +kernel
set_option maxRecDepth 100000 in
set_option maxHeartbeats 4000000 in
theorem bX0_write_52 {l : Launch} {g : xG} (a0 : Nat) (x1 : Int32) (r2 : Option Nat) (x3 : Int32) {M : xM} {Q : Option Value → xM → Prop} (h : ((x3 = 0 → (xat M a0 0 ∧ (((xI M a0 1) ≤ (-1) → ((¬ x3 = 0 → (Q (some (.int 0)) M)) ∧ (x3 = 0 → (Q (some (.int 1)) M)))) ∧ (¬ (xI M a0 1) ≤ (-1) → ((¬ x3 = 0 → (Q (some (.int 0)) (xsI M a0 1 ((xI M a0 1) - 1)))) ∧ (x3 = 0 → (Q (some (.int 1)) (xsI M a0 1 ((xI M a0 1) - 1))))))))) ∧ (¬ x3 = 0 → (xat M a0 0 ∧ xSp l g mX0_setByte 0 0 [va_rf (some a0), .int x1, .int 0, .int 255] M (fun ρ7 M6 => ρ7 = none ∧ (xat M6 a0 0 ∧ (((xI M6 a0 1) ≤ (-1) → ((¬ x3 = 0 → (Q (some (.int 0)) M6)) ∧ (x3 = 0 → (Q (some (.int 1)) M6)))) ∧ (¬ (xI M6 a0 1) ≤ (-1) → ((¬ x3 = 0 → (Q (some (.int 0)) (xsI M6 a0 1 ((xI M6 a0 1) - 1)))) ∧ (x3 = 0 → (Q (some (.int 1)) (xsI M6 a0 1 ((xI M6 a0 1) - 1))))))))))))) : xWp l g mX0_write 0 0 52 [(1, va_rf (some a0)), (1, .int x1), (1, va_rf r2), (1, .int x3)] [] (0, 0) M Q := by
  refine xr_iload_n 3 dX0_write_52 rfl rfl ?_
  obtain ⟨ht, hf⟩ := h
  refine xr_if_eq 65 dX0_write_53 (by decide) (fun c14 => ?_) (fun c14 => ?_)
  · replace h := ht c14
    clear ht hf
    refine xr_aload_n 0 dX0_write_65 rfl rfl ?_
    obtain ⟨t1, h⟩ := h
    refine yr_getI dX0_write_66 fl_RX0_16 rfl t1 ?_
    refine xr_iconst (-1) dX0_write_69 (by decide) ?_
    obtain ⟨ht, hf⟩ := h
    refine xr_icmp_le 83 dX0_write_70 (by decide) (fun c4 => ?_) (fun c4 => ?_)
    · replace h := ht c4
      clear ht hf
      refine xr_iload_n 3 dX0_write_83 rfl rfl ?_
      obtain ⟨ht, hf⟩ := h
      refine xr_if_ne 91 dX0_write_84 (by decide) (fun c2 => ?_) (fun c2 => ?_)
      · replace h := ht c2
        clear ht hf
        refine xr_iconst 0 dX0_write_91 (by decide) ?_
        exact xr_retv (by decide) (xRi rfl rfl dX0_write_92) h
      · replace h := hf c2
        clear ht hf
        refine xr_iconst 1 dX0_write_87 (by decide) ?_
        refine xr_goto 92 dX0_write_88 (by decide) ?_
        exact xr_retv (by decide) (xRi rfl rfl dX0_write_92) h
    · replace h := hf c4
      clear ht hf
      refine xr_aload_n 0 dX0_write_73 rfl rfl ?_
      refine xr_dup dX0_write_74 (va_rf_cat _) ?_
      refine yr_getI dX0_write_75 fl_RX0_16 rfl t1 ?_
      refine xr_iconst 1 dX0_write_78 (by decide) ?_
      refine xr_isub dX0_write_79 ?_
      refine yr_putI dX0_write_80 fp_RX0_16 rfl t1 ?_
      refine xr_iload_n 3 dX0_write_83 rfl rfl ?_
      obtain ⟨ht, hf⟩ := h
      refine xr_if_ne 91 dX0_write_84 (by decide) (fun c3 => ?_) (fun c3 => ?_)
      · replace h := ht c3
        clear ht hf
        refine xr_iconst 0 dX0_write_91 (by decide) ?_
        exact xr_retv (by decide) (xRi rfl rfl dX0_write_92) h
      · replace h := hf c3
        clear ht hf
        refine xr_iconst 1 dX0_write_87 (by decide) ?_
        refine xr_goto 92 dX0_write_88 (by decide) ?_
        exact xr_retv (by decide) (xRi rfl rfl dX0_write_92) h
  · replace h := hf c14
    clear ht hf
    refine xr_aload_n 0 dX0_write_56 rfl rfl ?_
    refine xr_iload_n 1 dX0_write_57 rfl rfl ?_
    refine xr_iconst 0 dX0_write_58 (by decide) ?_
    refine xr_sipush 255 dX0_write_59 (by decide) ?_
    obtain ⟨t9, h⟩ := h
    refine yr_callV (r := (some a0)) [.int x1, .int 0, .int 255] dX0_write_62 cv_X0_write_36 rfl t9 rfl (Nat.le_trans wt_0 (by decide)) (by decide) (xSp.mono h ?_)
    clear h
    intro ρ7 M6 h
    obtain ⟨rfl, h⟩ := h
    refine xr_aload_n 0 dX0_write_65 rfl rfl ?_
    obtain ⟨t10, h⟩ := h
    refine yr_getI dX0_write_66 fl_RX0_16 rfl t10 ?_
    refine xr_iconst (-1) dX0_write_69 (by decide) ?_
    obtain ⟨ht, hf⟩ := h
    refine xr_icmp_le 83 dX0_write_70 (by decide) (fun c13 => ?_) (fun c13 => ?_)
    · replace h := ht c13
      clear ht hf
      refine xr_iload_n 3 dX0_write_83 rfl rfl ?_
      obtain ⟨ht, hf⟩ := h
      refine xr_if_ne 91 dX0_write_84 (by decide) (fun c11 => ?_) (fun c11 => ?_)
      · replace h := ht c11
        clear ht hf
        refine xr_iconst 0 dX0_write_91 (by decide) ?_
        exact xr_retv (by decide) (xRi rfl rfl dX0_write_92) h
      · replace h := hf c11
        clear ht hf
        refine xr_iconst 1 dX0_write_87 (by decide) ?_
        refine xr_goto 92 dX0_write_88 (by decide) ?_
        exact xr_retv (by decide) (xRi rfl rfl dX0_write_92) h
    · replace h := hf c13
      clear ht hf
      refine xr_aload_n 0 dX0_write_73 rfl rfl ?_
      refine xr_dup dX0_write_74 (va_rf_cat _) ?_
      refine yr_getI dX0_write_75 fl_RX0_16 rfl t10 ?_
      refine xr_iconst 1 dX0_write_78 (by decide) ?_
      refine xr_isub dX0_write_79 ?_
      refine yr_putI dX0_write_80 fp_RX0_16 rfl t10 ?_
      refine xr_iload_n 3 dX0_write_83 rfl rfl ?_
      obtain ⟨ht, hf⟩ := h
      refine xr_if_ne 91 dX0_write_84 (by decide) (fun c12 => ?_) (fun c12 => ?_)
      · replace h := ht c12
        clear ht hf
        refine xr_iconst 0 dX0_write_91 (by decide) ?_
        exact xr_retv (by decide) (xRi rfl rfl dX0_write_92) h
      · replace h := hf c12
        clear ht hf
        refine xr_iconst 1 dX0_write_87 (by decide) ?_
        refine xr_goto 92 dX0_write_88 (by decide) ?_
        exact xr_retv (by decide) (xRi rfl rfl dX0_write_92) h
set_option maxRecDepth 100000 in
set_option maxHeartbeats 4000000 in
theorem bX0_write_12 {l : Launch} {g : xG} (a0 : Nat) (x1 : Int32) (r2 : Option Nat) (w3 : Value) (sx0 : Int32) {M : xM} {Q : Option Value → xM → Prop} (h : (xSp l g mX0_has 0 0 [.int x1, .int 0] M (fun ρ3 M2 => ∃ v1 : Int32, ρ3 = some (.int v1) ∧ ((v1 = 0 → xWp l g mX0_write 0 0 52 [(1, va_rf (some a0)), (1, .int x1), (1, va_rf r2), (1, .int sx0)] [] (0, 0) M2 Q) ∧ (¬ v1 = 0 → (∃ a5, r2 = some a5 ∧ xat M2 a5 2 ∧ (xat M2 a0 0 ∧ ((sx0 = 0 → (∃ a9, (xR M2 a0 0) = some a9 ∧ ∃ a11, (xR M2 a5 0) = some a11 ∧ ∃ n13 n14 n15, xat M2 a11 8 ∧ xat M2 a9 8 ∧ (0 : Int32) = nI n13 ∧ (x1 * 512) = nI n14 ∧ (512 : Int32) = nI n15 ∧ n13 < 2 ^ 31 ∧ n14 < 2 ^ 31 ∧ n15 < 2 ^ 31 ∧ n13 + n15 ≤ xN M2 a11 ∧ n14 + n15 ≤ xN M2 a9 ∧ (∀ j, j < n15 → fits .byte (.int (xI M2 a11 (n13 + j))) = true) ∧ xWp l g mX0_write 0 0 52 [(1, va_rf (some a0)), (1, .int x1), (1, va_rf r2), (1, .int sx0)] [] (0, 0) (xcp M2 a11 a9 n13 n14 n15) Q)) ∧ (¬ sx0 = 0 → (∃ a27, (xR M2 a0 0) = some a27 ∧ ∃ a29, (xR M2 a5 0) = some a29 ∧ ∃ n31 n32 n33, xat M2 a29 8 ∧ xat M2 a27 8 ∧ (0 : Int32) = nI n31 ∧ (x1 * 512) = nI n32 ∧ (xI M2 a0 2) = nI n33 ∧ n31 < 2 ^ 31 ∧ n32 < 2 ^ 31 ∧ n33 < 2 ^ 31 ∧ n31 + n33 ≤ xN M2 a29 ∧ n32 + n33 ≤ xN M2 a27 ∧ (∀ j, j < n33 → fits .byte (.int (xI M2 a29 (n31 + j))) = true) ∧ xWp l g mX0_write 0 0 52 [(1, va_rf (some a0)), (1, .int x1), (1, va_rf r2), (1, .int sx0)] [] (0, 0) (xcp M2 a29 a27 n31 n32 n33) Q)))))))))) : xWp l g mX0_write 0 0 12 [(1, va_rf (some a0)), (1, .int x1), (1, va_rf r2), (0, w3)] [.int sx0] (0, 0) M Q := by
  refine zistore_n 3 dX0_write_12 rfl (L1 := [(1, va_rf (some a0)), (1, .int x1), (1, va_rf r2), (1, .int sx0)]) (by decide) rfl ?_
  refine xr_iload_n 1 dX0_write_13 rfl rfl ?_
  refine xr_iconst 0 dX0_write_14 (by decide) ?_
  refine xr_callS [.int x1, .int 0] dX0_write_15 cs_X0_write_23 rfl (Nat.le_trans wt_0 (by decide)) (by decide) (xSp.mono h ?_)
  clear h
  intro ρ3 M2 h
  obtain ⟨v1, rfl, h⟩ := h
  obtain ⟨ht, hf⟩ := h
  refine xr_if_eq 52 dX0_write_18 (by decide) (fun c46 => ?_) (fun c46 => ?_)
  · replace h := ht c46
    clear ht hf
    exact h
  · replace h := hf c46
    clear ht hf
    refine xr_aload_n 2 dX0_write_21 rfl rfl ?_
    obtain ⟨a5, e6, h⟩ := h
    obtain ⟨t7, h⟩ := h
    refine yr_getN dX0_write_22 rfl lays5 e6 t7 ?_
    refine xr_iconst 0 dX0_write_25 (by decide) ?_
    refine xr_aload_n 0 dX0_write_26 rfl rfl ?_
    obtain ⟨t8, h⟩ := h
    refine yr_getR dX0_write_27 fl_RX0_10 rfl t8 ?_
    refine xr_iload_n 1 dX0_write_30 rfl rfl ?_
    refine xr_sipush 512 dX0_write_31 (by decide) ?_
    refine xr_imul dX0_write_34 ?_
    refine xr_iload_n 3 dX0_write_35 rfl rfl ?_
    obtain ⟨ht, hf⟩ := h
    refine xr_if_eq 46 dX0_write_36 (by decide) (fun c45 => ?_) (fun c45 => ?_)
    · replace h := ht c45
      clear ht hf
      refine xr_sipush 512 dX0_write_46 (by decide) ?_
      obtain ⟨a9, e10, h⟩ := h
      obtain ⟨a11, e12, h⟩ := h
      obtain ⟨n13, n14, n15, u16, u17, u18, u19, u20, u21, u22, u23, u24, u25, u26, h⟩ := h
      refine ycopy n13 n14 n15 dX0_write_49 ml_RX0_30 nat_copy stat_copy ini_System (by decide) (by decide) e12 e10 u16 u17 u18 u19 u20 u21 u22 u23 u24 u25 u26 ?_
      exact h
    · replace h := hf c45
      clear ht hf
      refine xr_aload_n 0 dX0_write_39 rfl rfl ?_
      refine yr_getI dX0_write_40 fl_RX0_20 rfl t8 ?_
      refine xr_goto 49 dX0_write_43 (by decide) ?_
      obtain ⟨a27, e28, h⟩ := h
      obtain ⟨a29, e30, h⟩ := h
      obtain ⟨n31, n32, n33, u34, u35, u36, u37, u38, u39, u40, u41, u42, u43, u44, h⟩ := h
      refine ycopy n31 n32 n33 dX0_write_49 ml_RX0_30 nat_copy stat_copy ini_System (by decide) (by decide) e30 e28 u34 u35 u36 u37 u38 u39 u40 u41 u42 u43 u44 ?_
      exact h
set_option maxRecDepth 100000 in
set_option maxHeartbeats 4000000 in
theorem bX0_write_0 {l : Launch} {g : xG} (a0 : Nat) (x1 : Int32) (r2 : Option Nat) {M : xM} {Q : Option Value → xM → Prop} (h : (xat M a0 0 ∧ ((¬ (xI M a0 1) = 0 → xWp l g mX0_write 0 0 12 [(1, va_rf (some a0)), (1, .int x1), (1, va_rf r2), (0, .null)] [.int 0] (0, 0) M Q) ∧ ((xI M a0 1) = 0 → xWp l g mX0_write 0 0 12 [(1, va_rf (some a0)), (1, .int x1), (1, va_rf r2), (0, .null)] [.int 1] (0, 0) M Q)))) : xWp l g mX0_write 0 0 0 [(1, va_rf (some a0)), (1, .int x1), (1, va_rf r2), (0, .null)] [] (0, 0) M Q := by
  refine xr_aload_n 0 dX0_write_0 rfl rfl ?_
  obtain ⟨t1, h⟩ := h
  refine yr_getI dX0_write_1 fl_RX0_16 rfl t1 ?_
  obtain ⟨ht, hf⟩ := h
  refine xr_if_ne 11 dX0_write_4 (by decide) (fun c2 => ?_) (fun c2 => ?_)
  · replace h := ht c2
    clear ht hf
    refine xr_iconst 0 dX0_write_11 (by decide) ?_
    exact h
  · replace h := hf c2
    clear ht hf
    refine xr_iconst 1 dX0_write_7 (by decide) ?_
    refine xr_goto 12 dX0_write_8 (by decide) ?_
    exact h
