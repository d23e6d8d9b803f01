/-! Decode rows and blocks: 13.bRow -/
theorem dX5_init_0 : decode cX5_init 0 = .ok (.aload_n 0, 1) := by decide +kernel
theorem dX5_init_1 : decode cX5_init 1 = .ok (.invokespecial 3, 3) := by decide +kernel
theorem dX5_init_4 : decode cX5_init 4 = .ok (.aload_n 0, 1) := by decide +kernel
theorem dX5_init_5 : decode cX5_init 5 = .ok (.sipush 512, 3) := by decide +kernel
theorem dX5_init_8 : decode cX5_init 8 = .ok (.newarray .byte, 2) := by decide +kernel
theorem dX5_init_10 : decode cX5_init 10 = .ok (.putfield 9, 3) := by decide +kernel
theorem dX5_init_13 : decode cX5_init 13 = .ok (.return_, 1) := by decide +kernel
set_option maxRecDepth 100000 in
set_option maxHeartbeats 4000000 in
theorem bX5_init_0 {l : Launch} {g : xG} {mc ms : Nat} (a0 : Nat) {M : xM} {Q : Option Value → xM → Prop} (h : ((0 + 1 ≤ mc ∧ 0 + 512 ≤ ms) ∧ ∀ q4, q4 ∉ xL M → (xat (xnew M q4 8 512) a0 2 ∧ (((0 + 1) ≤ mc ∧ (0 + 512) ≤ ms) ∧ Q none (xsR (xnew M q4 8 512) a0 0 (some q4)))))) : xWp l g mX5_init mc ms 0 [(1, va_rf (some a0))] [] (0, 0) M Q := by
  refine xr_aload_n 0 dX5_init_0 rfl rfl ?_
  refine xr_obj dX5_init_1 ml_RX5_3 obj_inst obj_code (by decide) (by decide) ?_
  refine xr_aload_n 0 dX5_init_4 rfl rfl ?_
  refine xr_sipush 512 dX5_init_5 (by decide) ?_
  obtain ⟨hm6, h⟩ := h
  refine xr_newa (kd := 8) (t := 0) (n := 512) dX5_init_8 rfl arr_byte (fun _ => rfl) (by decide) (by decide) rfl (by decide) (by decide) (by decide) hm6 (fun q4 hq5 => ?_)
  replace h := h q4 hq5
  obtain ⟨t7, h⟩ := h
  refine yr_putRF dX5_init_10 rfl fp_RX5_9 (Or.inr ⟨_, rfl⟩) rfl t7 ?_
  obtain ⟨hm8, h⟩ := h
  exact xr_ret hm8 (xRv rfl dX5_init_13) h
theorem dX5_at_0 : decode cX5_at 0 = .ok (.iload_n 1, 1) := by decide +kernel
theorem dX5_at_1 : decode cX5_at 1 = .ok (.ifCond .lt 25, 3) := by decide +kernel
theorem dX5_at_4 : decode cX5_at 4 = .ok (.iload_n 1, 1) := by decide +kernel
theorem dX5_at_5 : decode cX5_at 5 = .ok (.aload_n 0, 1) := by decide +kernel
theorem dX5_at_6 : decode cX5_at 6 = .ok (.getfield 9, 3) := by decide +kernel
theorem dX5_at_9 : decode cX5_at 9 = .ok (.arraylength, 1) := by decide +kernel
theorem dX5_at_10 : decode cX5_at 10 = .ok (.if_icmp .ge 16, 3) := by decide +kernel
theorem dX5_at_13 : decode cX5_at 13 = .ok (.aload_n 0, 1) := by decide +kernel
theorem dX5_at_14 : decode cX5_at 14 = .ok (.getfield 9, 3) := by decide +kernel
theorem dX5_at_17 : decode cX5_at 17 = .ok (.iload_n 1, 1) := by decide +kernel
theorem dX5_at_18 : decode cX5_at 18 = .ok (.baload, 1) := by decide +kernel
theorem dX5_at_19 : decode cX5_at 19 = .ok (.sipush 255, 3) := by decide +kernel
theorem dX5_at_22 : decode cX5_at 22 = .ok (.iand, 1) := by decide +kernel
theorem dX5_at_23 : decode cX5_at 23 = .ok (.goto 4, 3) := by decide +kernel
theorem dX5_at_26 : decode cX5_at 26 = .ok (.iconst 0, 1) := by decide +kernel
theorem dX5_at_27 : decode cX5_at 27 = .ok (.ireturn, 1) := by decide +kernel
set_option maxRecDepth 100000 in
set_option maxHeartbeats 4000000 in
theorem bX5_at_0 {l : Launch} {g : xG} (a0 : Nat) (x1 : Int32) {M : xM} {Q : Option Value → xM → Prop} (h : ((x1 < 0 → (Q (some (.int 0)) M)) ∧ (¬ x1 < 0 → (xat M a0 2 ∧ (∃ a2, (xR M a0 0) = some a2 ∧ xat M a2 8 ∧ (((nI (xN M a2)) ≤ x1 → (Q (some (.int 0)) M)) ∧ (¬ (nI (xN M a2)) ≤ x1 → (∃ i5, xai M a2 8 x1 i5 ∧ (Q (some (.int ((xI M a2 i5) &&& 255))) M))))))))) : xWp l g mX5_at 0 0 0 [(1, va_rf (some a0)), (1, .int x1)] [] (0, 0) M Q := by
  refine xr_iload_n 1 dX5_at_0 rfl rfl ?_
  obtain ⟨ht, hf⟩ := h
  refine xr_if_lt 26 dX5_at_1 (by decide) (fun c8 => ?_) (fun c8 => ?_)
  · replace h := ht c8
    clear ht hf
    refine xr_iconst 0 dX5_at_26 (by decide) ?_
    exact xr_retv (by decide) (xRi rfl rfl dX5_at_27) h
  · replace h := hf c8
    clear ht hf
    refine xr_iload_n 1 dX5_at_4 rfl rfl ?_
    refine xr_aload_n 0 dX5_at_5 rfl rfl ?_
    obtain ⟨t1, h⟩ := h
    refine yr_getR dX5_at_6 fl_RX5_9 rfl t1 ?_
    obtain ⟨a2, e3, h⟩ := h
    obtain ⟨t4, h⟩ := h
    refine yr_alen8 dX5_at_9 e3 t4 ?_
    obtain ⟨ht, hf⟩ := h
    refine xr_icmp_ge 26 dX5_at_10 (by decide) (fun c7 => ?_) (fun c7 => ?_)
    · replace h := ht c7
      clear ht hf
      refine xr_iconst 0 dX5_at_26 (by decide) ?_
      exact xr_retv (by decide) (xRi rfl rfl dX5_at_27) h
    · replace h := hf c7
      clear ht hf
      refine xr_aload_n 0 dX5_at_13 rfl rfl ?_
      refine yr_getR dX5_at_14 fl_RX5_9 rfl t1 ?_
      refine xr_iload_n 1 dX5_at_17 rfl rfl ?_
      obtain ⟨i5, t6, h⟩ := h
      refine yr_bald dX5_at_18 e3 t6 ?_
      refine xr_sipush 255 dX5_at_19 (by decide) ?_
      refine xr_iand dX5_at_22 ?_
      refine xr_goto 27 dX5_at_23 (by decide) ?_
      exact xr_retv (by decide) (xRi rfl rfl dX5_at_27) h
theorem dX5_set_0 : decode cX5_set 0 = .ok (.iload_n 1, 1) := by decide +kernel
theorem dX5_set_1 : decode cX5_set 1 = .ok (.ifCond .lt 20, 3) := by decide +kernel
theorem dX5_set_4 : decode cX5_set 4 = .ok (.iload_n 1, 1) := by decide +kernel
theorem dX5_set_5 : decode cX5_set 5 = .ok (.aload_n 0, 1) := by decide +kernel
theorem dX5_set_6 : decode cX5_set 6 = .ok (.getfield 9, 3) := by decide +kernel
theorem dX5_set_9 : decode cX5_set 9 = .ok (.arraylength, 1) := by decide +kernel
theorem dX5_set_10 : decode cX5_set 10 = .ok (.if_icmp .ge 11, 3) := by decide +kernel
theorem dX5_set_13 : decode cX5_set 13 = .ok (.aload_n 0, 1) := by decide +kernel
theorem dX5_set_14 : decode cX5_set 14 = .ok (.getfield 9, 3) := by decide +kernel
theorem dX5_set_17 : decode cX5_set 17 = .ok (.iload_n 1, 1) := by decide +kernel
theorem dX5_set_18 : decode cX5_set 18 = .ok (.iload_n 2, 1) := by decide +kernel
theorem dX5_set_19 : decode cX5_set 19 = .ok (.i2b, 1) := by decide +kernel
theorem dX5_set_20 : decode cX5_set 20 = .ok (.bastore, 1) := by decide +kernel
theorem dX5_set_21 : decode cX5_set 21 = .ok (.return_, 1) := by decide +kernel
set_option maxRecDepth 100000 in
set_option maxHeartbeats 4000000 in
theorem bX5_set_0 {l : Launch} {g : xG} (a0 : Nat) (x1 : Int32) (x2 : Int32) {M : xM} {Q : Option Value → xM → Prop} (h : ((x1 < 0 → (Q none M)) ∧ (¬ x1 < 0 → (xat M a0 2 ∧ (∃ a2, (xR M a0 0) = some a2 ∧ xat M a2 8 ∧ (((nI (xN M a2)) ≤ x1 → (Q none M)) ∧ (¬ (nI (xN M a2)) ≤ x1 → (∃ i5, xai M a2 8 x1 i5 ∧ (Q none (xsI M a2 i5 x2.toInt8.toInt32.toInt8.toInt32)))))))))) : xWp l g mX5_set 0 0 0 [(1, va_rf (some a0)), (1, .int x1), (1, .int x2)] [] (0, 0) M Q := by
  refine xr_iload_n 1 dX5_set_0 rfl rfl ?_
  obtain ⟨ht, hf⟩ := h
  refine xr_if_lt 21 dX5_set_1 (by decide) (fun c8 => ?_) (fun c8 => ?_)
  · replace h := ht c8
    clear ht hf
    exact xr_ret (by decide) (xRv rfl dX5_set_21) h
  · replace h := hf c8
    clear ht hf
    refine xr_iload_n 1 dX5_set_4 rfl rfl ?_
    refine xr_aload_n 0 dX5_set_5 rfl rfl ?_
    obtain ⟨t1, h⟩ := h
    refine yr_getR dX5_set_6 fl_RX5_9 rfl t1 ?_
    obtain ⟨a2, e3, h⟩ := h
    obtain ⟨t4, h⟩ := h
    refine yr_alen8 dX5_set_9 e3 t4 ?_
    obtain ⟨ht, hf⟩ := h
    refine xr_icmp_ge 21 dX5_set_10 (by decide) (fun c7 => ?_) (fun c7 => ?_)
    · replace h := ht c7
      clear ht hf
      exact xr_ret (by decide) (xRv rfl dX5_set_21) h
    · replace h := hf c7
      clear ht hf
      refine xr_aload_n 0 dX5_set_13 rfl rfl ?_
      refine yr_getR dX5_set_14 fl_RX5_9 rfl t1 ?_
      refine xr_iload_n 1 dX5_set_17 rfl rfl ?_
      refine xr_iload_n 2 dX5_set_18 rfl rfl ?_
      refine xr_i2b dX5_set_19 ?_
      obtain ⟨i5, t6, h⟩ := h
      refine yr_bast dX5_set_20 e3 t6 ?_
      exact xr_ret (by decide) (xRv rfl dX5_set_21) h
theorem dX5_longAt_0 : decode cX5_longAt 0 = .ok (.lconst 0, 1) := by decide +kernel
theorem dX5_longAt_1 : decode cX5_longAt 1 = .ok (.lstore_n 2, 1) := by decide +kernel
theorem dX5_longAt_2 : decode cX5_longAt 2 = .ok (.iconst 0, 1) := by decide +kernel
theorem dX5_longAt_3 : decode cX5_longAt 3 = .ok (.istore 4, 2) := by decide +kernel
theorem dX5_longAt_5 : decode cX5_longAt 5 = .ok (.iload 4, 2) := by decide +kernel
theorem dX5_longAt_7 : decode cX5_longAt 7 = .ok (.bipush 8, 2) := by decide +kernel
theorem dX5_longAt_9 : decode cX5_longAt 9 = .ok (.if_icmp .ge 24, 3) := by decide +kernel
theorem dX5_longAt_12 : decode cX5_longAt 12 = .ok (.lload_n 2, 1) := by decide +kernel
theorem dX5_longAt_13 : decode cX5_longAt 13 = .ok (.bipush 8, 2) := by decide +kernel
theorem dX5_longAt_15 : decode cX5_longAt 15 = .ok (.lshl, 1) := by decide +kernel
theorem dX5_longAt_16 : decode cX5_longAt 16 = .ok (.aload_n 0, 1) := by decide +kernel
theorem dX5_longAt_17 : decode cX5_longAt 17 = .ok (.iload_n 1, 1) := by decide +kernel
theorem dX5_longAt_18 : decode cX5_longAt 18 = .ok (.iload 4, 2) := by decide +kernel
theorem dX5_longAt_20 : decode cX5_longAt 20 = .ok (.iadd, 1) := by decide +kernel
theorem dX5_longAt_21 : decode cX5_longAt 21 = .ok (.invokevirtual 15, 3) := by decide +kernel
theorem dX5_longAt_24 : decode cX5_longAt 24 = .ok (.i2l, 1) := by decide +kernel
theorem dX5_longAt_25 : decode cX5_longAt 25 = .ok (.lor, 1) := by decide +kernel
theorem dX5_longAt_26 : decode cX5_longAt 26 = .ok (.lstore_n 2, 1) := by decide +kernel
theorem dX5_longAt_27 : decode cX5_longAt 27 = .ok (.iinc 4 1, 3) := by decide +kernel
theorem dX5_longAt_30 : decode cX5_longAt 30 = .ok (.goto (-25), 3) := by decide +kernel
theorem dX5_longAt_33 : decode cX5_longAt 33 = .ok (.lload_n 2, 1) := by decide +kernel
theorem dX5_longAt_34 : decode cX5_longAt 34 = .ok (.lreturn, 1) := by decide +kernel
set_option maxRecDepth 100000 in
set_option maxHeartbeats 4000000 in
theorem bX5_longAt_5 {l : Launch} {g : xG} (a0 : Nat) (x1 : Int32) (j2 : Int64) (w3 : Value) (x4 : Int32) {M : xM} {Q : Option Value → xM → Prop} (h : ((8 ≤ x4 → (Q (some (.long j2)) M)) ∧ (¬ 8 ≤ x4 → (xat M a0 2 ∧ xSp l g mX5_at 0 0 [va_rf (some a0), .int (x1 + x4)] M (fun ρ3 M2 => ∃ v1 : Int32, ρ3 = some (.int v1) ∧ xWp l g mX5_longAt 0 0 5 [(1, va_rf (some a0)), (1, .int x1), (2, .long ((j2 <<< ((8 : Int32).toInt64 &&& 63)) ||| v1.toInt64)), (0, (.long ((j2 <<< ((8 : Int32).toInt64 &&& 63)) ||| v1.toInt64))), (1, .int (x4 + 1))] [] (0, 0) M2 Q))))) : xWp l g mX5_longAt 0 0 5 [(1, va_rf (some a0)), (1, .int x1), (2, .long j2), (0, w3), (1, .int x4)] [] (0, 0) M Q := by
  refine xr_iload dX5_longAt_5 rfl ?_
  refine xr_bipush 8 dX5_longAt_7 (by decide) ?_
  obtain ⟨ht, hf⟩ := h
  refine xr_icmp_ge 33 dX5_longAt_9 (by decide) (fun c6 => ?_) (fun c6 => ?_)
  · replace h := ht c6
    clear ht hf
    refine xr_lload_n 2 dX5_longAt_33 rfl rfl ?_
    exact xr_retv (by decide) (xRl rfl dX5_longAt_34) h
  · replace h := hf c6
    clear ht hf
    refine xr_lload_n 2 dX5_longAt_12 rfl rfl ?_
    refine xr_bipush 8 dX5_longAt_13 (by decide) ?_
    refine xr_lshl dX5_longAt_15 ?_
    refine xr_aload_n 0 dX5_longAt_16 rfl rfl ?_
    refine xr_iload_n 1 dX5_longAt_17 rfl rfl ?_
    refine xr_iload dX5_longAt_18 rfl ?_
    refine xr_iadd dX5_longAt_20 ?_
    obtain ⟨t5, h⟩ := h
    refine yr_callV (r := (some a0)) [.int (x1 + x4)] dX5_longAt_21 cv_X5_longAt_15 rfl t5 rfl (Nat.le_trans (wt_j wt_0) (by decide)) (by decide) (xSp.mono h ?_)
    clear h
    intro ρ3 M2 h
    obtain ⟨v1, rfl, h⟩ := h
    refine xr_i2l dX5_longAt_24 ?_
    refine xr_lor dX5_longAt_25 ?_
    refine zlstore_n 2 dX5_longAt_26 rfl (L1 := [(1, va_rf (some a0)), (1, .int x1), (2, .long ((j2 <<< ((8 : Int32).toInt64 &&& 63)) ||| v1.toInt64)), (0, (.long ((j2 <<< ((8 : Int32).toInt64 &&& 63)) ||| v1.toInt64))), (1, .int x4)]) (by decide) rfl ?_
    refine ziinc (x4 + 1) dX5_longAt_27 rfl rfl (L1 := [(1, va_rf (some a0)), (1, .int x1), (2, .long ((j2 <<< ((8 : Int32).toInt64 &&& 63)) ||| v1.toInt64)), (0, (.long ((j2 <<< ((8 : Int32).toInt64 &&& 63)) ||| v1.toInt64))), (1, .int (x4 + 1))]) (by decide) rfl ?_
    refine xr_goto 5 dX5_longAt_30 (by decide) ?_
    exact h
set_option maxRecDepth 100000 in
set_option maxHeartbeats 4000000 in
theorem bX5_longAt_0 {l : Launch} {g : xG} (a0 : Nat) (x1 : Int32) {M : xM} {Q : Option Value → xM → Prop} (h : xWp l g mX5_longAt 0 0 5 [(1, va_rf (some a0)), (1, .int x1), (2, .long 0), (0, (.long 0)), (1, .int 0)] [] (0, 0) M Q) : xWp l g mX5_longAt 0 0 0 [(1, va_rf (some a0)), (1, .int x1), (0, .null), (0, .null), (0, .null)] [] (0, 0) M Q := by
  refine xr_lconst 0 dX5_longAt_0 (by decide) ?_
  refine zlstore_n 2 dX5_longAt_1 rfl (L1 := [(1, va_rf (some a0)), (1, .int x1), (2, .long 0), (0, (.long 0)), (0, .null)]) (by decide) rfl ?_
  refine xr_iconst 0 dX5_longAt_2 (by decide) ?_
  refine zistore dX5_longAt_3 (L1 := [(1, va_rf (some a0)), (1, .int x1), (2, .long 0), (0, (.long 0)), (1, .int 0)]) (by decide) rfl ?_
  exact h
theorem dX5_setLong_0 : decode cX5_setLong 0 = .ok (.iload_n 1, 1) := by decide +kernel
theorem dX5_setLong_1 : decode cX5_setLong 1 = .ok (.ifCond .lt 15, 3) := by decide +kernel
theorem dX5_setLong_4 : decode cX5_setLong 4 = .ok (.iload_n 1, 1) := by decide +kernel
theorem dX5_setLong_5 : decode cX5_setLong 5 = .ok (.aload_n 0, 1) := by decide +kernel
theorem dX5_setLong_6 : decode cX5_setLong 6 = .ok (.getfield 9, 3) := by decide +kernel
theorem dX5_setLong_9 : decode cX5_setLong 9 = .ok (.arraylength, 1) := by decide +kernel
theorem dX5_setLong_10 : decode cX5_setLong 10 = .ok (.bipush 8, 2) := by decide +kernel
theorem dX5_setLong_12 : decode cX5_setLong 12 = .ok (.isub, 1) := by decide +kernel
theorem dX5_setLong_13 : decode cX5_setLong 13 = .ok (.if_icmp .le 4, 3) := by decide +kernel
theorem dX5_setLong_16 : decode cX5_setLong 16 = .ok (.return_, 1) := by decide +kernel
theorem dX5_setLong_17 : decode cX5_setLong 17 = .ok (.iconst 0, 1) := by decide +kernel
theorem dX5_setLong_18 : decode cX5_setLong 18 = .ok (.istore 4, 2) := by decide +kernel
theorem dX5_setLong_20 : decode cX5_setLong 20 = .ok (.iload 4, 2) := by decide +kernel
theorem dX5_setLong_22 : decode cX5_setLong 22 = .ok (.bipush 8, 2) := by decide +kernel
theorem dX5_setLong_24 : decode cX5_setLong 24 = .ok (.if_icmp .ge 30, 3) := by decide +kernel
theorem dX5_setLong_27 : decode cX5_setLong 27 = .ok (.aload_n 0, 1) := by decide +kernel
theorem dX5_setLong_28 : decode cX5_setLong 28 = .ok (.getfield 9, 3) := by decide +kernel
theorem dX5_setLong_31 : decode cX5_setLong 31 = .ok (.iload_n 1, 1) := by decide +kernel
theorem dX5_setLong_32 : decode cX5_setLong 32 = .ok (.iload 4, 2) := by decide +kernel
theorem dX5_setLong_34 : decode cX5_setLong 34 = .ok (.iadd, 1) := by decide +kernel
theorem dX5_setLong_35 : decode cX5_setLong 35 = .ok (.lload_n 2, 1) := by decide +kernel
theorem dX5_setLong_36 : decode cX5_setLong 36 = .ok (.bipush 8, 2) := by decide +kernel
theorem dX5_setLong_38 : decode cX5_setLong 38 = .ok (.bipush 7, 2) := by decide +kernel
theorem dX5_setLong_40 : decode cX5_setLong 40 = .ok (.iload 4, 2) := by decide +kernel
theorem dX5_setLong_42 : decode cX5_setLong 42 = .ok (.isub, 1) := by decide +kernel
theorem dX5_setLong_43 : decode cX5_setLong 43 = .ok (.imul, 1) := by decide +kernel
theorem dX5_setLong_44 : decode cX5_setLong 44 = .ok (.lushr, 1) := by decide +kernel
theorem dX5_setLong_45 : decode cX5_setLong 45 = .ok (.l2i, 1) := by decide +kernel
theorem dX5_setLong_46 : decode cX5_setLong 46 = .ok (.i2b, 1) := by decide +kernel
theorem dX5_setLong_47 : decode cX5_setLong 47 = .ok (.bastore, 1) := by decide +kernel
theorem dX5_setLong_48 : decode cX5_setLong 48 = .ok (.iinc 4 1, 3) := by decide +kernel
theorem dX5_setLong_51 : decode cX5_setLong 51 = .ok (.goto (-31), 3) := by decide +kernel
theorem dX5_setLong_54 : decode cX5_setLong 54 = .ok (.return_, 1) := by decide +kernel
set_option maxRecDepth 100000 in
set_option maxHeartbeats 4000000 in
theorem bX5_setLong_20 {l : Launch} {g : xG} (a0 : Nat) (x1 : Int32) (j2 : Int64) (w3 : Value) (x4 : Int32) {M : xM} {Q : Option Value → xM → Prop} (h : ((8 ≤ x4 → (Q none M)) ∧ (¬ 8 ≤ x4 → (xat M a0 2 ∧ (∃ a2, (xR M a0 0) = some a2 ∧ ∃ i4, xai M a2 8 (x1 + x4) i4 ∧ xWp l g mX5_setLong 0 0 20 [(1, va_rf (some a0)), (1, .int x1), (2, .long j2), (0, w3), (1, .int (x4 + 1))] [] (0, 0) (xsI M a2 i4 (j2.toUInt64 >>> ((8 * (7 - x4)).toInt64.toUInt64 &&& Int64.toUInt64 63)).toInt64.toInt32.toInt8.toInt32.toInt8.toInt32) Q))))) : xWp l g mX5_setLong 0 0 20 [(1, va_rf (some a0)), (1, .int x1), (2, .long j2), (0, w3), (1, .int x4)] [] (0, 0) M Q := by
  refine xr_iload dX5_setLong_20 rfl ?_
  refine xr_bipush 8 dX5_setLong_22 (by decide) ?_
  obtain ⟨ht, hf⟩ := h
  refine xr_icmp_ge 54 dX5_setLong_24 (by decide) (fun c6 => ?_) (fun c6 => ?_)
  · replace h := ht c6
    clear ht hf
    exact xr_ret (by decide) (xRv rfl dX5_setLong_54) h
  · replace h := hf c6
    clear ht hf
    refine xr_aload_n 0 dX5_setLong_27 rfl rfl ?_
    obtain ⟨t1, h⟩ := h
    refine yr_getR dX5_setLong_28 fl_RX5_9 rfl t1 ?_
    refine xr_iload_n 1 dX5_setLong_31 rfl rfl ?_
    refine xr_iload dX5_setLong_32 rfl ?_
    refine xr_iadd dX5_setLong_34 ?_
    refine xr_lload_n 2 dX5_setLong_35 rfl rfl ?_
    refine xr_bipush 8 dX5_setLong_36 (by decide) ?_
    refine xr_bipush 7 dX5_setLong_38 (by decide) ?_
    refine xr_iload dX5_setLong_40 rfl ?_
    refine xr_isub dX5_setLong_42 ?_
    refine xr_imul dX5_setLong_43 ?_
    refine xr_lushr dX5_setLong_44 ?_
    refine xr_l2i dX5_setLong_45 ?_
    refine xr_i2b dX5_setLong_46 ?_
    obtain ⟨a2, e3, h⟩ := h
    obtain ⟨i4, t5, h⟩ := h
    refine yr_bast dX5_setLong_47 e3 t5 ?_
    refine ziinc (x4 + 1) dX5_setLong_48 rfl rfl (L1 := [(1, va_rf (some a0)), (1, .int x1), (2, .long j2), (0, w3), (1, .int (x4 + 1))]) (by decide) rfl ?_
    refine xr_goto 20 dX5_setLong_51 (by decide) ?_
    exact h
set_option maxRecDepth 100000 in
set_option maxHeartbeats 4000000 in
theorem bX5_setLong_0 {l : Launch} {g : xG} (a0 : Nat) (x1 : Int32) (j2 : Int64) {M : xM} {Q : Option Value → xM → Prop} (h : ((x1 < 0 → (Q none M)) ∧ (¬ x1 < 0 → (xat M a0 2 ∧ (∃ a2, (xR M a0 0) = some a2 ∧ xat M a2 8 ∧ ((x1 ≤ ((nI (xN M a2)) - 8) → xWp l g mX5_setLong 0 0 20 [(1, va_rf (some a0)), (1, .int x1), (2, .long j2), (0, .null), (1, .int 0)] [] (0, 0) M Q) ∧ (¬ x1 ≤ ((nI (xN M a2)) - 8) → (Q none M)))))))) : xWp l g mX5_setLong 0 0 0 [(1, va_rf (some a0)), (1, .int x1), (2, .long j2), (0, .null), (0, .null)] [] (0, 0) M Q := by
  refine xr_iload_n 1 dX5_setLong_0 rfl rfl ?_
  obtain ⟨ht, hf⟩ := h
  refine xr_if_lt 16 dX5_setLong_1 (by decide) (fun c6 => ?_) (fun c6 => ?_)
  · replace h := ht c6
    clear ht hf
    exact xr_ret (by decide) (xRv rfl dX5_setLong_16) h
  · replace h := hf c6
    clear ht hf
    refine xr_iload_n 1 dX5_setLong_4 rfl rfl ?_
    refine xr_aload_n 0 dX5_setLong_5 rfl rfl ?_
    obtain ⟨t1, h⟩ := h
    refine yr_getR dX5_setLong_6 fl_RX5_9 rfl t1 ?_
    obtain ⟨a2, e3, h⟩ := h
    obtain ⟨t4, h⟩ := h
    refine yr_alen8 dX5_setLong_9 e3 t4 ?_
    refine xr_bipush 8 dX5_setLong_10 (by decide) ?_
    refine xr_isub dX5_setLong_12 ?_
    obtain ⟨ht, hf⟩ := h
    refine xr_icmp_le 17 dX5_setLong_13 (by decide) (fun c5 => ?_) (fun c5 => ?_)
    · replace h := ht c5
      clear ht hf
      refine xr_iconst 0 dX5_setLong_17 (by decide) ?_
      refine zistore dX5_setLong_18 (L1 := [(1, va_rf (some a0)), (1, .int x1), (2, .long j2), (0, .null), (1, .int 0)]) (by decide) rfl ?_
      exact h
    · replace h := hf c5
      clear ht hf
      exact xr_ret (by decide) (xRv rfl dX5_setLong_16) h
theorem dX5_wipe_0 : decode cX5_wipe 0 = .ok (.iconst 0, 1) := by decide +kernel
theorem dX5_wipe_1 : decode cX5_wipe 1 = .ok (.istore_n 1, 1) := by decide +kernel
theorem dX5_wipe_2 : decode cX5_wipe 2 = .ok (.iload_n 1, 1) := by decide +kernel
theorem dX5_wipe_3 : decode cX5_wipe 3 = .ok (.aload_n 0, 1) := by decide +kernel
theorem dX5_wipe_4 : decode cX5_wipe 4 = .ok (.getfield 9, 3) := by decide +kernel
theorem dX5_wipe_7 : decode cX5_wipe 7 = .ok (.arraylength, 1) := by decide +kernel
theorem dX5_wipe_8 : decode cX5_wipe 8 = .ok (.if_icmp .ge 16, 3) := by decide +kernel
theorem dX5_wipe_11 : decode cX5_wipe 11 = .ok (.aload_n 0, 1) := by decide +kernel
theorem dX5_wipe_12 : decode cX5_wipe 12 = .ok (.getfield 9, 3) := by decide +kernel
theorem dX5_wipe_15 : decode cX5_wipe 15 = .ok (.iload_n 1, 1) := by decide +kernel
theorem dX5_wipe_16 : decode cX5_wipe 16 = .ok (.iconst 0, 1) := by decide +kernel
theorem dX5_wipe_17 : decode cX5_wipe 17 = .ok (.bastore, 1) := by decide +kernel
theorem dX5_wipe_18 : decode cX5_wipe 18 = .ok (.iinc 1 1, 3) := by decide +kernel
theorem dX5_wipe_21 : decode cX5_wipe 21 = .ok (.goto (-19), 3) := by decide +kernel
theorem dX5_wipe_24 : decode cX5_wipe 24 = .ok (.return_, 1) := by decide +kernel
set_option maxRecDepth 100000 in
set_option maxHeartbeats 4000000 in
theorem bX5_wipe_2 {l : Launch} {g : xG} (a0 : Nat) (x1 : Int32) {M : xM} {Q : Option Value → xM → Prop} (h : (xat M a0 2 ∧ (∃ a2, (xR M a0 0) = some a2 ∧ xat M a2 8 ∧ (((nI (xN M a2)) ≤ x1 → (Q none M)) ∧ (¬ (nI (xN M a2)) ≤ x1 → (∃ i5, xai M a2 8 x1 i5 ∧ xWp l g mX5_wipe 0 0 2 [(1, va_rf (some a0)), (1, .int (x1 + 1))] [] (0, 0) (xsI M a2 i5 (0 : Int32).toInt8.toInt32) Q)))))) : xWp l g mX5_wipe 0 0 2 [(1, va_rf (some a0)), (1, .int x1)] [] (0, 0) M Q := by
  refine xr_iload_n 1 dX5_wipe_2 rfl rfl ?_
  refine xr_aload_n 0 dX5_wipe_3 rfl rfl ?_
  obtain ⟨t1, h⟩ := h
  refine yr_getR dX5_wipe_4 fl_RX5_9 rfl t1 ?_
  obtain ⟨a2, e3, h⟩ := h
  obtain ⟨t4, h⟩ := h
  refine yr_alen8 dX5_wipe_7 e3 t4 ?_
  obtain ⟨ht, hf⟩ := h
  refine xr_icmp_ge 24 dX5_wipe_8 (by decide) (fun c7 => ?_) (fun c7 => ?_)
  · replace h := ht c7
    clear ht hf
    exact xr_ret (by decide) (xRv rfl dX5_wipe_24) h
  · replace h := hf c7
    clear ht hf
    refine xr_aload_n 0 dX5_wipe_11 rfl rfl ?_
    refine yr_getR dX5_wipe_12 fl_RX5_9 rfl t1 ?_
    refine xr_iload_n 1 dX5_wipe_15 rfl rfl ?_
    refine xr_iconst 0 dX5_wipe_16 (by decide) ?_
    obtain ⟨i5, t6, h⟩ := h
    refine yr_bast dX5_wipe_17 e3 t6 ?_
    refine ziinc (x1 + 1) dX5_wipe_18 rfl rfl (L1 := [(1, va_rf (some a0)), (1, .int (x1 + 1))]) (by decide) rfl ?_
    refine xr_goto 2 dX5_wipe_21 (by decide) ?_
    exact h
set_option maxRecDepth 100000 in
set_option maxHeartbeats 4000000 in
theorem bX5_wipe_0 {l : Launch} {g : xG} (a0 : Nat) {M : xM} {Q : Option Value → xM → Prop} (h : xWp l g mX5_wipe 0 0 2 [(1, va_rf (some a0)), (1, .int 0)] [] (0, 0) M Q) : xWp l g mX5_wipe 0 0 0 [(1, va_rf (some a0)), (0, .null)] [] (0, 0) M Q := by
  refine xr_iconst 0 dX5_wipe_0 (by decide) ?_
  refine zistore_n 1 dX5_wipe_1 rfl (L1 := [(1, va_rf (some a0)), (1, .int 0)]) (by decide) rfl ?_
  exact h
theorem dX5_seal_0 : decode cX5_seal 0 = .ok (.lconst 0, 1) := by decide +kernel
theorem dX5_seal_1 : decode cX5_seal 1 = .ok (.lstore_n 1, 1) := by decide +kernel
theorem dX5_seal_2 : decode cX5_seal 2 = .ok (.iconst 0, 1) := by decide +kernel
theorem dX5_seal_3 : decode cX5_seal 3 = .ok (.istore_n 3, 1) := by decide +kernel
theorem dX5_seal_4 : decode cX5_seal 4 = .ok (.iload_n 3, 1) := by decide +kernel
theorem dX5_seal_5 : decode cX5_seal 5 = .ok (.sipush 504, 3) := by decide +kernel
theorem dX5_seal_8 : decode cX5_seal 8 = .ok (.if_icmp .ge 49, 3) := by decide +kernel
theorem dX5_seal_11 : decode cX5_seal 11 = .ok (.iload_n 3, 1) := by decide +kernel
theorem dX5_seal_12 : decode cX5_seal 12 = .ok (.aload_n 0, 1) := by decide +kernel
theorem dX5_seal_13 : decode cX5_seal 13 = .ok (.getfield 9, 3) := by decide +kernel
theorem dX5_seal_16 : decode cX5_seal 16 = .ok (.arraylength, 1) := by decide +kernel
theorem dX5_seal_17 : decode cX5_seal 17 = .ok (.if_icmp .ge 40, 3) := by decide +kernel
theorem dX5_seal_20 : decode cX5_seal 20 = .ok (.lload_n 1, 1) := by decide +kernel
theorem dX5_seal_21 : decode cX5_seal 21 = .ok (.aload_n 0, 1) := by decide +kernel
theorem dX5_seal_22 : decode cX5_seal 22 = .ok (.getfield 9, 3) := by decide +kernel
theorem dX5_seal_25 : decode cX5_seal 25 = .ok (.iload_n 3, 1) := by decide +kernel
theorem dX5_seal_26 : decode cX5_seal 26 = .ok (.baload, 1) := by decide +kernel
theorem dX5_seal_27 : decode cX5_seal 27 = .ok (.sipush 255, 3) := by decide +kernel
theorem dX5_seal_30 : decode cX5_seal 30 = .ok (.iand, 1) := by decide +kernel
theorem dX5_seal_31 : decode cX5_seal 31 = .ok (.i2l, 1) := by decide +kernel
theorem dX5_seal_32 : decode cX5_seal 32 = .ok (.lxor, 1) := by decide +kernel
theorem dX5_seal_33 : decode cX5_seal 33 = .ok (.ldc2_w 19, 3) := by decide +kernel
theorem dX5_seal_36 : decode cX5_seal 36 = .ok (.lmul, 1) := by decide +kernel
theorem dX5_seal_37 : decode cX5_seal 37 = .ok (.lstore 4, 2) := by decide +kernel
theorem dX5_seal_39 : decode cX5_seal 39 = .ok (.lload 4, 2) := by decide +kernel
theorem dX5_seal_41 : decode cX5_seal 41 = .ok (.bipush 9, 2) := by decide +kernel
theorem dX5_seal_43 : decode cX5_seal 43 = .ok (.lshl, 1) := by decide +kernel
theorem dX5_seal_44 : decode cX5_seal 44 = .ok (.lload 4, 2) := by decide +kernel
theorem dX5_seal_46 : decode cX5_seal 46 = .ok (.bipush 55, 2) := by decide +kernel
theorem dX5_seal_48 : decode cX5_seal 48 = .ok (.lushr, 1) := by decide +kernel
theorem dX5_seal_49 : decode cX5_seal 49 = .ok (.lor, 1) := by decide +kernel
theorem dX5_seal_50 : decode cX5_seal 50 = .ok (.lstore_n 1, 1) := by decide +kernel
theorem dX5_seal_51 : decode cX5_seal 51 = .ok (.iinc 3 1, 3) := by decide +kernel
theorem dX5_seal_54 : decode cX5_seal 54 = .ok (.goto (-50), 3) := by decide +kernel
theorem dX5_seal_57 : decode cX5_seal 57 = .ok (.aload_n 0, 1) := by decide +kernel
theorem dX5_seal_58 : decode cX5_seal 58 = .ok (.sipush 504, 3) := by decide +kernel
theorem dX5_seal_61 : decode cX5_seal 61 = .ok (.lload_n 1, 1) := by decide +kernel
theorem dX5_seal_62 : decode cX5_seal 62 = .ok (.invokevirtual 21, 3) := by decide +kernel
theorem dX5_seal_65 : decode cX5_seal 65 = .ok (.return_, 1) := by decide +kernel
set_option maxRecDepth 100000 in
set_option maxHeartbeats 4000000 in
theorem bX5_seal_4 {l : Launch} {g : xG} (a0 : Nat) (j1 : Int64) (w2 : Value) (x3 : Int32) (w4 : Value) (w5 : Value) {M : xM} {Q : Option Value → xM → Prop} (h : ((504 ≤ x3 → (xat M a0 2 ∧ xSp l g mX5_setLong 0 0 [va_rf (some a0), .int 504, .long j1] M (fun ρ3 M2 => ρ3 = none ∧ (Q none M2)))) ∧ (¬ 504 ≤ x3 → (xat M a0 2 ∧ (∃ a7, (xR M a0 0) = some a7 ∧ xat M a7 8 ∧ (((nI (xN M a7)) ≤ x3 → (xSp l g mX5_setLong 0 0 [va_rf (some a0), .int 504, .long j1] M (fun ρ12 M11 => ρ12 = none ∧ (Q none M11)))) ∧ (¬ (nI (xN M a7)) ≤ x3 → (∃ i14, xai M a7 8 x3 i14 ∧ xWp l g mX5_seal 0 0 4 [(1, va_rf (some a0)), (2, .long ((((j1 ^^^ ((xI M a7 i14) &&& 255).toInt64) * 1099511628211) <<< ((9 : Int32).toInt64 &&& 63)) ||| (((j1 ^^^ ((xI M a7 i14) &&& 255).toInt64) * 1099511628211).toUInt64 >>> ((55 : Int32).toInt64.toUInt64 &&& Int64.toUInt64 63)).toInt64)), (0, (.long ((((j1 ^^^ ((xI M a7 i14) &&& 255).toInt64) * 1099511628211) <<< ((9 : Int32).toInt64 &&& 63)) ||| (((j1 ^^^ ((xI M a7 i14) &&& 255).toInt64) * 1099511628211).toUInt64 >>> ((55 : Int32).toInt64.toUInt64 &&& Int64.toUInt64 63)).toInt64))), (1, .int (x3 + 1)), (2, .long ((j1 ^^^ ((xI M a7 i14) &&& 255).toInt64) * 1099511628211)), (0, (.long ((j1 ^^^ ((xI M a7 i14) &&& 255).toInt64) * 1099511628211)))] [] (0, 0) M Q)))))))) : xWp l g mX5_seal 0 0 4 [(1, va_rf (some a0)), (2, .long j1), (0, w2), (1, .int x3), (0, w4), (0, w5)] [] (0, 0) M Q := by
  refine xr_iload_n 3 dX5_seal_4 rfl rfl ?_
  refine xr_sipush 504 dX5_seal_5 (by decide) ?_
  obtain ⟨ht, hf⟩ := h
  refine xr_icmp_ge 57 dX5_seal_8 (by decide) (fun c17 => ?_) (fun c17 => ?_)
  · replace h := ht c17
    clear ht hf
    refine xr_aload_n 0 dX5_seal_57 rfl rfl ?_
    refine xr_sipush 504 dX5_seal_58 (by decide) ?_
    refine xr_lload_n 1 dX5_seal_61 rfl rfl ?_
    obtain ⟨t5, h⟩ := h
    refine yr_callV (r := (some a0)) [.int 504, .long j1] dX5_seal_62 cv_X5_seal_21 rfl t5 rfl (Nat.le_trans wt_0 (by decide)) (by decide) (xSp.mono h ?_)
    clear h
    intro ρ3 M2 h
    obtain ⟨rfl, h⟩ := h
    exact xr_ret (by decide) (xRv rfl dX5_seal_65) h
  · replace h := hf c17
    clear ht hf
    refine xr_iload_n 3 dX5_seal_11 rfl rfl ?_
    refine xr_aload_n 0 dX5_seal_12 rfl rfl ?_
    obtain ⟨t6, h⟩ := h
    refine yr_getR dX5_seal_13 fl_RX5_9 rfl t6 ?_
    obtain ⟨a7, e8, h⟩ := h
    obtain ⟨t9, h⟩ := h
    refine yr_alen8 dX5_seal_16 e8 t9 ?_
    obtain ⟨ht, hf⟩ := h
    refine xr_icmp_ge 57 dX5_seal_17 (by decide) (fun c16 => ?_) (fun c16 => ?_)
    · replace h := ht c16
      clear ht hf
      refine xr_aload_n 0 dX5_seal_57 rfl rfl ?_
      refine xr_sipush 504 dX5_seal_58 (by decide) ?_
      refine xr_lload_n 1 dX5_seal_61 rfl rfl ?_
      refine yr_callV (r := (some a0)) [.int 504, .long j1] dX5_seal_62 cv_X5_seal_21 rfl t6 rfl (Nat.le_trans wt_0 (by decide)) (by decide) (xSp.mono h ?_)
      clear h
      intro ρ12 M11 h
      obtain ⟨rfl, h⟩ := h
      exact xr_ret (by decide) (xRv rfl dX5_seal_65) h
    · replace h := hf c16
      clear ht hf
      refine xr_lload_n 1 dX5_seal_20 rfl rfl ?_
      refine xr_aload_n 0 dX5_seal_21 rfl rfl ?_
      refine yr_getR dX5_seal_22 fl_RX5_9 rfl t6 ?_
      refine xr_iload_n 3 dX5_seal_25 rfl rfl ?_
      obtain ⟨i14, t15, h⟩ := h
      refine yr_bald dX5_seal_26 e8 t15 ?_
      refine xr_sipush 255 dX5_seal_27 (by decide) ?_
      refine xr_iand dX5_seal_30 ?_
      refine xr_i2l dX5_seal_31 ?_
      refine xr_lxor dX5_seal_32 ?_
      refine xr_ldc2 1099511628211 dX5_seal_33 ct_RX5_19 ?_
      refine xr_lmul dX5_seal_36 ?_
      refine zlstore dX5_seal_37 (L1 := [(1, va_rf (some a0)), (2, .long j1), (0, w2), (1, .int x3), (2, .long ((j1 ^^^ ((xI M a7 i14) &&& 255).toInt64) * 1099511628211)), (0, (.long ((j1 ^^^ ((xI M a7 i14) &&& 255).toInt64) * 1099511628211)))]) (by decide) rfl ?_
      refine xr_lload dX5_seal_39 rfl ?_
      refine xr_bipush 9 dX5_seal_41 (by decide) ?_
      refine xr_lshl dX5_seal_43 ?_
      refine xr_lload dX5_seal_44 rfl ?_
      refine xr_bipush 55 dX5_seal_46 (by decide) ?_
      refine xr_lushr dX5_seal_48 ?_
      refine xr_lor dX5_seal_49 ?_
      refine zlstore_n 1 dX5_seal_50 rfl (L1 := [(1, va_rf (some a0)), (2, .long ((((j1 ^^^ ((xI M a7 i14) &&& 255).toInt64) * 1099511628211) <<< ((9 : Int32).toInt64 &&& 63)) ||| (((j1 ^^^ ((xI M a7 i14) &&& 255).toInt64) * 1099511628211).toUInt64 >>> ((55 : Int32).toInt64.toUInt64 &&& Int64.toUInt64 63)).toInt64)), (0, (.long ((((j1 ^^^ ((xI M a7 i14) &&& 255).toInt64) * 1099511628211) <<< ((9 : Int32).toInt64 &&& 63)) ||| (((j1 ^^^ ((xI M a7 i14) &&& 255).toInt64) * 1099511628211).toUInt64 >>> ((55 : Int32).toInt64.toUInt64 &&& Int64.toUInt64 63)).toInt64))), (1, .int x3), (2, .long ((j1 ^^^ ((xI M a7 i14) &&& 255).toInt64) * 1099511628211)), (0, (.long ((j1 ^^^ ((xI M a7 i14) &&& 255).toInt64) * 1099511628211)))]) (by decide) rfl ?_
      refine ziinc (x3 + 1) dX5_seal_51 rfl rfl (L1 := [(1, va_rf (some a0)), (2, .long ((((j1 ^^^ ((xI M a7 i14) &&& 255).toInt64) * 1099511628211) <<< ((9 : Int32).toInt64 &&& 63)) ||| (((j1 ^^^ ((xI M a7 i14) &&& 255).toInt64) * 1099511628211).toUInt64 >>> ((55 : Int32).toInt64.toUInt64 &&& Int64.toUInt64 63)).toInt64)), (0, (.long ((((j1 ^^^ ((xI M a7 i14) &&& 255).toInt64) * 1099511628211) <<< ((9 : Int32).toInt64 &&& 63)) ||| (((j1 ^^^ ((xI M a7 i14) &&& 255).toInt64) * 1099511628211).toUInt64 >>> ((55 : Int32).toInt64.toUInt64 &&& Int64.toUInt64 63)).toInt64))), (1, .int (x3 + 1)), (2, .long ((j1 ^^^ ((xI M a7 i14) &&& 255).toInt64) * 1099511628211)), (0, (.long ((j1 ^^^ ((xI M a7 i14) &&& 255).toInt64) * 1099511628211)))]) (by decide) rfl ?_
      refine xr_goto 4 dX5_seal_54 (by decide) ?_
      exact h
set_option maxRecDepth 100000 in
set_option maxHeartbeats 4000000 in
theorem bX5_seal_0 {l : Launch} {g : xG} (a0 : Nat) {M : xM} {Q : Option Value → xM → Prop} (h : xWp l g mX5_seal 0 0 4 [(1, va_rf (some a0)), (2, .long 0), (0, (.long 0)), (1, .int 0), (0, .null), (0, .null)] [] (0, 0) M Q) : xWp l g mX5_seal 0 0 0 [(1, va_rf (some a0)), (0, .null), (0, .null), (0, .null), (0, .null), (0, .null)] [] (0, 0) M Q := by
  refine xr_lconst 0 dX5_seal_0 (by decide) ?_
  refine zlstore_n 1 dX5_seal_1 rfl (L1 := [(1, va_rf (some a0)), (2, .long 0), (0, (.long 0)), (0, .null), (0, .null), (0, .null)]) (by decide) rfl ?_
  refine xr_iconst 0 dX5_seal_2 (by decide) ?_
  refine zistore_n 3 dX5_seal_3 rfl (L1 := [(1, va_rf (some a0)), (2, .long 0), (0, (.long 0)), (1, .int 0), (0, .null), (0, .null)]) (by decide) rfl ?_
  exact h
theorem dX5_same_0 : decode cX5_same 0 = .ok (.iconst 0, 1) := by decide +kernel
theorem dX5_same_1 : decode cX5_same 1 = .ok (.istore_n 2, 1) := by decide +kernel
theorem dX5_same_2 : decode cX5_same 2 = .ok (.iload_n 2, 1) := by decide +kernel
theorem dX5_same_3 : decode cX5_same 3 = .ok (.aload_n 0, 1) := by decide +kernel
theorem dX5_same_4 : decode cX5_same 4 = .ok (.getfield 9, 3) := by decide +kernel
theorem dX5_same_7 : decode cX5_same 7 = .ok (.arraylength, 1) := by decide +kernel
theorem dX5_same_8 : decode cX5_same 8 = .ok (.if_icmp .ge 35, 3) := by decide +kernel
theorem dX5_same_11 : decode cX5_same 11 = .ok (.iload_n 2, 1) := by decide +kernel
theorem dX5_same_12 : decode cX5_same 12 = .ok (.aload_n 1, 1) := by decide +kernel
theorem dX5_same_13 : decode cX5_same 13 = .ok (.getfield 9, 3) := by decide +kernel
theorem dX5_same_16 : decode cX5_same 16 = .ok (.arraylength, 1) := by decide +kernel
theorem dX5_same_17 : decode cX5_same 17 = .ok (.if_icmp .ge 26, 3) := by decide +kernel
theorem dX5_same_20 : decode cX5_same 20 = .ok (.aload_n 0, 1) := by decide +kernel
theorem dX5_same_21 : decode cX5_same 21 = .ok (.getfield 9, 3) := by decide +kernel
theorem dX5_same_24 : decode cX5_same 24 = .ok (.iload_n 2, 1) := by decide +kernel
theorem dX5_same_25 : decode cX5_same 25 = .ok (.baload, 1) := by decide +kernel
theorem dX5_same_26 : decode cX5_same 26 = .ok (.aload_n 1, 1) := by decide +kernel
theorem dX5_same_27 : decode cX5_same 27 = .ok (.getfield 9, 3) := by decide +kernel
theorem dX5_same_30 : decode cX5_same 30 = .ok (.iload_n 2, 1) := by decide +kernel
theorem dX5_same_31 : decode cX5_same 31 = .ok (.baload, 1) := by decide +kernel
theorem dX5_same_32 : decode cX5_same 32 = .ok (.if_icmp .eq 5, 3) := by decide +kernel
theorem dX5_same_35 : decode cX5_same 35 = .ok (.iconst 0, 1) := by decide +kernel
theorem dX5_same_36 : decode cX5_same 36 = .ok (.ireturn, 1) := by decide +kernel
theorem dX5_same_37 : decode cX5_same 37 = .ok (.iinc 2 1, 3) := by decide +kernel
theorem dX5_same_40 : decode cX5_same 40 = .ok (.goto (-38), 3) := by decide +kernel
theorem dX5_same_43 : decode cX5_same 43 = .ok (.iconst 1, 1) := by decide +kernel
theorem dX5_same_44 : decode cX5_same 44 = .ok (.ireturn, 1) := by decide +kernel
set_option maxRecDepth 100000 in
set_option maxHeartbeats 4000000 in
theorem bX5_same_2 {l : Launch} {g : xG} (a0 : Nat) (r1 : Option Nat) (x2 : Int32) {M : xM} {Q : Option Value → xM → Prop} (h : (xat M a0 2 ∧ (∃ a2, (xR M a0 0) = some a2 ∧ xat M a2 8 ∧ (((nI (xN M a2)) ≤ x2 → (Q (some (.int 1)) M)) ∧ (¬ (nI (xN M a2)) ≤ x2 → (∃ a5, r1 = some a5 ∧ xat M a5 2 ∧ (∃ a8, (xR M a5 0) = some a8 ∧ xat M a8 8 ∧ (((nI (xN M a8)) ≤ x2 → (Q (some (.int 1)) M)) ∧ (¬ (nI (xN M a8)) ≤ x2 → (∃ i11, xai M a2 8 x2 i11 ∧ (∃ i13, xai M a8 8 x2 i13 ∧ (((xI M a2 i11) = (xI M a8 i13) → xWp l g mX5_same 0 0 2 [(1, va_rf (some a0)), (1, va_rf r1), (1, .int (x2 + 1))] [] (0, 0) M Q) ∧ (¬ (xI M a2 i11) = (xI M a8 i13) → (Q (some (.int 0)) M)))))))))))))) : xWp l g mX5_same 0 0 2 [(1, va_rf (some a0)), (1, va_rf r1), (1, .int x2)] [] (0, 0) M Q := by
  refine xr_iload_n 2 dX5_same_2 rfl rfl ?_
  refine xr_aload_n 0 dX5_same_3 rfl rfl ?_
  obtain ⟨t1, h⟩ := h
  refine yr_getR dX5_same_4 fl_RX5_9 rfl t1 ?_
  obtain ⟨a2, e3, h⟩ := h
  obtain ⟨t4, h⟩ := h
  refine yr_alen8 dX5_same_7 e3 t4 ?_
  obtain ⟨ht, hf⟩ := h
  refine xr_icmp_ge 43 dX5_same_8 (by decide) (fun c17 => ?_) (fun c17 => ?_)
  · replace h := ht c17
    clear ht hf
    refine xr_iconst 1 dX5_same_43 (by decide) ?_
    exact xr_retv (by decide) (xRi rfl rfl dX5_same_44) h
  · replace h := hf c17
    clear ht hf
    refine xr_iload_n 2 dX5_same_11 rfl rfl ?_
    refine xr_aload_n 1 dX5_same_12 rfl rfl ?_
    obtain ⟨a5, e6, h⟩ := h
    obtain ⟨t7, h⟩ := h
    refine yr_getR dX5_same_13 fl_RX5_9 e6 t7 ?_
    obtain ⟨a8, e9, h⟩ := h
    obtain ⟨t10, h⟩ := h
    refine yr_alen8 dX5_same_16 e9 t10 ?_
    obtain ⟨ht, hf⟩ := h
    refine xr_icmp_ge 43 dX5_same_17 (by decide) (fun c16 => ?_) (fun c16 => ?_)
    · replace h := ht c16
      clear ht hf
      refine xr_iconst 1 dX5_same_43 (by decide) ?_
      exact xr_retv (by decide) (xRi rfl rfl dX5_same_44) h
    · replace h := hf c16
      clear ht hf
      refine xr_aload_n 0 dX5_same_20 rfl rfl ?_
      refine yr_getR dX5_same_21 fl_RX5_9 rfl t1 ?_
      refine xr_iload_n 2 dX5_same_24 rfl rfl ?_
      obtain ⟨i11, t12, h⟩ := h
      refine yr_bald dX5_same_25 e3 t12 ?_
      refine xr_aload_n 1 dX5_same_26 rfl rfl ?_
      refine yr_getR dX5_same_27 fl_RX5_9 e6 t7 ?_
      refine xr_iload_n 2 dX5_same_30 rfl rfl ?_
      obtain ⟨i13, t14, h⟩ := h
      refine yr_bald dX5_same_31 e9 t14 ?_
      obtain ⟨ht, hf⟩ := h
      refine xr_icmp_eq 37 dX5_same_32 (by decide) (fun c15 => ?_) (fun c15 => ?_)
      · replace h := ht c15
        clear ht hf
        refine ziinc (x2 + 1) dX5_same_37 rfl rfl (L1 := [(1, va_rf (some a0)), (1, va_rf r1), (1, .int (x2 + 1))]) (by decide) rfl ?_
        refine xr_goto 2 dX5_same_40 (by decide) ?_
        exact h
      · replace h := hf c15
        clear ht hf
        refine xr_iconst 0 dX5_same_35 (by decide) ?_
        exact xr_retv (by decide) (xRi rfl rfl dX5_same_36) h
set_option maxRecDepth 100000 in
set_option maxHeartbeats 4000000 in
theorem bX5_same_0 {l : Launch} {g : xG} (a0 : Nat) (r1 : Option Nat) {M : xM} {Q : Option Value → xM → Prop} (h : xWp l g mX5_same 0 0 2 [(1, va_rf (some a0)), (1, va_rf r1), (1, .int 0)] [] (0, 0) M Q) : xWp l g mX5_same 0 0 0 [(1, va_rf (some a0)), (1, va_rf r1), (0, .null)] [] (0, 0) M Q := by
  refine xr_iconst 0 dX5_same_0 (by decide) ?_
  refine zistore_n 2 dX5_same_1 rfl (L1 := [(1, va_rf (some a0)), (1, va_rf r1), (1, .int 0)]) (by decide) rfl ?_
  exact h
theorem dX7_init_0 : decode cX7_init 0 = .ok (.aload_n 0, 1) := by decide +kernel
theorem dX7_init_1 : decode cX7_init 1 = .ok (.invokespecial 3, 3) := by decide +kernel
theorem dX7_init_4 : decode cX7_init 4 = .ok (.aload_n 0, 1) := by decide +kernel
theorem dX7_init_5 : decode cX7_init 5 = .ok (.bipush 64, 2) := by decide +kernel
theorem dX7_init_7 : decode cX7_init 7 = .ok (.newarray .int, 2) := by decide +kernel
theorem dX7_init_9 : decode cX7_init 9 = .ok (.putfield 9, 3) := by decide +kernel
theorem dX7_init_12 : decode cX7_init 12 = .ok (.aload_n 0, 1) := by decide +kernel
theorem dX7_init_13 : decode cX7_init 13 = .ok (.iconst 0, 1) := by decide +kernel
theorem dX7_init_14 : decode cX7_init 14 = .ok (.putfield 15, 3) := by decide +kernel
theorem dX7_init_17 : decode cX7_init 17 = .ok (.return_, 1) := by decide +kernel
set_option maxRecDepth 100000 in
set_option maxHeartbeats 4000000 in
theorem bX7_init_0 {l : Launch} {g : xG} {mc ms : Nat} (a0 : Nat) {M : xM} {Q : Option Value → xM → Prop} (h : ((0 + 1 ≤ mc ∧ 0 + 64 ≤ ms) ∧ ∀ q4, q4 ∉ xL M → (xat (xnew M q4 9 64) a0 4 ∧ (((0 + 1) ≤ mc ∧ (0 + 64) ≤ ms) ∧ Q none (xsI (xsR (xnew M q4 9 64) a0 0 (some q4)) a0 1 0))))) : xWp l g mX7_init mc ms 0 [(1, va_rf (some a0))] [] (0, 0) M Q := by
  refine xr_aload_n 0 dX7_init_0 rfl rfl ?_
  refine xr_obj dX7_init_1 ml_RX7_3 obj_inst obj_code (by decide) (by decide) ?_
  refine xr_aload_n 0 dX7_init_4 rfl rfl ?_
  refine xr_bipush 64 dX7_init_5 (by decide) ?_
  obtain ⟨hm6, h⟩ := h
  refine xr_newa (kd := 9) (t := 1) (n := 64) dX7_init_7 rfl arr_int (fun _ => rfl) (by decide) (by decide) rfl (by decide) (by decide) (by decide) hm6 (fun q4 hq5 => ?_)
  replace h := h q4 hq5
  obtain ⟨t7, h⟩ := h
  refine yr_putRF dX7_init_9 rfl fp_RX7_9 (Or.inr ⟨_, rfl⟩) rfl t7 ?_
  refine xr_aload_n 0 dX7_init_12 rfl rfl ?_
  refine xr_iconst 0 dX7_init_13 (by decide) ?_
  refine yr_putI dX7_init_14 fp_RX7_15 rfl t7 ?_
  obtain ⟨hm8, h⟩ := h
  exact xr_ret hm8 (xRv rfl dX7_init_17) h
theorem dX7_isKey_0 : decode cX7_isKey 0 = .ok (.aload_n 0, 1) := by decide +kernel
theorem dX7_isKey_1 : decode cX7_isKey 1 = .ok (.getfield 15, 3) := by decide +kernel
theorem dX7_isKey_4 : decode cX7_isKey 4 = .ok (.bipush 12, 2) := by decide +kernel
theorem dX7_isKey_6 : decode cX7_isKey 6 = .ok (.if_icmp .gt 7, 3) := by decide +kernel
theorem dX7_isKey_9 : decode cX7_isKey 9 = .ok (.iconst 1, 1) := by decide +kernel
theorem dX7_isKey_10 : decode cX7_isKey 10 = .ok (.goto 4, 3) := by decide +kernel
theorem dX7_isKey_13 : decode cX7_isKey 13 = .ok (.iconst 0, 1) := by decide +kernel
theorem dX7_isKey_14 : decode cX7_isKey 14 = .ok (.ireturn, 1) := by decide +kernel
set_option maxRecDepth 100000 in
set_option maxHeartbeats 4000000 in
theorem bX7_isKey_0 {l : Launch} {g : xG} (a0 : Nat) {M : xM} {Q : Option Value → xM → Prop} (h : (xat M a0 4 ∧ ((12 < (xI M a0 1) → (Q (some (.int 0)) M)) ∧ (¬ 12 < (xI M a0 1) → (Q (some (.int 1)) M))))) : xWp l g mX7_isKey 0 0 0 [(1, va_rf (some a0))] [] (0, 0) M Q := by
  refine xr_aload_n 0 dX7_isKey_0 rfl rfl ?_
  obtain ⟨t1, h⟩ := h
  refine yr_getI dX7_isKey_1 fl_RX7_15 rfl t1 ?_
  refine xr_bipush 12 dX7_isKey_4 (by decide) ?_
  obtain ⟨ht, hf⟩ := h
  refine xr_icmp_gt 13 dX7_isKey_6 (by decide) (fun c2 => ?_) (fun c2 => ?_)
  · replace h := ht c2
    clear ht hf
    refine xr_iconst 0 dX7_isKey_13 (by decide) ?_
    exact xr_retv (by decide) (xRi rfl rfl dX7_isKey_14) h
  · replace h := hf c2
    clear ht hf
    refine xr_iconst 1 dX7_isKey_9 (by decide) ?_
    refine xr_goto 14 dX7_isKey_10 (by decide) ?_
    exact xr_retv (by decide) (xRi rfl rfl dX7_isKey_14) h
theorem dX7_byteAt_0 : decode cX7_byteAt 0 = .ok (.iload_n 1, 1) := by decide +kernel
theorem dX7_byteAt_1 : decode cX7_byteAt 1 = .ok (.ifCond .lt 29, 3) := by decide +kernel
theorem dX7_byteAt_4 : decode cX7_byteAt 4 = .ok (.iload_n 1, 1) := by decide +kernel
theorem dX7_byteAt_5 : decode cX7_byteAt 5 = .ok (.aload_n 0, 1) := by decide +kernel
theorem dX7_byteAt_6 : decode cX7_byteAt 6 = .ok (.getfield 15, 3) := by decide +kernel
theorem dX7_byteAt_9 : decode cX7_byteAt 9 = .ok (.if_icmp .ge 21, 3) := by decide +kernel
theorem dX7_byteAt_12 : decode cX7_byteAt 12 = .ok (.iload_n 1, 1) := by decide +kernel
theorem dX7_byteAt_13 : decode cX7_byteAt 13 = .ok (.aload_n 0, 1) := by decide +kernel
theorem dX7_byteAt_14 : decode cX7_byteAt 14 = .ok (.getfield 9, 3) := by decide +kernel
theorem dX7_byteAt_17 : decode cX7_byteAt 17 = .ok (.arraylength, 1) := by decide +kernel
theorem dX7_byteAt_18 : decode cX7_byteAt 18 = .ok (.if_icmp .ge 12, 3) := by decide +kernel
theorem dX7_byteAt_21 : decode cX7_byteAt 21 = .ok (.aload_n 0, 1) := by decide +kernel
theorem dX7_byteAt_22 : decode cX7_byteAt 22 = .ok (.getfield 9, 3) := by decide +kernel
theorem dX7_byteAt_25 : decode cX7_byteAt 25 = .ok (.iload_n 1, 1) := by decide +kernel
theorem dX7_byteAt_26 : decode cX7_byteAt 26 = .ok (.iaload, 1) := by decide +kernel
theorem dX7_byteAt_27 : decode cX7_byteAt 27 = .ok (.goto 4, 3) := by decide +kernel
theorem dX7_byteAt_30 : decode cX7_byteAt 30 = .ok (.iconst (-1), 1) := by decide +kernel
theorem dX7_byteAt_31 : decode cX7_byteAt 31 = .ok (.ireturn, 1) := by decide +kernel
set_option maxRecDepth 100000 in
set_option maxHeartbeats 4000000 in
theorem bX7_byteAt_0 {l : Launch} {g : xG} (a0 : Nat) (x1 : Int32) {M : xM} {Q : Option Value → xM → Prop} (h : ((x1 < 0 → (Q (some (.int (-1))) M)) ∧ (¬ x1 < 0 → (xat M a0 4 ∧ (((xI M a0 1) ≤ x1 → (Q (some (.int (-1))) M)) ∧ (¬ (xI M a0 1) ≤ x1 → (∃ a2, (xR M a0 0) = some a2 ∧ xat M a2 9 ∧ (((nI (xN M a2)) ≤ x1 → (Q (some (.int (-1))) M)) ∧ (¬ (nI (xN M a2)) ≤ x1 → (∃ i5, xai M a2 9 x1 i5 ∧ (Q (some (.int (xI M a2 i5))) M))))))))))) : xWp l g mX7_byteAt 0 0 0 [(1, va_rf (some a0)), (1, .int x1)] [] (0, 0) M Q := by
  refine xr_iload_n 1 dX7_byteAt_0 rfl rfl ?_
  obtain ⟨ht, hf⟩ := h
  refine xr_if_lt 30 dX7_byteAt_1 (by decide) (fun c9 => ?_) (fun c9 => ?_)
  · replace h := ht c9
    clear ht hf
    refine xr_iconst (-1) dX7_byteAt_30 (by decide) ?_
    exact xr_retv (by decide) (xRi rfl rfl dX7_byteAt_31) h
  · replace h := hf c9
    clear ht hf
    refine xr_iload_n 1 dX7_byteAt_4 rfl rfl ?_
    refine xr_aload_n 0 dX7_byteAt_5 rfl rfl ?_
    obtain ⟨t1, h⟩ := h
    refine yr_getI dX7_byteAt_6 fl_RX7_15 rfl t1 ?_
    obtain ⟨ht, hf⟩ := h
    refine xr_icmp_ge 30 dX7_byteAt_9 (by decide) (fun c8 => ?_) (fun c8 => ?_)
    · replace h := ht c8
      clear ht hf
      refine xr_iconst (-1) dX7_byteAt_30 (by decide) ?_
      exact xr_retv (by decide) (xRi rfl rfl dX7_byteAt_31) h
    · replace h := hf c8
      clear ht hf
      refine xr_iload_n 1 dX7_byteAt_12 rfl rfl ?_
      refine xr_aload_n 0 dX7_byteAt_13 rfl rfl ?_
      refine yr_getR dX7_byteAt_14 fl_RX7_9 rfl t1 ?_
      obtain ⟨a2, e3, h⟩ := h
      obtain ⟨t4, h⟩ := h
      refine yr_alen9 dX7_byteAt_17 e3 t4 ?_
      obtain ⟨ht, hf⟩ := h
      refine xr_icmp_ge 30 dX7_byteAt_18 (by decide) (fun c7 => ?_) (fun c7 => ?_)
      · replace h := ht c7
        clear ht hf
        refine xr_iconst (-1) dX7_byteAt_30 (by decide) ?_
        exact xr_retv (by decide) (xRi rfl rfl dX7_byteAt_31) h
      · replace h := hf c7
        clear ht hf
        refine xr_aload_n 0 dX7_byteAt_21 rfl rfl ?_
        refine yr_getR dX7_byteAt_22 fl_RX7_9 rfl t1 ?_
        refine xr_iload_n 1 dX7_byteAt_25 rfl rfl ?_
        obtain ⟨i5, t6, h⟩ := h
        refine yr_iald dX7_byteAt_26 e3 t6 ?_
        refine xr_goto 31 dX7_byteAt_27 (by decide) ?_
        exact xr_retv (by decide) (xRi rfl rfl dX7_byteAt_31) h
theorem dX7_setByte_0 : decode cX7_setByte 0 = .ok (.iload_n 1, 1) := by decide +kernel
theorem dX7_setByte_1 : decode cX7_setByte 1 = .ok (.ifCond .lt 19, 3) := by decide +kernel
theorem dX7_setByte_4 : decode cX7_setByte 4 = .ok (.iload_n 1, 1) := by decide +kernel
theorem dX7_setByte_5 : decode cX7_setByte 5 = .ok (.aload_n 0, 1) := by decide +kernel
theorem dX7_setByte_6 : decode cX7_setByte 6 = .ok (.getfield 9, 3) := by decide +kernel
theorem dX7_setByte_9 : decode cX7_setByte 9 = .ok (.arraylength, 1) := by decide +kernel
theorem dX7_setByte_10 : decode cX7_setByte 10 = .ok (.if_icmp .ge 10, 3) := by decide +kernel
theorem dX7_setByte_13 : decode cX7_setByte 13 = .ok (.aload_n 0, 1) := by decide +kernel
theorem dX7_setByte_14 : decode cX7_setByte 14 = .ok (.getfield 9, 3) := by decide +kernel
theorem dX7_setByte_17 : decode cX7_setByte 17 = .ok (.iload_n 1, 1) := by decide +kernel
theorem dX7_setByte_18 : decode cX7_setByte 18 = .ok (.iload_n 2, 1) := by decide +kernel
theorem dX7_setByte_19 : decode cX7_setByte 19 = .ok (.iastore, 1) := by decide +kernel
theorem dX7_setByte_20 : decode cX7_setByte 20 = .ok (.return_, 1) := by decide +kernel
set_option maxRecDepth 100000 in
set_option maxHeartbeats 4000000 in
theorem bX7_setByte_0 {l : Launch} {g : xG} (a0 : Nat) (x1 : Int32) (x2 : Int32) {M : xM} {Q : Option Value → xM → Prop} (h : ((x1 < 0 → (Q none M)) ∧ (¬ x1 < 0 → (xat M a0 4 ∧ (∃ a2, (xR M a0 0) = some a2 ∧ xat M a2 9 ∧ (((nI (xN M a2)) ≤ x1 → (Q none M)) ∧ (¬ (nI (xN M a2)) ≤ x1 → (∃ i5, xai M a2 9 x1 i5 ∧ (Q none (xsI M a2 i5 x2)))))))))) : xWp l g mX7_setByte 0 0 0 [(1, va_rf (some a0)), (1, .int x1), (1, .int x2)] [] (0, 0) M Q := by
  refine xr_iload_n 1 dX7_setByte_0 rfl rfl ?_
  obtain ⟨ht, hf⟩ := h
  refine xr_if_lt 20 dX7_setByte_1 (by decide) (fun c8 => ?_) (fun c8 => ?_)
  · replace h := ht c8
    clear ht hf
    exact xr_ret (by decide) (xRv rfl dX7_setByte_20) h
  · replace h := hf c8
    clear ht hf
    refine xr_iload_n 1 dX7_setByte_4 rfl rfl ?_
    refine xr_aload_n 0 dX7_setByte_5 rfl rfl ?_
    obtain ⟨t1, h⟩ := h
    refine yr_getR dX7_setByte_6 fl_RX7_9 rfl t1 ?_
    obtain ⟨a2, e3, h⟩ := h
    obtain ⟨t4, h⟩ := h
    refine yr_alen9 dX7_setByte_9 e3 t4 ?_
    obtain ⟨ht, hf⟩ := h
    refine xr_icmp_ge 20 dX7_setByte_10 (by decide) (fun c7 => ?_) (fun c7 => ?_)
    · replace h := ht c7
      clear ht hf
      exact xr_ret (by decide) (xRv rfl dX7_setByte_20) h
    · replace h := hf c7
      clear ht hf
      refine xr_aload_n 0 dX7_setByte_13 rfl rfl ?_
      refine yr_getR dX7_setByte_14 fl_RX7_9 rfl t1 ?_
      refine xr_iload_n 1 dX7_setByte_17 rfl rfl ?_
      refine xr_iload_n 2 dX7_setByte_18 rfl rfl ?_
      obtain ⟨i5, t6, h⟩ := h
      refine yr_iast dX7_setByte_19 e3 t6 ?_
      exact xr_ret (by decide) (xRv rfl dX7_setByte_20) h
theorem dX7_append_0 : decode cX7_append 0 = .ok (.aload_n 0, 1) := by decide +kernel
theorem dX7_append_1 : decode cX7_append 1 = .ok (.getfield 15, 3) := by decide +kernel
theorem dX7_append_4 : decode cX7_append 4 = .ok (.aload_n 0, 1) := by decide +kernel
theorem dX7_append_5 : decode cX7_append 5 = .ok (.getfield 9, 3) := by decide +kernel
theorem dX7_append_8 : decode cX7_append 8 = .ok (.arraylength, 1) := by decide +kernel
theorem dX7_append_9 : decode cX7_append 9 = .ok (.if_icmp .ge 22, 3) := by decide +kernel
theorem dX7_append_12 : decode cX7_append 12 = .ok (.aload_n 0, 1) := by decide +kernel
theorem dX7_append_13 : decode cX7_append 13 = .ok (.aload_n 0, 1) := by decide +kernel
theorem dX7_append_14 : decode cX7_append 14 = .ok (.getfield 15, 3) := by decide +kernel
theorem dX7_append_17 : decode cX7_append 17 = .ok (.iload_n 1, 1) := by decide +kernel
theorem dX7_append_18 : decode cX7_append 18 = .ok (.invokevirtual 19, 3) := by decide +kernel
theorem dX7_append_21 : decode cX7_append 21 = .ok (.aload_n 0, 1) := by decide +kernel
theorem dX7_append_22 : decode cX7_append 22 = .ok (.dup, 1) := by decide +kernel
theorem dX7_append_23 : decode cX7_append 23 = .ok (.getfield 15, 3) := by decide +kernel
theorem dX7_append_26 : decode cX7_append 26 = .ok (.iconst 1, 1) := by decide +kernel
theorem dX7_append_27 : decode cX7_append 27 = .ok (.iadd, 1) := by decide +kernel
theorem dX7_append_28 : decode cX7_append 28 = .ok (.putfield 15, 3) := by decide +kernel
theorem dX7_append_31 : decode cX7_append 31 = .ok (.return_, 1) := by decide +kernel
set_option maxRecDepth 100000 in
set_option maxHeartbeats 4000000 in
theorem bX7_append_0 {l : Launch} {g : xG} (a0 : Nat) (x1 : Int32) {M : xM} {Q : Option Value → xM → Prop} (h : (xat M a0 4 ∧ (∃ a2, (xR M a0 0) = some a2 ∧ xat M a2 9 ∧ (((nI (xN M a2)) ≤ (xI M a0 1) → (Q none M)) ∧ (¬ (nI (xN M a2)) ≤ (xI M a0 1) → (xSp l g mX7_setByte 0 0 [va_rf (some a0), .int (xI M a0 1), .int x1] M (fun ρ7 M6 => ρ7 = none ∧ (xat M6 a0 4 ∧ (Q none (xsI M6 a0 1 ((xI M6 a0 1) + 1))))))))))) : xWp l g mX7_append 0 0 0 [(1, va_rf (some a0)), (1, .int x1)] [] (0, 0) M Q := by
  refine xr_aload_n 0 dX7_append_0 rfl rfl ?_
  obtain ⟨t1, h⟩ := h
  refine yr_getI dX7_append_1 fl_RX7_15 rfl t1 ?_
  refine xr_aload_n 0 dX7_append_4 rfl rfl ?_
  refine yr_getR dX7_append_5 fl_RX7_9 rfl t1 ?_
  obtain ⟨a2, e3, h⟩ := h
  obtain ⟨t4, h⟩ := h
  refine yr_alen9 dX7_append_8 e3 t4 ?_
  obtain ⟨ht, hf⟩ := h
  refine xr_icmp_ge 31 dX7_append_9 (by decide) (fun c10 => ?_) (fun c10 => ?_)
  · replace h := ht c10
    clear ht hf
    exact xr_ret (by decide) (xRv rfl dX7_append_31) h
  · replace h := hf c10
    clear ht hf
    refine xr_aload_n 0 dX7_append_12 rfl rfl ?_
    refine xr_aload_n 0 dX7_append_13 rfl rfl ?_
    refine yr_getI dX7_append_14 fl_RX7_15 rfl t1 ?_
    refine xr_iload_n 1 dX7_append_17 rfl rfl ?_
    refine yr_callV (r := (some a0)) [.int (xI M a0 1), .int x1] dX7_append_18 cv_X7_append_19 rfl t1 rfl (Nat.le_trans wt_0 (by decide)) (by decide) (xSp.mono h ?_)
    clear h
    intro ρ7 M6 h
    obtain ⟨rfl, h⟩ := h
    refine xr_aload_n 0 dX7_append_21 rfl rfl ?_
    refine xr_dup dX7_append_22 (va_rf_cat _) ?_
    obtain ⟨t9, h⟩ := h
    refine yr_getI dX7_append_23 fl_RX7_15 rfl t9 ?_
    refine xr_iconst 1 dX7_append_26 (by decide) ?_
    refine xr_iadd dX7_append_27 ?_
    refine yr_putI dX7_append_28 fp_RX7_15 rfl t9 ?_
    exact xr_ret (by decide) (xRv rfl dX7_append_31) h
