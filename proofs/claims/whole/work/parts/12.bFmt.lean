/-! Decode rows and blocks: 12.bFmt -/
theorem dX1_is_0 : decode cX1_is 0 = .ok (.iload_n 0, 1) := by decide +kernel
theorem dX1_is_1 : decode cX1_is 1 = .ok (.iconst 1, 1) := by decide +kernel
theorem dX1_is_2 : decode cX1_is 2 = .ok (.if_icmp .lt 12, 3) := by decide +kernel
theorem dX1_is_5 : decode cX1_is 5 = .ok (.iload_n 0, 1) := by decide +kernel
theorem dX1_is_6 : decode cX1_is 6 = .ok (.iconst 4, 1) := by decide +kernel
theorem dX1_is_7 : decode cX1_is 7 = .ok (.if_icmp .gt 7, 3) := by decide +kernel
theorem dX1_is_10 : decode cX1_is 10 = .ok (.iconst 1, 1) := by decide +kernel
theorem dX1_is_11 : decode cX1_is 11 = .ok (.goto 4, 3) := by decide +kernel
theorem dX1_is_14 : decode cX1_is 14 = .ok (.iconst 0, 1) := by decide +kernel
theorem dX1_is_15 : decode cX1_is 15 = .ok (.ireturn, 1) := by decide +kernel
set_option maxRecDepth 100000 in
set_option maxHeartbeats 4000000 in
theorem bX1_is_0 {l : Launch} {g : xG} (x0 : Int32) {M : xM} {Q : Option Value → xM → Prop} (h : ((x0 < 1 → (Q (some (.int 0)) M)) ∧ (¬ x0 < 1 → ((4 < x0 → (Q (some (.int 0)) M)) ∧ (¬ 4 < x0 → (Q (some (.int 1)) M)))))) : xWp l g mX1_is 0 0 0 [(1, .int x0)] [] (0, 0) M Q := by
  refine xr_iload_n 0 dX1_is_0 rfl rfl ?_
  refine xr_iconst 1 dX1_is_1 (by decide) ?_
  obtain ⟨ht, hf⟩ := h
  refine xr_icmp_lt 14 dX1_is_2 (by decide) (fun c2 => ?_) (fun c2 => ?_)
  · replace h := ht c2
    clear ht hf
    refine xr_iconst 0 dX1_is_14 (by decide) ?_
    exact xr_retv (by decide) (xRi rfl rfl dX1_is_15) h
  · replace h := hf c2
    clear ht hf
    refine xr_iload_n 0 dX1_is_5 rfl rfl ?_
    refine xr_iconst 4 dX1_is_6 (by decide) ?_
    obtain ⟨ht, hf⟩ := h
    refine xr_icmp_gt 14 dX1_is_7 (by decide) (fun c1 => ?_) (fun c1 => ?_)
    · replace h := ht c1
      clear ht hf
      refine xr_iconst 0 dX1_is_14 (by decide) ?_
      exact xr_retv (by decide) (xRi rfl rfl dX1_is_15) h
    · replace h := hf c1
      clear ht hf
      refine xr_iconst 1 dX1_is_10 (by decide) ?_
      refine xr_goto 15 dX1_is_11 (by decide) ?_
      exact xr_retv (by decide) (xRi rfl rfl dX1_is_15) h
theorem dX1_mostChildren_0 : decode cX1_mostChildren 0 = .ok (.iload_n 0, 1) := by decide +kernel
theorem dX1_mostChildren_1 : decode cX1_mostChildren 1 = .ok (.iconst 1, 1) := by decide +kernel
theorem dX1_mostChildren_2 : decode cX1_mostChildren 2 = .ok (.if_icmp .lt 19, 3) := by decide +kernel
theorem dX1_mostChildren_5 : decode cX1_mostChildren 5 = .ok (.iload_n 0, 1) := by decide +kernel
theorem dX1_mostChildren_6 : decode cX1_mostChildren 6 = .ok (.getstatic 9, 3) := by decide +kernel
theorem dX1_mostChildren_9 : decode cX1_mostChildren 9 = .ok (.arraylength, 1) := by decide +kernel
theorem dX1_mostChildren_10 : decode cX1_mostChildren 10 = .ok (.if_icmp .ge 11, 3) := by decide +kernel
theorem dX1_mostChildren_13 : decode cX1_mostChildren 13 = .ok (.getstatic 9, 3) := by decide +kernel
theorem dX1_mostChildren_16 : decode cX1_mostChildren 16 = .ok (.iload_n 0, 1) := by decide +kernel
theorem dX1_mostChildren_17 : decode cX1_mostChildren 17 = .ok (.iaload, 1) := by decide +kernel
theorem dX1_mostChildren_18 : decode cX1_mostChildren 18 = .ok (.goto 4, 3) := by decide +kernel
theorem dX1_mostChildren_21 : decode cX1_mostChildren 21 = .ok (.iconst 0, 1) := by decide +kernel
theorem dX1_mostChildren_22 : decode cX1_mostChildren 22 = .ok (.ireturn, 1) := by decide +kernel
set_option maxRecDepth 100000 in
set_option maxHeartbeats 4000000 in
theorem bX1_mostChildren_0 {l : Launch} {g : xG} (x0 : Int32) {M : xM} {Q : Option Value → xM → Prop} (h : ((x0 < 1 → (Q (some (.int 0)) M)) ∧ (¬ x0 < 1 → ((5 ≤ x0 → (Q (some (.int 0)) M)) ∧ (¬ 5 ≤ x0 → (∃ i1, x0 = nI i1 ∧ i1 < 5 ∧ (Q (some (.int (xmc i1))) M))))))) : xWp l g mX1_mostChildren 0 0 0 [(1, .int x0)] [] (0, 0) M Q := by
  refine xr_iload_n 0 dX1_mostChildren_0 rfl rfl ?_
  refine xr_iconst 1 dX1_mostChildren_1 (by decide) ?_
  obtain ⟨ht, hf⟩ := h
  refine xr_icmp_lt 21 dX1_mostChildren_2 (by decide) (fun c5 => ?_) (fun c5 => ?_)
  · replace h := ht c5
    clear ht hf
    refine xr_iconst 0 dX1_mostChildren_21 (by decide) ?_
    exact xr_retv (by decide) (xRi rfl rfl dX1_mostChildren_22) h
  · replace h := hf c5
    clear ht hf
    refine xr_iload_n 0 dX1_mostChildren_5 rfl rfl ?_
    refine xr_gsM dX1_mostChildren_6 gs_RX1_9 ?_
    refine yr_alenM dX1_mostChildren_9 ?_
    obtain ⟨ht, hf⟩ := h
    refine xr_icmp_ge 21 dX1_mostChildren_10 (by decide) (fun c4 => ?_) (fun c4 => ?_)
    · replace h := ht c4
      clear ht hf
      refine xr_iconst 0 dX1_mostChildren_21 (by decide) ?_
      exact xr_retv (by decide) (xRi rfl rfl dX1_mostChildren_22) h
    · replace h := hf c4
      clear ht hf
      refine xr_gsM dX1_mostChildren_13 gs_RX1_9 ?_
      refine xr_iload_n 0 dX1_mostChildren_16 rfl rfl ?_
      obtain ⟨i1, e2, b3, h⟩ := h
      refine xr_salM i1 dX1_mostChildren_17 e2 b3 ?_
      refine xr_goto 22 dX1_mostChildren_18 (by decide) ?_
      exact xr_retv (by decide) (xRi rfl rfl dX1_mostChildren_22) h
theorem dX1_grown_0 : decode cX1_grown 0 = .ok (.iload_n 0, 1) := by decide +kernel
theorem dX1_grown_1 : decode cX1_grown 1 = .ok (.iconst 4, 1) := by decide +kernel
theorem dX1_grown_2 : decode cX1_grown 2 = .ok (.if_icmp .ge 17, 3) := by decide +kernel
theorem dX1_grown_5 : decode cX1_grown 5 = .ok (.iload_n 1, 1) := by decide +kernel
theorem dX1_grown_6 : decode cX1_grown 6 = .ok (.iload_n 0, 1) := by decide +kernel
theorem dX1_grown_7 : decode cX1_grown 7 = .ok (.invokestatic 13, 3) := by decide +kernel
theorem dX1_grown_10 : decode cX1_grown 10 = .ok (.if_icmp .le 9, 3) := by decide +kernel
theorem dX1_grown_13 : decode cX1_grown 13 = .ok (.iload_n 0, 1) := by decide +kernel
theorem dX1_grown_14 : decode cX1_grown 14 = .ok (.iconst 1, 1) := by decide +kernel
theorem dX1_grown_15 : decode cX1_grown 15 = .ok (.iadd, 1) := by decide +kernel
theorem dX1_grown_16 : decode cX1_grown 16 = .ok (.goto 4, 3) := by decide +kernel
theorem dX1_grown_19 : decode cX1_grown 19 = .ok (.iload_n 0, 1) := by decide +kernel
theorem dX1_grown_20 : decode cX1_grown 20 = .ok (.ireturn, 1) := by decide +kernel
set_option maxRecDepth 100000 in
set_option maxHeartbeats 4000000 in
theorem bX1_grown_0 {l : Launch} {g : xG} (x0 : Int32) (x1 : Int32) {M : xM} {Q : Option Value → xM → Prop} (h : ((4 ≤ x0 → (Q (some (.int x0)) M)) ∧ (¬ 4 ≤ x0 → (xSp l g mX1_mostChildren 0 0 [.int x0] M (fun ρ3 M2 => ∃ v1 : Int32, ρ3 = some (.int v1) ∧ ((x1 ≤ v1 → (Q (some (.int x0)) M2)) ∧ (¬ x1 ≤ v1 → (Q (some (.int (x0 + 1))) M2)))))))) : xWp l g mX1_grown 0 0 0 [(1, .int x0), (1, .int x1)] [] (0, 0) M Q := by
  refine xr_iload_n 0 dX1_grown_0 rfl rfl ?_
  refine xr_iconst 4 dX1_grown_1 (by decide) ?_
  obtain ⟨ht, hf⟩ := h
  refine xr_icmp_ge 19 dX1_grown_2 (by decide) (fun c6 => ?_) (fun c6 => ?_)
  · replace h := ht c6
    clear ht hf
    refine xr_iload_n 0 dX1_grown_19 rfl rfl ?_
    exact xr_retv (by decide) (xRi rfl rfl dX1_grown_20) h
  · replace h := hf c6
    clear ht hf
    refine xr_iload_n 1 dX1_grown_5 rfl rfl ?_
    refine xr_iload_n 0 dX1_grown_6 rfl rfl ?_
    refine xr_callS [.int x0] dX1_grown_7 cs_X1_grown_13 rfl (Nat.le_trans (wt_i wt_0) (by decide)) (by decide) (xSp.mono h ?_)
    clear h
    intro ρ3 M2 h
    obtain ⟨v1, rfl, h⟩ := h
    obtain ⟨ht, hf⟩ := h
    refine xr_icmp_le 19 dX1_grown_10 (by decide) (fun c5 => ?_) (fun c5 => ?_)
    · replace h := ht c5
      clear ht hf
      refine xr_iload_n 0 dX1_grown_19 rfl rfl ?_
      exact xr_retv (by decide) (xRi rfl rfl dX1_grown_20) h
    · replace h := hf c5
      clear ht hf
      refine xr_iload_n 0 dX1_grown_13 rfl rfl ?_
      refine xr_iconst 1 dX1_grown_14 (by decide) ?_
      refine xr_iadd dX1_grown_15 ?_
      refine xr_goto 20 dX1_grown_16 (by decide) ?_
      exact xr_retv (by decide) (xRi rfl rfl dX1_grown_20) h
theorem dX1_shrunk_0 : decode cX1_shrunk 0 = .ok (.iload_n 0, 1) := by decide +kernel
theorem dX1_shrunk_1 : decode cX1_shrunk 1 = .ok (.iconst 1, 1) := by decide +kernel
theorem dX1_shrunk_2 : decode cX1_shrunk 2 = .ok (.if_icmp .le 24, 3) := by decide +kernel
theorem dX1_shrunk_5 : decode cX1_shrunk 5 = .ok (.iload_n 0, 1) := by decide +kernel
theorem dX1_shrunk_6 : decode cX1_shrunk 6 = .ok (.getstatic 17, 3) := by decide +kernel
theorem dX1_shrunk_9 : decode cX1_shrunk 9 = .ok (.arraylength, 1) := by decide +kernel
theorem dX1_shrunk_10 : decode cX1_shrunk 10 = .ok (.if_icmp .ge 16, 3) := by decide +kernel
theorem dX1_shrunk_13 : decode cX1_shrunk 13 = .ok (.iload_n 1, 1) := by decide +kernel
theorem dX1_shrunk_14 : decode cX1_shrunk 14 = .ok (.getstatic 17, 3) := by decide +kernel
theorem dX1_shrunk_17 : decode cX1_shrunk 17 = .ok (.iload_n 0, 1) := by decide +kernel
theorem dX1_shrunk_18 : decode cX1_shrunk 18 = .ok (.iaload, 1) := by decide +kernel
theorem dX1_shrunk_19 : decode cX1_shrunk 19 = .ok (.if_icmp .gt 7, 3) := by decide +kernel
theorem dX1_shrunk_22 : decode cX1_shrunk 22 = .ok (.iconst 1, 1) := by decide +kernel
theorem dX1_shrunk_23 : decode cX1_shrunk 23 = .ok (.goto 4, 3) := by decide +kernel
theorem dX1_shrunk_26 : decode cX1_shrunk 26 = .ok (.iconst 0, 1) := by decide +kernel
theorem dX1_shrunk_27 : decode cX1_shrunk 27 = .ok (.istore_n 2, 1) := by decide +kernel
theorem dX1_shrunk_28 : decode cX1_shrunk 28 = .ok (.iload_n 2, 1) := by decide +kernel
theorem dX1_shrunk_29 : decode cX1_shrunk 29 = .ok (.ifCond .eq 9, 3) := by decide +kernel
theorem dX1_shrunk_32 : decode cX1_shrunk 32 = .ok (.iload_n 0, 1) := by decide +kernel
theorem dX1_shrunk_33 : decode cX1_shrunk 33 = .ok (.iconst 1, 1) := by decide +kernel
theorem dX1_shrunk_34 : decode cX1_shrunk 34 = .ok (.isub, 1) := by decide +kernel
theorem dX1_shrunk_35 : decode cX1_shrunk 35 = .ok (.goto 4, 3) := by decide +kernel
theorem dX1_shrunk_38 : decode cX1_shrunk 38 = .ok (.iload_n 0, 1) := by decide +kernel
theorem dX1_shrunk_39 : decode cX1_shrunk 39 = .ok (.ireturn, 1) := by decide +kernel
set_option maxRecDepth 100000 in
set_option maxHeartbeats 4000000 in
theorem bX1_shrunk_0 {l : Launch} {g : xG} (x0 : Int32) (x1 : Int32) {M : xM} {Q : Option Value → xM → Prop} (h : ((x0 ≤ 1 → (((0 : Int32) = 0 → (Q (some (.int x0)) M)) ∧ (¬ (0 : Int32) = 0 → (Q (some (.int (x0 - 1))) M)))) ∧ (¬ x0 ≤ 1 → ((5 ≤ x0 → (((0 : Int32) = 0 → (Q (some (.int x0)) M)) ∧ (¬ (0 : Int32) = 0 → (Q (some (.int (x0 - 1))) M)))) ∧ (¬ 5 ≤ x0 → (∃ i3, x0 = nI i3 ∧ i3 < 5 ∧ (((xsh i3) < x1 → (((0 : Int32) = 0 → (Q (some (.int x0)) M)) ∧ (¬ (0 : Int32) = 0 → (Q (some (.int (x0 - 1))) M)))) ∧ (¬ (xsh i3) < x1 → (((1 : Int32) = 0 → (Q (some (.int x0)) M)) ∧ (¬ (1 : Int32) = 0 → (Q (some (.int (x0 - 1))) M))))))))))) : xWp l g mX1_shrunk 0 0 0 [(1, .int x0), (1, .int x1), (0, .null)] [] (0, 0) M Q := by
  refine xr_iload_n 0 dX1_shrunk_0 rfl rfl ?_
  refine xr_iconst 1 dX1_shrunk_1 (by decide) ?_
  obtain ⟨ht, hf⟩ := h
  refine xr_icmp_le 26 dX1_shrunk_2 (by decide) (fun c10 => ?_) (fun c10 => ?_)
  · replace h := ht c10
    clear ht hf
    refine xr_iconst 0 dX1_shrunk_26 (by decide) ?_
    refine zistore_n 2 dX1_shrunk_27 rfl (L1 := [(1, .int x0), (1, .int x1), (1, .int 0)]) (by decide) rfl ?_
    refine xr_iload_n 2 dX1_shrunk_28 rfl rfl ?_
    obtain ⟨ht, hf⟩ := h
    refine xr_if_eq 38 dX1_shrunk_29 (by decide) (fun c1 => ?_) (fun c1 => ?_)
    · replace h := ht c1
      clear ht hf
      refine xr_iload_n 0 dX1_shrunk_38 rfl rfl ?_
      exact xr_retv (by decide) (xRi rfl rfl dX1_shrunk_39) h
    · replace h := hf c1
      clear ht hf
      refine xr_iload_n 0 dX1_shrunk_32 rfl rfl ?_
      refine xr_iconst 1 dX1_shrunk_33 (by decide) ?_
      refine xr_isub dX1_shrunk_34 ?_
      refine xr_goto 39 dX1_shrunk_35 (by decide) ?_
      exact xr_retv (by decide) (xRi rfl rfl dX1_shrunk_39) h
  · replace h := hf c10
    clear ht hf
    refine xr_iload_n 0 dX1_shrunk_5 rfl rfl ?_
    refine xr_gsS dX1_shrunk_6 gs_RX1_17 ?_
    refine yr_alenS dX1_shrunk_9 ?_
    obtain ⟨ht, hf⟩ := h
    refine xr_icmp_ge 26 dX1_shrunk_10 (by decide) (fun c9 => ?_) (fun c9 => ?_)
    · replace h := ht c9
      clear ht hf
      refine xr_iconst 0 dX1_shrunk_26 (by decide) ?_
      refine zistore_n 2 dX1_shrunk_27 rfl (L1 := [(1, .int x0), (1, .int x1), (1, .int 0)]) (by decide) rfl ?_
      refine xr_iload_n 2 dX1_shrunk_28 rfl rfl ?_
      obtain ⟨ht, hf⟩ := h
      refine xr_if_eq 38 dX1_shrunk_29 (by decide) (fun c2 => ?_) (fun c2 => ?_)
      · replace h := ht c2
        clear ht hf
        refine xr_iload_n 0 dX1_shrunk_38 rfl rfl ?_
        exact xr_retv (by decide) (xRi rfl rfl dX1_shrunk_39) h
      · replace h := hf c2
        clear ht hf
        refine xr_iload_n 0 dX1_shrunk_32 rfl rfl ?_
        refine xr_iconst 1 dX1_shrunk_33 (by decide) ?_
        refine xr_isub dX1_shrunk_34 ?_
        refine xr_goto 39 dX1_shrunk_35 (by decide) ?_
        exact xr_retv (by decide) (xRi rfl rfl dX1_shrunk_39) h
    · replace h := hf c9
      clear ht hf
      refine xr_iload_n 1 dX1_shrunk_13 rfl rfl ?_
      refine xr_gsS dX1_shrunk_14 gs_RX1_17 ?_
      refine xr_iload_n 0 dX1_shrunk_17 rfl rfl ?_
      obtain ⟨i3, e4, b5, h⟩ := h
      refine xr_salS i3 dX1_shrunk_18 e4 b5 ?_
      obtain ⟨ht, hf⟩ := h
      refine xr_icmp_gt 26 dX1_shrunk_19 (by decide) (fun c8 => ?_) (fun c8 => ?_)
      · replace h := ht c8
        clear ht hf
        refine xr_iconst 0 dX1_shrunk_26 (by decide) ?_
        refine zistore_n 2 dX1_shrunk_27 rfl (L1 := [(1, .int x0), (1, .int x1), (1, .int 0)]) (by decide) rfl ?_
        refine xr_iload_n 2 dX1_shrunk_28 rfl rfl ?_
        obtain ⟨ht, hf⟩ := h
        refine xr_if_eq 38 dX1_shrunk_29 (by decide) (fun c6 => ?_) (fun c6 => ?_)
        · replace h := ht c6
          clear ht hf
          refine xr_iload_n 0 dX1_shrunk_38 rfl rfl ?_
          exact xr_retv (by decide) (xRi rfl rfl dX1_shrunk_39) h
        · replace h := hf c6
          clear ht hf
          refine xr_iload_n 0 dX1_shrunk_32 rfl rfl ?_
          refine xr_iconst 1 dX1_shrunk_33 (by decide) ?_
          refine xr_isub dX1_shrunk_34 ?_
          refine xr_goto 39 dX1_shrunk_35 (by decide) ?_
          exact xr_retv (by decide) (xRi rfl rfl dX1_shrunk_39) h
      · replace h := hf c8
        clear ht hf
        refine xr_iconst 1 dX1_shrunk_22 (by decide) ?_
        refine xr_goto 27 dX1_shrunk_23 (by decide) ?_
        refine zistore_n 2 dX1_shrunk_27 rfl (L1 := [(1, .int x0), (1, .int x1), (1, .int 1)]) (by decide) rfl ?_
        refine xr_iload_n 2 dX1_shrunk_28 rfl rfl ?_
        obtain ⟨ht, hf⟩ := h
        refine xr_if_eq 38 dX1_shrunk_29 (by decide) (fun c7 => ?_) (fun c7 => ?_)
        · replace h := ht c7
          clear ht hf
          refine xr_iload_n 0 dX1_shrunk_38 rfl rfl ?_
          exact xr_retv (by decide) (xRi rfl rfl dX1_shrunk_39) h
        · replace h := hf c7
          clear ht hf
          refine xr_iload_n 0 dX1_shrunk_32 rfl rfl ?_
          refine xr_iconst 1 dX1_shrunk_33 (by decide) ?_
          refine xr_isub dX1_shrunk_34 ?_
          refine xr_goto 39 dX1_shrunk_35 (by decide) ?_
          exact xr_retv (by decide) (xRi rfl rfl dX1_shrunk_39) h
theorem dX2_fill_0 : decode cX2_fill 0 = .ok (.aload_n 0, 1) := by decide +kernel
theorem dX2_fill_1 : decode cX2_fill 1 = .ok (.invokevirtual 7, 3) := by decide +kernel
theorem dX2_fill_4 : decode cX2_fill 4 = .ok (.aload_n 0, 1) := by decide +kernel
theorem dX2_fill_5 : decode cX2_fill 5 = .ok (.iconst 0, 1) := by decide +kernel
theorem dX2_fill_6 : decode cX2_fill 6 = .ok (.iconst 1, 1) := by decide +kernel
theorem dX2_fill_7 : decode cX2_fill 7 = .ok (.invokevirtual 14, 3) := by decide +kernel
theorem dX2_fill_10 : decode cX2_fill 10 = .ok (.aload_n 0, 1) := by decide +kernel
theorem dX2_fill_11 : decode cX2_fill 11 = .ok (.iconst 1, 1) := by decide +kernel
theorem dX2_fill_12 : decode cX2_fill 12 = .ok (.lload_n 1, 1) := by decide +kernel
theorem dX2_fill_13 : decode cX2_fill 13 = .ok (.invokevirtual 18, 3) := by decide +kernel
theorem dX2_fill_16 : decode cX2_fill 16 = .ok (.aload_n 0, 1) := by decide +kernel
theorem dX2_fill_17 : decode cX2_fill 17 = .ok (.bipush 9, 2) := by decide +kernel
theorem dX2_fill_19 : decode cX2_fill 19 = .ok (.iload_n 3, 1) := by decide +kernel
theorem dX2_fill_20 : decode cX2_fill 20 = .ok (.invokevirtual 14, 3) := by decide +kernel
theorem dX2_fill_23 : decode cX2_fill 23 = .ok (.aload_n 0, 1) := by decide +kernel
theorem dX2_fill_24 : decode cX2_fill 24 = .ok (.bipush 10, 2) := by decide +kernel
theorem dX2_fill_26 : decode cX2_fill 26 = .ok (.iload 4, 2) := by decide +kernel
theorem dX2_fill_28 : decode cX2_fill 28 = .ok (.bipush 8, 2) := by decide +kernel
theorem dX2_fill_30 : decode cX2_fill 30 = .ok (.ishr, 1) := by decide +kernel
theorem dX2_fill_31 : decode cX2_fill 31 = .ok (.invokevirtual 14, 3) := by decide +kernel
theorem dX2_fill_34 : decode cX2_fill 34 = .ok (.aload_n 0, 1) := by decide +kernel
theorem dX2_fill_35 : decode cX2_fill 35 = .ok (.bipush 11, 2) := by decide +kernel
theorem dX2_fill_37 : decode cX2_fill 37 = .ok (.iload 4, 2) := by decide +kernel
theorem dX2_fill_39 : decode cX2_fill 39 = .ok (.sipush 255, 3) := by decide +kernel
theorem dX2_fill_42 : decode cX2_fill 42 = .ok (.iand, 1) := by decide +kernel
theorem dX2_fill_43 : decode cX2_fill 43 = .ok (.invokevirtual 14, 3) := by decide +kernel
theorem dX2_fill_46 : decode cX2_fill 46 = .ok (.aload_n 0, 1) := by decide +kernel
theorem dX2_fill_47 : decode cX2_fill 47 = .ok (.invokevirtual 22, 3) := by decide +kernel
theorem dX2_fill_50 : decode cX2_fill 50 = .ok (.return_, 1) := by decide +kernel
set_option maxRecDepth 100000 in
set_option maxHeartbeats 4000000 in
theorem bX2_fill_0 {l : Launch} {g : xG} (r0 : Option Nat) (j1 : Int64) (x3 : Int32) (x4 : Int32) {M : xM} {Q : Option Value → xM → Prop} (h : (∃ a5, r0 = some a5 ∧ xat M a5 2 ∧ xSp l g mX5_wipe 0 0 [va_rf r0] M (fun ρ3 M2 => ρ3 = none ∧ (xat M2 a5 2 ∧ xSp l g mX5_set 0 0 [va_rf r0, .int 0, .int 1] M2 (fun ρ10 M9 => ρ10 = none ∧ (xat M9 a5 2 ∧ xSp l g mX5_setLong 0 0 [va_rf r0, .int 1, .long j1] M9 (fun ρ15 M14 => ρ15 = none ∧ (xat M14 a5 2 ∧ xSp l g mX5_set 0 0 [va_rf r0, .int 9, .int x3] M14 (fun ρ20 M19 => ρ20 = none ∧ (xat M19 a5 2 ∧ xSp l g mX5_set 0 0 [va_rf r0, .int 10, .int (x4 >>> (8 &&& 31))] M19 (fun ρ25 M24 => ρ25 = none ∧ (xat M24 a5 2 ∧ xSp l g mX5_set 0 0 [va_rf r0, .int 11, .int (x4 &&& 255)] M24 (fun ρ30 M29 => ρ30 = none ∧ (xat M29 a5 2 ∧ xSp l g mX5_seal 0 0 [va_rf r0] M29 (fun ρ35 M34 => ρ35 = none ∧ (Q none M34)))))))))))))))) : xWp l g mX2_fill 0 0 0 [(1, va_rf r0), (2, .long j1), (0, .null), (1, .int x3), (1, .int x4)] [] (0, 0) M Q := by
  refine xr_aload_n 0 dX2_fill_0 rfl rfl ?_
  obtain ⟨a5, e6, h⟩ := h
  obtain ⟨t7, h⟩ := h
  refine yr_callV (r := r0) [] dX2_fill_1 cv_X2_fill_7 e6 t7 rfl (Nat.le_trans wt_0 (by decide)) (by decide) (xSp.mono h ?_)
  clear h
  intro ρ3 M2 h
  obtain ⟨rfl, h⟩ := h
  refine xr_aload_n 0 dX2_fill_4 rfl rfl ?_
  refine xr_iconst 0 dX2_fill_5 (by decide) ?_
  refine xr_iconst 1 dX2_fill_6 (by decide) ?_
  obtain ⟨t12, h⟩ := h
  refine yr_callV (r := r0) [.int 0, .int 1] dX2_fill_7 cv_X2_fill_14 e6 t12 rfl (Nat.le_trans wt_0 (by decide)) (by decide) (xSp.mono h ?_)
  clear h
  intro ρ10 M9 h
  obtain ⟨rfl, h⟩ := h
  refine xr_aload_n 0 dX2_fill_10 rfl rfl ?_
  refine xr_iconst 1 dX2_fill_11 (by decide) ?_
  refine xr_lload_n 1 dX2_fill_12 rfl rfl ?_
  obtain ⟨t17, h⟩ := h
  refine yr_callV (r := r0) [.int 1, .long j1] dX2_fill_13 cv_X2_fill_18 e6 t17 rfl (Nat.le_trans wt_0 (by decide)) (by decide) (xSp.mono h ?_)
  clear h
  intro ρ15 M14 h
  obtain ⟨rfl, h⟩ := h
  refine xr_aload_n 0 dX2_fill_16 rfl rfl ?_
  refine xr_bipush 9 dX2_fill_17 (by decide) ?_
  refine xr_iload_n 3 dX2_fill_19 rfl rfl ?_
  obtain ⟨t22, h⟩ := h
  refine yr_callV (r := r0) [.int 9, .int x3] dX2_fill_20 cv_X2_fill_14 e6 t22 rfl (Nat.le_trans wt_0 (by decide)) (by decide) (xSp.mono h ?_)
  clear h
  intro ρ20 M19 h
  obtain ⟨rfl, h⟩ := h
  refine xr_aload_n 0 dX2_fill_23 rfl rfl ?_
  refine xr_bipush 10 dX2_fill_24 (by decide) ?_
  refine xr_iload dX2_fill_26 rfl ?_
  refine xr_bipush 8 dX2_fill_28 (by decide) ?_
  refine xr_ishr dX2_fill_30 ?_
  obtain ⟨t27, h⟩ := h
  refine yr_callV (r := r0) [.int 10, .int (x4 >>> (8 &&& 31))] dX2_fill_31 cv_X2_fill_14 e6 t27 rfl (Nat.le_trans wt_0 (by decide)) (by decide) (xSp.mono h ?_)
  clear h
  intro ρ25 M24 h
  obtain ⟨rfl, h⟩ := h
  refine xr_aload_n 0 dX2_fill_34 rfl rfl ?_
  refine xr_bipush 11 dX2_fill_35 (by decide) ?_
  refine xr_iload dX2_fill_37 rfl ?_
  refine xr_sipush 255 dX2_fill_39 (by decide) ?_
  refine xr_iand dX2_fill_42 ?_
  obtain ⟨t32, h⟩ := h
  refine yr_callV (r := r0) [.int 11, .int (x4 &&& 255)] dX2_fill_43 cv_X2_fill_14 e6 t32 rfl (Nat.le_trans wt_0 (by decide)) (by decide) (xSp.mono h ?_)
  clear h
  intro ρ30 M29 h
  obtain ⟨rfl, h⟩ := h
  refine xr_aload_n 0 dX2_fill_46 rfl rfl ?_
  obtain ⟨t37, h⟩ := h
  refine yr_callV (r := r0) [] dX2_fill_47 cv_X2_fill_22 e6 t37 rfl (Nat.le_trans wt_0 (by decide)) (by decide) (xSp.mono h ?_)
  clear h
  intro ρ35 M34 h
  obtain ⟨rfl, h⟩ := h
  exact xr_ret (by decide) (xRv rfl dX2_fill_50) h
theorem dX2_sequence_0 : decode cX2_sequence 0 = .ok (.aload_n 0, 1) := by decide +kernel
theorem dX2_sequence_1 : decode cX2_sequence 1 = .ok (.iconst 1, 1) := by decide +kernel
theorem dX2_sequence_2 : decode cX2_sequence 2 = .ok (.invokevirtual 25, 3) := by decide +kernel
theorem dX2_sequence_5 : decode cX2_sequence 5 = .ok (.lreturn, 1) := by decide +kernel
set_option maxRecDepth 100000 in
set_option maxHeartbeats 4000000 in
theorem bX2_sequence_0 {l : Launch} {g : xG} (r0 : Option Nat) {M : xM} {Q : Option Value → xM → Prop} (h : (∃ a5, r0 = some a5 ∧ xat M a5 2 ∧ xSp l g mX5_longAt 0 0 [va_rf r0, .int 1] M (fun ρ3 M2 => ∃ v1 : Int64, ρ3 = some (.long v1) ∧ (Q (some (.long v1)) M2)))) : xWp l g mX2_sequence 0 0 0 [(1, va_rf r0)] [] (0, 0) M Q := by
  refine xr_aload_n 0 dX2_sequence_0 rfl rfl ?_
  refine xr_iconst 1 dX2_sequence_1 (by decide) ?_
  obtain ⟨a5, e6, h⟩ := h
  obtain ⟨t7, h⟩ := h
  refine yr_callV (r := r0) [.int 1] dX2_sequence_2 cv_X2_sequence_25 e6 t7 rfl (Nat.le_trans wt_0 (by decide)) (by decide) (xSp.mono h ?_)
  clear h
  intro ρ3 M2 h
  obtain ⟨v1, rfl, h⟩ := h
  exact xr_retv (by decide) (xRl rfl dX2_sequence_5) h
theorem dX2_rootPage_0 : decode cX2_rootPage 0 = .ok (.aload_n 0, 1) := by decide +kernel
theorem dX2_rootPage_1 : decode cX2_rootPage 1 = .ok (.bipush 9, 2) := by decide +kernel
theorem dX2_rootPage_3 : decode cX2_rootPage 3 = .ok (.invokevirtual 29, 3) := by decide +kernel
theorem dX2_rootPage_6 : decode cX2_rootPage 6 = .ok (.ireturn, 1) := by decide +kernel
set_option maxRecDepth 100000 in
set_option maxHeartbeats 4000000 in
theorem bX2_rootPage_0 {l : Launch} {g : xG} (r0 : Option Nat) {M : xM} {Q : Option Value → xM → Prop} (h : (∃ a5, r0 = some a5 ∧ xat M a5 2 ∧ xSp l g mX5_at 0 0 [va_rf r0, .int 9] M (fun ρ3 M2 => ∃ v1 : Int32, ρ3 = some (.int v1) ∧ (Q (some (.int v1)) M2)))) : xWp l g mX2_rootPage 0 0 0 [(1, va_rf r0)] [] (0, 0) M Q := by
  refine xr_aload_n 0 dX2_rootPage_0 rfl rfl ?_
  refine xr_bipush 9 dX2_rootPage_1 (by decide) ?_
  obtain ⟨a5, e6, h⟩ := h
  obtain ⟨t7, h⟩ := h
  refine yr_callV (r := r0) [.int 9] dX2_rootPage_3 cv_X2_rootPage_29 e6 t7 rfl (Nat.le_trans wt_0 (by decide)) (by decide) (xSp.mono h ?_)
  clear h
  intro ρ3 M2 h
  obtain ⟨v1, rfl, h⟩ := h
  exact xr_retv (by decide) (xRi rfl rfl dX2_rootPage_6) h
theorem dX2_keys_0 : decode cX2_keys 0 = .ok (.aload_n 0, 1) := by decide +kernel
theorem dX2_keys_1 : decode cX2_keys 1 = .ok (.bipush 10, 2) := by decide +kernel
theorem dX2_keys_3 : decode cX2_keys 3 = .ok (.invokevirtual 29, 3) := by decide +kernel
theorem dX2_keys_6 : decode cX2_keys 6 = .ok (.bipush 8, 2) := by decide +kernel
theorem dX2_keys_8 : decode cX2_keys 8 = .ok (.ishl, 1) := by decide +kernel
theorem dX2_keys_9 : decode cX2_keys 9 = .ok (.aload_n 0, 1) := by decide +kernel
theorem dX2_keys_10 : decode cX2_keys 10 = .ok (.bipush 11, 2) := by decide +kernel
theorem dX2_keys_12 : decode cX2_keys 12 = .ok (.invokevirtual 29, 3) := by decide +kernel
theorem dX2_keys_15 : decode cX2_keys 15 = .ok (.ior, 1) := by decide +kernel
theorem dX2_keys_16 : decode cX2_keys 16 = .ok (.ireturn, 1) := by decide +kernel
set_option maxRecDepth 100000 in
set_option maxHeartbeats 4000000 in
theorem bX2_keys_0 {l : Launch} {g : xG} (r0 : Option Nat) {M : xM} {Q : Option Value → xM → Prop} (h : (∃ a5, r0 = some a5 ∧ xat M a5 2 ∧ xSp l g mX5_at 0 0 [va_rf r0, .int 10] M (fun ρ3 M2 => ∃ v1 : Int32, ρ3 = some (.int v1) ∧ (xat M2 a5 2 ∧ xSp l g mX5_at 0 0 [va_rf r0, .int 11] M2 (fun ρ10 M9 => ∃ v8 : Int32, ρ10 = some (.int v8) ∧ (Q (some (.int ((v1 <<< (8 &&& 31)) ||| v8))) M9)))))) : xWp l g mX2_keys 0 0 0 [(1, va_rf r0)] [] (0, 0) M Q := by
  refine xr_aload_n 0 dX2_keys_0 rfl rfl ?_
  refine xr_bipush 10 dX2_keys_1 (by decide) ?_
  obtain ⟨a5, e6, h⟩ := h
  obtain ⟨t7, h⟩ := h
  refine yr_callV (r := r0) [.int 10] dX2_keys_3 cv_X2_keys_29 e6 t7 rfl (Nat.le_trans wt_0 (by decide)) (by decide) (xSp.mono h ?_)
  clear h
  intro ρ3 M2 h
  obtain ⟨v1, rfl, h⟩ := h
  refine xr_bipush 8 dX2_keys_6 (by decide) ?_
  refine xr_ishl dX2_keys_8 ?_
  refine xr_aload_n 0 dX2_keys_9 rfl rfl ?_
  refine xr_bipush 11 dX2_keys_10 (by decide) ?_
  obtain ⟨t12, h⟩ := h
  refine yr_callV (r := r0) [.int 11] dX2_keys_12 cv_X2_keys_29 e6 t12 rfl (Nat.le_trans (wt_i wt_0) (by decide)) (by decide) (xSp.mono h ?_)
  clear h
  intro ρ10 M9 h
  obtain ⟨v8, rfl, h⟩ := h
  refine xr_ior dX2_keys_15 ?_
  exact xr_retv (by decide) (xRi rfl rfl dX2_keys_16) h
