/-! The law's four helpers. -/
theorem wI : ∀ w ∈ [Cond.castable eIA eIA, .castable eIS eIS, .castable eIO eIO], w ∈ xThW := by decide +kernel
section LHP
variable {l : Launch} {g : xG} {M : xM} {Q : Option Value → xM → Prop} {x o : Nat}
theorem sL_type_ret {j : Int64} {n : Int32} (hx : xat M x 6) (h : xSp l g mX9_type 0 0 [va_rf (some x), .long j, .int n] M (fun r M1 => ∃ v : Int32, r = some (.int v) ∧ xai M1 o 10 (0 : Int32) 0 ∧ Q (some (.int 0)) (xsJ M1 o 0 v.toInt64))) : xSpH l g hL_type hhL_type [va_rf (some x), .long j, .int n, va_rf (some o)] M Q := by
  refine xBodyH (ta := [(1, va_rf (some x)), (2, .long j), (1, .int n), (1, va_rf (some o))]) 1 (by decide +kernel) (tc_r (tc_j (tc_i (tc_r tc_0)))) (Nat.le_of_ble_eq_true rfl) (fun sz => ?_)
  show xWg l g hL_type 1 6 0 [(1, va_rf (some x)), (2, .long j), (0, .null), (1, .int n), (1, va_rf (some o)), (0, .null)] [] (0, 0) M _
  refine kr_aload dL_type_0 rfl ?_
  refine kr_iconst 0 dL_type_2 (by decide) ?_
  refine kr_aload_n 0 dL_type_3 rfl rfl ?_
  refine kr_lload_n 1 dL_type_4 rfl rfl ?_
  refine kr_iload_n 3 dL_type_5 rfl rfl ?_
  refine ky_callV (r := (some x)) [.long j, .int n] dL_type_6 cvL_type_7 rfl hx rfl (Nat.le_trans (wt_i (wt_r wt_0)) (by decide)) (by decide) (xSp.mono h ?_)
  intro r M1 h
  obtain ⟨v, rfl, ho, hq⟩ := h
  refine kr_i2l dL_type_9 ?_
  refine ky_last dL_type_10 rfl ho ?_
  refine kr_goto 22 dL_type_11 (by decide) ?_
  refine kr_iconst 0 dL_type_22 (by decide) ?_
  exact kr_retH (by decide) rfl dL_type_23 hq
theorem sL_type_1 {j : Int64} {n : Int32} (hx : xat M x 6) (h : xSpT l g mX9_type [va_rf (some x), .long j, .int n] M eIA) (hQ : Q (some (.int 1)) M) : xSpH l g hL_type hhL_type [va_rf (some x), .long j, .int n, va_rf (some o)] M Q := by
  refine xBodyH (ta := [(1, va_rf (some x)), (2, .long j), (1, .int n), (1, va_rf (some o))]) 1 (by decide +kernel) (tc_r (tc_j (tc_i (tc_r tc_0)))) (Nat.le_of_ble_eq_true rfl) (fun sz => ?_)
  show xWg l g hL_type 1 6 0 [(1, va_rf (some x)), (2, .long j), (0, .null), (1, .int n), (1, va_rf (some o)), (0, .null)] [] (0, 0) M _
  refine kr_aload dL_type_0 rfl ?_
  refine kr_iconst 0 dL_type_2 (by decide) ?_
  refine kr_aload_n 0 dL_type_3 rfl rfl ?_
  refine kr_lload_n 1 dL_type_4 rfl rfl ?_
  refine kr_iload_n 3 dL_type_5 rfl rfl ?_
  refine kr_callT (hpc := 14) [.long j, .int n] dL_type_6 cvL_type_7 ⟨by decide, by decide⟩ rfl hx.1 hx.2 (Nat.le_trans (wt_i (wt_r wt_0)) (by decide)) (by decide) (fun hk => hk.2.2.2) h (fun hts hk => ⟨[], ⟨0, 11, 14, 13⟩, [⟨0, 11, 18, 15⟩], eIA, hk.2.2.1, fun z hz => (by cases hz), by decide, by decide, hts _ clL_13, va_Nw.use rfl (hk.2.2.2.2.2.2.2.2.1 _ (wI _ (by simp))), rfl⟩) (fun q => ?_)
  refine kzastore dL_type_14 (L1 := [(1, va_rf (some x)), (2, .long j), (0, .null), (1, .int n), (1, va_rf (some o)), (1, va_rf (some q))]) (by decide) rfl ?_
  refine kr_iconst 1 dL_type_16 (by decide) ?_
  exact kr_retH (by decide) rfl dL_type_17 hQ
theorem sL_type_2 {j : Int64} {n : Int32} (hx : xat M x 6) (h : xSpT l g mX9_type [va_rf (some x), .long j, .int n] M eIS) (hQ : Q (some (.int 2)) M) : xSpH l g hL_type hhL_type [va_rf (some x), .long j, .int n, va_rf (some o)] M Q := by
  refine xBodyH (ta := [(1, va_rf (some x)), (2, .long j), (1, .int n), (1, va_rf (some o))]) 1 (by decide +kernel) (tc_r (tc_j (tc_i (tc_r tc_0)))) (Nat.le_of_ble_eq_true rfl) (fun sz => ?_)
  show xWg l g hL_type 1 6 0 [(1, va_rf (some x)), (2, .long j), (0, .null), (1, .int n), (1, va_rf (some o)), (0, .null)] [] (0, 0) M _
  refine kr_aload dL_type_0 rfl ?_
  refine kr_iconst 0 dL_type_2 (by decide) ?_
  refine kr_aload_n 0 dL_type_3 rfl rfl ?_
  refine kr_lload_n 1 dL_type_4 rfl rfl ?_
  refine kr_iload_n 3 dL_type_5 rfl rfl ?_
  refine kr_callT (hpc := 18) [.long j, .int n] dL_type_6 cvL_type_7 ⟨by decide, by decide⟩ rfl hx.1 hx.2 (Nat.le_trans (wt_i (wt_r wt_0)) (by decide)) (by decide) (fun hk => hk.2.2.2) h (fun hts hk => ⟨[⟨0, 11, 14, 13⟩], ⟨0, 11, 18, 15⟩, [], eIS, hk.2.2.1, fun z hz => ?_, by decide, by decide, hts _ clL_15, va_Nw.use rfl (hk.2.2.2.2.2.2.2.2.1 _ (wI _ (by simp))), rfl⟩) (fun q => ?_)
  · rw [List.mem_singleton.mp hz]
    exact Or.inr ⟨by decide, eIA, hts _ clL_13, hk.2.2.2.2.2.2.2.2.2⟩
  refine kzastore dL_type_18 (L1 := [(1, va_rf (some x)), (2, .long j), (0, .null), (1, .int n), (1, va_rf (some o)), (1, va_rf (some q))]) (by decide) rfl ?_
  refine kr_iconst 2 dL_type_20 (by decide) ?_
  exact kr_retH (by decide) rfl dL_type_21 hQ
theorem sL_cut_ret {n : Int32} (hx : xat M x 6) (h : xSp l g mX9_cut 0 0 [va_rf (some x), .int n] M (fun r M1 => ∃ v : Int32, r = some (.int v) ∧ xai M1 o 10 (0 : Int32) 0 ∧ Q (some (.int 0)) (xsJ M1 o 0 v.toInt64))) : xSpH l g hL_cut hhL_cut [va_rf (some x), .int n, va_rf (some o)] M Q := by
  refine xBodyH (ta := [(1, va_rf (some x)), (1, .int n), (1, va_rf (some o))]) 1 (by decide +kernel) (tc_r (tc_i (tc_r tc_0))) (Nat.le_of_ble_eq_true rfl) (fun sz => ?_)
  show xWg l g hL_cut 1 6 0 [(1, va_rf (some x)), (1, .int n), (1, va_rf (some o)), (0, .null)] [] (0, 0) M _
  refine kr_aload_n 2 dL_cut_0 rfl rfl ?_
  refine kr_iconst 0 dL_cut_1 (by decide) ?_
  refine kr_aload_n 0 dL_cut_2 rfl rfl ?_
  refine kr_iload_n 1 dL_cut_3 rfl rfl ?_
  refine ky_callV (r := (some x)) [.int n] dL_cut_4 cvL_cut_17 rfl hx rfl (Nat.le_trans (wt_i (wt_r wt_0)) (by decide)) (by decide) (xSp.mono h ?_)
  intro r M1 h
  obtain ⟨v, rfl, ho, hq⟩ := h
  refine kr_i2l dL_cut_7 ?_
  refine ky_last dL_cut_8 rfl ho ?_
  refine kr_goto 15 dL_cut_9 (by decide) ?_
  refine kr_iconst 0 dL_cut_15 (by decide) ?_
  exact kr_retH (by decide) rfl dL_cut_16 hq
theorem sL_cut_1 {n : Int32} (hx : xat M x 6) (h : xSpT l g mX9_cut [va_rf (some x), .int n] M eIA) (hQ : Q (some (.int 1)) M) : xSpH l g hL_cut hhL_cut [va_rf (some x), .int n, va_rf (some o)] M Q := by
  refine xBodyH (ta := [(1, va_rf (some x)), (1, .int n), (1, va_rf (some o))]) 1 (by decide +kernel) (tc_r (tc_i (tc_r tc_0))) (Nat.le_of_ble_eq_true rfl) (fun sz => ?_)
  show xWg l g hL_cut 1 6 0 [(1, va_rf (some x)), (1, .int n), (1, va_rf (some o)), (0, .null)] [] (0, 0) M _
  refine kr_aload_n 2 dL_cut_0 rfl rfl ?_
  refine kr_iconst 0 dL_cut_1 (by decide) ?_
  refine kr_aload_n 0 dL_cut_2 rfl rfl ?_
  refine kr_iload_n 1 dL_cut_3 rfl rfl ?_
  refine kr_callT (hpc := 12) [.int n] dL_cut_4 cvL_cut_17 ⟨by decide, by decide⟩ rfl hx.1 hx.2 (Nat.le_trans (wt_i (wt_r wt_0)) (by decide)) (by decide) (fun hk => hk.2.2.2) h (fun hts hk => ⟨[], ⟨0, 9, 12, 13⟩, [], eIA, hk.2.2.1, fun z hz => (by cases hz), by decide, by decide, hts _ clL_13, va_Nw.use rfl (hk.2.2.2.2.2.2.2.2.1 _ (wI _ (by simp))), rfl⟩) (fun q => ?_)
  refine kzastore_n 3 dL_cut_12 rfl (L1 := [(1, va_rf (some x)), (1, .int n), (1, va_rf (some o)), (1, va_rf (some q))]) (by decide) rfl ?_
  refine kr_iconst 1 dL_cut_13 (by decide) ?_
  exact kr_retH (by decide) rfl dL_cut_14 hQ
theorem sL_octet_ret {n i : Int32} (hx : xat M x 6) (h : xSp l g mX9_octet 0 0 [va_rf (some x), .int n, .int i] M (fun r M1 => ∃ v : Int32, r = some (.int v) ∧ xai M1 o 10 (0 : Int32) 0 ∧ Q (some (.int 0)) (xsJ M1 o 0 v.toInt64))) : xSpH l g hL_octet hhL_octet [va_rf (some x), .int n, .int i, va_rf (some o)] M Q := by
  refine xBodyH (ta := [(1, va_rf (some x)), (1, .int n), (1, .int i), (1, va_rf (some o))]) 1 (by decide +kernel) (tc_r (tc_i (tc_i (tc_r tc_0)))) (Nat.le_of_ble_eq_true rfl) (fun sz => ?_)
  show xWg l g hL_octet 1 6 0 [(1, va_rf (some x)), (1, .int n), (1, .int i), (1, va_rf (some o)), (0, .null)] [] (0, 0) M _
  refine kr_aload_n 3 dL_octet_0 rfl rfl ?_
  refine kr_iconst 0 dL_octet_1 (by decide) ?_
  refine kr_aload_n 0 dL_octet_2 rfl rfl ?_
  refine kr_iload_n 1 dL_octet_3 rfl rfl ?_
  refine kr_iload_n 2 dL_octet_4 rfl rfl ?_
  refine ky_callV (r := (some x)) [.int n, .int i] dL_octet_5 cvL_octet_21 rfl hx rfl (Nat.le_trans (wt_i (wt_r wt_0)) (by decide)) (by decide) (xSp.mono h ?_)
  intro r M1 h
  obtain ⟨v, rfl, ho, hq⟩ := h
  refine kr_i2l dL_octet_8 ?_
  refine ky_last dL_octet_9 rfl ho ?_
  refine kr_goto 17 dL_octet_10 (by decide) ?_
  refine kr_iconst 0 dL_octet_17 (by decide) ?_
  exact kr_retH (by decide) rfl dL_octet_18 hq
theorem sL_octet_1 {n i : Int32} (hx : xat M x 6) (h : xSpT l g mX9_octet [va_rf (some x), .int n, .int i] M eIO) (hQ : Q (some (.int 1)) M) : xSpH l g hL_octet hhL_octet [va_rf (some x), .int n, .int i, va_rf (some o)] M Q := by
  refine xBodyH (ta := [(1, va_rf (some x)), (1, .int n), (1, .int i), (1, va_rf (some o))]) 1 (by decide +kernel) (tc_r (tc_i (tc_i (tc_r tc_0)))) (Nat.le_of_ble_eq_true rfl) (fun sz => ?_)
  show xWg l g hL_octet 1 6 0 [(1, va_rf (some x)), (1, .int n), (1, .int i), (1, va_rf (some o)), (0, .null)] [] (0, 0) M _
  refine kr_aload_n 3 dL_octet_0 rfl rfl ?_
  refine kr_iconst 0 dL_octet_1 (by decide) ?_
  refine kr_aload_n 0 dL_octet_2 rfl rfl ?_
  refine kr_iload_n 1 dL_octet_3 rfl rfl ?_
  refine kr_iload_n 2 dL_octet_4 rfl rfl ?_
  refine kr_callT (hpc := 13) [.int n, .int i] dL_octet_5 cvL_octet_21 ⟨by decide, by decide⟩ rfl hx.1 hx.2 (Nat.le_trans (wt_i (wt_r wt_0)) (by decide)) (by decide) (fun hk => hk.2.2.2) h (fun hts hk => ⟨[], ⟨0, 10, 13, 25⟩, [], eIO, hk.2.2.1, fun z hz => (by cases hz), by decide, by decide, hts _ clL_25, va_Nw.use rfl (hk.2.2.2.2.2.2.2.2.1 _ (wI _ (by simp))), rfl⟩) (fun q => ?_)
  refine kzastore dL_octet_13 (L1 := [(1, va_rf (some x)), (1, .int n), (1, .int i), (1, va_rf (some o)), (1, va_rf (some q))]) (by decide) rfl ?_
  refine kr_iconst 1 dL_octet_15 (by decide) ?_
  exact kr_retH (by decide) rfl dL_octet_16 hQ
theorem sL_poke_ret {n i k : Int32} (hx : xat M x 6) (h : xSp l g mX9_poke 0 0 [va_rf (some x), .int n, .int i, .int k] M (fun r M1 => ∃ v : Int32, r = some (.int v) ∧ xai M1 o 10 (0 : Int32) 0 ∧ Q (some (.int 0)) (xsJ M1 o 0 v.toInt64))) : xSpH l g hL_poke hhL_poke [va_rf (some x), .int n, .int i, .int k, va_rf (some o)] M Q := by
  refine xBodyH (ta := [(1, va_rf (some x)), (1, .int n), (1, .int i), (1, .int k), (1, va_rf (some o))]) 1 (by decide +kernel) (tc_r (tc_i (tc_i (tc_i (tc_r tc_0))))) (Nat.le_of_ble_eq_true rfl) (fun sz => ?_)
  show xWg l g hL_poke 1 6 0 [(1, va_rf (some x)), (1, .int n), (1, .int i), (1, .int k), (1, va_rf (some o)), (0, .null)] [] (0, 0) M _
  refine kr_aload dL_poke_0 rfl ?_
  refine kr_iconst 0 dL_poke_2 (by decide) ?_
  refine kr_aload_n 0 dL_poke_3 rfl rfl ?_
  refine kr_iload_n 1 dL_poke_4 rfl rfl ?_
  refine kr_iload_n 2 dL_poke_5 rfl rfl ?_
  refine kr_iload_n 3 dL_poke_6 rfl rfl ?_
  refine ky_callV (r := (some x)) [.int n, .int i, .int k] dL_poke_7 cvL_poke_27 rfl hx rfl (Nat.le_trans (wt_i (wt_r wt_0)) (by decide)) (by decide) (xSp.mono h ?_)
  intro r M1 h
  obtain ⟨v, rfl, ho, hq⟩ := h
  refine kr_i2l dL_poke_10 ?_
  refine ky_last dL_poke_11 rfl ho ?_
  refine kr_goto 19 dL_poke_12 (by decide) ?_
  refine kr_iconst 0 dL_poke_19 (by decide) ?_
  exact kr_retH (by decide) rfl dL_poke_20 hq
theorem sL_poke_1 {n i k : Int32} (hx : xat M x 6) (h : xSpT l g mX9_poke [va_rf (some x), .int n, .int i, .int k] M eIO) (hQ : Q (some (.int 1)) M) : xSpH l g hL_poke hhL_poke [va_rf (some x), .int n, .int i, .int k, va_rf (some o)] M Q := by
  refine xBodyH (ta := [(1, va_rf (some x)), (1, .int n), (1, .int i), (1, .int k), (1, va_rf (some o))]) 1 (by decide +kernel) (tc_r (tc_i (tc_i (tc_i (tc_r tc_0))))) (Nat.le_of_ble_eq_true rfl) (fun sz => ?_)
  show xWg l g hL_poke 1 6 0 [(1, va_rf (some x)), (1, .int n), (1, .int i), (1, .int k), (1, va_rf (some o)), (0, .null)] [] (0, 0) M _
  refine kr_aload dL_poke_0 rfl ?_
  refine kr_iconst 0 dL_poke_2 (by decide) ?_
  refine kr_aload_n 0 dL_poke_3 rfl rfl ?_
  refine kr_iload_n 1 dL_poke_4 rfl rfl ?_
  refine kr_iload_n 2 dL_poke_5 rfl rfl ?_
  refine kr_iload_n 3 dL_poke_6 rfl rfl ?_
  refine kr_callT (hpc := 15) [.int n, .int i, .int k] dL_poke_7 cvL_poke_27 ⟨by decide, by decide⟩ rfl hx.1 hx.2 (Nat.le_trans (wt_i (wt_r wt_0)) (by decide)) (by decide) (fun hk => hk.2.2.2) h (fun hts hk => ⟨[], ⟨0, 12, 15, 25⟩, [], eIO, hk.2.2.1, fun z hz => (by cases hz), by decide, by decide, hts _ clL_25, va_Nw.use rfl (hk.2.2.2.2.2.2.2.2.1 _ (wI _ (by simp))), rfl⟩) (fun q => ?_)
  refine kzastore dL_poke_15 (L1 := [(1, va_rf (some x)), (1, .int n), (1, .int i), (1, .int k), (1, va_rf (some o)), (1, va_rf (some q))]) (by decide) rfl ?_
  refine kr_iconst 1 dL_poke_17 (by decide) ?_
  exact kr_retH (by decide) rfl dL_poke_18 hQ
end LHP
