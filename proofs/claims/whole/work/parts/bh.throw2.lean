/-! The four methods that throw, where they do. -/
theorem thA_at : ∀ w ∈ (vx_atS RX9 47 eIA eNm).filter goodWord, w ∈ gl := fun w hw => gl_at [75, 799, 808, 812, 815, 817, 800, 801, 92, 93, 802, 807, 813, 833, 789, 834, 791, 835, 793, 803, 805, 795, 829, 830, 832, 795, 820, 821, 822, 823, 823, 824, 825, 826, 826, 827, 828, 829, 819, 778, 786, 787, 788, 790, 792, 794, 798, 797, 796] (by decide +kernel) (by decide +kernel) hw
theorem thB_at : ∀ w ∈ (vx_atS RX9 57 eIS eNm).filter goodWord, w ∈ gl := fun w hw => gl_at [75, 799, 808, 812, 815, 817, 800, 801, 92, 93, 802, 807, 813, 833, 789, 834, 791, 835, 793, 803, 805, 795, 829, 830, 832, 795, 855, 856, 857, 823, 823, 824, 825, 826, 826, 827, 828, 829, 854, 845, 847, 810, 848, 849, 850, 851, 798, 797, 852] (by decide +kernel) (by decide +kernel) hw
theorem thC_at : ∀ w ∈ (vx_atS RX9 182 eIO eNm).filter goodWord, w ∈ gl := fun w hw => gl_at [75, 799, 808, 812, 815, 817, 800, 801, 92, 93, 802, 807, 813, 833, 789, 834, 791, 835, 793, 803, 805, 795, 829, 830, 832, 795, 893, 894, 895, 823, 823, 824, 825, 826, 826, 827, 828, 829, 892, 883, 885, 811, 886, 887, 888, 889, 798, 797, 890] (by decide +kernel) (by decide +kernel) hw
theorem thA_bad : ∀ w ∈ (vx_atS RX9 47 eIA eNm).filter (fun w => !goodWord w), w ∈ xThW := by decide +kernel
theorem thB_bad : ∀ w ∈ (vx_atS RX9 57 eIS eNm).filter (fun w => !goodWord w), w ∈ xThW := by decide +kernel
theorem thC_bad : ∀ w ∈ (vx_atS RX9 182 eIO eNm).filter (fun w => !goodWord w), w ∈ xThW := by decide +kernel
theorem thA_good : ∀ w ∈ Cond.classLink RX9 43 eIA :: Cond.initialized eIA :: vx_atS RX9 47 eIA eNm, vx_ot w = true := by decide +kernel
theorem thB_good : ∀ w ∈ Cond.classLink RX9 53 eIS :: Cond.initialized eIS :: vx_atS RX9 57 eIS eNm, vx_ot w = true := by decide +kernel
theorem thC_good : ∀ w ∈ Cond.classLink RX9 178 eIO :: Cond.initialized eIO :: vx_atS RX9 182 eIO eNm, vx_ot w = true := by decide +kernel
theorem thA_k : Cond.classLink RX9 43 eIA ∈ gl := gl_mem 777 (by decide +kernel) (by decide +kernel)
theorem thA_i : Cond.initialized eIA ∈ gl := gl_mem 78 (by decide +kernel) (by decide +kernel)
theorem thB_k : Cond.classLink RX9 53 eIS ∈ gl := gl_mem 844 (by decide +kernel) (by decide +kernel)
theorem thB_i : Cond.initialized eIS ∈ gl := gl_mem 79 (by decide +kernel) (by decide +kernel)
theorem thC_k : Cond.classLink RX9 178 eIO ∈ gl := gl_mem 882 (by decide +kernel) (by decide +kernel)
theorem thC_i : Cond.initialized eIO ∈ gl := gl_mem 85 (by decide +kernel) (by decide +kernel)
section TH
variable {l : Launch} {g : xG} {M : xM} {Q : Option Value → xM → Prop} {F : Nat → Prop} {x : Nat} {K : List Nat} {dn : Bool} {T Tc : TT} {D : Nat → Nat} {pw : Option Nat} {tr sq : Nat}
theorem sX0_has_no {p i : Int32} (hn : ¬ ((0 ≤ p ∧ p ≤ 255) ∧ (0 ≤ i ∧ i ≤ 511))) (hQ : Q (some (.int 0)) M) : xSp l g mX0_has 0 0 [.int p, .int i] M Q := by
  refine eX0_has _ _ (bX0_has_0 _ _ ⟨fun _ => hQ, fun a => ⟨fun _ => hQ, fun b => ⟨fun _ => hQ, fun c => ⟨fun _ => hQ, fun d => ?_⟩⟩⟩⟩)
  refine absurd ⟨⟨Int32.not_lt.mp a, ?_⟩, Int32.not_lt.mp c, ?_⟩ hn
  · have := Int32.lt_iff_toInt_lt.mp (Int32.not_le.mp b)
    refine Int32.le_iff_toInt_le.mpr ?_
    rw [show (256 : Int32).toInt = 256 from rfl] at this
    rw [show (255 : Int32).toInt = 255 from rfl]
    omega
  · have := Int32.lt_iff_toInt_lt.mp (Int32.not_le.mp d)
    refine Int32.le_iff_toInt_le.mpr ?_
    rw [show (512 : Int32).toInt = 512 from rfl] at this
    rw [show (511 : Int32).toInt = 511 from rfl]
    omega
theorem cR.tp (h : cR F M x K dn T Tc D pw tr sq) : xat M x 6 ∧ ∃ t, xR M x 0 = some t ∧ xat M t 4 ∧ xI M t 1 = nI K.length ∧ K.length ≤ 64 := by
  obtain ⟨tp, tb, t, tc, s, d, db, w, rb, w2, rb2, ta, st, stc, KK, KKc, φ, φc, ψ, sp, spc, tk, h⟩ := h
  obtain ⟨⟨a1, a2, -⟩, b, -⟩ := h
  exact ⟨a1, tp, a2, b.1.1, b.2.1, b.2.2.1⟩
theorem sT_type1 {j : Int64} {n : Int32} (hl : l.stackTraces = false) (hn : ¬ (1 ≤ n ∧ n ≤ 8)) : xSpT l g mX9_type [va_rf (some x), .long j, .int n] M eIA := by
  refine xBodyT (ta := [(1, va_rf (some x)), (2, .long j), (1, .int n)]) 1 hl (by decide +kernel) (tc_r (tc_j (tc_i tc_0))) (Nat.le_of_ble_eq_true rfl) ⟨by decide, by decide⟩ (fun sz => ?_)
  have go : ∀ L, xWg l g mX9_type 1 6 11 L [] (0, 0) M (xKT l g M sz eIA) := fun L => kr_throw rfl (by decide +kernel) thA_k thA_i thA_at thA_bad thA_good (fun h => h.2.1) dX9_type_11 dX9_type_14 dX9_type_15 dX9_type_17 dX9_type_20
  show xWg l g mX9_type 1 6 0 [(1, va_rf (some x)), (2, .long j), (0, .null), (1, .int n), (0, .null)] [] (0, 0) M _
  refine kr_iload_n 3 dX9_type_0 rfl rfl ?_
  refine kr_iconst 1 dX9_type_1 (by decide) ?_
  refine kr_icmp_lt 11 dX9_type_2 (by decide) (fun c => go _) (fun c => ?_)
  refine kr_iload_n 3 dX9_type_5 rfl rfl ?_
  refine kr_bipush 8 dX9_type_6 (by decide) ?_
  exact kr_icmp_le 21 dX9_type_8 (by decide) (fun c2 => absurd ⟨Int32.not_lt.mp c, c2⟩ hn) (fun c2 => go _)
theorem sT_type2 {j : Int64} {n : Nat} (hl : l.stackTraces = false) (hn1 : 1 ≤ n) (hn8 : n ≤ 8) (h64 : 64 < K.length + n) (h : cR F M x K dn T Tc D pw tr sq) : xSpT l g mX9_type [va_rf (some x), .long j, .int (nI n)] M eIS := by
  obtain ⟨h6, t, hx0, h4, hlen, hk⟩ := h.tp
  refine xBodyT (ta := [(1, va_rf (some x)), (2, .long j), (1, .int (nI n))]) 1 hl (by decide +kernel) (tc_r (tc_j (tc_i tc_0))) (Nat.le_of_ble_eq_true rfl) ⟨by decide, by decide⟩ (fun sz => ?_)
  show xWg l g mX9_type 1 6 0 [(1, va_rf (some x)), (2, .long j), (0, .null), (1, .int (nI n)), (0, .null)] [] (0, 0) M _
  refine kr_iload_n 3 dX9_type_0 rfl rfl ?_
  refine kr_iconst 1 dX9_type_1 (by decide) ?_
  refine kr_icmp_lt 11 dX9_type_2 (by decide) (fun c => ?_) (fun c => ?_)
  · exfalso
    have := nlt c rfl (b := 1) rfl
    omega
  refine kr_iload_n 3 dX9_type_5 rfl rfl ?_
  refine kr_bipush 8 dX9_type_6 (by decide) ?_
  refine kr_icmp_le 21 dX9_type_8 (by decide) (fun c2 => ?_) (fun c2 => ?_)
  · refine kr_aload_n 0 dX9_type_21 rfl rfl ?_
    refine ky_getR dX9_type_22 fl_RX9_12 rfl h6 ?_
    refine ky_getI dX9_type_25 fl_RX9_50 hx0 h4 ?_
    refine kr_iload_n 3 dX9_type_28 rfl rfl ?_
    refine kr_iadd dX9_type_29 ?_
    refine kr_bipush 64 dX9_type_30 (by decide) ?_
    refine kr_icmp_le 45 dX9_type_32 (by decide) (fun c3 => ?_) (fun c3 => ?_)
    · exfalso
      rw [hlen, nI_add] at c3
      have := nle c3 rfl (b := 64) rfl
      omega
    · exact kr_throw rfl (by decide +kernel) thB_k thB_i thB_at thB_bad thB_good (fun h => h.2.2.1) dX9_type_35 dX9_type_38 dX9_type_39 dX9_type_41 dX9_type_44
  · exfalso
    have := nnle c2 rfl (b := 8) rfl
    omega
theorem sT_cut {n : Int32} (hl : l.stackTraces = false) (hn : ¬ (0 ≤ n ∧ n ≤ nI K.length)) (h : cR F M x K dn T Tc D pw tr sq) : xSpT l g mX9_cut [va_rf (some x), .int n] M eIA := by
  obtain ⟨h6, t, hx0, h4, hlen, hk⟩ := h.tp
  refine xBodyT (ta := [(1, va_rf (some x)), (1, .int n)]) 1 hl (by decide +kernel) (tc_r (tc_i tc_0)) (Nat.le_of_ble_eq_true rfl) ⟨by decide, by decide⟩ (fun sz => ?_)
  have go : ∀ L, xWg l g mX9_cut 1 6 15 L [] (0, 0) M (xKT l g M sz eIA) := fun L => kr_throw rfl (by decide +kernel) thA_k thA_i thA_at thA_bad thA_good (fun h => h.2.2.2.1) dX9_cut_15 dX9_cut_18 dX9_cut_19 dX9_cut_21 dX9_cut_24
  show xWg l g mX9_cut 1 6 0 [(1, va_rf (some x)), (1, .int n), (0, .null)] [] (0, 0) M _
  refine kr_iload_n 1 dX9_cut_0 rfl rfl ?_
  refine kr_if_lt 15 dX9_cut_1 (by decide) (fun c => go _) (fun c => ?_)
  refine kr_iload_n 1 dX9_cut_4 rfl rfl ?_
  refine kr_aload_n 0 dX9_cut_5 rfl rfl ?_
  refine ky_getR dX9_cut_6 fl_RX9_12 rfl h6 ?_
  refine ky_getI dX9_cut_9 fl_RX9_50 hx0 h4 ?_
  refine kr_icmp_le 25 dX9_cut_12 (by decide) (fun c2 => ?_) (fun c2 => go _)
  exfalso
  rw [hlen] at c2
  exact hn ⟨Int32.not_lt.mp c, c2⟩
theorem sT_octet {p i : Int32} (hl : l.stackTraces = false) (hn : ¬ ((0 ≤ p ∧ p ≤ 255) ∧ (0 ≤ i ∧ i ≤ 511))) : xSpT l g mX9_octet [va_rf (some x), .int p, .int i] M eIO := by
  refine xBodyT (ta := [(1, va_rf (some x)), (1, .int p), (1, .int i)]) 0 hl (by decide +kernel) (tc_r (tc_i (tc_i tc_0))) (Nat.le_of_ble_eq_true rfl) ⟨by decide, by decide⟩ (fun sz => ?_)
  show xWg l g mX9_octet 1 6 0 [(1, va_rf (some x)), (1, .int p), (1, .int i)] [] (0, 0) M _
  refine kr_iload_n 1 dX9_octet_0 rfl rfl ?_
  refine kr_iload_n 2 dX9_octet_1 rfl rfl ?_
  refine kr_callS [.int p, .int i] dX9_octet_2 cs_X9_octet_174 rfl (Nat.le_trans wt_0 (by decide)) (by decide) (sX0_has_no hn ?_)
  refine kr_if_ne 18 dX9_octet_5 (by decide) (fun c => absurd rfl c) (fun _ => ?_)
  exact kr_throw rfl (by decide +kernel) thC_k thC_i thC_at thC_bad thC_good (fun h => h.2.2.2.2.1) dX9_octet_8 dX9_octet_11 dX9_octet_12 dX9_octet_14 dX9_octet_17
theorem sT_poke {p i m : Int32} (hl : l.stackTraces = false) (hn : ¬ ((0 ≤ p ∧ p ≤ 255) ∧ (0 ≤ i ∧ i ≤ 511))) : xSpT l g mX9_poke [va_rf (some x), .int p, .int i, .int m] M eIO := by
  refine xBodyT (ta := [(1, va_rf (some x)), (1, .int p), (1, .int i), (1, .int m)]) 0 hl (by decide +kernel) (tc_r (tc_i (tc_i (tc_i tc_0)))) (Nat.le_of_ble_eq_true rfl) ⟨by decide, by decide⟩ (fun sz => ?_)
  show xWg l g mX9_poke 1 6 0 [(1, va_rf (some x)), (1, .int p), (1, .int i), (1, .int m)] [] (0, 0) M _
  refine kr_iload_n 1 dX9_poke_0 rfl rfl ?_
  refine kr_iload_n 2 dX9_poke_1 rfl rfl ?_
  refine kr_callS [.int p, .int i] dX9_poke_2 cs_X9_poke_174 rfl (Nat.le_trans wt_0 (by decide)) (by decide) (sX0_has_no hn ?_)
  refine kr_if_ne 18 dX9_poke_5 (by decide) (fun c => absurd rfl c) (fun _ => ?_)
  exact kr_throw rfl (by decide +kernel) thC_k thC_i thC_at thC_bad thC_good (fun h => h.2.2.2.2.1) dX9_poke_8 dX9_poke_11 dX9_poke_12 dX9_poke_14 dX9_poke_17
end TH
