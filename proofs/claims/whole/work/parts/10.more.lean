/-! What the blocks use. -/
section XZ
variable {l : Launch} {g : xG} {md : xMd} {mc ms pc : Nat} {L : List (Nat × Value)} {st : List Value} {cs : Nat × Nat} {M : xM} {Q : Option Value → xM → Prop}
theorem zistore_n {n : Fin 4} (i : Nat) {x : Int32} {L1 : List (Nat × Value)} (d : decode md.2.1 pc = .ok (.istore_n n, 1)) (hi : (n : Nat) = i) (hn : i < md.2.2.1) (hL : xst1 i (Value.int x) L = L1) (h : xWp l g md mc ms (pc + 1) L1 st cs M Q) : xWp l g md mc ms pc L (.int x :: st) cs M Q := by
  subst hL; exact xr_istore_n i d hi hn h
theorem zistore {i : Nat} {x : Int32} {L1 : List (Nat × Value)} (d : decode md.2.1 pc = .ok (.istore i, 2)) (hn : i < md.2.2.1) (hL : xst1 i (Value.int x) L = L1) (h : xWp l g md mc ms (pc + 2) L1 st cs M Q) : xWp l g md mc ms pc L (.int x :: st) cs M Q := by
  subst hL; exact xr_istore d hn h
theorem zlstore_n {n : Fin 4} (i : Nat) {x : Int64} {L1 : List (Nat × Value)} (d : decode md.2.1 pc = .ok (.lstore_n n, 1)) (hi : (n : Nat) = i) (hn : i + 1 < md.2.2.1) (hL : xst2 i (Value.long x) L = L1) (h : xWp l g md mc ms (pc + 1) L1 st cs M Q) : xWp l g md mc ms pc L (.long x :: st) cs M Q := by
  subst hL; exact xr_lstore_n i d hi hn h
theorem zlstore {i : Nat} {x : Int64} {L1 : List (Nat × Value)} (d : decode md.2.1 pc = .ok (.lstore i, 2)) (hn : i + 1 < md.2.2.1) (hL : xst2 i (Value.long x) L = L1) (h : xWp l g md mc ms (pc + 2) L1 st cs M Q) : xWp l g md mc ms pc L (.long x :: st) cs M Q := by
  subst hL; exact xr_lstore d hn h
theorem zastore_n {n : Fin 4} (i : Nat) {x : Option Nat} {L1 : List (Nat × Value)} (d : decode md.2.1 pc = .ok (.astore_n n, 1)) (hi : (n : Nat) = i) (hn : i < md.2.2.1) (hL : xst1 i (va_rf x) L = L1) (h : xWp l g md mc ms (pc + 1) L1 st cs M Q) : xWp l g md mc ms pc L (va_rf x :: st) cs M Q := by
  subst hL; exact xr_astore_n i d hi hn h
theorem zastore {i : Nat} {x : Option Nat} {L1 : List (Nat × Value)} (d : decode md.2.1 pc = .ok (.astore i, 2)) (hn : i < md.2.2.1) (hL : xst1 i (va_rf x) L = L1) (h : xWp l g md mc ms (pc + 2) L1 st cs M Q) : xWp l g md mc ms pc L (va_rf x :: st) cs M Q := by
  subst hL; exact xr_astore d hn h
theorem ziinc {i : Nat} {n : Int} {t : Nat} {x : Int32} {L1 : List (Nat × Value)} (v : Int32) (d : decode md.2.1 pc = .ok (.iinc i n, 3)) (hL : L[i]? = some (t + 1, .int x)) (hv : x + Int32.ofInt n = v) (hn : i < md.2.2.1) (hL1 : xst1 i (.int v) L = L1) (h : xWp l g md mc ms (pc + 3) L1 st cs M Q) : xWp l g md mc ms pc L st cs M Q := by
  subst hL1; exact xr_iinc v d hL hv hn h
theorem xat_new (M : xM) (q kd n : Nat) : xat (xnew M q kd n) q kd := ⟨by rw [xL_new]; exact List.mem_append_right _ List.mem_cons_self, by rw [xK_new, if_pos rfl]⟩
theorem xat_old {M : xM} {q kd n a ci : Nat} (hq : q ∉ xL M) (h : xat M a ci) : xat (xnew M q kd n) a ci :=
  ⟨by rw [xL_new]; exact List.mem_append_left _ h.1, by rw [xK_new, if_neg (fun e => hq (by rw [← e]; exact h.1))]; exact h.2⟩
theorem nar_z {x : Int32} (h : x = 0 ∨ x = 1) : narrow .boolean (.int x) = .int x := by rcases h with rfl | rfl <;> rfl
theorem sw_out (n : Nat) (hn : n < 100) {x : Int32} (h : ∀ k : Nat, k ≤ n → ¬ x = nI k) : x.toInt < 0 ∨ (n : Int) < x.toInt := by
  by_cases h0 : x.toInt < 0
  · exact Or.inl h0
  · refine Or.inr (Int.not_le.mp fun hle => ?_)
    obtain ⟨j, hj, e⟩ := nI_of (x := x) (fun hlt => h0 (by simpa using Int32.lt_iff_toInt_lt.mp hlt))
    have : x.toInt = (j : Int) := by rw [e, nI_toInt hj]
    exact h j (by omega) e
theorem ycopy {i a0 a : Nat} {r0 r : Option Nat} {x y z : Int32} (sp dp n : Nat) (d : decode md.2.1 pc = .ok (.invokestatic i, 3)) (h1 : Cond.methodLink md.1.cls i arraycopyName ∈ gl) (h2 : Cond.native arraycopyName ∈ gl) (h3 : Cond.static arraycopyName ∈ gl) (h4 : Cond.initialized "java/lang/System" ∈ gl) (hf : 1 ≤ md.2.2.2.2.1) (hw : (st.map fun v => v.category).sum + (nativeFrameWords "java/lang/System" "arraycopy" 5 + 11) ≤ md.2.2.2.2.2)
    (hr0 : r0 = some a0) (hr : r = some a) (ha0 : xat M a0 8) (ha : xat M a 8) (hx : x = nI sp) (hy : y = nI dp) (hz : z = nI n) (hsp : sp < 2 ^ 31) (hdp : dp < 2 ^ 31) (hn : n < 2 ^ 31) (hb0 : sp + n ≤ xN M a0) (hb1 : dp + n ≤ xN M a) (hfit : ∀ j, j < n → fits .byte (.int (xI M a0 (sp + j))) = true)
    (h : xWp l g md mc ms (pc + 3) L st cs (xcp M a0 a sp dp n) Q) : xWp l g md mc ms pc L (.int z :: .int y :: va_rf r :: .int x :: va_rf r0 :: st) cs M Q := by
  subst hr0; subst hr
  exact xr_copy sp dp n d h1 h2 h3 h4 hf hw ha0.1 ha0.2 ha.1 ha.2 hx hy hz hsp hdp hn hb0 hb1 hfit h
end XZ
theorem wt_all : ∀ st : List Value, (st.map fun v => v.category).sum ≤ 2 * st.length
  | [] => Nat.le_refl _
  | v :: st => by
    have h1 := wt_all st
    have h2 : v.category ≤ 2 := by rcases lv_cat v with h | h <;> omega
    simp only [List.map_cons, List.sum_cons, List.length_cons]
    omega
theorem wt_le {st : List Value} (h : st.length ≤ 4) : (st.map fun v => v.category).sum ≤ 8 := Nat.le_trans (wt_all st) (by omega)
theorem wt_13 {st : List Value} {n : Nat} (h : st.length ≤ 4) (hn : 21 ≤ n) : (st.map fun v => v.category).sum + 13 ≤ n := Nat.le_trans (Nat.add_le_add_right (wt_le h) 13) hn
theorem wt_0 : (([] : List Value).map fun v => v.category).sum ≤ 0 := Nat.le_refl _
theorem wt_i {x : Int32} {st : List Value} {n : Nat} (h : (st.map fun v => v.category).sum ≤ n) : ((Value.int x :: st).map fun v => v.category).sum ≤ n + 1 := by
  simp only [List.map_cons, List.sum_cons]
  have : (Value.int x).category = 1 := rfl
  omega
theorem wt_r {x : Option Nat} {st : List Value} {n : Nat} (h : (st.map fun v => v.category).sum ≤ n) : ((va_rf x :: st).map fun v => v.category).sum ≤ n + 1 := by
  simp only [List.map_cons, List.sum_cons, va_rf_cat]
  omega
theorem wt_j {x : Int64} {st : List Value} {n : Nat} (h : (st.map fun v => v.category).sum ≤ n) : ((Value.long x :: st).map fun v => v.category).sum ≤ n + 2 := by
  simp only [List.map_cons, List.sum_cons]
  have : (Value.long x).category = 2 := rfl
  omega
