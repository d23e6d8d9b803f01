/-! Math.max, Math.min, System.arraycopy of bytes. -/
section XJ
variable {l : Launch} {g : xG} {md : xMd} {mc ms pc : Nat} {L : List (Nat × Value)} {st : List Value} {cs : Nat × Nat} {M : xM} {Q : Option Value → xM → Prop}
theorem xr_mmax {i : Nat} {x y : Int32} (d : decode md.2.1 pc = .ok (.invokestatic i, 3)) (h1 : Cond.methodLink md.1.cls i Lib.Math.max.name ∈ gl) (h2 : Cond.static Lib.Math.max.name ∈ gl) (h3 : Cond.initialized "java/lang/Math" ∈ gl) (h4 : Cond.code Lib.Math.max.name Lib.Math.max.code 2 (some .int) ∈ gl) (hf : 1 ≤ md.2.2.2.2.1) (hw : (st.map fun v => v.category).sum + 13 ≤ md.2.2.2.2.2) (hm : cs.1 ≤ mc ∧ cs.2 ≤ ms) (h : xWp l g md mc ms (pc + 3) L (.int (if x < y then y else x) :: st) cs M Q) : xWp l g md mc ms pc L (.int y :: .int x :: st) cs M Q := fun p e R s m args below meth c A H locs Z ls hF hE hP hS hl => by
  obtain ⟨r1, r2, r3, r4⟩ := hF.2.2.2.2.2.2.2.2.2.2.1
  exact va_mmax hF.1 hF.2.1 (by rw [hF.2.2.1]; exact hl.1.symm) hF.2.2.2.1 (hF.2.2.2.2.1 _ h1) (hF.2.2.2.2.1 _ h2) (hF.2.2.2.2.1 _ h3) (hF.2.2.2.2.1 _ h4) (Nat.le_trans hf r1) (Nat.le_trans hw r2) (Nat.le_trans hm.1 r3) (Nat.le_trans hm.2 r4) d (h p e R s m args below meth c A H locs Z ls hF hE hP hS hl)
theorem xr_mmin {i : Nat} {x y : Int32} (d : decode md.2.1 pc = .ok (.invokestatic i, 3)) (h1 : Cond.methodLink md.1.cls i Lib.Math.min.name ∈ gl) (h2 : Cond.static Lib.Math.min.name ∈ gl) (h3 : Cond.initialized "java/lang/Math" ∈ gl) (h4 : Cond.code Lib.Math.min.name Lib.Math.min.code 2 (some .int) ∈ gl) (hf : 1 ≤ md.2.2.2.2.1) (hw : (st.map fun v => v.category).sum + 13 ≤ md.2.2.2.2.2) (hm : cs.1 ≤ mc ∧ cs.2 ≤ ms) (h : xWp l g md mc ms (pc + 3) L (.int (if y < x then y else x) :: st) cs M Q) : xWp l g md mc ms pc L (.int y :: .int x :: st) cs M Q := fun p e R s m args below meth c A H locs Z ls hF hE hP hS hl => by
  obtain ⟨r1, r2, r3, r4⟩ := hF.2.2.2.2.2.2.2.2.2.2.1
  exact va_mmin hF.1 hF.2.1 (by rw [hF.2.2.1]; exact hl.1.symm) hF.2.2.2.1 (hF.2.2.2.2.1 _ h1) (hF.2.2.2.2.1 _ h2) (hF.2.2.2.2.1 _ h3) (hF.2.2.2.2.1 _ h4) (Nat.le_trans hf r1) (Nat.le_trans hw r2) (Nat.le_trans hm.1 r3) (Nat.le_trans hm.2 r4) d (h p e R s m args below meth c A H locs Z ls hF hE hP hS hl)
/-- bytes copied from the array a0 at sp to the array a at dp, n of them -/
def xcp (M : xM) (a0 a sp dp n : Nat) : xM := (M.1, M.2.1, M.2.2.1, (fun b => if b = a then va_cpy (xI M a0) (xI M a) sp dp n else xI M b), M.2.2.2.2.1, M.2.2.2.2.2)
theorem xK_cp (M : xM) (a0 a sp dp n : Nat) : xK (xcp M a0 a sp dp n) = xK M := rfl
theorem xN_cp (M : xM) (a0 a sp dp n : Nat) : xN (xcp M a0 a sp dp n) = xN M := rfl
theorem xL_cp (M : xM) (a0 a sp dp n : Nat) : xL (xcp M a0 a sp dp n) = xL M := rfl
theorem xJ_cp (M : xM) (a0 a sp dp n : Nat) : xJ (xcp M a0 a sp dp n) = xJ M := rfl
theorem xR_cp (M : xM) (a0 a sp dp n : Nat) : xR (xcp M a0 a sp dp n) = xR M := rfl
theorem xI_cp (M : xM) (a0 a sp dp n b j : Nat) : xI (xcp M a0 a sp dp n) b j = if b = a then (if dp ≤ j ∧ j < dp + n then xI M a0 (sp + (j - dp)) else xI M a j) else xI M b j := by
  show (if b = a then va_cpy (xI M a0) (xI M a) sp dp n else xI M b) j = _
  by_cases h : b = a
  · rw [if_pos h, if_pos h]; rfl
  · rw [if_neg h, if_neg h]
theorem xr_copy {i a0 a : Nat} {x y z : Int32} (sp dp n : Nat) (d : decode md.2.1 pc = .ok (.invokestatic i, 3)) (h1 : Cond.methodLink md.1.cls i arraycopyName ∈ gl) (h2 : Cond.native arraycopyName ∈ gl) (h3 : Cond.static arraycopyName ∈ gl) (h4 : Cond.initialized "java/lang/System" ∈ gl) (hf : 1 ≤ md.2.2.2.2.1) (hw : (st.map fun v => v.category).sum + (nativeFrameWords "java/lang/System" "arraycopy" 5 + 11) ≤ md.2.2.2.2.2)
    (ha0 : a0 ∈ xL M) (hk0 : xK M a0 = 8) (ha : a ∈ xL M) (hk : xK M a = 8) (hx : x = nI sp) (hy : y = nI dp) (hz : z = nI n) (hsp : sp < 2 ^ 31) (hdp : dp < 2 ^ 31) (hn : n < 2 ^ 31) (hb0 : sp + n ≤ xN M a0) (hb1 : dp + n ≤ xN M a) (hfit : ∀ j, j < n → fits .byte (.int (xI M a0 (sp + j))) = true)
    (h : xWp l g md mc ms (pc + 3) L st cs (xcp M a0 a sp dp n) Q) : xWp l g md mc ms pc L (.int z :: .int y :: va_rf (some a) :: .int x :: va_rf (some a0) :: st) cs M Q := fun p e R s m args below meth c A H locs Z ls hF hE hP hS hl => by
  obtain ⟨r1, r2, r3, r4⟩ := hF.2.2.2.2.2.2.2.2.2.2.1
  subst hx; subst hy; subst hz
  obtain ⟨q0, hq0⟩ := xW_get g ha0
  obtain ⟨q1, hq1⟩ := xW_get g ha
  have hq1' := hq1
  rw [xE_arr g hk0 (by decide), xArI hk0 (by decide) (by decide)] at hq0
  rw [xE_arr g hk (by decide), xArI hk (by decide) (by decide)] at hq1'
  have e1 : (nI sp).toNatClampNeg = sp := nI_clamp hsp
  have e2 : (nI dp).toNatClampNeg = dp := nI_clamp hdp
  have e3 : (nI n).toNatClampNeg = n := nI_clamp hn
  have hset : (xW g M).set q1 (a, .inl (g.2.1 8, xN M a, .inl (va_cpy (xI M a0) (xI M a) sp dp n))) = xW g (xcp M a0 a sp dp n) := xW_set g hP.2 ha hq1 rfl (by
    rw [xE_arr g (M := xcp M a0 a sp dp n) hk (by decide), xArI (M := xcp M a0 a sp dp n) hk (by decide) (by decide)]
    have : xI (xcp M a0 a sp dp n) a = va_cpy (xI M a0) (xI M a) sp dp n := by show (if a = a then _ else _) = _; rw [if_pos rfl]
    rw [this]; rfl) (fun b hb => xE_off g rfl rfl (fun j => by rw [xI_cp, if_neg hb]) (fun _ => rfl) (fun _ => rfl))
  refine va_copyi (D := g.1) hF.1 hF.2.1 (by rw [hF.2.2.1]; exact hl.1.symm) hF.2.2.2.1 (hF.2.2.2.2.1 _ h1) (hF.2.2.2.2.1 _ h2) (hF.2.2.2.2.1 _ h3) (hF.2.2.2.2.1 _ h4) hF.2.2.2.2.2.1 hP.1 hP.2 hS q0 q1 0 0 hq0 hq1' rfl rfl rfl (nI_pos hsp) (nI_pos hdp) (nI_pos hn) (by rw [e1, e3]; exact hb0) (by rw [e2, e3]; exact hb1) (by rw [e1, e3]; exact hfit) (Nat.le_trans hf r1) (Nat.le_trans hw r2) d (fun H1 locs1 hP1 hD1 hS1 => ?_)
  rw [e1, e2, e3, hset] at hP1 hD1
  exact h p e R s m args below meth c A H1 locs1 Z ls hF hE ⟨hP1, hD1⟩ hS1 hl
end XJ
