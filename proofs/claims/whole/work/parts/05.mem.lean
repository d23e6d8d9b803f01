/-! THE ROWS of the judgement that read and write the world, make cells, and call. -/
section XMR
variable {l : Launch} {g : xG} {md : xMd} {mc ms pc : Nat} {L : List (Nat × Value)} {st : List Value} {cs : Nat × Nat} {M : xM} {Q : Option Value → xM → Prop}
/-- a field by its link -/
def xFl (own : String) (i ci k t : Nat) : Prop := ∃ (C : String) (T : u_T) (N : Nat), vwCl[ci]? = some (C, T, N) ∧ ci < 8 ∧ k < N ∧ (∀ w ∈ u_ws C T N, w ∈ gl) ∧ Cond.fieldLink own i (T k).1 (T k).2.1 (T k).2.2.1 ∈ gl ∧ (xF ci)[k]? = some t
/-- a field that is written -/
def xFp (fin : Bool) (own : String) (i ci k t : Nat) (ty : FieldType) : Prop := ∃ (C : String) (T : u_T) (N : Nat) (ty0 : Nat → FieldType), vwCl[ci]? = some (C, T, N) ∧ ci < 8 ∧ k < N ∧ (∀ w ∈ u_ws C T N, w ∈ gl) ∧ Cond.fieldLink own i (T k).1 (T k).2.1 (T k).2.2.1 ∈ gl ∧ (xF ci)[k]? = some t ∧ (∀ j, j < N → parseFieldDescriptor (T j).2.2.1 = some (ty0 j)) ∧ (∀ a, a < N → ∀ b, b < N → a ≠ b → (T a).2.1 ≠ (T b).2.1) ∧ (T k).2.2.2 = fin ∧ parseFieldDescriptor (T k).2.2.1 = some ty ∧ (fin = true → (T k).1 = own)
theorem xr_get {a i ci k : Nat} (t : Nat) (d : decode md.2.1 pc = .ok (.getfield i, 3)) (hf : xFl md.1.cls i ci k t) (ha : a ∈ xL M) (hk : xK M a = ci) (h : xWp l g md mc ms (pc + 3) L (xV M a k t :: st) cs M Q) : xWp l g md mc ms pc L (va_rf (some a) :: st) cs M Q := fun p e R s m args below meth c A H locs Z ls hF hE hP hS hl => by
  obtain ⟨C, T, N, h1, h2, h3, h4, h5, h6⟩ := hf
  obtain ⟨q, hq⟩ := xW_get g ha
  rw [xE_obj g hk h2] at hq
  exact va_get (D := g.1) (ci := ci) (C := C) (T := T) (N := N) hF.1 hF.2.1 hF.2.2.2.2.1 h4 hF.2.2.2.1 hF.2.2.2.2.2.1 hP.1 q hq h1 k h3 (hF.2.2.2.2.1 _ h5) (fun _ h9 => h9) (xFs_get M a _ k t h6) d (h p e R s m args below meth c A H locs Z ls hF hE hP hS hl)
theorem xr_getN {a : Nat} (d : decode md.2.1 pc = .ok (.getfield 27, 3)) (ho : md.1.cls = "RadixPages$Disk") (hin : ∀ w ∈ u_ws RX5 TX5 1, w ∈ gl) (ha : a ∈ xL M) (hk : xK M a = 2) (h : xWp l g md mc ms (pc + 3) L (va_rf (xR M a 0) :: st) cs M Q) : xWp l g md mc ms pc L (va_rf (some a) :: st) cs M Q := fun p e R s m args below meth c A H locs Z ls hF hE hP hS hl => by
  obtain ⟨q, hq⟩ := xW_get g ha
  rw [xE_obj g hk (by decide)] at hq
  exact va_getN (D := g.1) (ci := 2) (C := RX5) (T := TX5) (N := 1) hF.1 hF.2.1 hF.2.2.2.2.1 hin hF.2.2.2.1 hF.2.2.2.2.2.1 hP.1 q hq rfl 0 (by decide) (ref := "RadixPages$Row") (host := "RadixPages") (by rw [ho]; exact va_Nw.use rfl hF.2.2.2.2.2.2.2.2.2.2.2.2.2.2.2.2.1) (fun _ h9 => h9) (xFs_get M a _ 0 2 rfl) d (h p e R s m args below meth c A H locs Z ls hF hE hP hS hl)
theorem xr_putG {a i ci k t : Nat} {ty : FieldType} {v : Value} (M1 : xM) (d : decode md.2.1 pc = .ok (.putfield i, 3)) (hf : xFp false md.1.cls i ci k t ty) (ha : a ∈ xL M) (hk : xK M a = ci) (hn : narrow ty v = v) (hfit : fits ty v = true) (hL : xL M1 = xL M) (hK1 : xK M1 = xK M) (hv : xV M1 a k t = v) (ho : ∀ j u, j ≠ k → xV M1 a j u = xV M a j u) (hO : ∀ b, b ≠ a → xE g M1 b = xE g M b) (h : xWp l g md mc ms (pc + 3) L st cs M1 Q) : xWp l g md mc ms pc L (v :: va_rf (some a) :: st) cs M Q := fun p e R s m args below meth c A H locs Z ls hF hE hP hS hl => by
  obtain ⟨C, T, N, ty0, h1, h2, h3, h4, h5, h6, h7, h8, h9, h10, -⟩ := hf
  obtain ⟨q, hq⟩ := xW_get g ha
  have hq' := hq
  rw [xE_obj g hk h2] at hq'
  have hset : (xW g M).set q (a, .inr (ci, (xFs M a (xF ci)).set k v)) = xW g M1 := xW_set g hP.2 ha hq hL (by rw [xE_obj g (by rw [hK1]; exact hk) h2, xFs_set M M1 a (xF ci) k t v h6 hv (fun j u hj _ => ho j u hj)]) hO
  refine va_put (D := g.1) (ci := ci) (C := C) (T := T) (N := N) hF.1 hF.2.1 hF.2.2.2.2.1 h4 ty0 h7 h8 hF.2.2.2.1 hF.2.2.2.2.2.1 hP.1 hP.2 hS q hq' h1 k h3 (hF.2.2.2.2.1 _ h5) (fun _ z => z) h9 h10 hn hfit (by rw [xFs_len]; exact (List.getElem?_eq_some_iff.mp h6).1) d (fun H1 locs1 hP1 hD1 hS1 => ?_)
  rw [hset] at hP1 hD1
  exact h p e R s m args below meth c A H1 locs1 Z ls hF hE ⟨hP1, hD1⟩ hS1 hl
theorem xr_putGF {a i ci k t : Nat} {ty : FieldType} {v : Value} (M1 : xM) (d : decode md.2.1 pc = .ok (.putfield i, 3)) (hi : md.1.name = "<init>") (hf : xFp true md.1.cls i ci k t ty) (ha : a ∈ xL M) (hk : xK M a = ci) (hn : narrow ty v = v) (hfit : fits ty v = true) (hL : xL M1 = xL M) (hK1 : xK M1 = xK M) (hv : xV M1 a k t = v) (ho : ∀ j u, j ≠ k → xV M1 a j u = xV M a j u) (hO : ∀ b, b ≠ a → xE g M1 b = xE g M b) (h : xWp l g md mc ms (pc + 3) L st cs M1 Q) : xWp l g md mc ms pc L (v :: va_rf (some a) :: st) cs M Q := fun p e R s m args below meth c A H locs Z ls hF hE hP hS hl => by
  obtain ⟨C, T, N, ty0, h1, h2, h3, h4, h5, h6, h7, h8, h9, h10, h11⟩ := hf
  obtain ⟨q, hq⟩ := xW_get g ha
  have hq' := hq
  rw [xE_obj g hk h2] at hq'
  have hset : (xW g M).set q (a, .inr (ci, (xFs M a (xF ci)).set k v)) = xW g M1 := xW_set g hP.2 ha hq hL (by rw [xE_obj g (by rw [hK1]; exact hk) h2, xFs_set M M1 a (xF ci) k t v h6 hv (fun j u hj _ => ho j u hj)]) hO
  refine va_putF (D := g.1) (ci := ci) (C := C) (T := T) (N := N) hF.1 hF.2.1 hF.2.2.2.2.1 h4 ty0 h7 h8 hF.2.2.2.1 hF.2.2.2.2.2.1 hP.1 hP.2 hS q hq' h1 k h3 (hF.2.2.2.2.1 _ h5) (fun _ z => z) h9 (hF.2.2.2.2.2.2.2.2.1.trans hi) (h11 rfl) h10 hn hfit (by rw [xFs_len]; exact (List.getElem?_eq_some_iff.mp h6).1) d (fun H1 locs1 hP1 hD1 hS1 => ?_)
  rw [hset] at hP1 hD1
  exact h p e R s m args below meth c A H1 locs1 Z ls hF hE ⟨hP1, hD1⟩ hS1 hl
theorem xr_putI {a i ci k : Nat} {x : Int32} (d : decode md.2.1 pc = .ok (.putfield i, 3)) (hf : xFp false md.1.cls i ci k 0 .int) (ha : a ∈ xL M) (hk : xK M a = ci) (h : xWp l g md mc ms (pc + 3) L st cs (xsI M a k x) Q) : xWp l g md mc ms pc L (.int x :: va_rf (some a) :: st) cs M Q :=
  xr_putG (xsI M a k x) d hf ha hk rfl rfl rfl rfl (by simp [xV, xI_sI]) (fun j u hj => xV_sI M a k x a j u (Or.inr hj)) (fun b hb => xE_sI_ne g M a k x b hb) h
theorem xr_putZ {a i ci k : Nat} {x : Int32} (d : decode md.2.1 pc = .ok (.putfield i, 3)) (hf : xFp false md.1.cls i ci k 3 .boolean) (ha : a ∈ xL M) (hk : xK M a = ci) (hx : x = 0 ∨ x = 1) (h : xWp l g md mc ms (pc + 3) L st cs (xsI M a k x) Q) : xWp l g md mc ms pc L (.int x :: va_rf (some a) :: st) cs M Q :=
  xr_putG (xsI M a k x) d hf ha hk (by rcases hx with rfl | rfl <;> rfl) (by rcases hx with rfl | rfl <;> rfl) rfl rfl (by simp [xV, xI_sI]) (fun j u hj => xV_sI M a k x a j u (Or.inr hj)) (fun b hb => xE_sI_ne g M a k x b hb) h
theorem xr_putJ {a i ci k : Nat} {x : Int64} (d : decode md.2.1 pc = .ok (.putfield i, 3)) (hf : xFp false md.1.cls i ci k 1 .long) (ha : a ∈ xL M) (hk : xK M a = ci) (h : xWp l g md mc ms (pc + 3) L st cs (xsJ M a k x) Q) : xWp l g md mc ms pc L (.long x :: va_rf (some a) :: st) cs M Q :=
  xr_putG (xsJ M a k x) d hf ha hk rfl rfl rfl rfl (by simp [xV, xJ_sJ]) (fun j u hj => xV_sJ M a k x a j u (Or.inr hj)) (fun b hb => xE_sJ_ne g M a k x b hb) h
theorem xr_putR {a i ci k : Nat} {n : String} {x : Option Nat} (d : decode md.2.1 pc = .ok (.putfield i, 3)) (hf : xFp false md.1.cls i ci k 2 (.object n)) (ha : a ∈ xL M) (hk : xK M a = ci) (h : xWp l g md mc ms (pc + 3) L st cs (xsR M a k x) Q) : xWp l g md mc ms pc L (va_rf x :: va_rf (some a) :: st) cs M Q :=
  xr_putG (xsR M a k x) d hf ha hk (by cases x <;> rfl) (by cases x <;> rfl) rfl rfl (by simp [xV, xR_sR]) (fun j u hj => xV_sR M a k x a j u (Or.inr hj)) (fun b hb => xE_sR_ne g M a k x b hb) h
theorem xr_putRF {a i ci k : Nat} {ty : FieldType} {x : Option Nat} (d : decode md.2.1 pc = .ok (.putfield i, 3)) (hi : md.1.name = "<init>") (hf : xFp true md.1.cls i ci k 2 ty) (ht : (∃ n, ty = .object n) ∨ ∃ n, ty = .array n) (ha : a ∈ xL M) (hk : xK M a = ci) (h : xWp l g md mc ms (pc + 3) L st cs (xsR M a k x) Q) : xWp l g md mc ms pc L (va_rf x :: va_rf (some a) :: st) cs M Q :=
  xr_putGF (xsR M a k x) d hi hf ha hk (by rcases ht with ⟨n, rfl⟩ | ⟨n, rfl⟩ <;> cases x <;> rfl) (by rcases ht with ⟨n, rfl⟩ | ⟨n, rfl⟩ <;> cases x <;> rfl) rfl rfl (by simp [xV, xR_sR]) (fun j u hj => xV_sR M a k x a j u (Or.inr hj)) (fun b hb => xE_sR_ne g M a k x b hb) h
/-! arrays -/
theorem xArI {a kd : Nat} (hk : xK M a = kd) (h1 : kd ≠ 10) (h2 : kd ≠ 12) : xAr M a = (xN M a, .inl (xI M a)) := by
  unfold xAr; rw [hk, if_neg h1, if_neg h2]
theorem xArJ {a : Nat} (hk : xK M a = 10) : xAr M a = (xN M a, .inr (.inl (xJ M a))) := by
  unfold xAr; rw [hk, if_pos rfl]
theorem xArR {a : Nat} (hk : xK M a = 12) : xAr M a = (xN M a, .inr (.inr (.inr (.inr (xR M a))))) := by
  unfold xAr; rw [hk, if_neg (by decide), if_pos rfl]
theorem xr_iald {a : Nat} {i : Int32} (j : Nat) (d : decode md.2.1 pc = .ok (.iaload, 1)) (ha : a ∈ xL M) (hk : xK M a = 9) (hi : i = nI j) (hj : j < xN M a) (hn : xN M a < 2 ^ 31) (h : xWp l g md mc ms (pc + 1) L (.int (xI M a j) :: st) cs M Q) : xWp l g md mc ms pc L (.int i :: va_rf (some a) :: st) cs M Q := fun p e R s m args below meth c A H locs Z ls hF hE hP hS hl => by
  obtain ⟨q, hq⟩ := xW_get g ha
  rw [xE_arr g hk (by decide), xArI hk (by decide) (by decide)] at hq
  subst hi
  refine va_iald (D := g.1) hF.1 hF.2.1 hF.2.2.2.2.2.1 hP.1 q 1 hq rfl (vp_in_nI hj hn) d ?_
  rw [nI_clamp (by omega)]
  exact h p e R s m args below meth c A H locs Z ls hF hE hP hS hl
theorem xr_bald {a : Nat} {i : Int32} (j : Nat) (d : decode md.2.1 pc = .ok (.baload, 1)) (ha : a ∈ xL M) (hk : xK M a = 8) (hi : i = nI j) (hj : j < xN M a) (hn : xN M a < 2 ^ 31) (h : xWp l g md mc ms (pc + 1) L (.int (xI M a j) :: st) cs M Q) : xWp l g md mc ms pc L (.int i :: va_rf (some a) :: st) cs M Q := fun p e R s m args below meth c A H locs Z ls hF hE hP hS hl => by
  obtain ⟨q, hq⟩ := xW_get g ha
  rw [xE_arr g hk (by decide), xArI hk (by decide) (by decide)] at hq
  subst hi
  refine va_bald (D := g.1) hF.1 hF.2.1 hF.2.2.2.2.2.1 hP.1 q 0 hq rfl (vp_in_nI hj hn) d ?_
  rw [nI_clamp (by omega)]
  exact h p e R s m args below meth c A H locs Z ls hF hE hP hS hl
theorem xr_zald {a : Nat} {i : Int32} (j : Nat) (d : decode md.2.1 pc = .ok (.baload, 1)) (ha : a ∈ xL M) (hk : xK M a = 11) (hi : i = nI j) (hj : j < xN M a) (hn : xN M a < 2 ^ 31) (h : xWp l g md mc ms (pc + 1) L (.int (xI M a j) :: st) cs M Q) : xWp l g md mc ms pc L (.int i :: va_rf (some a) :: st) cs M Q := fun p e R s m args below meth c A H locs Z ls hF hE hP hS hl => by
  obtain ⟨q, hq⟩ := xW_get g ha
  rw [xE_arr g hk (by decide), xArI hk (by decide) (by decide)] at hq
  subst hi
  refine va_zald (D := g.1) hF.1 hF.2.1 hF.2.2.2.2.2.1 hP.1 q 3 hq rfl (vp_in_nI hj hn) d ?_
  rw [nI_clamp (by omega)]
  exact h p e R s m args below meth c A H locs Z ls hF hE hP hS hl
theorem xr_lald {a : Nat} {i : Int32} (j : Nat) (d : decode md.2.1 pc = .ok (.laload, 1)) (ha : a ∈ xL M) (hk : xK M a = 10) (hi : i = nI j) (hj : j < xN M a) (hn : xN M a < 2 ^ 31) (h : xWp l g md mc ms (pc + 1) L (.long (xJ M a j) :: st) cs M Q) : xWp l g md mc ms pc L (.int i :: va_rf (some a) :: st) cs M Q := fun p e R s m args below meth c A H locs Z ls hF hE hP hS hl => by
  obtain ⟨q, hq⟩ := xW_get g ha
  rw [xE_arr g hk (by decide), xArJ hk] at hq
  subst hi
  refine va_lald (D := g.1) hF.1 hF.2.1 hF.2.2.2.2.2.1 hP.1 q 2 hq rfl (vp_in_nI hj hn) d ?_
  rw [nI_clamp (by omega)]
  exact h p e R s m args below meth c A H locs Z ls hF hE hP hS hl
theorem xr_aald {a : Nat} {i : Int32} (j : Nat) (d : decode md.2.1 pc = .ok (.aaload, 1)) (ha : a ∈ xL M) (hk : xK M a = 12) (hi : i = nI j) (hj : j < xN M a) (hn : xN M a < 2 ^ 31) (h : xWp l g md mc ms (pc + 1) L (va_rf (xR M a j) :: st) cs M Q) : xWp l g md mc ms pc L (.int i :: va_rf (some a) :: st) cs M Q := fun p e R s m args below meth c A H locs Z ls hF hE hP hS hl => by
  obtain ⟨q, hq⟩ := xW_get g ha
  rw [xE_arr g hk (by decide), xArR hk] at hq
  subst hi
  refine va_aldq (D := g.1) hF.1 hF.2.1 hF.2.2.2.2.2.1 hP.1 q 4 hq rfl (vp_in_nI hj hn) d ?_
  rw [nI_clamp (by omega)]
  exact h p e R s m args below meth c A H locs Z ls hF hE hP hS hl
theorem xr_alen {a kd t : Nat} {ty : FieldType} (d : decode md.2.1 pc = .ok (.arraylength, 1)) (ha : a ∈ xL M) (hk : xK M a = kd) (h8 : ¬ kd < 8) (ht : ∀ g : xG, (xTy g)[t]? = some (g.2.1 kd, ty)) (h : xWp l g md mc ms (pc + 1) L (.int (nI (xN M a)) :: st) cs M Q) : xWp l g md mc ms pc L (va_rf (some a) :: st) cs M Q := fun p e R s m args below meth c A H locs Z ls hF hE hP hS hl => by
  obtain ⟨q, hq⟩ := xW_get g ha
  rw [xE_arr g hk h8] at hq
  exact va_alen (D := g.1) hF.1 hF.2.1 hF.2.2.2.2.2.1 hP.1 q t hq (ht g) rfl d (h p e R s m args below meth c A H locs Z ls hF hE hP hS hl)
theorem xupd_I (a j : Nat) (x : Int32) : xI (xsI M a j x) a = upd (xI M a) j x := by
  funext k
  simp only [xI_sI, upd]
  by_cases hk : k = j <;> simp [hk]
theorem xupd_J (a j : Nat) (x : Int64) : xJ (xsJ M a j x) a = vp_updL (xJ M a) j x := by
  funext k
  simp only [xJ_sJ, vp_updL]
  by_cases hk : k = j <;> simp [hk]
theorem xupd_R (a j : Nat) (x : Option Nat) : xR (xsR M a j x) a = va_up (xR M a) j x := by
  funext k
  simp only [xR_sR, va_up]
  by_cases hk : k = j <;> simp [hk]
theorem xr_iast {a : Nat} {i x : Int32} (j : Nat) (d : decode md.2.1 pc = .ok (.iastore, 1)) (ha : a ∈ xL M) (hk : xK M a = 9) (hi : i = nI j) (hj : j < xN M a) (hn : xN M a < 2 ^ 31) (h : xWp l g md mc ms (pc + 1) L st cs (xsI M a j x) Q) : xWp l g md mc ms pc L (.int x :: .int i :: va_rf (some a) :: st) cs M Q := fun p e R s m args below meth c A H locs Z ls hF hE hP hS hl => by
  obtain ⟨q, hq⟩ := xW_get g ha
  have hq' := hq
  rw [xE_arr g hk (by decide), xArI hk (by decide) (by decide)] at hq'
  subst hi
  have hset : (xW g M).set q (a, .inl (g.2.1 9, xN M a, .inl (upd (xI M a) j x))) = xW g (xsI M a j x) := xW_set g hP.2 ha hq rfl (by rw [xE_arr g (M := xsI M a j x) hk (by decide), xArI (M := xsI M a j x) hk (by decide) (by decide), xupd_I]; rfl) (fun b hb => xE_sI_ne g M a j x b hb)
  refine va_iast (D := g.1) hF.1 hF.2.1 hF.2.2.2.2.2.1 hP.1 hP.2 hS q 1 hq' rfl (vp_in_nI hj hn) d (fun H1 locs1 hP1 hD1 hS1 => ?_)
  rw [nI_clamp (by omega), hset] at hP1 hD1
  exact h p e R s m args below meth c A H1 locs1 Z ls hF hE ⟨hP1, hD1⟩ hS1 hl
theorem xr_bast {a : Nat} {i x : Int32} (j : Nat) (d : decode md.2.1 pc = .ok (.bastore, 1)) (ha : a ∈ xL M) (hk : xK M a = 8) (hi : i = nI j) (hj : j < xN M a) (hn : xN M a < 2 ^ 31) (h : xWp l g md mc ms (pc + 1) L st cs (xsI M a j x.toInt8.toInt32) Q) : xWp l g md mc ms pc L (.int x :: .int i :: va_rf (some a) :: st) cs M Q := fun p e R s m args below meth c A H locs Z ls hF hE hP hS hl => by
  obtain ⟨q, hq⟩ := xW_get g ha
  have hq' := hq
  rw [xE_arr g hk (by decide), xArI hk (by decide) (by decide)] at hq'
  subst hi
  have hset : (xW g M).set q (a, .inl (g.2.1 8, xN M a, .inl (upd (xI M a) j x.toInt8.toInt32))) = xW g (xsI M a j x.toInt8.toInt32) := xW_set g hP.2 ha hq rfl (by rw [xE_arr g (M := xsI M a j _) hk (by decide), xArI (M := xsI M a j _) hk (by decide) (by decide), xupd_I]; rfl) (fun b hb => xE_sI_ne g M a j _ b hb)
  refine va_bast (D := g.1) hF.1 hF.2.1 hF.2.2.2.2.2.1 hP.1 hP.2 hS q 0 hq' rfl (vp_in_nI hj hn) d (fun H1 locs1 hP1 hD1 hS1 => ?_)
  rw [vp_nar_byte, nI_clamp (by omega), hset] at hP1 hD1
  exact h p e R s m args below meth c A H1 locs1 Z ls hF hE ⟨hP1, hD1⟩ hS1 hl
theorem xr_zast {a : Nat} {i x : Int32} (j : Nat) (d : decode md.2.1 pc = .ok (.bastore, 1)) (ha : a ∈ xL M) (hk : xK M a = 11) (hi : i = nI j) (hj : j < xN M a) (hn : xN M a < 2 ^ 31) (h : xWp l g md mc ms (pc + 1) L st cs (xsI M a j (x &&& 1)) Q) : xWp l g md mc ms pc L (.int x :: .int i :: va_rf (some a) :: st) cs M Q := fun p e R s m args below meth c A H locs Z ls hF hE hP hS hl => by
  obtain ⟨q, hq⟩ := xW_get g ha
  have hq' := hq
  rw [xE_arr g hk (by decide), xArI hk (by decide) (by decide)] at hq'
  subst hi
  have hset : (xW g M).set q (a, .inl (g.2.1 11, xN M a, .inl (upd (xI M a) j (x &&& 1)))) = xW g (xsI M a j (x &&& 1)) := xW_set g hP.2 ha hq rfl (by rw [xE_arr g (M := xsI M a j _) hk (by decide), xArI (M := xsI M a j _) hk (by decide) (by decide), xupd_I]; rfl) (fun b hb => xE_sI_ne g M a j _ b hb)
  refine va_zast (D := g.1) hF.1 hF.2.1 hF.2.2.2.2.2.1 hP.1 hP.2 hS q 3 hq' rfl (vp_in_nI hj hn) d (fun H1 locs1 hP1 hD1 hS1 => ?_)
  have hb : vp_nar .boolean x = x &&& 1 := rfl
  rw [hb, nI_clamp (by omega), hset] at hP1 hD1
  exact h p e R s m args below meth c A H1 locs1 Z ls hF hE ⟨hP1, hD1⟩ hS1 hl
theorem xr_last {a : Nat} {i : Int32} {x : Int64} (j : Nat) (d : decode md.2.1 pc = .ok (.lastore, 1)) (ha : a ∈ xL M) (hk : xK M a = 10) (hi : i = nI j) (hj : j < xN M a) (hn : xN M a < 2 ^ 31) (h : xWp l g md mc ms (pc + 1) L st cs (xsJ M a j x) Q) : xWp l g md mc ms pc L (.long x :: .int i :: va_rf (some a) :: st) cs M Q := fun p e R s m args below meth c A H locs Z ls hF hE hP hS hl => by
  obtain ⟨q, hq⟩ := xW_get g ha
  have hq' := hq
  rw [xE_arr g hk (by decide), xArJ hk] at hq'
  subst hi
  have hset : (xW g M).set q (a, .inl (g.2.1 10, xN M a, .inr (.inl (vp_updL (xJ M a) j x)))) = xW g (xsJ M a j x) := xW_set g hP.2 ha hq rfl (by rw [xE_arr g (M := xsJ M a j x) hk (by decide), xArJ (M := xsJ M a j x) hk, xupd_J]; rfl) (fun b hb => xE_sJ_ne g M a j x b hb)
  refine va_last (D := g.1) hF.1 hF.2.1 hF.2.2.2.2.2.1 hP.1 hP.2 hS q 2 hq' rfl (vp_in_nI hj hn) d (fun H1 locs1 hP1 hD1 hS1 => ?_)
  rw [nI_clamp (by omega), hset] at hP1 hD1
  exact h p e R s m args below meth c A H1 locs1 Z ls hF hE ⟨hP1, hD1⟩ hS1 hl
theorem xr_aast {a b : Nat} {i : Int32} (j : Nat) (d : decode md.2.1 pc = .ok (.aastore, 1)) (ha : a ∈ xL M) (hk : xK M a = 12) (hb : b ∈ xL M) (hkb : xK M b = 1) (hi : i = nI j) (hj : j < xN M a) (hn : xN M a < 2 ^ 31) (h : xWp l g md mc ms (pc + 1) L st cs (xsR M a j (some b)) Q) : xWp l g md mc ms pc L (va_rf (some b) :: .int i :: va_rf (some a) :: st) cs M Q := fun p e R s m args below meth c A H locs Z ls hF hE hP hS hl => by
  obtain ⟨q, hq⟩ := xW_get g ha
  obtain ⟨q2, hq2⟩ := xW_get g hb
  rw [xE_obj g hkb (by decide)] at hq2
  have hq' := hq
  rw [xE_arr g hk (by decide), xArR hk] at hq'
  subst hi
  have hset : (xW g M).set q (a, .inl (g.2.1 12, xN M a, .inr (.inr (.inr (.inr (va_up (xR M a) j (some b))))))) = xW g (xsR M a j (some b)) := xW_set g hP.2 ha hq rfl (by rw [xE_arr g (M := xsR M a j _) hk (by decide), xArR (M := xsR M a j _) hk, xupd_R]; rfl) (fun b' hb' => xE_sR_ne g M a j _ b' hb')
  refine va_astq (D := g.1) hF.1 hF.2.1 hF.2.2.2.2.2.1 hP.1 hP.2 hS q 4 q2 1 (r := (RX3, TX3, 13)) hq' rfl hq2 rfl (vp_in_nI hj hn) d (fun H1 locs1 hP1 hD1 hS1 => ?_)
  rw [nI_clamp (by omega), hset] at hP1 hD1
  exact h p e R s m args below meth c A H1 locs1 Z ls hF hE ⟨hP1, hD1⟩ hS1 hl
end XMR
