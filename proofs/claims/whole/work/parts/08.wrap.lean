/-! THE SAME ROWS, with a reference that may be null in the walk's words and is known not to be. -/
def xat (M : xM) (a ci : Nat) : Prop := a ∈ xL M ∧ xK M a = ci
section YR
variable {l : Launch} {g : xG} {md : xMd} {mc ms pc : Nat} {L : List (Nat × Value)} {st : List Value} {cs : Nat × Nat} {M : xM} {Q : Option Value → xM → Prop}
theorem yr_getI {r : Option Nat} {a i ci k : Nat} (d : decode md.2.1 pc = .ok (.getfield i, 3)) (hf : xFl md.1.cls i ci k 0) (hr : r = some a) (ha : xat M a ci) (h : xWp l g md mc ms (pc + 3) L (.int (xI M a k) :: st) cs M Q) : xWp l g md mc ms pc L (va_rf r :: st) cs M Q := by
  subst hr; exact xr_get 0 d hf ha.1 ha.2 h
theorem yr_getZ {r : Option Nat} {a i ci k : Nat} (d : decode md.2.1 pc = .ok (.getfield i, 3)) (hf : xFl md.1.cls i ci k 3) (hr : r = some a) (ha : xat M a ci) (h : xWp l g md mc ms (pc + 3) L (.int (xI M a k) :: st) cs M Q) : xWp l g md mc ms pc L (va_rf r :: st) cs M Q := by
  subst hr; exact xr_get 3 d hf ha.1 ha.2 h
theorem yr_getJ {r : Option Nat} {a i ci k : Nat} (d : decode md.2.1 pc = .ok (.getfield i, 3)) (hf : xFl md.1.cls i ci k 1) (hr : r = some a) (ha : xat M a ci) (h : xWp l g md mc ms (pc + 3) L (.long (xJ M a k) :: st) cs M Q) : xWp l g md mc ms pc L (va_rf r :: st) cs M Q := by
  subst hr; exact xr_get 1 d hf ha.1 ha.2 h
theorem yr_getR {r : Option Nat} {a i ci k : Nat} (d : decode md.2.1 pc = .ok (.getfield i, 3)) (hf : xFl md.1.cls i ci k 2) (hr : r = some a) (ha : xat M a ci) (h : xWp l g md mc ms (pc + 3) L (va_rf (xR M a k) :: st) cs M Q) : xWp l g md mc ms pc L (va_rf r :: st) cs M Q := by
  subst hr; exact xr_get 2 d hf ha.1 ha.2 h
theorem yr_getN {r : Option Nat} {a : Nat} (d : decode md.2.1 pc = .ok (.getfield 27, 3)) (ho : md.1.cls = "RadixPages$Disk") (hin : ∀ w ∈ u_ws RX5 TX5 1, w ∈ gl) (hr : r = some a) (ha : xat M a 2) (h : xWp l g md mc ms (pc + 3) L (va_rf (xR M a 0) :: st) cs M Q) : xWp l g md mc ms pc L (va_rf r :: st) cs M Q := by
  subst hr; exact xr_getN d ho hin ha.1 ha.2 h
theorem yr_putI {r : Option Nat} {a i ci k : Nat} {x : Int32} (d : decode md.2.1 pc = .ok (.putfield i, 3)) (hf : xFp false md.1.cls i ci k 0 .int) (hr : r = some a) (ha : xat M a ci) (h : xWp l g md mc ms (pc + 3) L st cs (xsI M a k x) Q) : xWp l g md mc ms pc L (.int x :: va_rf r :: st) cs M Q := by
  subst hr; exact xr_putI d hf ha.1 ha.2 h
theorem yr_putZ {r : Option Nat} {a i ci k : Nat} {x : Int32} (d : decode md.2.1 pc = .ok (.putfield i, 3)) (hf : xFp false md.1.cls i ci k 3 .boolean) (hr : r = some a) (ha : xat M a ci) (hx : x = 0 ∨ x = 1) (h : xWp l g md mc ms (pc + 3) L st cs (xsI M a k x) Q) : xWp l g md mc ms pc L (.int x :: va_rf r :: st) cs M Q := by
  subst hr; exact xr_putZ d hf ha.1 ha.2 hx h
theorem yr_putJ {r : Option Nat} {a i ci k : Nat} {x : Int64} (d : decode md.2.1 pc = .ok (.putfield i, 3)) (hf : xFp false md.1.cls i ci k 1 .long) (hr : r = some a) (ha : xat M a ci) (h : xWp l g md mc ms (pc + 3) L st cs (xsJ M a k x) Q) : xWp l g md mc ms pc L (.long x :: va_rf r :: st) cs M Q := by
  subst hr; exact xr_putJ d hf ha.1 ha.2 h
theorem yr_putR {r : Option Nat} {a i ci k : Nat} {n : String} {x : Option Nat} (d : decode md.2.1 pc = .ok (.putfield i, 3)) (hf : xFp false md.1.cls i ci k 2 (.object n)) (hr : r = some a) (ha : xat M a ci) (h : xWp l g md mc ms (pc + 3) L st cs (xsR M a k x) Q) : xWp l g md mc ms pc L (va_rf x :: va_rf r :: st) cs M Q := by
  subst hr; exact xr_putR d hf ha.1 ha.2 h
theorem yr_putRF {r : Option Nat} {a i ci k : Nat} {ty : FieldType} {x : Option Nat} (d : decode md.2.1 pc = .ok (.putfield i, 3)) (hi : md.1.name = "<init>") (hf : xFp true md.1.cls i ci k 2 ty) (ht : (∃ n, ty = .object n) ∨ ∃ n, ty = .array n) (hr : r = some a) (ha : xat M a ci) (h : xWp l g md mc ms (pc + 3) L st cs (xsR M a k x) Q) : xWp l g md mc ms pc L (va_rf x :: va_rf r :: st) cs M Q := by
  subst hr; exact xr_putRF d hi hf ht ha.1 ha.2 h
/-- an array and a place in it -/
def xai (M : xM) (a kd : Nat) (i : Int32) (j : Nat) : Prop := xat M a kd ∧ i = nI j ∧ j < xN M a ∧ xN M a < 2 ^ 31
theorem yr_iald {r : Option Nat} {a j : Nat} {i : Int32} (d : decode md.2.1 pc = .ok (.iaload, 1)) (hr : r = some a) (ha : xai M a 9 i j) (h : xWp l g md mc ms (pc + 1) L (.int (xI M a j) :: st) cs M Q) : xWp l g md mc ms pc L (.int i :: va_rf r :: st) cs M Q := by
  subst hr; exact xr_iald j d ha.1.1 ha.1.2 ha.2.1 ha.2.2.1 ha.2.2.2 h
theorem yr_bald {r : Option Nat} {a j : Nat} {i : Int32} (d : decode md.2.1 pc = .ok (.baload, 1)) (hr : r = some a) (ha : xai M a 8 i j) (h : xWp l g md mc ms (pc + 1) L (.int (xI M a j) :: st) cs M Q) : xWp l g md mc ms pc L (.int i :: va_rf r :: st) cs M Q := by
  subst hr; exact xr_bald j d ha.1.1 ha.1.2 ha.2.1 ha.2.2.1 ha.2.2.2 h
theorem yr_zald {r : Option Nat} {a j : Nat} {i : Int32} (d : decode md.2.1 pc = .ok (.baload, 1)) (hr : r = some a) (ha : xai M a 11 i j) (h : xWp l g md mc ms (pc + 1) L (.int (xI M a j) :: st) cs M Q) : xWp l g md mc ms pc L (.int i :: va_rf r :: st) cs M Q := by
  subst hr; exact xr_zald j d ha.1.1 ha.1.2 ha.2.1 ha.2.2.1 ha.2.2.2 h
theorem yr_lald {r : Option Nat} {a j : Nat} {i : Int32} (d : decode md.2.1 pc = .ok (.laload, 1)) (hr : r = some a) (ha : xai M a 10 i j) (h : xWp l g md mc ms (pc + 1) L (.long (xJ M a j) :: st) cs M Q) : xWp l g md mc ms pc L (.int i :: va_rf r :: st) cs M Q := by
  subst hr; exact xr_lald j d ha.1.1 ha.1.2 ha.2.1 ha.2.2.1 ha.2.2.2 h
theorem yr_aald {r : Option Nat} {a j : Nat} {i : Int32} (d : decode md.2.1 pc = .ok (.aaload, 1)) (hr : r = some a) (ha : xai M a 12 i j) (h : xWp l g md mc ms (pc + 1) L (va_rf (xR M a j) :: st) cs M Q) : xWp l g md mc ms pc L (.int i :: va_rf r :: st) cs M Q := by
  subst hr; exact xr_aald j d ha.1.1 ha.1.2 ha.2.1 ha.2.2.1 ha.2.2.2 h
theorem yr_iast {r : Option Nat} {a j : Nat} {i x : Int32} (d : decode md.2.1 pc = .ok (.iastore, 1)) (hr : r = some a) (ha : xai M a 9 i j) (h : xWp l g md mc ms (pc + 1) L st cs (xsI M a j x) Q) : xWp l g md mc ms pc L (.int x :: .int i :: va_rf r :: st) cs M Q := by
  subst hr; exact xr_iast j d ha.1.1 ha.1.2 ha.2.1 ha.2.2.1 ha.2.2.2 h
theorem yr_bast {r : Option Nat} {a j : Nat} {i x : Int32} (d : decode md.2.1 pc = .ok (.bastore, 1)) (hr : r = some a) (ha : xai M a 8 i j) (h : xWp l g md mc ms (pc + 1) L st cs (xsI M a j x.toInt8.toInt32) Q) : xWp l g md mc ms pc L (.int x :: .int i :: va_rf r :: st) cs M Q := by
  subst hr; exact xr_bast j d ha.1.1 ha.1.2 ha.2.1 ha.2.2.1 ha.2.2.2 h
theorem yr_zast {r : Option Nat} {a j : Nat} {i x : Int32} (d : decode md.2.1 pc = .ok (.bastore, 1)) (hr : r = some a) (ha : xai M a 11 i j) (h : xWp l g md mc ms (pc + 1) L st cs (xsI M a j (x &&& 1)) Q) : xWp l g md mc ms pc L (.int x :: .int i :: va_rf r :: st) cs M Q := by
  subst hr; exact xr_zast j d ha.1.1 ha.1.2 ha.2.1 ha.2.2.1 ha.2.2.2 h
theorem yr_last {r : Option Nat} {a j : Nat} {i : Int32} {x : Int64} (d : decode md.2.1 pc = .ok (.lastore, 1)) (hr : r = some a) (ha : xai M a 10 i j) (h : xWp l g md mc ms (pc + 1) L st cs (xsJ M a j x) Q) : xWp l g md mc ms pc L (.long x :: .int i :: va_rf r :: st) cs M Q := by
  subst hr; exact xr_last j d ha.1.1 ha.1.2 ha.2.1 ha.2.2.1 ha.2.2.2 h
theorem yr_aast {r rb : Option Nat} {a b j : Nat} {i : Int32} (d : decode md.2.1 pc = .ok (.aastore, 1)) (hr : r = some a) (ha : xai M a 12 i j) (hrb : rb = some b) (hb : xat M b 1) (h : xWp l g md mc ms (pc + 1) L st cs (xsR M a j rb) Q) : xWp l g md mc ms pc L (va_rf rb :: .int i :: va_rf r :: st) cs M Q := by
  subst hr; subst hrb; exact xr_aast j d ha.1.1 ha.1.2 hb.1 hb.2 ha.2.1 ha.2.2.1 ha.2.2.2 h
/-- the array's kind among the types of arrays -/
theorem yr_alen8 {r : Option Nat} {a : Nat} (d : decode md.2.1 pc = .ok (.arraylength, 1)) (hr : r = some a) (ha : xat M a 8) (h : xWp l g md mc ms (pc + 1) L (.int (nI (xN M a)) :: st) cs M Q) : xWp l g md mc ms pc L (va_rf r :: st) cs M Q := by
  subst hr; exact xr_alen (t := 0) d ha.1 ha.2 (by decide) (fun _ => rfl) h
theorem yr_alen9 {r : Option Nat} {a : Nat} (d : decode md.2.1 pc = .ok (.arraylength, 1)) (hr : r = some a) (ha : xat M a 9) (h : xWp l g md mc ms (pc + 1) L (.int (nI (xN M a)) :: st) cs M Q) : xWp l g md mc ms pc L (va_rf r :: st) cs M Q := by
  subst hr; exact xr_alen (t := 1) d ha.1 ha.2 (by decide) (fun _ => rfl) h
theorem yr_alen11 {r : Option Nat} {a : Nat} (d : decode md.2.1 pc = .ok (.arraylength, 1)) (hr : r = some a) (ha : xat M a 11) (h : xWp l g md mc ms (pc + 1) L (.int (nI (xN M a)) :: st) cs M Q) : xWp l g md mc ms pc L (va_rf r :: st) cs M Q := by
  subst hr; exact xr_alen (t := 3) d ha.1 ha.2 (by decide) (fun _ => rfl) h
theorem yr_alen12 {r : Option Nat} {a : Nat} (d : decode md.2.1 pc = .ok (.arraylength, 1)) (hr : r = some a) (ha : xat M a 12) (h : xWp l g md mc ms (pc + 1) L (.int (nI (xN M a)) :: st) cs M Q) : xWp l g md mc ms pc L (va_rf r :: st) cs M Q := by
  subst hr; exact xr_alen (t := 4) d ha.1 ha.2 (by decide) (fun _ => rfl) h
theorem yr_alenM (d : decode md.2.1 pc = .ok (.arraylength, 1)) (h : xWp l g md mc ms (pc + 1) L (.int 5 :: st) cs M Q) : xWp l g md mc ms pc L (va_rf (some g.2.2.1) :: st) cs M Q := fun p e R s m args below meth c A H locs Z ls hF hE hP hS hl => by
  obtain ⟨cell, k1, k2, k3, k4, k5, k6, k7⟩ := hF.2.2.2.2.2.2.2.2.2.2.2.2.1.kept hS.2.1
  exact W.alen (n := 5) hF.1 hF.2.1 k1 k2 k5 rfl rfl d (h p e R s m args below meth c A H locs Z ls hF hE hP hS hl)
theorem yr_alenS (d : decode md.2.1 pc = .ok (.arraylength, 1)) (h : xWp l g md mc ms (pc + 1) L (.int 5 :: st) cs M Q) : xWp l g md mc ms pc L (va_rf (some g.2.2.2) :: st) cs M Q := fun p e R s m args below meth c A H locs Z ls hF hE hP hS hl => by
  obtain ⟨cell, k1, k2, k3, k4, k5, k6, k7⟩ := hF.2.2.2.2.2.2.2.2.2.2.2.2.2.2.1.kept hS.2.1
  exact W.alen (n := 5) hF.1 hF.2.1 k1 k2 k5 rfl rfl d (h p e R s m args below meth c A H locs Z ls hF hE hP hS hl)
theorem yr_callV {r : Option Nat} {i ci : Nat} {md2 : xMd} {mc2 ms2 a : Nat} (As : List Value) {st0 : List Value} (d : decode md.2.1 pc = .ok (.invokevirtual i, 3)) (hc : xCv md i md2 As.length ci) (hr : r = some a) (ha : xat M a ci) (hst : st0 = As.reverse ++ va_rf r :: st) (hw : (st.map fun v => v.category).sum ≤ 8) (hm : cs.1 + mc2 ≤ mc ∧ cs.2 + ms2 ≤ ms)
    (h : xSp l g md2 mc2 ms2 (va_rf r :: As) M (fun r M1 => xWp l g md mc ms (pc + 3) L (r.toList ++ st) (cs.1 + mc2, cs.2 + ms2) M1 Q)) : xWp l g md mc ms pc L st0 cs M Q := by
  subst hr; exact xr_callV As d hc hst ha.1 ha.2 hw hm h
theorem yr_callVN {r : Option Nat} {i ci : Nat} {md2 : xMd} {mc2 ms2 a : Nat} (As : List Value) {st0 : List Value} (d : decode md.2.1 pc = .ok (.invokevirtual i, 3)) (hc : xCvN md i md2 As.length ci) (hr : r = some a) (ha : xat M a ci) (hst : st0 = As.reverse ++ va_rf r :: st) (hw : (st.map fun v => v.category).sum ≤ 8) (hm : cs.1 + mc2 ≤ mc ∧ cs.2 + ms2 ≤ ms)
    (h : xSp l g md2 mc2 ms2 (va_rf r :: As) M (fun r M1 => xWp l g md mc ms (pc + 3) L (r.toList ++ st) (cs.1 + mc2, cs.2 + ms2) M1 Q)) : xWp l g md mc ms pc L st0 cs M Q := by
  subst hr; exact xr_callVN As d hc hst ha.1 ha.2 hw hm h
theorem va_rf_cat (r : Option Nat) : (va_rf r).category = 1 := by cases r <;> rfl
end YR
