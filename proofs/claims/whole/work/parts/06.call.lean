/-! NEW CELLS, STATICS, CALLS. -/
section XCR
variable {l : Launch} {g : xG} {md : xMd} {mc ms pc : Nat} {L : List (Nat × Value)} {st : List Value} {cs : Nat × Nat} {M : xM} {Q : Option Value → xM → Prop}
def xdf (t : Nat) : Value := if t = 1 then .long 0 else if t = 2 then .null else .int 0
theorem xK_new (M : xM) (q kd n b : Nat) : xK (xnew M q kd n) b = if b = q then kd else xK M b := rfl
theorem xN_new (M : xM) (q kd n b : Nat) : xN (xnew M q kd n) b = if b = q then n else xN M b := rfl
theorem xI_new (M : xM) (q kd n b j : Nat) : xI (xnew M q kd n) b j = if b = q then 0 else xI M b j := rfl
theorem xJ_new (M : xM) (q kd n b j : Nat) : xJ (xnew M q kd n) b j = if b = q then 0 else xJ M b j := rfl
theorem xR_new (M : xM) (q kd n b j : Nat) : xR (xnew M q kd n) b j = if b = q then none else xR M b j := rfl
theorem xL_new (M : xM) (q kd n : Nat) : xL (xnew M q kd n) = xL M ++ [q] := rfl
theorem xE_new_ne (g : xG) (M : xM) (q kd n b : Nat) (h : b ≠ q) : xE g (xnew M q kd n) b = xE g M b := by
  have h1 : xI (xnew M q kd n) b = xI M b := funext fun j => by rw [xI_new, if_neg h]
  have h2 : xJ (xnew M q kd n) b = xJ M b := funext fun j => by rw [xJ_new, if_neg h]
  have h3 : xR (xnew M q kd n) b = xR M b := funext fun j => by rw [xR_new, if_neg h]
  have h4 : xK (xnew M q kd n) b = xK M b := by rw [xK_new, if_neg h]
  have h5 : xN (xnew M q kd n) b = xN M b := by rw [xN_new, if_neg h]
  simp only [xE, xAr, xFs, xV, h1, h2, h3, h4, h5]
theorem xW_push (g : xG) (M : xM) (q kd n : Nat) (h : q ∉ xL M) {e : va_E} (he : xE g (xnew M q kd n) q = e) : xW g M ++ [(q, e)] = xW g (xnew M q kd n) := by
  unfold xW
  rw [va_pl_push h, xL_new]
  unfold va_pl
  apply List.map_congr_left
  intro b _
  by_cases hb : b = q
  · subst hb; rw [va_up_self, he]
  · rw [va_up_ne _ _ hb, xE_new_ne g M q kd n b hb]
theorem xFs_new (M : xM) (q kd n : Nat) (ts : List Nat) : xFs (xnew M q kd n) q ts = ts.map xdf := by
  apply List.ext_getElem?
  intro j
  simp only [xFs, List.getElem?_mapIdx, List.getElem?_map]
  cases ts[j]? with
  | none => rfl
  | some t =>
    simp only [Option.map_some, xV, xdf, xI_new, xJ_new, xR_new, if_true]
    rfl
/-- a class that is made -/
def xCn (own : String) (i ci N : Nat) : Prop := ∃ (C : String) (T : u_T) (ty : Nat → FieldType), vwCl[ci]? = some (C, T, N) ∧ ci < 8 ∧ (∀ w ∈ u_ws C T N, w ∈ gl) ∧ (∀ j, j < N → parseFieldDescriptor (T j).2.2.1 = some (ty j)) ∧ (∀ j, j < N → defaultValue (ty j) = vp_V ((xF ci).map xdf) j) ∧ Cond.classLink own i C ∈ gl ∧ Cond.instantiable C N ∈ gl ∧ Cond.initialized C ∈ gl
theorem xr_new {i ci N : Nat} (d : decode md.2.1 pc = .ok (.new i, 3)) (hc : xCn md.1.cls i ci N) (hm : cs.1 + 1 ≤ mc ∧ cs.2 + N ≤ ms) (h : ∀ q, q ∉ xL M → xWp l g md mc ms (pc + 3) L (va_rf (some q) :: st) (cs.1 + 1, cs.2 + N) (xnew M q ci 0) Q) : xWp l g md mc ms pc L st cs M Q := fun p e R s m args below meth c A H locs Z ls hF hE hP hS hl => by
  obtain ⟨C, T, ty, h1, h2, h3, h4, h5, h6, h7, h8⟩ := hc
  obtain ⟨r1, r2, r3, r4⟩ := hF.2.2.2.2.2.2.2.2.2.2.1
  refine va_new (D := g.1) (ci := ci) (C := C) (T := T) (N := N) hF.1 hF.2.1 hF.2.2.2.2.1 h3 ty h4 hF.2.2.2.1 (hF.2.2.2.2.1 _ h6) (hF.2.2.2.2.1 _ h7) (hF.2.2.2.2.1 _ h8) hF.2.2.2.2.2.1 hP.1 hP.2 hS hF.2.2.2.2.2.2.2.2.2.1 h1 h5 (Nat.le_trans hm.1 r3) (Nat.le_trans hm.2 r4) d (fun q H1 hP1 hD1 hS1 => ?_)
  have hq : q ∉ xL M := va_pl_fresh2 (X := []) (f := xE g M) hD1
  rw [xW_push g M q ci 0 hq (by rw [xE_obj g (M := xnew M q ci 0) (ci := ci) (by rw [xK_new, if_pos rfl]) h2, xFs_new])] at hP1 hD1
  exact h q hq p e R s m args below meth c A H1 locs Z ls hF hE ⟨hP1, hD1⟩ hS1 hl
theorem xcA_eq {s : State} {t kd : Nat} {ty : FieldType} {cA : ClassId} {tys : List (ClassId × FieldType)} (hK : va_K g.1 vwCl (xTy g) s) (ht : (xTy g)[t]? = some (g.2.1 kd, ty)) (hK1 : va_K g.1 vwCl (xTy g ++ [(cA, ty)]) s) : cA = g.2.1 kd := by
  have h1 := (hK.2 t _ ht).2
  have h2 := (hK1.2 (xTy g).length (cA, ty) (by simp)).2
  simp only at h1 h2
  cases ty with
  | object C =>
    obtain ⟨_, _, _, _, _, e1⟩ := h1
    obtain ⟨_, _, _, _, _, e2⟩ := h2
    exact Option.some.inj (e2.symm.trans e1)
  | _ => exact Option.some.inj (h2.symm.trans h1)
theorem xr_newa {atype : ArrayType} {ty : FieldType} {kd t n : Nat} {x : Int32} (d : decode md.2.1 pc = .ok (.newarray atype, 2)) (hty : newarray.typeOf atype = ty) (hw : Cond.arrayClass (newarray.typeOf atype) ∈ gl) (ht : ∀ g : xG, (xTy g)[t]? = some (g.2.1 kd, ty)) (h8 : ¬ kd < 8) (h12 : kd ≠ 12) (hdv : defaultValue ty = if kd = 10 then .long 0 else .int 0) (hx : x = nI n) (hn : n < 1000000) (hcb : componentBytes ty ≤ 8) (hm : cs.1 + 1 ≤ mc ∧ cs.2 + n ≤ ms) (h : ∀ q, q ∉ xL M → xWp l g md mc ms (pc + 2) L (va_rf (some q) :: st) (cs.1 + 1, cs.2 + n) (xnew M q kd n) Q) : xWp l g md mc ms pc L (.int x :: st) cs M Q := fun p e R s m args below meth c A H locs Z ls hF hE hP hS hl => by
  obtain ⟨r1, r2, r3, r4⟩ := hF.2.2.2.2.2.2.2.2.2.2.1
  subst hx
  have hcl : (nI n).toNatClampNeg = n := nI_clamp (by omega)
  refine va_newa (D := g.1) hF.1 hF.2.1 (hF.2.2.2.2.1 _ hw) hty hF.2.2.2.2.2.1 hP.1 hP.2 hS hF.2.2.2.2.2.2.2.2.2.1 (N' := n) (a0 := (n, if kd = 10 then .inr (.inl (fun _ => 0)) else .inl (fun _ => 0))) ?_ (nI_pos (by omega)) hcl ?_ (Nat.le_trans hm.1 r3) (Nat.le_trans hm.2 r4) d (fun q cA H1 hK1 hP1 hD1 hS1 => ?_)
  · intro cA
    rw [hdv]
    by_cases h10 : kd = 10
    · simp only [h10, if_true]; rfl
    · simp only [if_neg h10]; rfl
  · calc n * componentBytes ty ≤ n * 8 := Nat.mul_le_mul_left _ hcb
      _ ≤ 536870912 := by omega
  · have hq : q ∉ xL M := va_pl_fresh2 (X := []) (f := xE g M) hD1
    have hcA : cA = g.2.1 kd := xcA_eq (tys := []) hF.2.2.2.2.2.1 (ht g) hK1
    subst hcA
    rw [xW_push g M q kd n hq (by
      rw [xE_arr g (M := xnew M q kd n) (ci := kd) (by rw [xK_new, if_pos rfl]) h8]
      have e1 : xI (xnew M q kd n) q = fun _ => 0 := funext fun j => by rw [xI_new, if_pos rfl]
      have e2 : xJ (xnew M q kd n) q = fun _ => 0 := funext fun j => by rw [xJ_new, if_pos rfl]
      have e3 : xK (xnew M q kd n) q = kd := by rw [xK_new, if_pos rfl]
      have e4 : xN (xnew M q kd n) q = n := by rw [xN_new, if_pos rfl]
      simp only [xAr, e1, e2, e3, e4, if_neg h12])] at hP1 hD1
    exact h q hq p e R s m args below meth c A H1 locs Z ls hF hE ⟨hP1, hD1⟩ hS1 hl
theorem xr_newq {i n : Nat} {x : Int32} (d : decode md.2.1 pc = .ok (.anewarray i, 3)) (hw : Cond.classLink md.1.cls i "RadixPages$Node" ∈ gl) (hx : x = nI n) (hn : n < 1000000) (hm : cs.1 + 1 ≤ mc ∧ cs.2 + n ≤ ms) (h : ∀ q, q ∉ xL M → xWp l g md mc ms (pc + 3) L (va_rf (some q) :: st) (cs.1 + 1, cs.2 + n) (xnew M q 12 n) Q) : xWp l g md mc ms pc L (.int x :: st) cs M Q := fun p e R s m args below meth c A H locs Z ls hF hE hP hS hl => by
  obtain ⟨r1, r2, r3, r4⟩ := hF.2.2.2.2.2.2.2.2.2.2.1
  subst hx
  have hcl : (nI n).toNatClampNeg = n := nI_clamp (by omega)
  refine va_newq (D := g.1) hF.1 hF.2.1 hF.2.2.2.1 (hF.2.2.2.2.1 _ hw) hF.2.2.2.2.2.2.2.2.2.2.2.2.2.2.2.2.2 hF.2.2.2.2.2.1 hP.1 hP.2 hS hF.2.2.2.2.2.2.2.2.2.1 (nI_pos (by omega)) hcl (by omega) (Nat.le_trans hm.1 r3) (Nat.le_trans hm.2 r4) d (fun q cA H1 hK1 hP1 hD1 hS1 => ?_)
  have hq : q ∉ xL M := va_pl_fresh2 (X := []) (f := xE g M) hD1
  have hcA : cA = g.2.1 12 := xcA_eq (tys := []) (t := 4) hF.2.2.2.2.2.1 rfl hK1
  subst hcA
  rw [xW_push g M q 12 n hq (by
    rw [xE_arr g (M := xnew M q 12 n) (ci := 12) (by rw [xK_new, if_pos rfl]) (by decide)]
    have e1 : xR (xnew M q 12 n) q = fun _ => none := funext fun j => by rw [xR_new, if_pos rfl]
    have e3 : xK (xnew M q 12 n) q = 12 := by rw [xK_new, if_pos rfl]
    have e4 : xN (xnew M q 12 n) q = n := by rw [xN_new, if_pos rfl]
    simp only [xAr, e1, e3, e4]
    rfl)] at hP1 hD1
  exact h q hq p e R s m args below meth c A H1 locs Z ls hF hE ⟨hP1, hD1⟩ hS1 hl
/-- Object's constructor -/
theorem xr_obj {i a : Nat} (d : decode md.2.1 pc = .ok (.invokespecial i, 3)) (h1 : Cond.methodLink md.1.cls i objectInit ∈ gl) (h2 : Cond.instanceMethod objectInit ∈ gl) (h3 : Cond.code objectInit ⟨#[0xb1]⟩ 1 none ∈ gl) (hf : 1 ≤ md.2.2.2.2.1) (hw : (st.map fun v => v.category).sum + 12 ≤ md.2.2.2.2.2) (h : xWp l g md mc ms (pc + 3) L st cs M Q) : xWp l g md mc ms pc L (va_rf (some a) :: st) cs M Q := fun p e R s m args below meth c A H locs Z ls hF hE hP hS hl => by
  obtain ⟨r1, r2, r3, r4⟩ := hF.2.2.2.2.2.2.2.2.2.2.1
  exact W.objInit hF.1 hF.2.1 hF.2.2.2.1 (hF.2.2.2.2.1 _ h1) (hF.2.2.2.2.1 _ h2) (hF.2.2.2.2.1 _ h3) rfl (by rw [hF.2.2.1]; exact hl.1) (a := a) (rest := st) rfl d (Nat.le_trans hf r1) (by show 2 * 0 + _ + 12 ≤ _; omega) (h p e R s m args below meth c A H locs Z ls hF hE hP hS hl)
/-- the two static arrays -/
theorem xr_gsM {i : Nat} (d : decode md.2.1 pc = .ok (.getstatic i, 3)) (hw : Cond.fieldLink md.1.cls i "RadixPages$Format" "MOST_CHILDREN" "[I" ∈ gl) (h : xWp l g md mc ms (pc + 3) L (va_rf (some g.2.2.1) :: st) cs M Q) : xWp l g md mc ms pc L st cs M Q := fun p e R s m args below meth c A H locs Z ls hF hE hP hS hl => va_gets hF.1 hF.2.1 hF.2.2.2.2.2.2.2.2.2.2.2.1 hS hF.2.2.2.1 (hF.2.2.2.2.1 _ hw) (fun _ z => z) d (h p e R s m args below meth c A H locs Z ls hF hE hP hS hl)
theorem xr_gsS {i : Nat} (d : decode md.2.1 pc = .ok (.getstatic i, 3)) (hw : Cond.fieldLink md.1.cls i "RadixPages$Format" "SHRINKS_AT" "[I" ∈ gl) (h : xWp l g md mc ms (pc + 3) L (va_rf (some g.2.2.2) :: st) cs M Q) : xWp l g md mc ms pc L st cs M Q := fun p e R s m args below meth c A H locs Z ls hF hE hP hS hl => va_gets hF.1 hF.2.1 hF.2.2.2.2.2.2.2.2.2.2.2.2.2.1 hS hF.2.2.2.1 (hF.2.2.2.2.1 _ hw) (fun _ z => z) d (h p e R s m args below meth c A H locs Z ls hF hE hP hS hl)
theorem xr_salM {i : Int32} (j : Nat) (d : decode md.2.1 pc = .ok (.iaload, 1)) (hi : i = nI j) (hj : j < 5) (h : xWp l g md mc ms (pc + 1) L (.int (xmc j) :: st) cs M Q) : xWp l g md mc ms pc L (.int i :: va_rf (some g.2.2.1) :: st) cs M Q := fun p e R s m args below meth c A H locs Z ls hF hE hP hS hl => by
  subst hi
  exact va_ti hF.1 hF.2.1 hF.2.2.2.2.2.2.2.2.2.2.2.2.1 hS (vp_in_nI hj (by omega)) (by rw [nI_clamp (by omega)]) d (h p e R s m args below meth c A H locs Z ls hF hE hP hS hl)
theorem xr_salS {i : Int32} (j : Nat) (d : decode md.2.1 pc = .ok (.iaload, 1)) (hi : i = nI j) (hj : j < 5) (h : xWp l g md mc ms (pc + 1) L (.int (xsh j) :: st) cs M Q) : xWp l g md mc ms pc L (.int i :: va_rf (some g.2.2.2) :: st) cs M Q := fun p e R s m args below meth c A H locs Z ls hF hE hP hS hl => by
  subst hi
  exact va_ti hF.1 hF.2.1 hF.2.2.2.2.2.2.2.2.2.2.2.2.2.2.1 hS (vp_in_nI hj (by omega)) (by rw [nI_clamp (by omega)]) d (h p e R s m args below meth c A H locs Z ls hF hE hP hS hl)
/-- behind a call: the callee's answer and world -/
theorem xWp.run {mc2 ms2 : Nat} {st0 : List Value} {Q0 : Option Value → xM → Prop} {av : Array Value} {p : Program} {e : Env} {R : Room} {s : State} {m : MethodId} {args : Array Value} {below : List Frame} {meth : Method} {c : Code} {A : Nat → Prop} {H : Heap} {locs : List Loc} {Z : State → Prop} {ls : Array Slot}
    (hr : va_Run p l e R s m args below meth c H locs cs.1 cs.2 mc2 ms2 (F0 m pc ls st0) st (xPost g M H.size Q0 av) (va_A (xW g M) H.size))
    (hF : xFix g md mc ms p R s m args meth c A) (hE : xEnd l g md mc ms p e R s m args below meth c A Q Z) (hP : xP g A M H) (hS : va_S A s.heap H locs) (hl : xLr ls md.2.2.1 L)
    (h : ∀ r M1, Q0 r M1 → xWp l g md mc ms (pc + 3) L (r.toList ++ st) (cs.1 + mc2, cs.2 + ms2) M1 Q) : W p l e R s m args below meth c H locs cs.1 cs.2 Z (F0 m pc ls st0) := by
  have hfree : ∀ q, va_A (xW g M) H.size q → A q := fun q hq => by
    rcases hq with ⟨k, e0, h1⟩ | h1
    · exact hP.2.2 k (q, e0) h1
    · exact hF.2.2.2.2.2.2.2.2.2.1 q (Nat.le_trans hS.1 h1)
  intro T hT X
  obtain ⟨v, st₀, t, T', L', h0, X', hL, e1, e2, ⟨⟨r, M1, hv, hq, hP1, hK1, hD1⟩, hz, hk⟩, stp⟩ := hr T hT X
  cases hv
  rw [h0] at hz hk
  have hS1 : va_S A s.heap T'.heap (locs ++ L') := ⟨Nat.le_trans hS.1 (by rw [e1]; exact hz), fun q h1 h2 => by rw [e1, hk q (Nat.lt_of_lt_of_le h1 hS.1) (fun z => h2 (hfree q z))]; exact hS.2.1 q h1 h2, fun q hq => by
      rcases List.mem_append.mp hq with z | z
      · exact hS.2.2 q z
      · exact hfree _ (hL q z)⟩
  obtain ⟨t2, a1, b1⟩ := h v M1 hq p e R s m args below meth c A T'.heap (locs ++ L') Z ls hF hE ⟨by rw [e1]; exact hP1, hD1.weaken (fun _ _ _ z => hfree _ z)⟩ hS1 hl T' rfl X'
  exact ⟨t2, stp t2 a1, b1⟩
theorem xPre_of {p : Program} {R : Room} {s : State} {m : MethodId} {args : Array Value} {meth : Method} {c : Code} {A : Nat → Prop} {H : Heap} {locs : List Loc} (hF : xFix g md mc ms p R s m args meth c A) (hP : xP g A M H) (hS : va_S A s.heap H locs) (U : State) (hU : U.heap = H) (hW : s.WarmedH U.vm) : xPre g M H.size U := by
  have hfree : ∀ q, va_A (xW g M) H.size q → A q := fun q hq => by
    rcases hq with ⟨k, e0, h1⟩ | h1
    · exact hP.2.2 k (q, e0) h1
    · exact hF.2.2.2.2.2.2.2.2.2.1 q (Nat.le_trans hS.1 h1)
  refine ⟨by rw [hU], by rw [hU]; exact hP.1, va_K.moved hW.alike hF.2.2.2.2.2.1, hP.2.weaken (fun _ _ _ _ => trivial), ?_⟩
  rw [hU]
  exact ((hF.2.2.2.2.2.2.2.2.2.2.2.kept hS.2.1).narrow hfree).warm hW
/-- what a call site stands on -/
def xCb (md md2 : xMd) (n : Nat) : Prop := Cond.code md2.1 md2.2.1 md2.2.2.1 md2.2.2.2.1 ∈ gl ∧ Cond.initialized md2.1.cls ∈ gl ∧ (md2.1.cls ≠ "java/lang/invoke/MethodHandle" ∧ md2.1.cls ≠ "java/lang/invoke/VarHandle" ∧ (parseMethodDescriptor md2.1.desc).map (fun d => d.parameters.length) = some n) ∧ md2.2.2.2.2.1 + 1 ≤ md.2.2.2.2.1 ∧ 8 + (md2.2.2.1 + 11) + md2.2.2.2.2.2 ≤ md.2.2.2.2.2
def xCv (md : xMd) (i : Nat) (md2 : xMd) (n ci : Nat) : Prop := xCb md md2 n ∧ Cond.methodLink md.1.cls i md2.1 ∈ gl ∧ Cond.instanceMethod md2.1 ∈ gl ∧ Cond.selects md2.1.cls md2.1 md2.1 ∈ gl ∧ ci < 8 ∧ ∃ T N, vwCl[ci]? = some (md2.1.cls, T, N)
def xCs (md : xMd) (i : Nat) (md2 : xMd) (n : Nat) : Prop := xCb md md2 n ∧ Cond.methodLink md.1.cls i md2.1 ∈ gl ∧ Cond.static md2.1 ∈ gl
def xCi (md : xMd) (i : Nat) (md2 : xMd) (n : Nat) : Prop := xCb md md2 n ∧ Cond.methodLink md.1.cls i md2.1 ∈ gl ∧ md2.1.name = "<init>" ∧ Cond.instanceMethod md2.1 ∈ gl ∧ md2.2.2.2.1 = none
def xCvN (md : xMd) (i : Nat) (md2 : xMd) (n ci : Nat) : Prop := xCb md md2 n ∧ Cond.methodLinkNest md.1.cls i md2.1 "RadixPages" ∈ xNs ∧ Cond.instanceMethod md2.1 ∈ gl ∧ Cond.selects md2.1.cls md2.1 md2.1 ∈ gl ∧ ci < 8 ∧ ∃ T N, vwCl[ci]? = some (md2.1.cls, T, N)
def xCiN (md : xMd) (i : Nat) (md2 : xMd) (n : Nat) : Prop := xCb md md2 n ∧ Cond.methodLinkNest md.1.cls i md2.1 "RadixPages" ∈ xNs ∧ md2.1.name = "<init>" ∧ Cond.instanceMethod md2.1 ∈ gl ∧ md2.2.2.2.1 = none
theorem xr_callV {i ci : Nat} {md2 : xMd} {mc2 ms2 a : Nat} (As : List Value) {st0 : List Value} (d : decode md.2.1 pc = .ok (.invokevirtual i, 3)) (hc : xCv md i md2 As.length ci) (hst : st0 = As.reverse ++ va_rf (some a) :: st) (ha : a ∈ xL M) (hk : xK M a = ci) (hw : (st.map fun v => v.category).sum ≤ 8) (hm : cs.1 + mc2 ≤ mc ∧ cs.2 + ms2 ≤ ms)
    (h : xSp l g md2 mc2 ms2 (va_rf (some a) :: As) M (fun r M1 => xWp l g md mc ms (pc + 3) L (r.toList ++ st) (cs.1 + mc2, cs.2 + ms2) M1 Q)) : xWp l g md mc ms pc L st0 cs M Q := fun p e R s m args below meth c A H locs Z ls hF hE hP hS hl => by
  obtain ⟨Q0, h1, h2⟩ := h
  obtain ⟨⟨c1, c2, c3, c4, c5⟩, c6, c7, c8, c9, T, N, c10⟩ := hc
  obtain ⟨r1, r2, r3, r4⟩ := hF.2.2.2.2.2.2.2.2.2.2.1
  have hts := hF.2.2.2.2.1
  obtain ⟨q, hq⟩ := xW_get g ha
  rw [xE_obj g hk c9] at hq
  exact xWp.run (va_runV (As := As) (rest := st) ⟨hF.1, hF.2.1, hF.2.2.1, hF.2.2.2.1, hts⟩ (h2 H.size) ⟨callB_of (rm := xrm md2 mc2 ms2) As.length hts (xws_good c1) rfl rfl rfl (hts _ c2) (hts _ c6) c3 ⟨Nat.le_trans c4 r1, Nat.le_trans c5 r2⟩, hts _ c7, hts _ c8⟩ ⟨xPre_blind g M H.size _, va_recv hF.2.2.2.2.2.1 hP.1 c10 hq, fun U hU hW => ⟨rfl, xPre_of hF hP hS U hU hW⟩⟩ rfl rfl hl.1 hst (by show 2 * 0 + _ ≤ 8; omega) d ⟨Nat.le_trans hm.1 r3, Nat.le_trans hm.2 r4⟩) hF hE hP hS hl h1
theorem xr_callS {i : Nat} {md2 : xMd} {mc2 ms2 : Nat} (As : List Value) {st0 : List Value} (d : decode md.2.1 pc = .ok (.invokestatic i, 3)) (hc : xCs md i md2 As.length) (hst : st0 = As.reverse ++ st) (hw : (st.map fun v => v.category).sum ≤ 8) (hm : cs.1 + mc2 ≤ mc ∧ cs.2 + ms2 ≤ ms)
    (h : xSp l g md2 mc2 ms2 As M (fun r M1 => xWp l g md mc ms (pc + 3) L (r.toList ++ st) (cs.1 + mc2, cs.2 + ms2) M1 Q)) : xWp l g md mc ms pc L st0 cs M Q := fun p e R s m args below meth c A H locs Z ls hF hE hP hS hl => by
  obtain ⟨Q0, h1, h2⟩ := h
  obtain ⟨⟨c1, c2, c3, c4, c5⟩, c6, c7⟩ := hc
  obtain ⟨r1, r2, r3, r4⟩ := hF.2.2.2.2.2.2.2.2.2.2.1
  have hts := hF.2.2.2.2.1
  exact xWp.run (va_runS (As := As) (rest := st) ⟨hF.1, hF.2.1, hF.2.2.1, hF.2.2.2.1, hts⟩ (h2 H.size) ⟨callB_of (rm := xrm md2 mc2 ms2) As.length hts (xws_good c1) rfl rfl rfl (hts _ c2) (hts _ c6) c3 ⟨Nat.le_trans c4 r1, Nat.le_trans c5 r2⟩, hts _ c7⟩ ⟨xPre_blind g M H.size _, fun U hU hW => ⟨rfl, xPre_of hF hP hS U hU hW⟩⟩ rfl rfl hl.1 hst (by show 2 * 0 + _ ≤ 8; omega) d ⟨Nat.le_trans hm.1 r3, Nat.le_trans hm.2 r4⟩) hF hE hP hS hl h1
theorem xr_callI {i : Nat} {md2 : xMd} {mc2 ms2 a : Nat} (As : List Value) {st0 : List Value} (d : decode md.2.1 pc = .ok (.invokespecial i, 3)) (hc : xCi md i md2 As.length) (hst : st0 = As.reverse ++ va_rf (some a) :: st) (hw : (st.map fun v => v.category).sum ≤ 8) (hm : cs.1 + mc2 ≤ mc ∧ cs.2 + ms2 ≤ ms)
    (h : xSp l g md2 mc2 ms2 (va_rf (some a) :: As) M (fun r M1 => xWp l g md mc ms (pc + 3) L (r.toList ++ st) (cs.1 + mc2, cs.2 + ms2) M1 Q)) : xWp l g md mc ms pc L st0 cs M Q := fun p e R s m args below meth c A H locs Z ls hF hE hP hS hl => by
  obtain ⟨Q0, h1, h2⟩ := h
  obtain ⟨⟨c1, c2, c3, c4, c5⟩, c6, c7, c8, c9⟩ := hc
  obtain ⟨r1, r2, r3, r4⟩ := hF.2.2.2.2.2.2.2.2.2.2.1
  have hts := hF.2.2.2.2.1
  exact xWp.run (va_runI (As := As) (rest := st) (bytes := md2.2.1) (maxL := md2.2.2.1) ⟨hF.1, hF.2.1, hF.2.2.1, hF.2.2.2.1, hts⟩ (h2 H.size) ⟨by rw [← c9]; exact callB_of (rm := xrm md2 mc2 ms2) As.length hts (xws_good c1) rfl rfl rfl (hts _ c2) (hts _ c6) c3 ⟨Nat.le_trans c4 r1, Nat.le_trans c5 r2⟩, c7, hts _ c8⟩ ⟨xPre_blind g M H.size _, fun U hU hW => ⟨rfl, xPre_of hF hP hS U hU hW⟩⟩ rfl rfl hl.1 hst (by show 2 * 0 + _ ≤ 8; omega) d ⟨Nat.le_trans hm.1 r3, Nat.le_trans hm.2 r4⟩) hF hE hP hS hl h1
theorem xr_callVN {i ci : Nat} {md2 : xMd} {mc2 ms2 a : Nat} (As : List Value) {st0 : List Value} (d : decode md.2.1 pc = .ok (.invokevirtual i, 3)) (hc : xCvN md i md2 As.length ci) (hst : st0 = As.reverse ++ va_rf (some a) :: st) (ha : a ∈ xL M) (hk : xK M a = ci) (hw : (st.map fun v => v.category).sum ≤ 8) (hm : cs.1 + mc2 ≤ mc ∧ cs.2 + ms2 ≤ ms)
    (h : xSp l g md2 mc2 ms2 (va_rf (some a) :: As) M (fun r M1 => xWp l g md mc ms (pc + 3) L (r.toList ++ st) (cs.1 + mc2, cs.2 + ms2) M1 Q)) : xWp l g md mc ms pc L st0 cs M Q := fun p e R s m args below meth c A H locs Z ls hF hE hP hS hl => by
  obtain ⟨Q0, h1, h2⟩ := h
  obtain ⟨⟨c1, c2, c3, c4, c5⟩, c6, c7, c8, c9, T, N, c10⟩ := hc
  obtain ⟨r1, r2, r3, r4⟩ := hF.2.2.2.2.2.2.2.2.2.2.1
  have hts := hF.2.2.2.2.1
  obtain ⟨q, hq⟩ := xW_get g ha
  rw [xE_obj g hk c9] at hq
  exact xWp.run (va_runVN (As := As) (rest := st) ⟨hF.1, hF.2.1, hF.2.2.1, hF.2.2.2.1, hts⟩ (h2 H.size) ⟨va_cnB (rm := xrm md2 mc2 ms2) As.length hts (xws_good c1) rfl rfl rfl (hF.2.2.2.2.2.2.2.2.2.2.2.2.2.2.2.1 _ c6) (hts _ c2) c3 ⟨Nat.le_trans c4 r1, Nat.le_trans c5 r2⟩, hts _ c7, hts _ c8⟩ ⟨xPre_blind g M H.size _, va_recv hF.2.2.2.2.2.1 hP.1 c10 hq, fun U hU hW => ⟨rfl, xPre_of hF hP hS U hU hW⟩⟩ rfl rfl hl.1 hst (by show 2 * 0 + _ ≤ 8; omega) d ⟨Nat.le_trans hm.1 r3, Nat.le_trans hm.2 r4⟩) hF hE hP hS hl h1
theorem xr_callIN {i : Nat} {md2 : xMd} {mc2 ms2 a : Nat} (As : List Value) {st0 : List Value} (d : decode md.2.1 pc = .ok (.invokespecial i, 3)) (hc : xCiN md i md2 As.length) (hst : st0 = As.reverse ++ va_rf (some a) :: st) (hw : (st.map fun v => v.category).sum ≤ 8) (hm : cs.1 + mc2 ≤ mc ∧ cs.2 + ms2 ≤ ms)
    (h : xSp l g md2 mc2 ms2 (va_rf (some a) :: As) M (fun r M1 => xWp l g md mc ms (pc + 3) L (r.toList ++ st) (cs.1 + mc2, cs.2 + ms2) M1 Q)) : xWp l g md mc ms pc L st0 cs M Q := fun p e R s m args below meth c A H locs Z ls hF hE hP hS hl => by
  obtain ⟨Q0, h1, h2⟩ := h
  obtain ⟨⟨c1, c2, c3, c4, c5⟩, c6, c7, c8, c9⟩ := hc
  obtain ⟨r1, r2, r3, r4⟩ := hF.2.2.2.2.2.2.2.2.2.2.1
  have hts := hF.2.2.2.2.1
  exact xWp.run (va_runIN (As := As) (rest := st) (bytes := md2.2.1) (maxL := md2.2.2.1) (host := "RadixPages") ⟨hF.1, hF.2.1, hF.2.2.1, hF.2.2.2.1, hts⟩ (h2 H.size) ⟨by rw [← c9]; exact va_cnB (rm := xrm md2 mc2 ms2) As.length hts (xws_good c1) rfl rfl rfl (hF.2.2.2.2.2.2.2.2.2.2.2.2.2.2.2.1 _ c6) (hts _ c2) c3 ⟨Nat.le_trans c4 r1, Nat.le_trans c5 r2⟩, c7, hts _ c8⟩ ⟨xPre_blind g M H.size _, fun U hU hW => ⟨rfl, xPre_of hF hP hS U hU hW⟩⟩ rfl rfl hl.1 hst (by show 2 * 0 + _ ≤ 8; omega) d ⟨Nat.le_trans hm.1 r3, Nat.le_trans hm.2 r4⟩) hF hE hP hS hl h1
end XCR
