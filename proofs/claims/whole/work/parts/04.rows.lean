/-! THE ROWS of the judgement: an instruction, a row. -/
section XR
variable {l : Launch} {g : xG} {md : xMd} {mc ms pc : Nat} {L : List (Nat × Value)} {st : List Value} {cs : Nat × Nat} {M : xM} {Q : Option Value → xM → Prop}
theorem xWp.lift {pc1 : Nat} {st1 : List Value} (f : ∀ (p : Program) (e : Env) (R : Room) (s : State) (m : MethodId) (args : Array Value) (below : List Frame) (meth : Method) (c : Code) (H : Heap) (locs : List Loc) (cells slots : Nat) (Z : State → Prop) (ls : Array Slot), p.tables.exec = Jvm.exec → c.code = md.2.1 → xLr ls md.2.2.1 L → W p l e R s m args below meth c H locs cells slots Z (F0 m pc1 ls st1) → W p l e R s m args below meth c H locs cells slots Z (F0 m pc ls st))
    (h : xWp l g md mc ms pc1 L st1 cs M Q) : xWp l g md mc ms pc L st cs M Q := fun p e R s m args below meth c A H locs Z ls hF hE hP hS hl => f p e R s m args below meth c H locs cs.1 cs.2 Z ls hF.1 hF.2.1 hl (h p e R s m args below meth c A H locs Z ls hF hE hP hS hl)
theorem xWp.lift2 {pc1 pc2 : Nat} {st1 : List Value} {C : Prop} (f : ∀ (p : Program) (e : Env) (R : Room) (s : State) (m : MethodId) (args : Array Value) (below : List Frame) (meth : Method) (c : Code) (H : Heap) (locs : List Loc) (cells slots : Nat) (Z : State → Prop) (ls : Array Slot), p.tables.exec = Jvm.exec → c.code = md.2.1 → (C → W p l e R s m args below meth c H locs cells slots Z (F0 m pc1 ls st1)) → (¬ C → W p l e R s m args below meth c H locs cells slots Z (F0 m pc2 ls st1)) → W p l e R s m args below meth c H locs cells slots Z (F0 m pc ls st))
    (h1 : C → xWp l g md mc ms pc1 L st1 cs M Q) (h2 : ¬ C → xWp l g md mc ms pc2 L st1 cs M Q) : xWp l g md mc ms pc L st cs M Q := fun p e R s m args below meth c A H locs Z ls hF hE hP hS hl => f p e R s m args below meth c H locs cs.1 cs.2 Z ls hF.1 hF.2.1 (fun k => h1 k p e R s m args below meth c A H locs Z ls hF hE hP hS hl) (fun k => h2 k p e R s m args below meth c A H locs Z ls hF hE hP hS hl)
theorem xWp.q {Q1 : Option Value → xM → Prop} (h : xWp l g md mc ms pc L st cs M Q) (hq : ∀ r M1, Q r M1 → Q1 r M1) : xWp l g md mc ms pc L st cs M Q1 := fun p e R s m args below meth c A H locs Z ls hF hE hP hS hl => h p e R s m args below meth c A H locs Z ls hF (fun r M1 H1 locs1 pc1 ls1 k => hE r M1 H1 locs1 pc1 ls1 (hq r M1 k)) hP hS hl

theorem xr_iconst {n : Int} (v : Int32) (d : decode md.2.1 pc = .ok (.iconst n, 1)) (hv : Int32.ofInt n = v) (h : xWp l g md mc ms (pc + 1) L (.int v :: st) cs M Q) : xWp l g md mc ms pc L st cs M Q := xWp.lift (fun _ _ _ _ _ _ _ _ _ _ _ _ _ _ _ hx hb _ k => lv_iconst hx hb d hv k) h
theorem xr_bipush {n : Int} (v : Int32) (d : decode md.2.1 pc = .ok (.bipush n, 2)) (hv : (Int8.ofInt n).toInt32 = v) (h : xWp l g md mc ms (pc + 2) L (.int v :: st) cs M Q) : xWp l g md mc ms pc L st cs M Q := xWp.lift (fun _ _ _ _ _ _ _ _ _ _ _ _ _ _ _ hx hb _ k => lv_bipush hx hb d hv k) h
theorem xr_sipush {n : Int} (v : Int32) (d : decode md.2.1 pc = .ok (.sipush n, 3)) (hv : (Int16.ofInt n).toInt32 = v) (h : xWp l g md mc ms (pc + 3) L (.int v :: st) cs M Q) : xWp l g md mc ms pc L st cs M Q := xWp.lift (fun _ _ _ _ _ _ _ _ _ _ _ _ _ _ _ hx hb _ k => lv_sipush hx hb d hv k) h
theorem xr_lconst {n : Fin 2} (v : Int64) (d : decode md.2.1 pc = .ok (.lconst n, 1)) (hv : Int64.ofNat (n : Nat) = v) (h : xWp l g md mc ms (pc + 1) L (.long v :: st) cs M Q) : xWp l g md mc ms pc L st cs M Q := xWp.lift (fun _ _ _ _ _ _ _ _ _ _ _ _ _ _ _ hx hb _ k => lv_lconst hx hb d hv k) h
theorem xr_null (d : decode md.2.1 pc = .ok (.aconst_null, 1)) (h : xWp l g md mc ms (pc + 1) L (va_rf none :: st) cs M Q) : xWp l g md mc ms pc L st cs M Q := xWp.lift (fun _ _ _ _ _ _ _ _ _ _ _ _ _ _ _ hx hb _ k => lv_null hx hb d k) h
theorem xr_ldc {i : Nat} (v : Int32) (d : decode md.2.1 pc = .ok (.ldc i, 2)) (hw : Cond.constant md.1.cls i v ∈ gl) (h : xWp l g md mc ms (pc + 2) L (.int v :: st) cs M Q) : xWp l g md mc ms pc L st cs M Q := fun p e R s m args below meth c A H locs Z ls hF hE hP hS hl => lv_ldc hF.1 hF.2.1 hF.2.2.2.1 (hF.2.2.2.2.1 _ hw) d (h p e R s m args below meth c A H locs Z ls hF hE hP hS hl)
theorem xr_ldc2 {i : Nat} (v : Int64) (d : decode md.2.1 pc = .ok (.ldc2_w i, 3)) (hw : Cond.constantLong md.1.cls i v ∈ gl) (h : xWp l g md mc ms (pc + 3) L (.long v :: st) cs M Q) : xWp l g md mc ms pc L st cs M Q := fun p e R s m args below meth c A H locs Z ls hF hE hP hS hl => lv_ldc2 hF.1 hF.2.1 hF.2.2.2.1 (hF.2.2.2.2.1 _ hw) d (h p e R s m args below meth c A H locs Z ls hF hE hP hS hl)
theorem xr_iload_n {n : Fin 4} (i : Nat) {t : Nat} {x : Int32} (d : decode md.2.1 pc = .ok (.iload_n n, 1)) (hi : (n : Nat) = i) (hL : L[i]? = some (t + 1, .int x)) (h : xWp l g md mc ms (pc + 1) L (.int x :: st) cs M Q) : xWp l g md mc ms pc L st cs M Q := xWp.lift (fun _ _ _ _ _ _ _ _ _ _ _ _ _ _ _ hx hb hl k => lv_iload_n hx hb d hi (hl.2.2 i _ _ hL (Nat.succ_ne_zero _)).1 k) h
theorem xr_iload {i : Nat} {t : Nat} {x : Int32} (d : decode md.2.1 pc = .ok (.iload i, 2)) (hL : L[i]? = some (t + 1, .int x)) (h : xWp l g md mc ms (pc + 2) L (.int x :: st) cs M Q) : xWp l g md mc ms pc L st cs M Q := xWp.lift (fun _ _ _ _ _ _ _ _ _ _ _ _ _ _ _ hx hb hl k => lv_iload hx hb d (hl.2.2 i _ _ hL (Nat.succ_ne_zero _)).1 k) h
theorem xr_lload_n {n : Fin 4} (i : Nat) {t : Nat} {x : Int64} (d : decode md.2.1 pc = .ok (.lload_n n, 1)) (hi : (n : Nat) = i) (hL : L[i]? = some (t + 1, .long x)) (h : xWp l g md mc ms (pc + 1) L (.long x :: st) cs M Q) : xWp l g md mc ms pc L st cs M Q := xWp.lift (fun _ _ _ _ _ _ _ _ _ _ _ _ _ _ _ hx hb hl k => lv_lload_n hx hb d hi (hl.2.2 i _ _ hL (Nat.succ_ne_zero _)).1 k) h
theorem xr_lload {i : Nat} {t : Nat} {x : Int64} (d : decode md.2.1 pc = .ok (.lload i, 2)) (hL : L[i]? = some (t + 1, .long x)) (h : xWp l g md mc ms (pc + 2) L (.long x :: st) cs M Q) : xWp l g md mc ms pc L st cs M Q := xWp.lift (fun _ _ _ _ _ _ _ _ _ _ _ _ _ _ _ hx hb hl k => lv_lload hx hb d (hl.2.2 i _ _ hL (Nat.succ_ne_zero _)).1 k) h
theorem xr_aload_n {n : Fin 4} (i : Nat) {t : Nat} {x : Option Nat} (d : decode md.2.1 pc = .ok (.aload_n n, 1)) (hi : (n : Nat) = i) (hL : L[i]? = some (t + 1, va_rf x)) (h : xWp l g md mc ms (pc + 1) L (va_rf x :: st) cs M Q) : xWp l g md mc ms pc L st cs M Q := xWp.lift (fun _ _ _ _ _ _ _ _ _ _ _ _ _ _ _ hx hb hl k => by
  have hz := (hl.2.2 i _ _ hL (Nat.succ_ne_zero _)).1
  cases x with
  | none => exact lv_aload_nN hx hb d hi hz k
  | some a => exact lv_aload_n hx hb d hi hz k) h
theorem xr_aload {i : Nat} {t : Nat} {x : Option Nat} (d : decode md.2.1 pc = .ok (.aload i, 2)) (hL : L[i]? = some (t + 1, va_rf x)) (h : xWp l g md mc ms (pc + 2) L (va_rf x :: st) cs M Q) : xWp l g md mc ms pc L st cs M Q := xWp.lift (fun _ _ _ _ _ _ _ _ _ _ _ _ _ _ _ hx hb hl k => by
  have hz := (hl.2.2 i _ _ hL (Nat.succ_ne_zero _)).1
  cases x with
  | none => exact lv_aloadN hx hb d hz k
  | some a => exact lv_aload hx hb d hz k) h
/-- locals behind a store -/
def xkill (i : Nat) (L : List (Nat × Value)) : List (Nat × Value) := match i with
  | 0 => L
  | j + 1 => match L[j]? with
    | some (2, v) => L.set j (0, v)
    | _ => L
def xst1 (i : Nat) (v : Value) (L : List (Nat × Value)) : List (Nat × Value) := (xkill i L).set i (1, v)
def xst2 (i : Nat) (v : Value) (L : List (Nat × Value)) : List (Nat × Value) := ((xkill i L).set i (2, v)).set (i + 1) (0, v)
theorem xkill_get {i j t : Nat} {v : Value} {L : List (Nat × Value)} (h : (xkill i L)[j]? = some (t, v)) (ht : t ≠ 0) : L[j]? = some (t, v) ∧ ¬ (j + 1 = i ∧ t = 2) := by
  unfold xkill at h
  cases i with
  | zero => exact ⟨h, by omega⟩
  | succ k =>
    simp only at h
    split at h
    next w hw =>
      by_cases hk : k = j
      · subst hk
        rw [List.getElem?_set_self (List.getElem?_eq_some_iff.mp hw).1] at h
        cases h
        exact absurd rfl ht
      · rw [List.getElem?_set_ne hk] at h
        exact ⟨h, by omega⟩
    next hw =>
      refine ⟨h, fun hz => ?_⟩
      obtain ⟨h1, h2⟩ := hz
      have : j = k := by omega
      subst this; subst h2
      exact hw v h
theorem xst1_ok {ls : Array Slot} {n i : Nat} {v : Value} {L : List (Nat × Value)} (hl : xLr ls n L) (hi : i < n) (hc : v.category = 1) : ∃ ls', storeLocals ls i v = some ls' ∧ xLr ls' n (xst1 i v L) := by
  have hh : lv_has ls n ((xkill i L).zipIdx.filterMap (fun q => if q.1.1 = 0 ∨ q.2 = i then none else some (q.2, q.1.2))) := ⟨hl.1, hl.2.1, fun q hq => by
    obtain ⟨x, hx, hq⟩ := List.mem_filterMap.mp hq
    obtain ⟨⟨t, w⟩, j⟩ := x
    have hj := List.mem_zipIdx_iff_getElem?.mp hx
    simp only at hj hq
    split at hq
    next => cases hq
    next hne =>
      cases hq
      exact (hl.2.2 j t w (xkill_get hj (fun z => hne (Or.inl z))).1 (fun z => hne (Or.inl z))).1⟩
  obtain ⟨ls', h1, h2⟩ := lv_store1 hh hi hc
  refine ⟨ls', h1, h2.1, h2.2.1, fun j t w hj ht => ?_⟩
  unfold xst1 at hj
  by_cases hij : i = j
  · subst hij
    have hlen : i < (xkill i L).length := by
      have := (List.getElem?_eq_some_iff.mp hj).1
      simpa using this
    rw [List.getElem?_set_self hlen] at hj
    cases hj
    exact ⟨h2.2.2 (i, v) List.mem_cons_self, hc⟩
  · rw [List.getElem?_set_ne hij] at hj
    obtain ⟨k1, k2⟩ := xkill_get hj ht
    obtain ⟨k3, k4⟩ := hl.2.2 j t w k1 ht
    refine ⟨h2.2.2 (j, w) (List.mem_cons_of_mem _ (List.mem_filter.mpr ⟨List.mem_filterMap.mpr ⟨((t, w), j), List.mem_zipIdx_iff_getElem?.mpr hj, by simp [ht, Ne.symm hij]⟩, ?_⟩)), k4⟩
    have e1 : (j == i) = false := by simp [Ne.symm hij]
    simp only [e1, Bool.not_false, Bool.true_and]
    rw [k4]
    by_cases hz : j + 1 = i
    · have : t ≠ 2 := fun q => k2 ⟨hz, q⟩
      simp [this]
    · simp [hz]
theorem xst2_ok {ls : Array Slot} {n i : Nat} {v : Value} {L : List (Nat × Value)} (hl : xLr ls n L) (hi : i + 1 < n) (hc : v.category = 2) : ∃ ls', storeLocals ls i v = some ls' ∧ xLr ls' n (xst2 i v L) := by
  have hh : lv_has ls n ((xkill i L).zipIdx.filterMap (fun q => if q.1.1 = 0 ∨ q.2 = i then none else some (q.2, q.1.2))) := ⟨hl.1, hl.2.1, fun q hq => by
    obtain ⟨x, hx, hq⟩ := List.mem_filterMap.mp hq
    obtain ⟨⟨t, w⟩, j⟩ := x
    have hj := List.mem_zipIdx_iff_getElem?.mp hx
    simp only at hj hq
    split at hq
    next => cases hq
    next hne =>
      cases hq
      exact (hl.2.2 j t w (xkill_get hj (fun z => hne (Or.inl z))).1 (fun z => hne (Or.inl z))).1⟩
  obtain ⟨ls', h1, h2⟩ := lv_store2 hh hi hc
  refine ⟨ls', h1, h2.1, h2.2.1, fun j t w hj ht => ?_⟩
  unfold xst2 at hj
  by_cases hij2 : i + 1 = j
  · subst hij2
    have hlen : i + 1 < ((xkill i L).set i (2, v)).length := by
      have := (List.getElem?_eq_some_iff.mp hj).1
      simpa using this
    rw [List.getElem?_set_self hlen] at hj
    cases hj
    exact absurd rfl ht
  · rw [List.getElem?_set_ne hij2] at hj
    by_cases hij : i = j
    · subst hij
      have hlen : i < (xkill i L).length := by
        have := (List.getElem?_eq_some_iff.mp hj).1
        simpa using this
      rw [List.getElem?_set_self hlen] at hj
      cases hj
      exact ⟨h2.2.2 (i, v) List.mem_cons_self, hc⟩
    · rw [List.getElem?_set_ne hij] at hj
      obtain ⟨k1, k2⟩ := xkill_get hj ht
      obtain ⟨k3, k4⟩ := hl.2.2 j t w k1 ht
      refine ⟨h2.2.2 (j, w) (List.mem_cons_of_mem _ (List.mem_filter.mpr ⟨List.mem_filterMap.mpr ⟨((t, w), j), List.mem_zipIdx_iff_getElem?.mpr hj, by simp [ht, Ne.symm hij]⟩, ?_⟩)), k4⟩
      have e1 : (j == i) = false := by simp [Ne.symm hij]
      have e2 : (j == i + 1) = false := by simp [Ne.symm hij2]
      simp only [e1, e2, Bool.not_false, Bool.true_and]
      rw [k4]
      by_cases hz : j + 1 = i
      · have : t ≠ 2 := fun q => k2 ⟨hz, q⟩
        simp [this]
      · simp [hz]

theorem xr_istore_n {n : Fin 4} (i : Nat) {x : Int32} (d : decode md.2.1 pc = .ok (.istore_n n, 1)) (hi : (n : Nat) = i) (hn : i < md.2.2.1) (h : xWp l g md mc ms (pc + 1) (xst1 i (Value.int x) L) st cs M Q) : xWp l g md mc ms pc L (Value.int x :: st) cs M Q := fun p e R s m args below meth c A H locs Z ls hF hE hP hS hl => by
  obtain ⟨hx, hb, hF'⟩ := id hF
  obtain ⟨ls', e', h'⟩ := xst1_ok (v := Value.int x) hl hn rfl
  intro T hT X
  obtain ⟨t, a, b⟩ := h p e R s m args below meth c A H locs Z ls' hF hE hP hS h' T hT X
  refine ⟨t, ?_, b⟩
  subst hi
  jvm_step X.here [X.here.top, ↓top_set X.here.top, hx, hb, d, e']
  exact a
theorem xr_istore {i : Nat} {x : Int32} (d : decode md.2.1 pc = .ok (.istore i, 2)) (hn : i < md.2.2.1) (h : xWp l g md mc ms (pc + 2) (xst1 i (Value.int x) L) st cs M Q) : xWp l g md mc ms pc L (Value.int x :: st) cs M Q := fun p e R s m args below meth c A H locs Z ls hF hE hP hS hl => by
  obtain ⟨hx, hb, hF'⟩ := id hF
  obtain ⟨ls', e', h'⟩ := xst1_ok (v := Value.int x) hl hn rfl
  intro T hT X
  obtain ⟨t, a, b⟩ := h p e R s m args below meth c A H locs Z ls' hF hE hP hS h' T hT X
  refine ⟨t, ?_, b⟩
  jvm_step X.here [X.here.top, ↓top_set X.here.top, hx, hb, d, e']
  exact a
theorem xr_lstore_n {n : Fin 4} (i : Nat) {x : Int64} (d : decode md.2.1 pc = .ok (.lstore_n n, 1)) (hi : (n : Nat) = i) (hn : i + 1 < md.2.2.1) (h : xWp l g md mc ms (pc + 1) (xst2 i (Value.long x) L) st cs M Q) : xWp l g md mc ms pc L (Value.long x :: st) cs M Q := fun p e R s m args below meth c A H locs Z ls hF hE hP hS hl => by
  obtain ⟨hx, hb, hF'⟩ := id hF
  obtain ⟨ls', e', h'⟩ := xst2_ok (v := Value.long x) hl hn rfl
  intro T hT X
  obtain ⟨t, a, b⟩ := h p e R s m args below meth c A H locs Z ls' hF hE hP hS h' T hT X
  refine ⟨t, ?_, b⟩
  subst hi
  jvm_step X.here [X.here.top, ↓top_set X.here.top, hx, hb, d, e']
  exact a
theorem xr_lstore {i : Nat} {x : Int64} (d : decode md.2.1 pc = .ok (.lstore i, 2)) (hn : i + 1 < md.2.2.1) (h : xWp l g md mc ms (pc + 2) (xst2 i (Value.long x) L) st cs M Q) : xWp l g md mc ms pc L (Value.long x :: st) cs M Q := fun p e R s m args below meth c A H locs Z ls hF hE hP hS hl => by
  obtain ⟨hx, hb, hF'⟩ := id hF
  obtain ⟨ls', e', h'⟩ := xst2_ok (v := Value.long x) hl hn rfl
  intro T hT X
  obtain ⟨t, a, b⟩ := h p e R s m args below meth c A H locs Z ls' hF hE hP hS h' T hT X
  refine ⟨t, ?_, b⟩
  jvm_step X.here [X.here.top, ↓top_set X.here.top, hx, hb, d, e']
  exact a
theorem xr_astore_n {n : Fin 4} (i : Nat) {x : Option Nat} (d : decode md.2.1 pc = .ok (.astore_n n, 1)) (hi : (n : Nat) = i) (hn : i < md.2.2.1) (h : xWp l g md mc ms (pc + 1) (xst1 i (va_rf x) L) st cs M Q) : xWp l g md mc ms pc L (va_rf x :: st) cs M Q := fun p e R s m args below meth c A H locs Z ls hF hE hP hS hl => by
  obtain ⟨hx, hb, hF'⟩ := id hF
  obtain ⟨ls', e', h'⟩ := xst1_ok (v := va_rf x) hl hn (by cases x <;> rfl)
  intro T hT X
  obtain ⟨t, a, b⟩ := h p e R s m args below meth c A H locs Z ls' hF hE hP hS h' T hT X
  refine ⟨t, ?_, b⟩
  subst hi
  cases x with
  | none =>
    simp only [va_rf] at e'
    jvm_step X.here [X.here.top, ↓top_set X.here.top, hx, hb, d, e', Value.isRef, va_rf]
    exact a
  | some q =>
    simp only [va_rf] at e'
    jvm_step X.here [X.here.top, ↓top_set X.here.top, hx, hb, d, e', Value.isRef, va_rf]
    exact a
theorem xr_astore {i : Nat} {x : Option Nat} (d : decode md.2.1 pc = .ok (.astore i, 2)) (hn : i < md.2.2.1) (h : xWp l g md mc ms (pc + 2) (xst1 i (va_rf x) L) st cs M Q) : xWp l g md mc ms pc L (va_rf x :: st) cs M Q := fun p e R s m args below meth c A H locs Z ls hF hE hP hS hl => by
  obtain ⟨hx, hb, hF'⟩ := id hF
  obtain ⟨ls', e', h'⟩ := xst1_ok (v := va_rf x) hl hn (by cases x <;> rfl)
  intro T hT X
  obtain ⟨t, a, b⟩ := h p e R s m args below meth c A H locs Z ls' hF hE hP hS h' T hT X
  refine ⟨t, ?_, b⟩
  cases x with
  | none =>
    simp only [va_rf] at e'
    jvm_step X.here [X.here.top, ↓top_set X.here.top, hx, hb, d, e', Value.isRef, va_rf]
    exact a
  | some q =>
    simp only [va_rf] at e'
    jvm_step X.here [X.here.top, ↓top_set X.here.top, hx, hb, d, e', Value.isRef, va_rf]
    exact a
theorem xr_iinc {i : Nat} {n : Int} {t : Nat} {x : Int32} (v : Int32) (d : decode md.2.1 pc = .ok (.iinc i n, 3)) (hL : L[i]? = some (t + 1, .int x)) (hv : x + Int32.ofInt n = v) (hn : i < md.2.2.1) (h : xWp l g md mc ms (pc + 3) (xst1 i (.int v) L) st cs M Q) : xWp l g md mc ms pc L st cs M Q := fun p e R s m args below meth c A H locs Z ls hF hE hP hS hl => by
  subst hv
  obtain ⟨hx, hb, hF'⟩ := id hF
  have hg := (hl.2.2 i _ _ hL (Nat.succ_ne_zero _)).1
  obtain ⟨ls', e', h'⟩ := xst1_ok (v := .int (x + Int32.ofInt n)) hl hn rfl
  intro T hT X
  obtain ⟨t, a, b⟩ := h p e R s m args below meth c A H locs Z ls' hF hE hP hS h' T hT X
  refine ⟨t, ?_, b⟩
  jvm_step X.here [X.here.top, ↓top_set X.here.top, hx, hb, d, hg, e']
  exact a
theorem xr_iadd {x y : Int32} (d : decode md.2.1 pc = .ok (.iadd, 1)) (h : xWp l g md mc ms (pc + 1) L (.int (x + y) :: st) cs M Q) : xWp l g md mc ms pc L (.int y :: .int x :: st) cs M Q := xWp.lift (fun _ _ _ _ _ _ _ _ _ _ _ _ _ _ _ hx hb _ k => lv_iadd hx hb d k) h
theorem xr_isub {x y : Int32} (d : decode md.2.1 pc = .ok (.isub, 1)) (h : xWp l g md mc ms (pc + 1) L (.int (x - y) :: st) cs M Q) : xWp l g md mc ms pc L (.int y :: .int x :: st) cs M Q := xWp.lift (fun _ _ _ _ _ _ _ _ _ _ _ _ _ _ _ hx hb _ k => lv_isub hx hb d k) h
theorem xr_imul {x y : Int32} (d : decode md.2.1 pc = .ok (.imul, 1)) (h : xWp l g md mc ms (pc + 1) L (.int (x * y) :: st) cs M Q) : xWp l g md mc ms pc L (.int y :: .int x :: st) cs M Q := xWp.lift (fun _ _ _ _ _ _ _ _ _ _ _ _ _ _ _ hx hb _ k => lv_imul hx hb d k) h
theorem xr_iand {x y : Int32} (d : decode md.2.1 pc = .ok (.iand, 1)) (h : xWp l g md mc ms (pc + 1) L (.int (x &&& y) :: st) cs M Q) : xWp l g md mc ms pc L (.int y :: .int x :: st) cs M Q := xWp.lift (fun _ _ _ _ _ _ _ _ _ _ _ _ _ _ _ hx hb _ k => lv_iand hx hb d k) h
theorem xr_ior {x y : Int32} (d : decode md.2.1 pc = .ok (.ior, 1)) (h : xWp l g md mc ms (pc + 1) L (.int (x ||| y) :: st) cs M Q) : xWp l g md mc ms pc L (.int y :: .int x :: st) cs M Q := xWp.lift (fun _ _ _ _ _ _ _ _ _ _ _ _ _ _ _ hx hb _ k => lv_ior hx hb d k) h
theorem xr_ixor {x y : Int32} (d : decode md.2.1 pc = .ok (.ixor, 1)) (h : xWp l g md mc ms (pc + 1) L (.int (x ^^^ y) :: st) cs M Q) : xWp l g md mc ms pc L (.int y :: .int x :: st) cs M Q := xWp.lift (fun _ _ _ _ _ _ _ _ _ _ _ _ _ _ _ hx hb _ k => lv_ixor hx hb d k) h
theorem xr_ishl {x y : Int32} (d : decode md.2.1 pc = .ok (.ishl, 1)) (h : xWp l g md mc ms (pc + 1) L (.int (x <<< (y &&& 31)) :: st) cs M Q) : xWp l g md mc ms pc L (.int y :: .int x :: st) cs M Q := xWp.lift (fun _ _ _ _ _ _ _ _ _ _ _ _ _ _ _ hx hb _ k => lv_ishl hx hb d k) h
theorem xr_ishr {x y : Int32} (d : decode md.2.1 pc = .ok (.ishr, 1)) (h : xWp l g md mc ms (pc + 1) L (.int (x >>> (y &&& 31)) :: st) cs M Q) : xWp l g md mc ms pc L (.int y :: .int x :: st) cs M Q := xWp.lift (fun _ _ _ _ _ _ _ _ _ _ _ _ _ _ _ hx hb _ k => lv_ishr hx hb d k) h
theorem xr_irem {x y : Int32} (d : decode md.2.1 pc = .ok (.irem, 1)) (hne : ¬ y = 0) (h : xWp l g md mc ms (pc + 1) L (.int (x - x / y * y) :: st) cs M Q) : xWp l g md mc ms pc L (.int y :: .int x :: st) cs M Q := xWp.lift (fun _ _ _ _ _ _ _ _ _ _ _ _ _ _ _ hx hb _ k => lv_irem hx hb d hne k) h
theorem xr_ladd {x y : Int64} (d : decode md.2.1 pc = .ok (.ladd, 1)) (h : xWp l g md mc ms (pc + 1) L (.long (x + y) :: st) cs M Q) : xWp l g md mc ms pc L (.long y :: .long x :: st) cs M Q := xWp.lift (fun _ _ _ _ _ _ _ _ _ _ _ _ _ _ _ hx hb _ k => lv_ladd hx hb d k) h
theorem xr_lsub {x y : Int64} (d : decode md.2.1 pc = .ok (.lsub, 1)) (h : xWp l g md mc ms (pc + 1) L (.long (x - y) :: st) cs M Q) : xWp l g md mc ms pc L (.long y :: .long x :: st) cs M Q := xWp.lift (fun _ _ _ _ _ _ _ _ _ _ _ _ _ _ _ hx hb _ k => lv_lsub hx hb d k) h
theorem xr_lmul {x y : Int64} (d : decode md.2.1 pc = .ok (.lmul, 1)) (h : xWp l g md mc ms (pc + 1) L (.long (x * y) :: st) cs M Q) : xWp l g md mc ms pc L (.long y :: .long x :: st) cs M Q := xWp.lift (fun _ _ _ _ _ _ _ _ _ _ _ _ _ _ _ hx hb _ k => lv_lmul hx hb d k) h
theorem xr_land {x y : Int64} (d : decode md.2.1 pc = .ok (.land, 1)) (h : xWp l g md mc ms (pc + 1) L (.long (x &&& y) :: st) cs M Q) : xWp l g md mc ms pc L (.long y :: .long x :: st) cs M Q := xWp.lift (fun _ _ _ _ _ _ _ _ _ _ _ _ _ _ _ hx hb _ k => lv_land hx hb d k) h
theorem xr_lor {x y : Int64} (d : decode md.2.1 pc = .ok (.lor, 1)) (h : xWp l g md mc ms (pc + 1) L (.long (x ||| y) :: st) cs M Q) : xWp l g md mc ms pc L (.long y :: .long x :: st) cs M Q := xWp.lift (fun _ _ _ _ _ _ _ _ _ _ _ _ _ _ _ hx hb _ k => lv_lor hx hb d k) h
theorem xr_lxor {x y : Int64} (d : decode md.2.1 pc = .ok (.lxor, 1)) (h : xWp l g md mc ms (pc + 1) L (.long (x ^^^ y) :: st) cs M Q) : xWp l g md mc ms pc L (.long y :: .long x :: st) cs M Q := xWp.lift (fun _ _ _ _ _ _ _ _ _ _ _ _ _ _ _ hx hb _ k => lv_lxor hx hb d k) h
theorem xr_lrem {x y : Int64} (d : decode md.2.1 pc = .ok (.lrem, 1)) (hne : ¬ y = 0) (h : xWp l g md mc ms (pc + 1) L (.long (x - x / y * y) :: st) cs M Q) : xWp l g md mc ms pc L (.long y :: .long x :: st) cs M Q := xWp.lift (fun _ _ _ _ _ _ _ _ _ _ _ _ _ _ _ hx hb _ k => lv_lrem hx hb d hne k) h
theorem xr_lcmp {x y : Int64} (d : decode md.2.1 pc = .ok (.lcmp, 1)) (h : xWp l g md mc ms (pc + 1) L (.int (lg_cmp x y) :: st) cs M Q) : xWp l g md mc ms pc L (.long y :: .long x :: st) cs M Q := xWp.lift (fun _ _ _ _ _ _ _ _ _ _ _ _ _ _ _ hx hb _ k => W.lcmp hx hb d k) h
theorem xr_lushr {x : Int64} {y : Int32} (d : decode md.2.1 pc = .ok (.lushr, 1)) (h : xWp l g md mc ms (pc + 1) L (.long ((x.toUInt64 >>> (y.toInt64.toUInt64 &&& Int64.toUInt64 63)).toInt64) :: st) cs M Q) : xWp l g md mc ms pc L (.int y :: .long x :: st) cs M Q := xWp.lift (fun _ _ _ _ _ _ _ _ _ _ _ _ _ _ _ hx hb _ k => lv_lushr hx hb d rfl k) h
theorem xr_lshl {x : Int64} {y : Int32} (d : decode md.2.1 pc = .ok (.lshl, 1)) (h : xWp l g md mc ms (pc + 1) L (.long (x <<< (y.toInt64 &&& 63)) :: st) cs M Q) : xWp l g md mc ms pc L (.int y :: .long x :: st) cs M Q := xWp.lift (fun _ _ _ _ _ _ _ _ _ _ _ _ _ _ _ hx hb _ k => lv_lshl hx hb d rfl k) h
theorem xr_lshr {x : Int64} {y : Int32} (d : decode md.2.1 pc = .ok (.lshr, 1)) (h : xWp l g md mc ms (pc + 1) L (.long (x >>> (y.toInt64 &&& 63)) :: st) cs M Q) : xWp l g md mc ms pc L (.int y :: .long x :: st) cs M Q := xWp.lift (fun _ _ _ _ _ _ _ _ _ _ _ _ _ _ _ hx hb _ k => lv_lshr hx hb d rfl k) h
theorem xr_i2l {x : Int32} (d : decode md.2.1 pc = .ok (.i2l, 1)) (h : xWp l g md mc ms (pc + 1) L (.long x.toInt64 :: st) cs M Q) : xWp l g md mc ms pc L (.int x :: st) cs M Q := xWp.lift (fun _ _ _ _ _ _ _ _ _ _ _ _ _ _ _ hx hb _ k => lv_i2l hx hb d rfl k) h
theorem xr_l2i {x : Int64} (d : decode md.2.1 pc = .ok (.l2i, 1)) (h : xWp l g md mc ms (pc + 1) L (.int x.toInt32 :: st) cs M Q) : xWp l g md mc ms pc L (.long x :: st) cs M Q := xWp.lift (fun _ _ _ _ _ _ _ _ _ _ _ _ _ _ _ hx hb _ k => lv_l2i hx hb d rfl k) h
theorem xr_i2b {x : Int32} (d : decode md.2.1 pc = .ok (.i2b, 1)) (h : xWp l g md mc ms (pc + 1) L (.int x.toInt8.toInt32 :: st) cs M Q) : xWp l g md mc ms pc L (.int x :: st) cs M Q := xWp.lift (fun _ _ _ _ _ _ _ _ _ _ _ _ _ _ _ hx hb _ k => lv_i2b hx hb d rfl k) h
theorem xr_dup {v : Value} (d : decode md.2.1 pc = .ok (.dup, 1)) (hv : v.category = 1) (h : xWp l g md mc ms (pc + 1) L (v :: v :: st) cs M Q) : xWp l g md mc ms pc L (v :: st) cs M Q := xWp.lift (fun _ _ _ _ _ _ _ _ _ _ _ _ _ _ _ hx hb _ k => lv_dup hx hb d hv k) h
theorem xr_pop {v : Value} (d : decode md.2.1 pc = .ok (.pop, 1)) (hv : v.category = 1) (h : xWp l g md mc ms (pc + 1) L st cs M Q) : xWp l g md mc ms pc L (v :: st) cs M Q := xWp.lift (fun _ _ _ _ _ _ _ _ _ _ _ _ _ _ _ hx hb _ k => lv_pop hx hb d hv k) h
theorem xr_dup_x1 {v u : Value} (d : decode md.2.1 pc = .ok (.dup_x1, 1)) (hv : v.category = 1) (hu : u.category = 1) (h : xWp l g md mc ms (pc + 1) L (v :: u :: v :: st) cs M Q) : xWp l g md mc ms pc L (v :: u :: st) cs M Q := xWp.lift (fun _ _ _ _ _ _ _ _ _ _ _ _ _ _ _ hx hb _ k => lv_dup_x1 hx hb d hv hu k) h
theorem xr_dup2 {v u : Value} (d : decode md.2.1 pc = .ok (.dup2, 1)) (hv : v.category = 1) (hu : u.category = 1) (h : xWp l g md mc ms (pc + 1) L (v :: u :: v :: u :: st) cs M Q) : xWp l g md mc ms pc L (v :: u :: st) cs M Q := xWp.lift (fun _ _ _ _ _ _ _ _ _ _ _ _ _ _ _ hx hb _ k => lv_dup2_11 hx hb d hv hu k) h
theorem xr_goto {off : Int} (tgt : Nat) (d : decode md.2.1 pc = .ok (.goto off, 3)) (ht : (pc : Int) + off = (tgt : Int)) (h : xWp l g md mc ms tgt L st cs M Q) : xWp l g md mc ms pc L st cs M Q := xWp.lift (fun _ _ _ _ _ _ _ _ _ _ _ _ _ _ _ hx hb _ k => lv_goto hx hb d ht k) h
theorem xr_if_eq {x : Int32} {off : Int} (tgt : Nat) (d : decode md.2.1 pc = .ok (.ifCond .eq off, 3)) (ht : (pc : Int) + off = (tgt : Int)) (h1 : x = 0 → xWp l g md mc ms tgt L st cs M Q) (h2 : ¬ x = 0 → xWp l g md mc ms (pc + 3) L st cs M Q) : xWp l g md mc ms pc L (.int x :: st) cs M Q := xWp.lift2 (fun _ _ _ _ _ _ _ _ _ _ _ _ _ _ _ hx hb k1 k2 => lv_if_eq hx hb d ht k1 k2) h1 h2
theorem xr_icmp_eq {x y : Int32} {off : Int} (tgt : Nat) (d : decode md.2.1 pc = .ok (.if_icmp .eq off, 3)) (ht : (pc : Int) + off = (tgt : Int)) (h1 : x = y → xWp l g md mc ms tgt L st cs M Q) (h2 : ¬ x = y → xWp l g md mc ms (pc + 3) L st cs M Q) : xWp l g md mc ms pc L (.int y :: .int x :: st) cs M Q := xWp.lift2 (fun _ _ _ _ _ _ _ _ _ _ _ _ _ _ _ hx hb k1 k2 => lv_icmp_eq hx hb d ht k1 k2) h1 h2
theorem xr_if_ne {x : Int32} {off : Int} (tgt : Nat) (d : decode md.2.1 pc = .ok (.ifCond .ne off, 3)) (ht : (pc : Int) + off = (tgt : Int)) (h1 : ¬ x = 0 → xWp l g md mc ms tgt L st cs M Q) (h2 : x = 0 → xWp l g md mc ms (pc + 3) L st cs M Q) : xWp l g md mc ms pc L (.int x :: st) cs M Q := xWp.lift2 (C := ¬ x = 0) (fun _ _ _ _ _ _ _ _ _ _ _ _ _ _ _ hx hb k1 k2 => lv_if_ne hx hb d ht k1 (fun h => k2 (fun q => q h))) h1 (fun h => h2 (Classical.not_not.mp h))
theorem xr_icmp_ne {x y : Int32} {off : Int} (tgt : Nat) (d : decode md.2.1 pc = .ok (.if_icmp .ne off, 3)) (ht : (pc : Int) + off = (tgt : Int)) (h1 : ¬ x = y → xWp l g md mc ms tgt L st cs M Q) (h2 : x = y → xWp l g md mc ms (pc + 3) L st cs M Q) : xWp l g md mc ms pc L (.int y :: .int x :: st) cs M Q := xWp.lift2 (C := ¬ x = y) (fun _ _ _ _ _ _ _ _ _ _ _ _ _ _ _ hx hb k1 k2 => lv_icmp_ne hx hb d ht k1 (fun h => k2 (fun q => q h))) h1 (fun h => h2 (Classical.not_not.mp h))
theorem xr_if_lt {x : Int32} {off : Int} (tgt : Nat) (d : decode md.2.1 pc = .ok (.ifCond .lt off, 3)) (ht : (pc : Int) + off = (tgt : Int)) (h1 : x < 0 → xWp l g md mc ms tgt L st cs M Q) (h2 : ¬ x < 0 → xWp l g md mc ms (pc + 3) L st cs M Q) : xWp l g md mc ms pc L (.int x :: st) cs M Q := xWp.lift2 (fun _ _ _ _ _ _ _ _ _ _ _ _ _ _ _ hx hb k1 k2 => lv_if_lt hx hb d ht k1 k2) h1 h2
theorem xr_icmp_lt {x y : Int32} {off : Int} (tgt : Nat) (d : decode md.2.1 pc = .ok (.if_icmp .lt off, 3)) (ht : (pc : Int) + off = (tgt : Int)) (h1 : x < y → xWp l g md mc ms tgt L st cs M Q) (h2 : ¬ x < y → xWp l g md mc ms (pc + 3) L st cs M Q) : xWp l g md mc ms pc L (.int y :: .int x :: st) cs M Q := xWp.lift2 (fun _ _ _ _ _ _ _ _ _ _ _ _ _ _ _ hx hb k1 k2 => lv_icmp_lt hx hb d ht k1 k2) h1 h2
theorem xr_if_ge {x : Int32} {off : Int} (tgt : Nat) (d : decode md.2.1 pc = .ok (.ifCond .ge off, 3)) (ht : (pc : Int) + off = (tgt : Int)) (h1 : 0 ≤ x → xWp l g md mc ms tgt L st cs M Q) (h2 : ¬ 0 ≤ x → xWp l g md mc ms (pc + 3) L st cs M Q) : xWp l g md mc ms pc L (.int x :: st) cs M Q := xWp.lift2 (fun _ _ _ _ _ _ _ _ _ _ _ _ _ _ _ hx hb k1 k2 => lv_if_ge hx hb d ht k1 k2) h1 h2
theorem xr_icmp_ge {x y : Int32} {off : Int} (tgt : Nat) (d : decode md.2.1 pc = .ok (.if_icmp .ge off, 3)) (ht : (pc : Int) + off = (tgt : Int)) (h1 : y ≤ x → xWp l g md mc ms tgt L st cs M Q) (h2 : ¬ y ≤ x → xWp l g md mc ms (pc + 3) L st cs M Q) : xWp l g md mc ms pc L (.int y :: .int x :: st) cs M Q := xWp.lift2 (fun _ _ _ _ _ _ _ _ _ _ _ _ _ _ _ hx hb k1 k2 => lv_icmp_ge hx hb d ht k1 k2) h1 h2
theorem xr_if_gt {x : Int32} {off : Int} (tgt : Nat) (d : decode md.2.1 pc = .ok (.ifCond .gt off, 3)) (ht : (pc : Int) + off = (tgt : Int)) (h1 : 0 < x → xWp l g md mc ms tgt L st cs M Q) (h2 : ¬ 0 < x → xWp l g md mc ms (pc + 3) L st cs M Q) : xWp l g md mc ms pc L (.int x :: st) cs M Q := xWp.lift2 (fun _ _ _ _ _ _ _ _ _ _ _ _ _ _ _ hx hb k1 k2 => lv_if_gt hx hb d ht k1 k2) h1 h2
theorem xr_icmp_gt {x y : Int32} {off : Int} (tgt : Nat) (d : decode md.2.1 pc = .ok (.if_icmp .gt off, 3)) (ht : (pc : Int) + off = (tgt : Int)) (h1 : y < x → xWp l g md mc ms tgt L st cs M Q) (h2 : ¬ y < x → xWp l g md mc ms (pc + 3) L st cs M Q) : xWp l g md mc ms pc L (.int y :: .int x :: st) cs M Q := xWp.lift2 (fun _ _ _ _ _ _ _ _ _ _ _ _ _ _ _ hx hb k1 k2 => lv_icmp_gt hx hb d ht k1 k2) h1 h2
theorem xr_if_le {x : Int32} {off : Int} (tgt : Nat) (d : decode md.2.1 pc = .ok (.ifCond .le off, 3)) (ht : (pc : Int) + off = (tgt : Int)) (h1 : x ≤ 0 → xWp l g md mc ms tgt L st cs M Q) (h2 : ¬ x ≤ 0 → xWp l g md mc ms (pc + 3) L st cs M Q) : xWp l g md mc ms pc L (.int x :: st) cs M Q := xWp.lift2 (fun _ _ _ _ _ _ _ _ _ _ _ _ _ _ _ hx hb k1 k2 => lv_if_le hx hb d ht k1 k2) h1 h2
theorem xr_icmp_le {x y : Int32} {off : Int} (tgt : Nat) (d : decode md.2.1 pc = .ok (.if_icmp .le off, 3)) (ht : (pc : Int) + off = (tgt : Int)) (h1 : x ≤ y → xWp l g md mc ms tgt L st cs M Q) (h2 : ¬ x ≤ y → xWp l g md mc ms (pc + 3) L st cs M Q) : xWp l g md mc ms pc L (.int y :: .int x :: st) cs M Q := xWp.lift2 (fun _ _ _ _ _ _ _ _ _ _ _ _ _ _ _ hx hb k1 k2 => lv_icmp_le hx hb d ht k1 k2) h1 h2
theorem xr_acmp_eq {rx ry : Option Nat} {off : Int} (tgt : Nat) (d : decode md.2.1 pc = .ok (.if_acmp .eq off, 3)) (ht : (pc : Int) + off = (tgt : Int)) (h1 : rx = ry → xWp l g md mc ms tgt L st cs M Q) (h2 : ¬ rx = ry → xWp l g md mc ms (pc + 3) L st cs M Q) : xWp l g md mc ms pc L (va_rf ry :: va_rf rx :: st) cs M Q := xWp.lift2 (fun _ _ _ _ _ _ _ _ _ _ _ _ _ _ _ hx hb k1 k2 => lv_acmp_eq hx hb d ht k1 k2) h1 h2
theorem xr_acmp_ne {rx ry : Option Nat} {off : Int} (tgt : Nat) (d : decode md.2.1 pc = .ok (.if_acmp .ne off, 3)) (ht : (pc : Int) + off = (tgt : Int)) (h1 : ¬ rx = ry → xWp l g md mc ms tgt L st cs M Q) (h2 : rx = ry → xWp l g md mc ms (pc + 3) L st cs M Q) : xWp l g md mc ms pc L (va_rf ry :: va_rf rx :: st) cs M Q := xWp.lift2 (C := ¬ rx = ry) (fun _ _ _ _ _ _ _ _ _ _ _ _ _ _ _ hx hb k1 k2 => lv_acmp_ne hx hb d ht k1 (fun h => k2 (fun q => q h))) h1 (fun h => h2 (Classical.not_not.mp h))
theorem xr_ifnull {r : Option Nat} {off : Int} (tgt : Nat) (d : decode md.2.1 pc = .ok (.ifnull off, 3)) (ht : (pc : Int) + off = (tgt : Int)) (h1 : r = none → xWp l g md mc ms tgt L st cs M Q) (h2 : ¬ r = none → xWp l g md mc ms (pc + 3) L st cs M Q) : xWp l g md mc ms pc L (va_rf r :: st) cs M Q := xWp.lift2 (fun _ _ _ _ _ _ _ _ _ _ _ _ _ _ _ hx hb k1 k2 => by
  cases r with
  | none => exact lv_ifnullN hx hb d ht (k1 rfl)
  | some a => exact lv_ifnull hx hb d (k2 (fun h => by cases h))) h1 h2
theorem xr_ifnonnull {r : Option Nat} {off : Int} (tgt : Nat) (d : decode md.2.1 pc = .ok (.ifnonnull off, 3)) (ht : (pc : Int) + off = (tgt : Int)) (h1 : ¬ r = none → xWp l g md mc ms tgt L st cs M Q) (h2 : r = none → xWp l g md mc ms (pc + 3) L st cs M Q) : xWp l g md mc ms pc L (va_rf r :: st) cs M Q := xWp.lift2 (C := ¬ r = none) (fun _ _ _ _ _ _ _ _ _ _ _ _ _ _ _ hx hb k1 k2 => by
  cases r with
  | none => exact lv_ifnonnullN hx hb d (k2 (fun h => h rfl))
  | some a => exact lv_ifnonnull hx hb d ht (k1 (fun h => by cases h))) h1 (fun h => h2 (Classical.not_not.mp h))
theorem xr_tableOut {dflt lo hi : Int} {offs : Array Int} {len : Nat} {x : Int32} (tgt : Nat) (d : decode md.2.1 pc = .ok (.tableswitch dflt lo hi offs, len)) (hc : x.toInt < lo ∨ hi < x.toInt) (ht : (pc : Int) + dflt = (tgt : Int)) (h : xWp l g md mc ms tgt L st cs M Q) : xWp l g md mc ms pc L (.int x :: st) cs M Q := xWp.lift (fun _ _ _ _ _ _ _ _ _ _ _ _ _ _ _ hx hb _ k => lv_tableOut hx hb d hc ht k) h
theorem xr_tableIn {dflt lo hi : Int} {offs : Array Int} {len : Nat} {x : Int32} {off : Int} (tgt : Nat) (d : decode md.2.1 pc = .ok (.tableswitch dflt lo hi offs, len)) (h1 : ¬ x.toInt < lo) (h2 : ¬ hi < x.toInt) (ho : offs[(x.toInt - lo).toNat]? = some off) (ht : (pc : Int) + off = (tgt : Int)) (h : xWp l g md mc ms tgt L st cs M Q) : xWp l g md mc ms pc L (.int x :: st) cs M Q := xWp.lift (fun _ _ _ _ _ _ _ _ _ _ _ _ _ _ _ hx hb _ k => lv_tableIn hx hb d h1 h2 ho ht k) h
theorem xr_ret (hm : cs.1 ≤ mc ∧ cs.2 ≤ ms) (hr : xRet md pc none) (h : Q none M) : xWp l g md mc ms pc L [] cs M Q := fun p e R s m args below meth c A H locs Z ls hF hE hP hS hl => W.widen hm.1 hm.2 (hE none M H locs pc ls h hP hS hr)
theorem xr_retv {v : Value} (hm : cs.1 ≤ mc ∧ cs.2 ≤ ms) (hr : xRet md pc (some v)) (h : Q (some v) M) : xWp l g md mc ms pc L [v] cs M Q := fun p e R s m args below meth c A H locs Z ls hF hE hP hS hl => W.widen hm.1 hm.2 (hE (some v) M H locs pc ls h hP hS hr)
theorem xRi {ty : FieldType} {v : Int32} (h1 : md.2.2.2.1 = some ty) (h2 : narrow ty (.int v) = .int v) (d : decode md.2.1 pc = .ok (.ireturn, 1)) : xRet md pc (some (.int v)) := Or.inr (Or.inl ⟨ty, v, h1, rfl, h2, d⟩)
theorem xRl {v : Int64} (h1 : md.2.2.2.1 = some .long) (d : decode md.2.1 pc = .ok (.lreturn, 1)) : xRet md pc (some (.long v)) := Or.inr (Or.inr (Or.inl ⟨v, h1, rfl, d⟩))
theorem xRa {n : String} {o : Option Nat} (h1 : md.2.2.2.1 = some (.object n)) (d : decode md.2.1 pc = .ok (.areturn, 1)) : xRet md pc (some (va_rf o)) := Or.inr (Or.inr (Or.inr ⟨n, o, h1, rfl, d⟩))
theorem xRv (h1 : md.2.2.2.1 = none) (d : decode md.2.1 pc = .ok (.return_, 1)) : xRet md pc none := Or.inl ⟨h1, rfl, d⟩
end XR
