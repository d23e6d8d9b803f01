/-! The rows of the judgement for any end. -/
abbrev xKt : Type := Program → Env → Room → State → MethodId → Array Value → List Frame → Method → Code → (Nat → Prop) → (State → Prop) → Prop
def xWg (l : Launch) (g : xG) (md : xMd) (mc ms pc : Nat) (L : List (Nat × Value)) (st : List Value) (cs : Nat × Nat) (M : xM) (K : xKt) : Prop :=
  ∀ (p : Program) (e : Env) (R : Room) (s : State) (m : MethodId) (args : Array Value) (below : List Frame) (meth : Method) (c : Code) (A : Nat → Prop) (H : Heap) (locs : List Loc) (Z : State → Prop) (ls : Array Slot),
    xFix g md mc ms p R s m args meth c A → K p e R s m args below meth c A Z → xP g A M H → va_S A s.heap H locs → xLr ls md.2.2.1 L → W p l e R s m args below meth c H locs cs.1 cs.2 Z (F0 m pc ls st)
section XKR
variable {l : Launch} {g : xG} {md : xMd} {mc ms pc : Nat} {L : List (Nat × Value)} {st : List Value} {cs : Nat × Nat} {M : xM} {K : xKt}
theorem xWg.lift {pc1 : Nat} {st1 : List Value} (f : ∀ (p : Program) (e : Env) (R : Room) (s : State) (m : MethodId) (args : Array Value) (below : List Frame) (meth : Method) (c : Code) (H : Heap) (locs : List Loc) (cells slots : Nat) (Z : State → Prop) (ls : Array Slot), p.tables.exec = Jvm.exec → c.code = md.2.1 → xLr ls md.2.2.1 L → W p l e R s m args below meth c H locs cells slots Z (F0 m pc1 ls st1) → W p l e R s m args below meth c H locs cells slots Z (F0 m pc ls st))
    (h : xWg l g md mc ms pc1 L st1 cs M K) : xWg l g md mc ms pc L st cs M K := fun p e R s m args below meth c A H locs Z ls hF hE hP hS hl => f p e R s m args below meth c H locs cs.1 cs.2 Z ls hF.1 hF.2.1 hl (h p e R s m args below meth c A H locs Z ls hF hE hP hS hl)
theorem xWg.lift2 {pc1 pc2 : Nat} {st1 : List Value} {C : Prop} (f : ∀ (p : Program) (e : Env) (R : Room) (s : State) (m : MethodId) (args : Array Value) (below : List Frame) (meth : Method) (c : Code) (H : Heap) (locs : List Loc) (cells slots : Nat) (Z : State → Prop) (ls : Array Slot), p.tables.exec = Jvm.exec → c.code = md.2.1 → (C → W p l e R s m args below meth c H locs cells slots Z (F0 m pc1 ls st1)) → (¬ C → W p l e R s m args below meth c H locs cells slots Z (F0 m pc2 ls st1)) → W p l e R s m args below meth c H locs cells slots Z (F0 m pc ls st))
    (h1 : C → xWg l g md mc ms pc1 L st1 cs M K) (h2 : ¬ C → xWg l g md mc ms pc2 L st1 cs M K) : xWg l g md mc ms pc L st cs M K := fun p e R s m args below meth c A H locs Z ls hF hE hP hS hl => f p e R s m args below meth c H locs cs.1 cs.2 Z ls hF.1 hF.2.1 (fun k => h1 k p e R s m args below meth c A H locs Z ls hF hE hP hS hl) (fun k => h2 k p e R s m args below meth c A H locs Z ls hF hE hP hS hl)
theorem kr_iconst {n : Int} (v : Int32) (d : decode md.2.1 pc = .ok (.iconst n, 1)) (hv : Int32.ofInt n = v) (h : xWg l g md mc ms (pc + 1) L (.int v :: st) cs M K) : xWg l g md mc ms pc L st cs M K := xWg.lift (fun _ _ _ _ _ _ _ _ _ _ _ _ _ _ _ hx hb _ k => lv_iconst hx hb d hv k) h
theorem kr_bipush {n : Int} (v : Int32) (d : decode md.2.1 pc = .ok (.bipush n, 2)) (hv : (Int8.ofInt n).toInt32 = v) (h : xWg l g md mc ms (pc + 2) L (.int v :: st) cs M K) : xWg l g md mc ms pc L st cs M K := xWg.lift (fun _ _ _ _ _ _ _ _ _ _ _ _ _ _ _ hx hb _ k => lv_bipush hx hb d hv k) h
theorem kr_sipush {n : Int} (v : Int32) (d : decode md.2.1 pc = .ok (.sipush n, 3)) (hv : (Int16.ofInt n).toInt32 = v) (h : xWg l g md mc ms (pc + 3) L (.int v :: st) cs M K) : xWg l g md mc ms pc L st cs M K := xWg.lift (fun _ _ _ _ _ _ _ _ _ _ _ _ _ _ _ hx hb _ k => lv_sipush hx hb d hv k) h
theorem kr_lconst {n : Fin 2} (v : Int64) (d : decode md.2.1 pc = .ok (.lconst n, 1)) (hv : Int64.ofNat (n : Nat) = v) (h : xWg l g md mc ms (pc + 1) L (.long v :: st) cs M K) : xWg l g md mc ms pc L st cs M K := xWg.lift (fun _ _ _ _ _ _ _ _ _ _ _ _ _ _ _ hx hb _ k => lv_lconst hx hb d hv k) h
theorem kr_null (d : decode md.2.1 pc = .ok (.aconst_null, 1)) (h : xWg l g md mc ms (pc + 1) L (va_rf none :: st) cs M K) : xWg l g md mc ms pc L st cs M K := xWg.lift (fun _ _ _ _ _ _ _ _ _ _ _ _ _ _ _ hx hb _ k => lv_null hx hb d k) h
theorem kr_ldc {i : Nat} (v : Int32) (d : decode md.2.1 pc = .ok (.ldc i, 2)) (hw : Cond.constant md.1.cls i v ∈ gl) (h : xWg l g md mc ms (pc + 2) L (.int v :: st) cs M K) : xWg l g md mc ms pc L st cs M K := fun p e R s m args below meth c A H locs Z ls hF hE hP hS hl => lv_ldc hF.1 hF.2.1 hF.2.2.2.1 (hF.2.2.2.2.1 _ hw) d (h p e R s m args below meth c A H locs Z ls hF hE hP hS hl)
theorem kr_ldc2 {i : Nat} (v : Int64) (d : decode md.2.1 pc = .ok (.ldc2_w i, 3)) (hw : Cond.constantLong md.1.cls i v ∈ gl) (h : xWg l g md mc ms (pc + 3) L (.long v :: st) cs M K) : xWg l g md mc ms pc L st cs M K := fun p e R s m args below meth c A H locs Z ls hF hE hP hS hl => lv_ldc2 hF.1 hF.2.1 hF.2.2.2.1 (hF.2.2.2.2.1 _ hw) d (h p e R s m args below meth c A H locs Z ls hF hE hP hS hl)
theorem kr_iload_n {n : Fin 4} (i : Nat) {t : Nat} {x : Int32} (d : decode md.2.1 pc = .ok (.iload_n n, 1)) (hi : (n : Nat) = i) (hL : L[i]? = some (t + 1, .int x)) (h : xWg l g md mc ms (pc + 1) L (.int x :: st) cs M K) : xWg l g md mc ms pc L st cs M K := xWg.lift (fun _ _ _ _ _ _ _ _ _ _ _ _ _ _ _ hx hb hl k => lv_iload_n hx hb d hi (hl.2.2 i _ _ hL (Nat.succ_ne_zero _)).1 k) h
theorem kr_iload {i : Nat} {t : Nat} {x : Int32} (d : decode md.2.1 pc = .ok (.iload i, 2)) (hL : L[i]? = some (t + 1, .int x)) (h : xWg l g md mc ms (pc + 2) L (.int x :: st) cs M K) : xWg l g md mc ms pc L st cs M K := xWg.lift (fun _ _ _ _ _ _ _ _ _ _ _ _ _ _ _ hx hb hl k => lv_iload hx hb d (hl.2.2 i _ _ hL (Nat.succ_ne_zero _)).1 k) h
theorem kr_lload_n {n : Fin 4} (i : Nat) {t : Nat} {x : Int64} (d : decode md.2.1 pc = .ok (.lload_n n, 1)) (hi : (n : Nat) = i) (hL : L[i]? = some (t + 1, .long x)) (h : xWg l g md mc ms (pc + 1) L (.long x :: st) cs M K) : xWg l g md mc ms pc L st cs M K := xWg.lift (fun _ _ _ _ _ _ _ _ _ _ _ _ _ _ _ hx hb hl k => lv_lload_n hx hb d hi (hl.2.2 i _ _ hL (Nat.succ_ne_zero _)).1 k) h
theorem kr_lload {i : Nat} {t : Nat} {x : Int64} (d : decode md.2.1 pc = .ok (.lload i, 2)) (hL : L[i]? = some (t + 1, .long x)) (h : xWg l g md mc ms (pc + 2) L (.long x :: st) cs M K) : xWg l g md mc ms pc L st cs M K := xWg.lift (fun _ _ _ _ _ _ _ _ _ _ _ _ _ _ _ hx hb hl k => lv_lload hx hb d (hl.2.2 i _ _ hL (Nat.succ_ne_zero _)).1 k) h
theorem kr_aload_n {n : Fin 4} (i : Nat) {t : Nat} {x : Option Nat} (d : decode md.2.1 pc = .ok (.aload_n n, 1)) (hi : (n : Nat) = i) (hL : L[i]? = some (t + 1, va_rf x)) (h : xWg l g md mc ms (pc + 1) L (va_rf x :: st) cs M K) : xWg l g md mc ms pc L st cs M K := xWg.lift (fun _ _ _ _ _ _ _ _ _ _ _ _ _ _ _ hx hb hl k => by
  have hz := (hl.2.2 i _ _ hL (Nat.succ_ne_zero _)).1
  cases x with
  | none => exact lv_aload_nN hx hb d hi hz k
  | some a => exact lv_aload_n hx hb d hi hz k) h
theorem kr_aload {i : Nat} {t : Nat} {x : Option Nat} (d : decode md.2.1 pc = .ok (.aload i, 2)) (hL : L[i]? = some (t + 1, va_rf x)) (h : xWg l g md mc ms (pc + 2) L (va_rf x :: st) cs M K) : xWg l g md mc ms pc L st cs M K := xWg.lift (fun _ _ _ _ _ _ _ _ _ _ _ _ _ _ _ hx hb hl k => by
  have hz := (hl.2.2 i _ _ hL (Nat.succ_ne_zero _)).1
  cases x with
  | none => exact lv_aloadN hx hb d hz k
  | some a => exact lv_aload hx hb d hz k) h
theorem kr_istore_n {n : Fin 4} (i : Nat) {x : Int32} (d : decode md.2.1 pc = .ok (.istore_n n, 1)) (hi : (n : Nat) = i) (hn : i < md.2.2.1) (h : xWg l g md mc ms (pc + 1) (xst1 i (Value.int x) L) st cs M K) : xWg l g md mc ms pc L (Value.int x :: st) cs M K := fun p e R s m args below meth c A H locs Z ls hF hE hP hS hl => by
  obtain ⟨hx, hb, hF'⟩ := id hF
  obtain ⟨ls', e', h'⟩ := xst1_ok (v := Value.int x) hl hn rfl
  intro T hT X
  obtain ⟨t, a, b⟩ := h p e R s m args below meth c A H locs Z ls' hF hE hP hS h' T hT X
  refine ⟨t, ?_, b⟩
  subst hi
  jvm_step X.here [X.here.top, ↓top_set X.here.top, hx, hb, d, e']
  exact a
theorem kr_istore {i : Nat} {x : Int32} (d : decode md.2.1 pc = .ok (.istore i, 2)) (hn : i < md.2.2.1) (h : xWg l g md mc ms (pc + 2) (xst1 i (Value.int x) L) st cs M K) : xWg l g md mc ms pc L (Value.int x :: st) cs M K := fun p e R s m args below meth c A H locs Z ls hF hE hP hS hl => by
  obtain ⟨hx, hb, hF'⟩ := id hF
  obtain ⟨ls', e', h'⟩ := xst1_ok (v := Value.int x) hl hn rfl
  intro T hT X
  obtain ⟨t, a, b⟩ := h p e R s m args below meth c A H locs Z ls' hF hE hP hS h' T hT X
  refine ⟨t, ?_, b⟩
  jvm_step X.here [X.here.top, ↓top_set X.here.top, hx, hb, d, e']
  exact a
theorem kr_lstore_n {n : Fin 4} (i : Nat) {x : Int64} (d : decode md.2.1 pc = .ok (.lstore_n n, 1)) (hi : (n : Nat) = i) (hn : i + 1 < md.2.2.1) (h : xWg l g md mc ms (pc + 1) (xst2 i (Value.long x) L) st cs M K) : xWg l g md mc ms pc L (Value.long x :: st) cs M K := fun p e R s m args below meth c A H locs Z ls hF hE hP hS hl => by
  obtain ⟨hx, hb, hF'⟩ := id hF
  obtain ⟨ls', e', h'⟩ := xst2_ok (v := Value.long x) hl hn rfl
  intro T hT X
  obtain ⟨t, a, b⟩ := h p e R s m args below meth c A H locs Z ls' hF hE hP hS h' T hT X
  refine ⟨t, ?_, b⟩
  subst hi
  jvm_step X.here [X.here.top, ↓top_set X.here.top, hx, hb, d, e']
  exact a
theorem kr_lstore {i : Nat} {x : Int64} (d : decode md.2.1 pc = .ok (.lstore i, 2)) (hn : i + 1 < md.2.2.1) (h : xWg l g md mc ms (pc + 2) (xst2 i (Value.long x) L) st cs M K) : xWg l g md mc ms pc L (Value.long x :: st) cs M K := fun p e R s m args below meth c A H locs Z ls hF hE hP hS hl => by
  obtain ⟨hx, hb, hF'⟩ := id hF
  obtain ⟨ls', e', h'⟩ := xst2_ok (v := Value.long x) hl hn rfl
  intro T hT X
  obtain ⟨t, a, b⟩ := h p e R s m args below meth c A H locs Z ls' hF hE hP hS h' T hT X
  refine ⟨t, ?_, b⟩
  jvm_step X.here [X.here.top, ↓top_set X.here.top, hx, hb, d, e']
  exact a
theorem kr_astore_n {n : Fin 4} (i : Nat) {x : Option Nat} (d : decode md.2.1 pc = .ok (.astore_n n, 1)) (hi : (n : Nat) = i) (hn : i < md.2.2.1) (h : xWg l g md mc ms (pc + 1) (xst1 i (va_rf x) L) st cs M K) : xWg l g md mc ms pc L (va_rf x :: st) cs M K := fun p e R s m args below meth c A H locs Z ls hF hE hP hS hl => by
  obtain ⟨hx, hb, hF'⟩ := id hF
  obtain ⟨ls', e', h'⟩ := xst1_ok (v := va_rf x) hl hn (by cases x <;> rfl)
  intro T hT X
  obtain ⟨t, a, b⟩ := h p e R s m args below meth c A H locs Z ls' hF hE hP hS h' T hT X
  refine ⟨t, ?_, b⟩
  subst hi
  cases x with
  | none =>
    simp only [va_rf] at e'
    jvm_step X.here [X.here.top, ↓top_set X.here.top, hx, hb, d, e', Value.isRef, va_rf]
    exact a
  | some q =>
    simp only [va_rf] at e'
    jvm_step X.here [X.here.top, ↓top_set X.here.top, hx, hb, d, e', Value.isRef, va_rf]
    exact a
theorem kr_astore {i : Nat} {x : Option Nat} (d : decode md.2.1 pc = .ok (.astore i, 2)) (hn : i < md.2.2.1) (h : xWg l g md mc ms (pc + 2) (xst1 i (va_rf x) L) st cs M K) : xWg l g md mc ms pc L (va_rf x :: st) cs M K := fun p e R s m args below meth c A H locs Z ls hF hE hP hS hl => by
  obtain ⟨hx, hb, hF'⟩ := id hF
  obtain ⟨ls', e', h'⟩ := xst1_ok (v := va_rf x) hl hn (by cases x <;> rfl)
  intro T hT X
  obtain ⟨t, a, b⟩ := h p e R s m args below meth c A H locs Z ls' hF hE hP hS h' T hT X
  refine ⟨t, ?_, b⟩
  cases x with
  | none =>
    simp only [va_rf] at e'
    jvm_step X.here [X.here.top, ↓top_set X.here.top, hx, hb, d, e', Value.isRef, va_rf]
    exact a
  | some q =>
    simp only [va_rf] at e'
    jvm_step X.here [X.here.top, ↓top_set X.here.top, hx, hb, d, e', Value.isRef, va_rf]
    exact a
theorem kr_iinc {i : Nat} {n : Int} {t : Nat} {x : Int32} (v : Int32) (d : decode md.2.1 pc = .ok (.iinc i n, 3)) (hL : L[i]? = some (t + 1, .int x)) (hv : x + Int32.ofInt n = v) (hn : i < md.2.2.1) (h : xWg l g md mc ms (pc + 3) (xst1 i (.int v) L) st cs M K) : xWg l g md mc ms pc L st cs M K := fun p e R s m args below meth c A H locs Z ls hF hE hP hS hl => by
  subst hv
  obtain ⟨hx, hb, hF'⟩ := id hF
  have hg := (hl.2.2 i _ _ hL (Nat.succ_ne_zero _)).1
  obtain ⟨ls', e', h'⟩ := xst1_ok (v := .int (x + Int32.ofInt n)) hl hn rfl
  intro T hT X
  obtain ⟨t, a, b⟩ := h p e R s m args below meth c A H locs Z ls' hF hE hP hS h' T hT X
  refine ⟨t, ?_, b⟩
  jvm_step X.here [X.here.top, ↓top_set X.here.top, hx, hb, d, hg, e']
  exact a
theorem kr_iadd {x y : Int32} (d : decode md.2.1 pc = .ok (.iadd, 1)) (h : xWg l g md mc ms (pc + 1) L (.int (x + y) :: st) cs M K) : xWg l g md mc ms pc L (.int y :: .int x :: st) cs M K := xWg.lift (fun _ _ _ _ _ _ _ _ _ _ _ _ _ _ _ hx hb _ k => lv_iadd hx hb d k) h
theorem kr_isub {x y : Int32} (d : decode md.2.1 pc = .ok (.isub, 1)) (h : xWg l g md mc ms (pc + 1) L (.int (x - y) :: st) cs M K) : xWg l g md mc ms pc L (.int y :: .int x :: st) cs M K := xWg.lift (fun _ _ _ _ _ _ _ _ _ _ _ _ _ _ _ hx hb _ k => lv_isub hx hb d k) h
theorem kr_imul {x y : Int32} (d : decode md.2.1 pc = .ok (.imul, 1)) (h : xWg l g md mc ms (pc + 1) L (.int (x * y) :: st) cs M K) : xWg l g md mc ms pc L (.int y :: .int x :: st) cs M K := xWg.lift (fun _ _ _ _ _ _ _ _ _ _ _ _ _ _ _ hx hb _ k => lv_imul hx hb d k) h
theorem kr_iand {x y : Int32} (d : decode md.2.1 pc = .ok (.iand, 1)) (h : xWg l g md mc ms (pc + 1) L (.int (x &&& y) :: st) cs M K) : xWg l g md mc ms pc L (.int y :: .int x :: st) cs M K := xWg.lift (fun _ _ _ _ _ _ _ _ _ _ _ _ _ _ _ hx hb _ k => lv_iand hx hb d k) h
theorem kr_ior {x y : Int32} (d : decode md.2.1 pc = .ok (.ior, 1)) (h : xWg l g md mc ms (pc + 1) L (.int (x ||| y) :: st) cs M K) : xWg l g md mc ms pc L (.int y :: .int x :: st) cs M K := xWg.lift (fun _ _ _ _ _ _ _ _ _ _ _ _ _ _ _ hx hb _ k => lv_ior hx hb d k) h
theorem kr_ixor {x y : Int32} (d : decode md.2.1 pc = .ok (.ixor, 1)) (h : xWg l g md mc ms (pc + 1) L (.int (x ^^^ y) :: st) cs M K) : xWg l g md mc ms pc L (.int y :: .int x :: st) cs M K := xWg.lift (fun _ _ _ _ _ _ _ _ _ _ _ _ _ _ _ hx hb _ k => lv_ixor hx hb d k) h
theorem kr_ishl {x y : Int32} (d : decode md.2.1 pc = .ok (.ishl, 1)) (h : xWg l g md mc ms (pc + 1) L (.int (x <<< (y &&& 31)) :: st) cs M K) : xWg l g md mc ms pc L (.int y :: .int x :: st) cs M K := xWg.lift (fun _ _ _ _ _ _ _ _ _ _ _ _ _ _ _ hx hb _ k => lv_ishl hx hb d k) h
theorem kr_ishr {x y : Int32} (d : decode md.2.1 pc = .ok (.ishr, 1)) (h : xWg l g md mc ms (pc + 1) L (.int (x >>> (y &&& 31)) :: st) cs M K) : xWg l g md mc ms pc L (.int y :: .int x :: st) cs M K := xWg.lift (fun _ _ _ _ _ _ _ _ _ _ _ _ _ _ _ hx hb _ k => lv_ishr hx hb d k) h
theorem kr_irem {x y : Int32} (d : decode md.2.1 pc = .ok (.irem, 1)) (hne : ¬ y = 0) (h : xWg l g md mc ms (pc + 1) L (.int (x - x / y * y) :: st) cs M K) : xWg l g md mc ms pc L (.int y :: .int x :: st) cs M K := xWg.lift (fun _ _ _ _ _ _ _ _ _ _ _ _ _ _ _ hx hb _ k => lv_irem hx hb d hne k) h
theorem kr_ladd {x y : Int64} (d : decode md.2.1 pc = .ok (.ladd, 1)) (h : xWg l g md mc ms (pc + 1) L (.long (x + y) :: st) cs M K) : xWg l g md mc ms pc L (.long y :: .long x :: st) cs M K := xWg.lift (fun _ _ _ _ _ _ _ _ _ _ _ _ _ _ _ hx hb _ k => lv_ladd hx hb d k) h
theorem kr_lsub {x y : Int64} (d : decode md.2.1 pc = .ok (.lsub, 1)) (h : xWg l g md mc ms (pc + 1) L (.long (x - y) :: st) cs M K) : xWg l g md mc ms pc L (.long y :: .long x :: st) cs M K := xWg.lift (fun _ _ _ _ _ _ _ _ _ _ _ _ _ _ _ hx hb _ k => lv_lsub hx hb d k) h
theorem kr_lmul {x y : Int64} (d : decode md.2.1 pc = .ok (.lmul, 1)) (h : xWg l g md mc ms (pc + 1) L (.long (x * y) :: st) cs M K) : xWg l g md mc ms pc L (.long y :: .long x :: st) cs M K := xWg.lift (fun _ _ _ _ _ _ _ _ _ _ _ _ _ _ _ hx hb _ k => lv_lmul hx hb d k) h
theorem kr_land {x y : Int64} (d : decode md.2.1 pc = .ok (.land, 1)) (h : xWg l g md mc ms (pc + 1) L (.long (x &&& y) :: st) cs M K) : xWg l g md mc ms pc L (.long y :: .long x :: st) cs M K := xWg.lift (fun _ _ _ _ _ _ _ _ _ _ _ _ _ _ _ hx hb _ k => lv_land hx hb d k) h
theorem kr_lor {x y : Int64} (d : decode md.2.1 pc = .ok (.lor, 1)) (h : xWg l g md mc ms (pc + 1) L (.long (x ||| y) :: st) cs M K) : xWg l g md mc ms pc L (.long y :: .long x :: st) cs M K := xWg.lift (fun _ _ _ _ _ _ _ _ _ _ _ _ _ _ _ hx hb _ k => lv_lor hx hb d k) h
theorem kr_lxor {x y : Int64} (d : decode md.2.1 pc = .ok (.lxor, 1)) (h : xWg l g md mc ms (pc + 1) L (.long (x ^^^ y) :: st) cs M K) : xWg l g md mc ms pc L (.long y :: .long x :: st) cs M K := xWg.lift (fun _ _ _ _ _ _ _ _ _ _ _ _ _ _ _ hx hb _ k => lv_lxor hx hb d k) h
theorem kr_lrem {x y : Int64} (d : decode md.2.1 pc = .ok (.lrem, 1)) (hne : ¬ y = 0) (h : xWg l g md mc ms (pc + 1) L (.long (x - x / y * y) :: st) cs M K) : xWg l g md mc ms pc L (.long y :: .long x :: st) cs M K := xWg.lift (fun _ _ _ _ _ _ _ _ _ _ _ _ _ _ _ hx hb _ k => lv_lrem hx hb d hne k) h
theorem kr_lcmp {x y : Int64} (d : decode md.2.1 pc = .ok (.lcmp, 1)) (h : xWg l g md mc ms (pc + 1) L (.int (lg_cmp x y) :: st) cs M K) : xWg l g md mc ms pc L (.long y :: .long x :: st) cs M K := xWg.lift (fun _ _ _ _ _ _ _ _ _ _ _ _ _ _ _ hx hb _ k => W.lcmp hx hb d k) h
theorem kr_lushr {x : Int64} {y : Int32} (d : decode md.2.1 pc = .ok (.lushr, 1)) (h : xWg l g md mc ms (pc + 1) L (.long ((x.toUInt64 >>> (y.toInt64.toUInt64 &&& Int64.toUInt64 63)).toInt64) :: st) cs M K) : xWg l g md mc ms pc L (.int y :: .long x :: st) cs M K := xWg.lift (fun _ _ _ _ _ _ _ _ _ _ _ _ _ _ _ hx hb _ k => lv_lushr hx hb d rfl k) h
theorem kr_lshl {x : Int64} {y : Int32} (d : decode md.2.1 pc = .ok (.lshl, 1)) (h : xWg l g md mc ms (pc + 1) L (.long (x <<< (y.toInt64 &&& 63)) :: st) cs M K) : xWg l g md mc ms pc L (.int y :: .long x :: st) cs M K := xWg.lift (fun _ _ _ _ _ _ _ _ _ _ _ _ _ _ _ hx hb _ k => lv_lshl hx hb d rfl k) h
theorem kr_lshr {x : Int64} {y : Int32} (d : decode md.2.1 pc = .ok (.lshr, 1)) (h : xWg l g md mc ms (pc + 1) L (.long (x >>> (y.toInt64 &&& 63)) :: st) cs M K) : xWg l g md mc ms pc L (.int y :: .long x :: st) cs M K := xWg.lift (fun _ _ _ _ _ _ _ _ _ _ _ _ _ _ _ hx hb _ k => lv_lshr hx hb d rfl k) h
theorem kr_i2l {x : Int32} (d : decode md.2.1 pc = .ok (.i2l, 1)) (h : xWg l g md mc ms (pc + 1) L (.long x.toInt64 :: st) cs M K) : xWg l g md mc ms pc L (.int x :: st) cs M K := xWg.lift (fun _ _ _ _ _ _ _ _ _ _ _ _ _ _ _ hx hb _ k => lv_i2l hx hb d rfl k) h
theorem kr_l2i {x : Int64} (d : decode md.2.1 pc = .ok (.l2i, 1)) (h : xWg l g md mc ms (pc + 1) L (.int x.toInt32 :: st) cs M K) : xWg l g md mc ms pc L (.long x :: st) cs M K := xWg.lift (fun _ _ _ _ _ _ _ _ _ _ _ _ _ _ _ hx hb _ k => lv_l2i hx hb d rfl k) h
theorem kr_i2b {x : Int32} (d : decode md.2.1 pc = .ok (.i2b, 1)) (h : xWg l g md mc ms (pc + 1) L (.int x.toInt8.toInt32 :: st) cs M K) : xWg l g md mc ms pc L (.int x :: st) cs M K := xWg.lift (fun _ _ _ _ _ _ _ _ _ _ _ _ _ _ _ hx hb _ k => lv_i2b hx hb d rfl k) h
theorem kr_dup {v : Value} (d : decode md.2.1 pc = .ok (.dup, 1)) (hv : v.category = 1) (h : xWg l g md mc ms (pc + 1) L (v :: v :: st) cs M K) : xWg l g md mc ms pc L (v :: st) cs M K := xWg.lift (fun _ _ _ _ _ _ _ _ _ _ _ _ _ _ _ hx hb _ k => lv_dup hx hb d hv k) h
theorem kr_pop {v : Value} (d : decode md.2.1 pc = .ok (.pop, 1)) (hv : v.category = 1) (h : xWg l g md mc ms (pc + 1) L st cs M K) : xWg l g md mc ms pc L (v :: st) cs M K := xWg.lift (fun _ _ _ _ _ _ _ _ _ _ _ _ _ _ _ hx hb _ k => lv_pop hx hb d hv k) h
theorem kr_dup_x1 {v u : Value} (d : decode md.2.1 pc = .ok (.dup_x1, 1)) (hv : v.category = 1) (hu : u.category = 1) (h : xWg l g md mc ms (pc + 1) L (v :: u :: v :: st) cs M K) : xWg l g md mc ms pc L (v :: u :: st) cs M K := xWg.lift (fun _ _ _ _ _ _ _ _ _ _ _ _ _ _ _ hx hb _ k => lv_dup_x1 hx hb d hv hu k) h
theorem kr_dup2 {v u : Value} (d : decode md.2.1 pc = .ok (.dup2, 1)) (hv : v.category = 1) (hu : u.category = 1) (h : xWg l g md mc ms (pc + 1) L (v :: u :: v :: u :: st) cs M K) : xWg l g md mc ms pc L (v :: u :: st) cs M K := xWg.lift (fun _ _ _ _ _ _ _ _ _ _ _ _ _ _ _ hx hb _ k => lv_dup2_11 hx hb d hv hu k) h
theorem kr_goto {off : Int} (tgt : Nat) (d : decode md.2.1 pc = .ok (.goto off, 3)) (ht : (pc : Int) + off = (tgt : Int)) (h : xWg l g md mc ms tgt L st cs M K) : xWg l g md mc ms pc L st cs M K := xWg.lift (fun _ _ _ _ _ _ _ _ _ _ _ _ _ _ _ hx hb _ k => lv_goto hx hb d ht k) h
theorem kr_if_eq {x : Int32} {off : Int} (tgt : Nat) (d : decode md.2.1 pc = .ok (.ifCond .eq off, 3)) (ht : (pc : Int) + off = (tgt : Int)) (h1 : x = 0 → xWg l g md mc ms tgt L st cs M K) (h2 : ¬ x = 0 → xWg l g md mc ms (pc + 3) L st cs M K) : xWg l g md mc ms pc L (.int x :: st) cs M K := xWg.lift2 (fun _ _ _ _ _ _ _ _ _ _ _ _ _ _ _ hx hb k1 k2 => lv_if_eq hx hb d ht k1 k2) h1 h2
theorem kr_icmp_eq {x y : Int32} {off : Int} (tgt : Nat) (d : decode md.2.1 pc = .ok (.if_icmp .eq off, 3)) (ht : (pc : Int) + off = (tgt : Int)) (h1 : x = y → xWg l g md mc ms tgt L st cs M K) (h2 : ¬ x = y → xWg l g md mc ms (pc + 3) L st cs M K) : xWg l g md mc ms pc L (.int y :: .int x :: st) cs M K := xWg.lift2 (fun _ _ _ _ _ _ _ _ _ _ _ _ _ _ _ hx hb k1 k2 => lv_icmp_eq hx hb d ht k1 k2) h1 h2
theorem kr_if_ne {x : Int32} {off : Int} (tgt : Nat) (d : decode md.2.1 pc = .ok (.ifCond .ne off, 3)) (ht : (pc : Int) + off = (tgt : Int)) (h1 : ¬ x = 0 → xWg l g md mc ms tgt L st cs M K) (h2 : x = 0 → xWg l g md mc ms (pc + 3) L st cs M K) : xWg l g md mc ms pc L (.int x :: st) cs M K := xWg.lift2 (C := ¬ x = 0) (fun _ _ _ _ _ _ _ _ _ _ _ _ _ _ _ hx hb k1 k2 => lv_if_ne hx hb d ht k1 (fun h => k2 (fun q => q h))) h1 (fun h => h2 (Classical.not_not.mp h))
theorem kr_icmp_ne {x y : Int32} {off : Int} (tgt : Nat) (d : decode md.2.1 pc = .ok (.if_icmp .ne off, 3)) (ht : (pc : Int) + off = (tgt : Int)) (h1 : ¬ x = y → xWg l g md mc ms tgt L st cs M K) (h2 : x = y → xWg l g md mc ms (pc + 3) L st cs M K) : xWg l g md mc ms pc L (.int y :: .int x :: st) cs M K := xWg.lift2 (C := ¬ x = y) (fun _ _ _ _ _ _ _ _ _ _ _ _ _ _ _ hx hb k1 k2 => lv_icmp_ne hx hb d ht k1 (fun h => k2 (fun q => q h))) h1 (fun h => h2 (Classical.not_not.mp h))
theorem kr_if_lt {x : Int32} {off : Int} (tgt : Nat) (d : decode md.2.1 pc = .ok (.ifCond .lt off, 3)) (ht : (pc : Int) + off = (tgt : Int)) (h1 : x < 0 → xWg l g md mc ms tgt L st cs M K) (h2 : ¬ x < 0 → xWg l g md mc ms (pc + 3) L st cs M K) : xWg l g md mc ms pc L (.int x :: st) cs M K := xWg.lift2 (fun _ _ _ _ _ _ _ _ _ _ _ _ _ _ _ hx hb k1 k2 => lv_if_lt hx hb d ht k1 k2) h1 h2
theorem kr_icmp_lt {x y : Int32} {off : Int} (tgt : Nat) (d : decode md.2.1 pc = .ok (.if_icmp .lt off, 3)) (ht : (pc : Int) + off = (tgt : Int)) (h1 : x < y → xWg l g md mc ms tgt L st cs M K) (h2 : ¬ x < y → xWg l g md mc ms (pc + 3) L st cs M K) : xWg l g md mc ms pc L (.int y :: .int x :: st) cs M K := xWg.lift2 (fun _ _ _ _ _ _ _ _ _ _ _ _ _ _ _ hx hb k1 k2 => lv_icmp_lt hx hb d ht k1 k2) h1 h2
theorem kr_if_ge {x : Int32} {off : Int} (tgt : Nat) (d : decode md.2.1 pc = .ok (.ifCond .ge off, 3)) (ht : (pc : Int) + off = (tgt : Int)) (h1 : 0 ≤ x → xWg l g md mc ms tgt L st cs M K) (h2 : ¬ 0 ≤ x → xWg l g md mc ms (pc + 3) L st cs M K) : xWg l g md mc ms pc L (.int x :: st) cs M K := xWg.lift2 (fun _ _ _ _ _ _ _ _ _ _ _ _ _ _ _ hx hb k1 k2 => lv_if_ge hx hb d ht k1 k2) h1 h2
theorem kr_icmp_ge {x y : Int32} {off : Int} (tgt : Nat) (d : decode md.2.1 pc = .ok (.if_icmp .ge off, 3)) (ht : (pc : Int) + off = (tgt : Int)) (h1 : y ≤ x → xWg l g md mc ms tgt L st cs M K) (h2 : ¬ y ≤ x → xWg l g md mc ms (pc + 3) L st cs M K) : xWg l g md mc ms pc L (.int y :: .int x :: st) cs M K := xWg.lift2 (fun _ _ _ _ _ _ _ _ _ _ _ _ _ _ _ hx hb k1 k2 => lv_icmp_ge hx hb d ht k1 k2) h1 h2
theorem kr_if_gt {x : Int32} {off : Int} (tgt : Nat) (d : decode md.2.1 pc = .ok (.ifCond .gt off, 3)) (ht : (pc : Int) + off = (tgt : Int)) (h1 : 0 < x → xWg l g md mc ms tgt L st cs M K) (h2 : ¬ 0 < x → xWg l g md mc ms (pc + 3) L st cs M K) : xWg l g md mc ms pc L (.int x :: st) cs M K := xWg.lift2 (fun _ _ _ _ _ _ _ _ _ _ _ _ _ _ _ hx hb k1 k2 => lv_if_gt hx hb d ht k1 k2) h1 h2
theorem kr_icmp_gt {x y : Int32} {off : Int} (tgt : Nat) (d : decode md.2.1 pc = .ok (.if_icmp .gt off, 3)) (ht : (pc : Int) + off = (tgt : Int)) (h1 : y < x → xWg l g md mc ms tgt L st cs M K) (h2 : ¬ y < x → xWg l g md mc ms (pc + 3) L st cs M K) : xWg l g md mc ms pc L (.int y :: .int x :: st) cs M K := xWg.lift2 (fun _ _ _ _ _ _ _ _ _ _ _ _ _ _ _ hx hb k1 k2 => lv_icmp_gt hx hb d ht k1 k2) h1 h2
theorem kr_if_le {x : Int32} {off : Int} (tgt : Nat) (d : decode md.2.1 pc = .ok (.ifCond .le off, 3)) (ht : (pc : Int) + off = (tgt : Int)) (h1 : x ≤ 0 → xWg l g md mc ms tgt L st cs M K) (h2 : ¬ x ≤ 0 → xWg l g md mc ms (pc + 3) L st cs M K) : xWg l g md mc ms pc L (.int x :: st) cs M K := xWg.lift2 (fun _ _ _ _ _ _ _ _ _ _ _ _ _ _ _ hx hb k1 k2 => lv_if_le hx hb d ht k1 k2) h1 h2
theorem kr_icmp_le {x y : Int32} {off : Int} (tgt : Nat) (d : decode md.2.1 pc = .ok (.if_icmp .le off, 3)) (ht : (pc : Int) + off = (tgt : Int)) (h1 : x ≤ y → xWg l g md mc ms tgt L st cs M K) (h2 : ¬ x ≤ y → xWg l g md mc ms (pc + 3) L st cs M K) : xWg l g md mc ms pc L (.int y :: .int x :: st) cs M K := xWg.lift2 (fun _ _ _ _ _ _ _ _ _ _ _ _ _ _ _ hx hb k1 k2 => lv_icmp_le hx hb d ht k1 k2) h1 h2
theorem kr_acmp_eq {rx ry : Option Nat} {off : Int} (tgt : Nat) (d : decode md.2.1 pc = .ok (.if_acmp .eq off, 3)) (ht : (pc : Int) + off = (tgt : Int)) (h1 : rx = ry → xWg l g md mc ms tgt L st cs M K) (h2 : ¬ rx = ry → xWg l g md mc ms (pc + 3) L st cs M K) : xWg l g md mc ms pc L (va_rf ry :: va_rf rx :: st) cs M K := xWg.lift2 (fun _ _ _ _ _ _ _ _ _ _ _ _ _ _ _ hx hb k1 k2 => lv_acmp_eq hx hb d ht k1 k2) h1 h2
theorem kr_acmp_ne {rx ry : Option Nat} {off : Int} (tgt : Nat) (d : decode md.2.1 pc = .ok (.if_acmp .ne off, 3)) (ht : (pc : Int) + off = (tgt : Int)) (h1 : ¬ rx = ry → xWg l g md mc ms tgt L st cs M K) (h2 : rx = ry → xWg l g md mc ms (pc + 3) L st cs M K) : xWg l g md mc ms pc L (va_rf ry :: va_rf rx :: st) cs M K := xWg.lift2 (C := ¬ rx = ry) (fun _ _ _ _ _ _ _ _ _ _ _ _ _ _ _ hx hb k1 k2 => lv_acmp_ne hx hb d ht k1 (fun h => k2 (fun q => q h))) h1 (fun h => h2 (Classical.not_not.mp h))
theorem kr_ifnull {r : Option Nat} {off : Int} (tgt : Nat) (d : decode md.2.1 pc = .ok (.ifnull off, 3)) (ht : (pc : Int) + off = (tgt : Int)) (h1 : r = none → xWg l g md mc ms tgt L st cs M K) (h2 : ¬ r = none → xWg l g md mc ms (pc + 3) L st cs M K) : xWg l g md mc ms pc L (va_rf r :: st) cs M K := xWg.lift2 (fun _ _ _ _ _ _ _ _ _ _ _ _ _ _ _ hx hb k1 k2 => by
  cases r with
  | none => exact lv_ifnullN hx hb d ht (k1 rfl)
  | some a => exact lv_ifnull hx hb d (k2 (fun h => by cases h))) h1 h2
theorem kr_ifnonnull {r : Option Nat} {off : Int} (tgt : Nat) (d : decode md.2.1 pc = .ok (.ifnonnull off, 3)) (ht : (pc : Int) + off = (tgt : Int)) (h1 : ¬ r = none → xWg l g md mc ms tgt L st cs M K) (h2 : r = none → xWg l g md mc ms (pc + 3) L st cs M K) : xWg l g md mc ms pc L (va_rf r :: st) cs M K := xWg.lift2 (C := ¬ r = none) (fun _ _ _ _ _ _ _ _ _ _ _ _ _ _ _ hx hb k1 k2 => by
  cases r with
  | none => exact lv_ifnonnullN hx hb d (k2 (fun h => h rfl))
  | some a => exact lv_ifnonnull hx hb d ht (k1 (fun h => by cases h))) h1 (fun h => h2 (Classical.not_not.mp h))
theorem kr_tableOut {dflt lo hi : Int} {offs : Array Int} {len : Nat} {x : Int32} (tgt : Nat) (d : decode md.2.1 pc = .ok (.tableswitch dflt lo hi offs, len)) (hc : x.toInt < lo ∨ hi < x.toInt) (ht : (pc : Int) + dflt = (tgt : Int)) (h : xWg l g md mc ms tgt L st cs M K) : xWg l g md mc ms pc L (.int x :: st) cs M K := xWg.lift (fun _ _ _ _ _ _ _ _ _ _ _ _ _ _ _ hx hb _ k => lv_tableOut hx hb d hc ht k) h
theorem kr_tableIn {dflt lo hi : Int} {offs : Array Int} {len : Nat} {x : Int32} {off : Int} (tgt : Nat) (d : decode md.2.1 pc = .ok (.tableswitch dflt lo hi offs, len)) (h1 : ¬ x.toInt < lo) (h2 : ¬ hi < x.toInt) (ho : offs[(x.toInt - lo).toNat]? = some off) (ht : (pc : Int) + off = (tgt : Int)) (h : xWg l g md mc ms tgt L st cs M K) : xWg l g md mc ms pc L (.int x :: st) cs M K := xWg.lift (fun _ _ _ _ _ _ _ _ _ _ _ _ _ _ _ hx hb _ k => lv_tableIn hx hb d h1 h2 ho ht k) h
theorem kr_get {a i ci k : Nat} (t : Nat) (d : decode md.2.1 pc = .ok (.getfield i, 3)) (hf : xFl md.1.cls i ci k t) (ha : a ∈ xL M) (hk : xK M a = ci) (h : xWg l g md mc ms (pc + 3) L (xV M a k t :: st) cs M K) : xWg l g md mc ms pc L (va_rf (some a) :: st) cs M K := fun p e R s m args below meth c A H locs Z ls hF hE hP hS hl => by
  obtain ⟨C, T, N, h1, h2, h3, h4, h5, h6⟩ := hf
  obtain ⟨q, hq⟩ := xW_get g ha
  rw [xE_obj g hk h2] at hq
  exact va_get (D := g.1) (ci := ci) (C := C) (T := T) (N := N) hF.1 hF.2.1 hF.2.2.2.2.1 h4 hF.2.2.2.1 hF.2.2.2.2.2.1 hP.1 q hq h1 k h3 (hF.2.2.2.2.1 _ h5) (fun _ h9 => h9) (xFs_get M a _ k t h6) d (h p e R s m args below meth c A H locs Z ls hF hE hP hS hl)
theorem kr_getN {a : Nat} (d : decode md.2.1 pc = .ok (.getfield 27, 3)) (ho : md.1.cls = "RadixPages$Disk") (hin : ∀ w ∈ u_ws RX5 TX5 1, w ∈ gl) (ha : a ∈ xL M) (hk : xK M a = 2) (h : xWg l g md mc ms (pc + 3) L (va_rf (xR M a 0) :: st) cs M K) : xWg l g md mc ms pc L (va_rf (some a) :: st) cs M K := fun p e R s m args below meth c A H locs Z ls hF hE hP hS hl => by
  obtain ⟨q, hq⟩ := xW_get g ha
  rw [xE_obj g hk (by decide)] at hq
  exact va_getN (D := g.1) (ci := 2) (C := RX5) (T := TX5) (N := 1) hF.1 hF.2.1 hF.2.2.2.2.1 hin hF.2.2.2.1 hF.2.2.2.2.2.1 hP.1 q hq rfl 0 (by decide) (ref := "RadixPages$Row") (host := "RadixPages") (by rw [ho]; exact va_Nw.use rfl hF.2.2.2.2.2.2.2.2.2.2.2.2.2.2.2.2.1) (fun _ h9 => h9) (xFs_get M a _ 0 2 rfl) d (h p e R s m args below meth c A H locs Z ls hF hE hP hS hl)
theorem kr_putG {a i ci k t : Nat} {ty : FieldType} {v : Value} (M1 : xM) (d : decode md.2.1 pc = .ok (.putfield i, 3)) (hf : xFp false md.1.cls i ci k t ty) (ha : a ∈ xL M) (hk : xK M a = ci) (hn : narrow ty v = v) (hfit : fits ty v = true) (hL : xL M1 = xL M) (hK1 : xK M1 = xK M) (hv : xV M1 a k t = v) (ho : ∀ j u, j ≠ k → xV M1 a j u = xV M a j u) (hO : ∀ b, b ≠ a → xE g M1 b = xE g M b) (h : xWg l g md mc ms (pc + 3) L st cs M1 K) : xWg l g md mc ms pc L (v :: va_rf (some a) :: st) cs M K := fun p e R s m args below meth c A H locs Z ls hF hE hP hS hl => by
  obtain ⟨C, T, N, ty0, h1, h2, h3, h4, h5, h6, h7, h8, h9, h10, -⟩ := hf
  obtain ⟨q, hq⟩ := xW_get g ha
  have hq' := hq
  rw [xE_obj g hk h2] at hq'
  have hset : (xW g M).set q (a, .inr (ci, (xFs M a (xF ci)).set k v)) = xW g M1 := xW_set g hP.2 ha hq hL (by rw [xE_obj g (by rw [hK1]; exact hk) h2, xFs_set M M1 a (xF ci) k t v h6 hv (fun j u hj _ => ho j u hj)]) hO
  refine va_put (D := g.1) (ci := ci) (C := C) (T := T) (N := N) hF.1 hF.2.1 hF.2.2.2.2.1 h4 ty0 h7 h8 hF.2.2.2.1 hF.2.2.2.2.2.1 hP.1 hP.2 hS q hq' h1 k h3 (hF.2.2.2.2.1 _ h5) (fun _ z => z) h9 h10 hn hfit (by rw [xFs_len]; exact (List.getElem?_eq_some_iff.mp h6).1) d (fun H1 locs1 hP1 hD1 hS1 => ?_)
  rw [hset] at hP1 hD1
  exact h p e R s m args below meth c A H1 locs1 Z ls hF hE ⟨hP1, hD1⟩ hS1 hl
theorem kr_putGF {a i ci k t : Nat} {ty : FieldType} {v : Value} (M1 : xM) (d : decode md.2.1 pc = .ok (.putfield i, 3)) (hi : md.1.name = "<init>") (hf : xFp true md.1.cls i ci k t ty) (ha : a ∈ xL M) (hk : xK M a = ci) (hn : narrow ty v = v) (hfit : fits ty v = true) (hL : xL M1 = xL M) (hK1 : xK M1 = xK M) (hv : xV M1 a k t = v) (ho : ∀ j u, j ≠ k → xV M1 a j u = xV M a j u) (hO : ∀ b, b ≠ a → xE g M1 b = xE g M b) (h : xWg l g md mc ms (pc + 3) L st cs M1 K) : xWg l g md mc ms pc L (v :: va_rf (some a) :: st) cs M K := fun p e R s m args below meth c A H locs Z ls hF hE hP hS hl => by
  obtain ⟨C, T, N, ty0, h1, h2, h3, h4, h5, h6, h7, h8, h9, h10, h11⟩ := hf
  obtain ⟨q, hq⟩ := xW_get g ha
  have hq' := hq
  rw [xE_obj g hk h2] at hq'
  have hset : (xW g M).set q (a, .inr (ci, (xFs M a (xF ci)).set k v)) = xW g M1 := xW_set g hP.2 ha hq hL (by rw [xE_obj g (by rw [hK1]; exact hk) h2, xFs_set M M1 a (xF ci) k t v h6 hv (fun j u hj _ => ho j u hj)]) hO
  refine va_putF (D := g.1) (ci := ci) (C := C) (T := T) (N := N) hF.1 hF.2.1 hF.2.2.2.2.1 h4 ty0 h7 h8 hF.2.2.2.1 hF.2.2.2.2.2.1 hP.1 hP.2 hS q hq' h1 k h3 (hF.2.2.2.2.1 _ h5) (fun _ z => z) h9 (hF.2.2.2.2.2.2.2.2.1.trans hi) (h11 rfl) h10 hn hfit (by rw [xFs_len]; exact (List.getElem?_eq_some_iff.mp h6).1) d (fun H1 locs1 hP1 hD1 hS1 => ?_)
  rw [hset] at hP1 hD1
  exact h p e R s m args below meth c A H1 locs1 Z ls hF hE ⟨hP1, hD1⟩ hS1 hl
theorem kr_putI {a i ci k : Nat} {x : Int32} (d : decode md.2.1 pc = .ok (.putfield i, 3)) (hf : xFp false md.1.cls i ci k 0 .int) (ha : a ∈ xL M) (hk : xK M a = ci) (h : xWg l g md mc ms (pc + 3) L st cs (xsI M a k x) K) : xWg l g md mc ms pc L (.int x :: va_rf (some a) :: st) cs M K :=
  kr_putG (xsI M a k x) d hf ha hk rfl rfl rfl rfl (by simp [xV, xI_sI]) (fun j u hj => xV_sI M a k x a j u (Or.inr hj)) (fun b hb => xE_sI_ne g M a k x b hb) h
theorem kr_putZ {a i ci k : Nat} {x : Int32} (d : decode md.2.1 pc = .ok (.putfield i, 3)) (hf : xFp false md.1.cls i ci k 3 .boolean) (ha : a ∈ xL M) (hk : xK M a = ci) (hx : x = 0 ∨ x = 1) (h : xWg l g md mc ms (pc + 3) L st cs (xsI M a k x) K) : xWg l g md mc ms pc L (.int x :: va_rf (some a) :: st) cs M K :=
  kr_putG (xsI M a k x) d hf ha hk (by rcases hx with rfl | rfl <;> rfl) (by rcases hx with rfl | rfl <;> rfl) rfl rfl (by simp [xV, xI_sI]) (fun j u hj => xV_sI M a k x a j u (Or.inr hj)) (fun b hb => xE_sI_ne g M a k x b hb) h
theorem kr_putJ {a i ci k : Nat} {x : Int64} (d : decode md.2.1 pc = .ok (.putfield i, 3)) (hf : xFp false md.1.cls i ci k 1 .long) (ha : a ∈ xL M) (hk : xK M a = ci) (h : xWg l g md mc ms (pc + 3) L st cs (xsJ M a k x) K) : xWg l g md mc ms pc L (.long x :: va_rf (some a) :: st) cs M K :=
  kr_putG (xsJ M a k x) d hf ha hk rfl rfl rfl rfl (by simp [xV, xJ_sJ]) (fun j u hj => xV_sJ M a k x a j u (Or.inr hj)) (fun b hb => xE_sJ_ne g M a k x b hb) h
theorem kr_putR {a i ci k : Nat} {n : String} {x : Option Nat} (d : decode md.2.1 pc = .ok (.putfield i, 3)) (hf : xFp false md.1.cls i ci k 2 (.object n)) (ha : a ∈ xL M) (hk : xK M a = ci) (h : xWg l g md mc ms (pc + 3) L st cs (xsR M a k x) K) : xWg l g md mc ms pc L (va_rf x :: va_rf (some a) :: st) cs M K :=
  kr_putG (xsR M a k x) d hf ha hk (by cases x <;> rfl) (by cases x <;> rfl) rfl rfl (by simp [xV, xR_sR]) (fun j u hj => xV_sR M a k x a j u (Or.inr hj)) (fun b hb => xE_sR_ne g M a k x b hb) h
theorem kr_putRF {a i ci k : Nat} {ty : FieldType} {x : Option Nat} (d : decode md.2.1 pc = .ok (.putfield i, 3)) (hi : md.1.name = "<init>") (hf : xFp true md.1.cls i ci k 2 ty) (ht : (∃ n, ty = .object n) ∨ ∃ n, ty = .array n) (ha : a ∈ xL M) (hk : xK M a = ci) (h : xWg l g md mc ms (pc + 3) L st cs (xsR M a k x) K) : xWg l g md mc ms pc L (va_rf x :: va_rf (some a) :: st) cs M K :=
  kr_putGF (xsR M a k x) d hi hf ha hk (by rcases ht with ⟨n, rfl⟩ | ⟨n, rfl⟩ <;> cases x <;> rfl) (by rcases ht with ⟨n, rfl⟩ | ⟨n, rfl⟩ <;> cases x <;> rfl) rfl rfl (by simp [xV, xR_sR]) (fun j u hj => xV_sR M a k x a j u (Or.inr hj)) (fun b hb => xE_sR_ne g M a k x b hb) h
theorem kr_iald {a : Nat} {i : Int32} (j : Nat) (d : decode md.2.1 pc = .ok (.iaload, 1)) (ha : a ∈ xL M) (hk : xK M a = 9) (hi : i = nI j) (hj : j < xN M a) (hn : xN M a < 2 ^ 31) (h : xWg l g md mc ms (pc + 1) L (.int (xI M a j) :: st) cs M K) : xWg l g md mc ms pc L (.int i :: va_rf (some a) :: st) cs M K := fun p e R s m args below meth c A H locs Z ls hF hE hP hS hl => by
  obtain ⟨q, hq⟩ := xW_get g ha
  rw [xE_arr g hk (by decide), xArI hk (by decide) (by decide)] at hq
  subst hi
  refine va_iald (D := g.1) hF.1 hF.2.1 hF.2.2.2.2.2.1 hP.1 q 1 hq rfl (vp_in_nI hj hn) d ?_
  rw [nI_clamp (by omega)]
  exact h p e R s m args below meth c A H locs Z ls hF hE hP hS hl
theorem kr_bald {a : Nat} {i : Int32} (j : Nat) (d : decode md.2.1 pc = .ok (.baload, 1)) (ha : a ∈ xL M) (hk : xK M a = 8) (hi : i = nI j) (hj : j < xN M a) (hn : xN M a < 2 ^ 31) (h : xWg l g md mc ms (pc + 1) L (.int (xI M a j) :: st) cs M K) : xWg l g md mc ms pc L (.int i :: va_rf (some a) :: st) cs M K := fun p e R s m args below meth c A H locs Z ls hF hE hP hS hl => by
  obtain ⟨q, hq⟩ := xW_get g ha
  rw [xE_arr g hk (by decide), xArI hk (by decide) (by decide)] at hq
  subst hi
  refine va_bald (D := g.1) hF.1 hF.2.1 hF.2.2.2.2.2.1 hP.1 q 0 hq rfl (vp_in_nI hj hn) d ?_
  rw [nI_clamp (by omega)]
  exact h p e R s m args below meth c A H locs Z ls hF hE hP hS hl
theorem kr_zald {a : Nat} {i : Int32} (j : Nat) (d : decode md.2.1 pc = .ok (.baload, 1)) (ha : a ∈ xL M) (hk : xK M a = 11) (hi : i = nI j) (hj : j < xN M a) (hn : xN M a < 2 ^ 31) (h : xWg l g md mc ms (pc + 1) L (.int (xI M a j) :: st) cs M K) : xWg l g md mc ms pc L (.int i :: va_rf (some a) :: st) cs M K := fun p e R s m args below meth c A H locs Z ls hF hE hP hS hl => by
  obtain ⟨q, hq⟩ := xW_get g ha
  rw [xE_arr g hk (by decide), xArI hk (by decide) (by decide)] at hq
  subst hi
  refine va_zald (D := g.1) hF.1 hF.2.1 hF.2.2.2.2.2.1 hP.1 q 3 hq rfl (vp_in_nI hj hn) d ?_
  rw [nI_clamp (by omega)]
  exact h p e R s m args below meth c A H locs Z ls hF hE hP hS hl
theorem kr_lald {a : Nat} {i : Int32} (j : Nat) (d : decode md.2.1 pc = .ok (.laload, 1)) (ha : a ∈ xL M) (hk : xK M a = 10) (hi : i = nI j) (hj : j < xN M a) (hn : xN M a < 2 ^ 31) (h : xWg l g md mc ms (pc + 1) L (.long (xJ M a j) :: st) cs M K) : xWg l g md mc ms pc L (.int i :: va_rf (some a) :: st) cs M K := fun p e R s m args below meth c A H locs Z ls hF hE hP hS hl => by
  obtain ⟨q, hq⟩ := xW_get g ha
  rw [xE_arr g hk (by decide), xArJ hk] at hq
  subst hi
  refine va_lald (D := g.1) hF.1 hF.2.1 hF.2.2.2.2.2.1 hP.1 q 2 hq rfl (vp_in_nI hj hn) d ?_
  rw [nI_clamp (by omega)]
  exact h p e R s m args below meth c A H locs Z ls hF hE hP hS hl
theorem kr_aald {a : Nat} {i : Int32} (j : Nat) (d : decode md.2.1 pc = .ok (.aaload, 1)) (ha : a ∈ xL M) (hk : xK M a = 12) (hi : i = nI j) (hj : j < xN M a) (hn : xN M a < 2 ^ 31) (h : xWg l g md mc ms (pc + 1) L (va_rf (xR M a j) :: st) cs M K) : xWg l g md mc ms pc L (.int i :: va_rf (some a) :: st) cs M K := fun p e R s m args below meth c A H locs Z ls hF hE hP hS hl => by
  obtain ⟨q, hq⟩ := xW_get g ha
  rw [xE_arr g hk (by decide), xArR hk] at hq
  subst hi
  refine va_aldq (D := g.1) hF.1 hF.2.1 hF.2.2.2.2.2.1 hP.1 q 4 hq rfl (vp_in_nI hj hn) d ?_
  rw [nI_clamp (by omega)]
  exact h p e R s m args below meth c A H locs Z ls hF hE hP hS hl
theorem kr_alen {a kd t : Nat} {ty : FieldType} (d : decode md.2.1 pc = .ok (.arraylength, 1)) (ha : a ∈ xL M) (hk : xK M a = kd) (h8 : ¬ kd < 8) (ht : ∀ g : xG, (xTy g)[t]? = some (g.2.1 kd, ty)) (h : xWg l g md mc ms (pc + 1) L (.int (nI (xN M a)) :: st) cs M K) : xWg l g md mc ms pc L (va_rf (some a) :: st) cs M K := fun p e R s m args below meth c A H locs Z ls hF hE hP hS hl => by
  obtain ⟨q, hq⟩ := xW_get g ha
  rw [xE_arr g hk h8] at hq
  exact va_alen (D := g.1) hF.1 hF.2.1 hF.2.2.2.2.2.1 hP.1 q t hq (ht g) rfl d (h p e R s m args below meth c A H locs Z ls hF hE hP hS hl)
theorem kr_iast {a : Nat} {i x : Int32} (j : Nat) (d : decode md.2.1 pc = .ok (.iastore, 1)) (ha : a ∈ xL M) (hk : xK M a = 9) (hi : i = nI j) (hj : j < xN M a) (hn : xN M a < 2 ^ 31) (h : xWg l g md mc ms (pc + 1) L st cs (xsI M a j x) K) : xWg l g md mc ms pc L (.int x :: .int i :: va_rf (some a) :: st) cs M K := fun p e R s m args below meth c A H locs Z ls hF hE hP hS hl => by
  obtain ⟨q, hq⟩ := xW_get g ha
  have hq' := hq
  rw [xE_arr g hk (by decide), xArI hk (by decide) (by decide)] at hq'
  subst hi
  have hset : (xW g M).set q (a, .inl (g.2.1 9, xN M a, .inl (upd (xI M a) j x))) = xW g (xsI M a j x) := xW_set g hP.2 ha hq rfl (by rw [xE_arr g (M := xsI M a j x) hk (by decide), xArI (M := xsI M a j x) hk (by decide) (by decide), xupd_I]; rfl) (fun b hb => xE_sI_ne g M a j x b hb)
  refine va_iast (D := g.1) hF.1 hF.2.1 hF.2.2.2.2.2.1 hP.1 hP.2 hS q 1 hq' rfl (vp_in_nI hj hn) d (fun H1 locs1 hP1 hD1 hS1 => ?_)
  rw [nI_clamp (by omega), hset] at hP1 hD1
  exact h p e R s m args below meth c A H1 locs1 Z ls hF hE ⟨hP1, hD1⟩ hS1 hl
theorem kr_bast {a : Nat} {i x : Int32} (j : Nat) (d : decode md.2.1 pc = .ok (.bastore, 1)) (ha : a ∈ xL M) (hk : xK M a = 8) (hi : i = nI j) (hj : j < xN M a) (hn : xN M a < 2 ^ 31) (h : xWg l g md mc ms (pc + 1) L st cs (xsI M a j x.toInt8.toInt32) K) : xWg l g md mc ms pc L (.int x :: .int i :: va_rf (some a) :: st) cs M K := fun p e R s m args below meth c A H locs Z ls hF hE hP hS hl => by
  obtain ⟨q, hq⟩ := xW_get g ha
  have hq' := hq
  rw [xE_arr g hk (by decide), xArI hk (by decide) (by decide)] at hq'
  subst hi
  have hset : (xW g M).set q (a, .inl (g.2.1 8, xN M a, .inl (upd (xI M a) j x.toInt8.toInt32))) = xW g (xsI M a j x.toInt8.toInt32) := xW_set g hP.2 ha hq rfl (by rw [xE_arr g (M := xsI M a j _) hk (by decide), xArI (M := xsI M a j _) hk (by decide) (by decide), xupd_I]; rfl) (fun b hb => xE_sI_ne g M a j _ b hb)
  refine va_bast (D := g.1) hF.1 hF.2.1 hF.2.2.2.2.2.1 hP.1 hP.2 hS q 0 hq' rfl (vp_in_nI hj hn) d (fun H1 locs1 hP1 hD1 hS1 => ?_)
  rw [vp_nar_byte, nI_clamp (by omega), hset] at hP1 hD1
  exact h p e R s m args below meth c A H1 locs1 Z ls hF hE ⟨hP1, hD1⟩ hS1 hl
theorem kr_zast {a : Nat} {i x : Int32} (j : Nat) (d : decode md.2.1 pc = .ok (.bastore, 1)) (ha : a ∈ xL M) (hk : xK M a = 11) (hi : i = nI j) (hj : j < xN M a) (hn : xN M a < 2 ^ 31) (h : xWg l g md mc ms (pc + 1) L st cs (xsI M a j (x &&& 1)) K) : xWg l g md mc ms pc L (.int x :: .int i :: va_rf (some a) :: st) cs M K := fun p e R s m args below meth c A H locs Z ls hF hE hP hS hl => by
  obtain ⟨q, hq⟩ := xW_get g ha
  have hq' := hq
  rw [xE_arr g hk (by decide), xArI hk (by decide) (by decide)] at hq'
  subst hi
  have hset : (xW g M).set q (a, .inl (g.2.1 11, xN M a, .inl (upd (xI M a) j (x &&& 1)))) = xW g (xsI M a j (x &&& 1)) := xW_set g hP.2 ha hq rfl (by rw [xE_arr g (M := xsI M a j _) hk (by decide), xArI (M := xsI M a j _) hk (by decide) (by decide), xupd_I]; rfl) (fun b hb => xE_sI_ne g M a j _ b hb)
  refine va_zast (D := g.1) hF.1 hF.2.1 hF.2.2.2.2.2.1 hP.1 hP.2 hS q 3 hq' rfl (vp_in_nI hj hn) d (fun H1 locs1 hP1 hD1 hS1 => ?_)
  have hb : vp_nar .boolean x = x &&& 1 := rfl
  rw [hb, nI_clamp (by omega), hset] at hP1 hD1
  exact h p e R s m args below meth c A H1 locs1 Z ls hF hE ⟨hP1, hD1⟩ hS1 hl
theorem kr_last {a : Nat} {i : Int32} {x : Int64} (j : Nat) (d : decode md.2.1 pc = .ok (.lastore, 1)) (ha : a ∈ xL M) (hk : xK M a = 10) (hi : i = nI j) (hj : j < xN M a) (hn : xN M a < 2 ^ 31) (h : xWg l g md mc ms (pc + 1) L st cs (xsJ M a j x) K) : xWg l g md mc ms pc L (.long x :: .int i :: va_rf (some a) :: st) cs M K := fun p e R s m args below meth c A H locs Z ls hF hE hP hS hl => by
  obtain ⟨q, hq⟩ := xW_get g ha
  have hq' := hq
  rw [xE_arr g hk (by decide), xArJ hk] at hq'
  subst hi
  have hset : (xW g M).set q (a, .inl (g.2.1 10, xN M a, .inr (.inl (vp_updL (xJ M a) j x)))) = xW g (xsJ M a j x) := xW_set g hP.2 ha hq rfl (by rw [xE_arr g (M := xsJ M a j x) hk (by decide), xArJ (M := xsJ M a j x) hk, xupd_J]; rfl) (fun b hb => xE_sJ_ne g M a j x b hb)
  refine va_last (D := g.1) hF.1 hF.2.1 hF.2.2.2.2.2.1 hP.1 hP.2 hS q 2 hq' rfl (vp_in_nI hj hn) d (fun H1 locs1 hP1 hD1 hS1 => ?_)
  rw [nI_clamp (by omega), hset] at hP1 hD1
  exact h p e R s m args below meth c A H1 locs1 Z ls hF hE ⟨hP1, hD1⟩ hS1 hl
theorem kr_aast {a b : Nat} {i : Int32} (j : Nat) (d : decode md.2.1 pc = .ok (.aastore, 1)) (ha : a ∈ xL M) (hk : xK M a = 12) (hb : b ∈ xL M) (hkb : xK M b = 1) (hi : i = nI j) (hj : j < xN M a) (hn : xN M a < 2 ^ 31) (h : xWg l g md mc ms (pc + 1) L st cs (xsR M a j (some b)) K) : xWg l g md mc ms pc L (va_rf (some b) :: .int i :: va_rf (some a) :: st) cs M K := fun p e R s m args below meth c A H locs Z ls hF hE hP hS hl => by
  obtain ⟨q, hq⟩ := xW_get g ha
  obtain ⟨q2, hq2⟩ := xW_get g hb
  rw [xE_obj g hkb (by decide)] at hq2
  have hq' := hq
  rw [xE_arr g hk (by decide), xArR hk] at hq'
  subst hi
  have hset : (xW g M).set q (a, .inl (g.2.1 12, xN M a, .inr (.inr (.inr (.inr (va_up (xR M a) j (some b))))))) = xW g (xsR M a j (some b)) := xW_set g hP.2 ha hq rfl (by rw [xE_arr g (M := xsR M a j _) hk (by decide), xArR (M := xsR M a j _) hk, xupd_R]; rfl) (fun b' hb' => xE_sR_ne g M a j _ b' hb')
  refine va_astq (D := g.1) hF.1 hF.2.1 hF.2.2.2.2.2.1 hP.1 hP.2 hS q 4 q2 1 (r := (RX3, TX3, 13)) hq' rfl hq2 rfl (vp_in_nI hj hn) d (fun H1 locs1 hP1 hD1 hS1 => ?_)
  rw [nI_clamp (by omega), hset] at hP1 hD1
  exact h p e R s m args below meth c A H1 locs1 Z ls hF hE ⟨hP1, hD1⟩ hS1 hl
theorem kr_new {i ci N : Nat} (d : decode md.2.1 pc = .ok (.new i, 3)) (hc : xCn md.1.cls i ci N) (hm : cs.1 + 1 ≤ mc ∧ cs.2 + N ≤ ms) (h : ∀ q, q ∉ xL M → xWg l g md mc ms (pc + 3) L (va_rf (some q) :: st) (cs.1 + 1, cs.2 + N) (xnew M q ci 0) K) : xWg l g md mc ms pc L st cs M K := fun p e R s m args below meth c A H locs Z ls hF hE hP hS hl => by
  obtain ⟨C, T, ty, h1, h2, h3, h4, h5, h6, h7, h8⟩ := hc
  obtain ⟨r1, r2, r3, r4⟩ := hF.2.2.2.2.2.2.2.2.2.2.1
  refine va_new (D := g.1) (ci := ci) (C := C) (T := T) (N := N) hF.1 hF.2.1 hF.2.2.2.2.1 h3 ty h4 hF.2.2.2.1 (hF.2.2.2.2.1 _ h6) (hF.2.2.2.2.1 _ h7) (hF.2.2.2.2.1 _ h8) hF.2.2.2.2.2.1 hP.1 hP.2 hS hF.2.2.2.2.2.2.2.2.2.1 h1 h5 (Nat.le_trans hm.1 r3) (Nat.le_trans hm.2 r4) d (fun q H1 hP1 hD1 hS1 => ?_)
  have hq : q ∉ xL M := va_pl_fresh2 (X := []) (f := xE g M) hD1
  rw [xW_push g M q ci 0 hq (by rw [xE_obj g (M := xnew M q ci 0) (ci := ci) (by rw [xK_new, if_pos rfl]) h2, xFs_new])] at hP1 hD1
  exact h q hq p e R s m args below meth c A H1 locs Z ls hF hE ⟨hP1, hD1⟩ hS1 hl
theorem kr_newa {atype : ArrayType} {ty : FieldType} {kd t n : Nat} {x : Int32} (d : decode md.2.1 pc = .ok (.newarray atype, 2)) (hty : newarray.typeOf atype = ty) (hw : Cond.arrayClass (newarray.typeOf atype) ∈ gl) (ht : ∀ g : xG, (xTy g)[t]? = some (g.2.1 kd, ty)) (h8 : ¬ kd < 8) (h12 : kd ≠ 12) (hdv : defaultValue ty = if kd = 10 then .long 0 else .int 0) (hx : x = nI n) (hn : n < 1000000) (hcb : componentBytes ty ≤ 8) (hm : cs.1 + 1 ≤ mc ∧ cs.2 + n ≤ ms) (h : ∀ q, q ∉ xL M → xWg l g md mc ms (pc + 2) L (va_rf (some q) :: st) (cs.1 + 1, cs.2 + n) (xnew M q kd n) K) : xWg l g md mc ms pc L (.int x :: st) cs M K := fun p e R s m args below meth c A H locs Z ls hF hE hP hS hl => by
  obtain ⟨r1, r2, r3, r4⟩ := hF.2.2.2.2.2.2.2.2.2.2.1
  subst hx
  have hcl : (nI n).toNatClampNeg = n := nI_clamp (by omega)
  refine va_newa (D := g.1) hF.1 hF.2.1 (hF.2.2.2.2.1 _ hw) hty hF.2.2.2.2.2.1 hP.1 hP.2 hS hF.2.2.2.2.2.2.2.2.2.1 (N' := n) (a0 := (n, if kd = 10 then .inr (.inl (fun _ => 0)) else .inl (fun _ => 0))) ?_ (nI_pos (by omega)) hcl ?_ (Nat.le_trans hm.1 r3) (Nat.le_trans hm.2 r4) d (fun q cA H1 hK1 hP1 hD1 hS1 => ?_)
  · intro cA
    rw [hdv]
    by_cases h10 : kd = 10
    · simp only [h10, if_true]; rfl
    · simp only [if_neg h10]; rfl
  · calc n * componentBytes ty ≤ n * 8 := Nat.mul_le_mul_left _ hcb
      _ ≤ 536870912 := by omega
  · have hq : q ∉ xL M := va_pl_fresh2 (X := []) (f := xE g M) hD1
    have hcA : cA = g.2.1 kd := xcA_eq (tys := []) hF.2.2.2.2.2.1 (ht g) hK1
    subst hcA
    rw [xW_push g M q kd n hq (by
      rw [xE_arr g (M := xnew M q kd n) (ci := kd) (by rw [xK_new, if_pos rfl]) h8]
      have e1 : xI (xnew M q kd n) q = fun _ => 0 := funext fun j => by rw [xI_new, if_pos rfl]
      have e2 : xJ (xnew M q kd n) q = fun _ => 0 := funext fun j => by rw [xJ_new, if_pos rfl]
      have e3 : xK (xnew M q kd n) q = kd := by rw [xK_new, if_pos rfl]
      have e4 : xN (xnew M q kd n) q = n := by rw [xN_new, if_pos rfl]
      simp only [xAr, e1, e2, e3, e4, if_neg h12])] at hP1 hD1
    exact h q hq p e R s m args below meth c A H1 locs Z ls hF hE ⟨hP1, hD1⟩ hS1 hl
theorem kr_newq {i n : Nat} {x : Int32} (d : decode md.2.1 pc = .ok (.anewarray i, 3)) (hw : Cond.classLink md.1.cls i "RadixPages$Node" ∈ gl) (hx : x = nI n) (hn : n < 1000000) (hm : cs.1 + 1 ≤ mc ∧ cs.2 + n ≤ ms) (h : ∀ q, q ∉ xL M → xWg l g md mc ms (pc + 3) L (va_rf (some q) :: st) (cs.1 + 1, cs.2 + n) (xnew M q 12 n) K) : xWg l g md mc ms pc L (.int x :: st) cs M K := fun p e R s m args below meth c A H locs Z ls hF hE hP hS hl => by
  obtain ⟨r1, r2, r3, r4⟩ := hF.2.2.2.2.2.2.2.2.2.2.1
  subst hx
  have hcl : (nI n).toNatClampNeg = n := nI_clamp (by omega)
  refine va_newq (D := g.1) hF.1 hF.2.1 hF.2.2.2.1 (hF.2.2.2.2.1 _ hw) hF.2.2.2.2.2.2.2.2.2.2.2.2.2.2.2.2.2 hF.2.2.2.2.2.1 hP.1 hP.2 hS hF.2.2.2.2.2.2.2.2.2.1 (nI_pos (by omega)) hcl (by omega) (Nat.le_trans hm.1 r3) (Nat.le_trans hm.2 r4) d (fun q cA H1 hK1 hP1 hD1 hS1 => ?_)
  have hq : q ∉ xL M := va_pl_fresh2 (X := []) (f := xE g M) hD1
  have hcA : cA = g.2.1 12 := xcA_eq (tys := []) (t := 4) hF.2.2.2.2.2.1 rfl hK1
  subst hcA
  rw [xW_push g M q 12 n hq (by
    rw [xE_arr g (M := xnew M q 12 n) (ci := 12) (by rw [xK_new, if_pos rfl]) (by decide)]
    have e1 : xR (xnew M q 12 n) q = fun _ => none := funext fun j => by rw [xR_new, if_pos rfl]
    have e3 : xK (xnew M q 12 n) q = 12 := by rw [xK_new, if_pos rfl]
    have e4 : xN (xnew M q 12 n) q = n := by rw [xN_new, if_pos rfl]
    simp only [xAr, e1, e3, e4]
    rfl)] at hP1 hD1
  exact h q hq p e R s m args below meth c A H1 locs Z ls hF hE ⟨hP1, hD1⟩ hS1 hl
theorem kr_obj {i a : Nat} (d : decode md.2.1 pc = .ok (.invokespecial i, 3)) (h1 : Cond.methodLink md.1.cls i objectInit ∈ gl) (h2 : Cond.instanceMethod objectInit ∈ gl) (h3 : Cond.code objectInit ⟨#[0xb1]⟩ 1 none ∈ gl) (hf : 1 ≤ md.2.2.2.2.1) (hw : (st.map fun v => v.category).sum + 12 ≤ md.2.2.2.2.2) (h : xWg l g md mc ms (pc + 3) L st cs M K) : xWg l g md mc ms pc L (va_rf (some a) :: st) cs M K := fun p e R s m args below meth c A H locs Z ls hF hE hP hS hl => by
  obtain ⟨r1, r2, r3, r4⟩ := hF.2.2.2.2.2.2.2.2.2.2.1
  exact W.objInit hF.1 hF.2.1 hF.2.2.2.1 (hF.2.2.2.2.1 _ h1) (hF.2.2.2.2.1 _ h2) (hF.2.2.2.2.1 _ h3) rfl (by rw [hF.2.2.1]; exact hl.1) (a := a) (rest := st) rfl d (Nat.le_trans hf r1) (by show 2 * 0 + _ + 12 ≤ _; omega) (h p e R s m args below meth c A H locs Z ls hF hE hP hS hl)
theorem xWg.run {mc2 ms2 : Nat} {st0 : List Value} {Q0 : Option Value → xM → Prop} {av : Array Value} {p : Program} {e : Env} {R : Room} {s : State} {m : MethodId} {args : Array Value} {below : List Frame} {meth : Method} {c : Code} {A : Nat → Prop} {H : Heap} {locs : List Loc} {Z : State → Prop} {ls : Array Slot}
    (hr : va_Run p l e R s m args below meth c H locs cs.1 cs.2 mc2 ms2 (F0 m pc ls st0) st (xPost g M H.size Q0 av) (va_A (xW g M) H.size))
    (hF : xFix g md mc ms p R s m args meth c A) (hE : K p e R s m args below meth c A Z) (hP : xP g A M H) (hS : va_S A s.heap H locs) (hl : xLr ls md.2.2.1 L)
    (h : ∀ r M1, Q0 r M1 → xWg l g md mc ms (pc + 3) L (r.toList ++ st) (cs.1 + mc2, cs.2 + ms2) M1 K) : W p l e R s m args below meth c H locs cs.1 cs.2 Z (F0 m pc ls st0) := by
  have hfree : ∀ q, va_A (xW g M) H.size q → A q := fun q hq => by
    rcases hq with ⟨k, e0, h1⟩ | h1
    · exact hP.2.2 k (q, e0) h1
    · exact hF.2.2.2.2.2.2.2.2.2.1 q (Nat.le_trans hS.1 h1)
  intro T hT X
  obtain ⟨v, st₀, t, T', L', h0, X', hL, e1, e2, ⟨⟨r, M1, hv, hq, hP1, hK1, hD1⟩, hz, hk⟩, stp⟩ := hr T hT X
  cases hv
  rw [h0] at hz hk
  have hS1 : va_S A s.heap T'.heap (locs ++ L') := ⟨Nat.le_trans hS.1 (by rw [e1]; exact hz), fun q h1 h2 => by rw [e1, hk q (Nat.lt_of_lt_of_le h1 hS.1) (fun z => h2 (hfree q z))]; exact hS.2.1 q h1 h2, fun q hq => by
      rcases List.mem_append.mp hq with z | z
      · exact hS.2.2 q z
      · exact hfree _ (hL q z)⟩
  obtain ⟨t2, a1, b1⟩ := h v M1 hq p e R s m args below meth c A T'.heap (locs ++ L') Z ls hF hE ⟨by rw [e1]; exact hP1, hD1.weaken (fun _ _ _ z => hfree _ z)⟩ hS1 hl T' rfl X'
  exact ⟨t2, stp t2 a1, b1⟩
theorem kr_callV {i ci : Nat} {md2 : xMd} {mc2 ms2 a : Nat} (As : List Value) {st0 : List Value} (d : decode md.2.1 pc = .ok (.invokevirtual i, 3)) (hc : xCv md i md2 As.length ci) (hst : st0 = As.reverse ++ va_rf (some a) :: st) (ha : a ∈ xL M) (hk : xK M a = ci) (hw : (st.map fun v => v.category).sum ≤ 8) (hm : cs.1 + mc2 ≤ mc ∧ cs.2 + ms2 ≤ ms)
    (h : xSp l g md2 mc2 ms2 (va_rf (some a) :: As) M (fun r M1 => xWg l g md mc ms (pc + 3) L (r.toList ++ st) (cs.1 + mc2, cs.2 + ms2) M1 K)) : xWg l g md mc ms pc L st0 cs M K := fun p e R s m args below meth c A H locs Z ls hF hE hP hS hl => by
  obtain ⟨Q0, h1, h2⟩ := h
  obtain ⟨⟨c1, c2, c3, c4, c5⟩, c6, c7, c8, c9, T, N, c10⟩ := hc
  obtain ⟨r1, r2, r3, r4⟩ := hF.2.2.2.2.2.2.2.2.2.2.1
  have hts := hF.2.2.2.2.1
  obtain ⟨q, hq⟩ := xW_get g ha
  rw [xE_obj g hk c9] at hq
  exact xWg.run (va_runV (As := As) (rest := st) ⟨hF.1, hF.2.1, hF.2.2.1, hF.2.2.2.1, hts⟩ (h2 H.size) ⟨callB_of (rm := xrm md2 mc2 ms2) As.length hts (xws_good c1) rfl rfl rfl (hts _ c2) (hts _ c6) c3 ⟨Nat.le_trans c4 r1, Nat.le_trans c5 r2⟩, hts _ c7, hts _ c8⟩ ⟨xPre_blind g M H.size _, va_recv hF.2.2.2.2.2.1 hP.1 c10 hq, fun U hU hW => ⟨rfl, xPre_of hF hP hS U hU hW⟩⟩ rfl rfl hl.1 hst (by show 2 * 0 + _ ≤ 8; omega) d ⟨Nat.le_trans hm.1 r3, Nat.le_trans hm.2 r4⟩) hF hE hP hS hl h1
theorem kr_callS {i : Nat} {md2 : xMd} {mc2 ms2 : Nat} (As : List Value) {st0 : List Value} (d : decode md.2.1 pc = .ok (.invokestatic i, 3)) (hc : xCs md i md2 As.length) (hst : st0 = As.reverse ++ st) (hw : (st.map fun v => v.category).sum ≤ 8) (hm : cs.1 + mc2 ≤ mc ∧ cs.2 + ms2 ≤ ms)
    (h : xSp l g md2 mc2 ms2 As M (fun r M1 => xWg l g md mc ms (pc + 3) L (r.toList ++ st) (cs.1 + mc2, cs.2 + ms2) M1 K)) : xWg l g md mc ms pc L st0 cs M K := fun p e R s m args below meth c A H locs Z ls hF hE hP hS hl => by
  obtain ⟨Q0, h1, h2⟩ := h
  obtain ⟨⟨c1, c2, c3, c4, c5⟩, c6, c7⟩ := hc
  obtain ⟨r1, r2, r3, r4⟩ := hF.2.2.2.2.2.2.2.2.2.2.1
  have hts := hF.2.2.2.2.1
  exact xWg.run (va_runS (As := As) (rest := st) ⟨hF.1, hF.2.1, hF.2.2.1, hF.2.2.2.1, hts⟩ (h2 H.size) ⟨callB_of (rm := xrm md2 mc2 ms2) As.length hts (xws_good c1) rfl rfl rfl (hts _ c2) (hts _ c6) c3 ⟨Nat.le_trans c4 r1, Nat.le_trans c5 r2⟩, hts _ c7⟩ ⟨xPre_blind g M H.size _, fun U hU hW => ⟨rfl, xPre_of hF hP hS U hU hW⟩⟩ rfl rfl hl.1 hst (by show 2 * 0 + _ ≤ 8; omega) d ⟨Nat.le_trans hm.1 r3, Nat.le_trans hm.2 r4⟩) hF hE hP hS hl h1
theorem kr_callI {i : Nat} {md2 : xMd} {mc2 ms2 a : Nat} (As : List Value) {st0 : List Value} (d : decode md.2.1 pc = .ok (.invokespecial i, 3)) (hc : xCi md i md2 As.length) (hst : st0 = As.reverse ++ va_rf (some a) :: st) (hw : (st.map fun v => v.category).sum ≤ 8) (hm : cs.1 + mc2 ≤ mc ∧ cs.2 + ms2 ≤ ms)
    (h : xSp l g md2 mc2 ms2 (va_rf (some a) :: As) M (fun r M1 => xWg l g md mc ms (pc + 3) L (r.toList ++ st) (cs.1 + mc2, cs.2 + ms2) M1 K)) : xWg l g md mc ms pc L st0 cs M K := fun p e R s m args below meth c A H locs Z ls hF hE hP hS hl => by
  obtain ⟨Q0, h1, h2⟩ := h
  obtain ⟨⟨c1, c2, c3, c4, c5⟩, c6, c7, c8, c9⟩ := hc
  obtain ⟨r1, r2, r3, r4⟩ := hF.2.2.2.2.2.2.2.2.2.2.1
  have hts := hF.2.2.2.2.1
  exact xWg.run (va_runI (As := As) (rest := st) (bytes := md2.2.1) (maxL := md2.2.2.1) ⟨hF.1, hF.2.1, hF.2.2.1, hF.2.2.2.1, hts⟩ (h2 H.size) ⟨by rw [← c9]; exact callB_of (rm := xrm md2 mc2 ms2) As.length hts (xws_good c1) rfl rfl rfl (hts _ c2) (hts _ c6) c3 ⟨Nat.le_trans c4 r1, Nat.le_trans c5 r2⟩, c7, hts _ c8⟩ ⟨xPre_blind g M H.size _, fun U hU hW => ⟨rfl, xPre_of hF hP hS U hU hW⟩⟩ rfl rfl hl.1 hst (by show 2 * 0 + _ ≤ 8; omega) d ⟨Nat.le_trans hm.1 r3, Nat.le_trans hm.2 r4⟩) hF hE hP hS hl h1
theorem kr_callVN {i ci : Nat} {md2 : xMd} {mc2 ms2 a : Nat} (As : List Value) {st0 : List Value} (d : decode md.2.1 pc = .ok (.invokevirtual i, 3)) (hc : xCvN md i md2 As.length ci) (hst : st0 = As.reverse ++ va_rf (some a) :: st) (ha : a ∈ xL M) (hk : xK M a = ci) (hw : (st.map fun v => v.category).sum ≤ 8) (hm : cs.1 + mc2 ≤ mc ∧ cs.2 + ms2 ≤ ms)
    (h : xSp l g md2 mc2 ms2 (va_rf (some a) :: As) M (fun r M1 => xWg l g md mc ms (pc + 3) L (r.toList ++ st) (cs.1 + mc2, cs.2 + ms2) M1 K)) : xWg l g md mc ms pc L st0 cs M K := fun p e R s m args below meth c A H locs Z ls hF hE hP hS hl => by
  obtain ⟨Q0, h1, h2⟩ := h
  obtain ⟨⟨c1, c2, c3, c4, c5⟩, c6, c7, c8, c9, T, N, c10⟩ := hc
  obtain ⟨r1, r2, r3, r4⟩ := hF.2.2.2.2.2.2.2.2.2.2.1
  have hts := hF.2.2.2.2.1
  obtain ⟨q, hq⟩ := xW_get g ha
  rw [xE_obj g hk c9] at hq
  exact xWg.run (va_runVN (As := As) (rest := st) ⟨hF.1, hF.2.1, hF.2.2.1, hF.2.2.2.1, hts⟩ (h2 H.size) ⟨va_cnB (rm := xrm md2 mc2 ms2) As.length hts (xws_good c1) rfl rfl rfl (hF.2.2.2.2.2.2.2.2.2.2.2.2.2.2.2.1 _ c6) (hts _ c2) c3 ⟨Nat.le_trans c4 r1, Nat.le_trans c5 r2⟩, hts _ c7, hts _ c8⟩ ⟨xPre_blind g M H.size _, va_recv hF.2.2.2.2.2.1 hP.1 c10 hq, fun U hU hW => ⟨rfl, xPre_of hF hP hS U hU hW⟩⟩ rfl rfl hl.1 hst (by show 2 * 0 + _ ≤ 8; omega) d ⟨Nat.le_trans hm.1 r3, Nat.le_trans hm.2 r4⟩) hF hE hP hS hl h1
theorem kr_callIN {i : Nat} {md2 : xMd} {mc2 ms2 a : Nat} (As : List Value) {st0 : List Value} (d : decode md.2.1 pc = .ok (.invokespecial i, 3)) (hc : xCiN md i md2 As.length) (hst : st0 = As.reverse ++ va_rf (some a) :: st) (hw : (st.map fun v => v.category).sum ≤ 8) (hm : cs.1 + mc2 ≤ mc ∧ cs.2 + ms2 ≤ ms)
    (h : xSp l g md2 mc2 ms2 (va_rf (some a) :: As) M (fun r M1 => xWg l g md mc ms (pc + 3) L (r.toList ++ st) (cs.1 + mc2, cs.2 + ms2) M1 K)) : xWg l g md mc ms pc L st0 cs M K := fun p e R s m args below meth c A H locs Z ls hF hE hP hS hl => by
  obtain ⟨Q0, h1, h2⟩ := h
  obtain ⟨⟨c1, c2, c3, c4, c5⟩, c6, c7, c8, c9⟩ := hc
  obtain ⟨r1, r2, r3, r4⟩ := hF.2.2.2.2.2.2.2.2.2.2.1
  have hts := hF.2.2.2.2.1
  exact xWg.run (va_runIN (As := As) (rest := st) (bytes := md2.2.1) (maxL := md2.2.2.1) (host := "RadixPages") ⟨hF.1, hF.2.1, hF.2.2.1, hF.2.2.2.1, hts⟩ (h2 H.size) ⟨by rw [← c9]; exact va_cnB (rm := xrm md2 mc2 ms2) As.length hts (xws_good c1) rfl rfl rfl (hF.2.2.2.2.2.2.2.2.2.2.2.2.2.2.2.1 _ c6) (hts _ c2) c3 ⟨Nat.le_trans c4 r1, Nat.le_trans c5 r2⟩, c7, hts _ c8⟩ ⟨xPre_blind g M H.size _, fun U hU hW => ⟨rfl, xPre_of hF hP hS U hU hW⟩⟩ rfl rfl hl.1 hst (by show 2 * 0 + _ ≤ 8; omega) d ⟨Nat.le_trans hm.1 r3, Nat.le_trans hm.2 r4⟩) hF hE hP hS hl h1
theorem ky_getI {r : Option Nat} {a i ci k : Nat} (d : decode md.2.1 pc = .ok (.getfield i, 3)) (hf : xFl md.1.cls i ci k 0) (hr : r = some a) (ha : xat M a ci) (h : xWg l g md mc ms (pc + 3) L (.int (xI M a k) :: st) cs M K) : xWg l g md mc ms pc L (va_rf r :: st) cs M K := by
  subst hr; exact kr_get 0 d hf ha.1 ha.2 h
theorem ky_getZ {r : Option Nat} {a i ci k : Nat} (d : decode md.2.1 pc = .ok (.getfield i, 3)) (hf : xFl md.1.cls i ci k 3) (hr : r = some a) (ha : xat M a ci) (h : xWg l g md mc ms (pc + 3) L (.int (xI M a k) :: st) cs M K) : xWg l g md mc ms pc L (va_rf r :: st) cs M K := by
  subst hr; exact kr_get 3 d hf ha.1 ha.2 h
theorem ky_getJ {r : Option Nat} {a i ci k : Nat} (d : decode md.2.1 pc = .ok (.getfield i, 3)) (hf : xFl md.1.cls i ci k 1) (hr : r = some a) (ha : xat M a ci) (h : xWg l g md mc ms (pc + 3) L (.long (xJ M a k) :: st) cs M K) : xWg l g md mc ms pc L (va_rf r :: st) cs M K := by
  subst hr; exact kr_get 1 d hf ha.1 ha.2 h
theorem ky_getR {r : Option Nat} {a i ci k : Nat} (d : decode md.2.1 pc = .ok (.getfield i, 3)) (hf : xFl md.1.cls i ci k 2) (hr : r = some a) (ha : xat M a ci) (h : xWg l g md mc ms (pc + 3) L (va_rf (xR M a k) :: st) cs M K) : xWg l g md mc ms pc L (va_rf r :: st) cs M K := by
  subst hr; exact kr_get 2 d hf ha.1 ha.2 h
theorem ky_getN {r : Option Nat} {a : Nat} (d : decode md.2.1 pc = .ok (.getfield 27, 3)) (ho : md.1.cls = "RadixPages$Disk") (hin : ∀ w ∈ u_ws RX5 TX5 1, w ∈ gl) (hr : r = some a) (ha : xat M a 2) (h : xWg l g md mc ms (pc + 3) L (va_rf (xR M a 0) :: st) cs M K) : xWg l g md mc ms pc L (va_rf r :: st) cs M K := by
  subst hr; exact kr_getN d ho hin ha.1 ha.2 h
theorem ky_putI {r : Option Nat} {a i ci k : Nat} {x : Int32} (d : decode md.2.1 pc = .ok (.putfield i, 3)) (hf : xFp false md.1.cls i ci k 0 .int) (hr : r = some a) (ha : xat M a ci) (h : xWg l g md mc ms (pc + 3) L st cs (xsI M a k x) K) : xWg l g md mc ms pc L (.int x :: va_rf r :: st) cs M K := by
  subst hr; exact kr_putI d hf ha.1 ha.2 h
theorem ky_putZ {r : Option Nat} {a i ci k : Nat} {x : Int32} (d : decode md.2.1 pc = .ok (.putfield i, 3)) (hf : xFp false md.1.cls i ci k 3 .boolean) (hr : r = some a) (ha : xat M a ci) (hx : x = 0 ∨ x = 1) (h : xWg l g md mc ms (pc + 3) L st cs (xsI M a k x) K) : xWg l g md mc ms pc L (.int x :: va_rf r :: st) cs M K := by
  subst hr; exact kr_putZ d hf ha.1 ha.2 hx h
theorem ky_putJ {r : Option Nat} {a i ci k : Nat} {x : Int64} (d : decode md.2.1 pc = .ok (.putfield i, 3)) (hf : xFp false md.1.cls i ci k 1 .long) (hr : r = some a) (ha : xat M a ci) (h : xWg l g md mc ms (pc + 3) L st cs (xsJ M a k x) K) : xWg l g md mc ms pc L (.long x :: va_rf r :: st) cs M K := by
  subst hr; exact kr_putJ d hf ha.1 ha.2 h
theorem ky_putR {r : Option Nat} {a i ci k : Nat} {n : String} {x : Option Nat} (d : decode md.2.1 pc = .ok (.putfield i, 3)) (hf : xFp false md.1.cls i ci k 2 (.object n)) (hr : r = some a) (ha : xat M a ci) (h : xWg l g md mc ms (pc + 3) L st cs (xsR M a k x) K) : xWg l g md mc ms pc L (va_rf x :: va_rf r :: st) cs M K := by
  subst hr; exact kr_putR d hf ha.1 ha.2 h
theorem ky_putRF {r : Option Nat} {a i ci k : Nat} {ty : FieldType} {x : Option Nat} (d : decode md.2.1 pc = .ok (.putfield i, 3)) (hi : md.1.name = "<init>") (hf : xFp true md.1.cls i ci k 2 ty) (ht : (∃ n, ty = .object n) ∨ ∃ n, ty = .array n) (hr : r = some a) (ha : xat M a ci) (h : xWg l g md mc ms (pc + 3) L st cs (xsR M a k x) K) : xWg l g md mc ms pc L (va_rf x :: va_rf r :: st) cs M K := by
  subst hr; exact kr_putRF d hi hf ht ha.1 ha.2 h
theorem ky_iald {r : Option Nat} {a j : Nat} {i : Int32} (d : decode md.2.1 pc = .ok (.iaload, 1)) (hr : r = some a) (ha : xai M a 9 i j) (h : xWg l g md mc ms (pc + 1) L (.int (xI M a j) :: st) cs M K) : xWg l g md mc ms pc L (.int i :: va_rf r :: st) cs M K := by
  subst hr; exact kr_iald j d ha.1.1 ha.1.2 ha.2.1 ha.2.2.1 ha.2.2.2 h
theorem ky_bald {r : Option Nat} {a j : Nat} {i : Int32} (d : decode md.2.1 pc = .ok (.baload, 1)) (hr : r = some a) (ha : xai M a 8 i j) (h : xWg l g md mc ms (pc + 1) L (.int (xI M a j) :: st) cs M K) : xWg l g md mc ms pc L (.int i :: va_rf r :: st) cs M K := by
  subst hr; exact kr_bald j d ha.1.1 ha.1.2 ha.2.1 ha.2.2.1 ha.2.2.2 h
theorem ky_zald {r : Option Nat} {a j : Nat} {i : Int32} (d : decode md.2.1 pc = .ok (.baload, 1)) (hr : r = some a) (ha : xai M a 11 i j) (h : xWg l g md mc ms (pc + 1) L (.int (xI M a j) :: st) cs M K) : xWg l g md mc ms pc L (.int i :: va_rf r :: st) cs M K := by
  subst hr; exact kr_zald j d ha.1.1 ha.1.2 ha.2.1 ha.2.2.1 ha.2.2.2 h
theorem ky_lald {r : Option Nat} {a j : Nat} {i : Int32} (d : decode md.2.1 pc = .ok (.laload, 1)) (hr : r = some a) (ha : xai M a 10 i j) (h : xWg l g md mc ms (pc + 1) L (.long (xJ M a j) :: st) cs M K) : xWg l g md mc ms pc L (.int i :: va_rf r :: st) cs M K := by
  subst hr; exact kr_lald j d ha.1.1 ha.1.2 ha.2.1 ha.2.2.1 ha.2.2.2 h
theorem ky_aald {r : Option Nat} {a j : Nat} {i : Int32} (d : decode md.2.1 pc = .ok (.aaload, 1)) (hr : r = some a) (ha : xai M a 12 i j) (h : xWg l g md mc ms (pc + 1) L (va_rf (xR M a j) :: st) cs M K) : xWg l g md mc ms pc L (.int i :: va_rf r :: st) cs M K := by
  subst hr; exact kr_aald j d ha.1.1 ha.1.2 ha.2.1 ha.2.2.1 ha.2.2.2 h
theorem ky_iast {r : Option Nat} {a j : Nat} {i x : Int32} (d : decode md.2.1 pc = .ok (.iastore, 1)) (hr : r = some a) (ha : xai M a 9 i j) (h : xWg l g md mc ms (pc + 1) L st cs (xsI M a j x) K) : xWg l g md mc ms pc L (.int x :: .int i :: va_rf r :: st) cs M K := by
  subst hr; exact kr_iast j d ha.1.1 ha.1.2 ha.2.1 ha.2.2.1 ha.2.2.2 h
theorem ky_bast {r : Option Nat} {a j : Nat} {i x : Int32} (d : decode md.2.1 pc = .ok (.bastore, 1)) (hr : r = some a) (ha : xai M a 8 i j) (h : xWg l g md mc ms (pc + 1) L st cs (xsI M a j x.toInt8.toInt32) K) : xWg l g md mc ms pc L (.int x :: .int i :: va_rf r :: st) cs M K := by
  subst hr; exact kr_bast j d ha.1.1 ha.1.2 ha.2.1 ha.2.2.1 ha.2.2.2 h
theorem ky_zast {r : Option Nat} {a j : Nat} {i x : Int32} (d : decode md.2.1 pc = .ok (.bastore, 1)) (hr : r = some a) (ha : xai M a 11 i j) (h : xWg l g md mc ms (pc + 1) L st cs (xsI M a j (x &&& 1)) K) : xWg l g md mc ms pc L (.int x :: .int i :: va_rf r :: st) cs M K := by
  subst hr; exact kr_zast j d ha.1.1 ha.1.2 ha.2.1 ha.2.2.1 ha.2.2.2 h
theorem ky_last {r : Option Nat} {a j : Nat} {i : Int32} {x : Int64} (d : decode md.2.1 pc = .ok (.lastore, 1)) (hr : r = some a) (ha : xai M a 10 i j) (h : xWg l g md mc ms (pc + 1) L st cs (xsJ M a j x) K) : xWg l g md mc ms pc L (.long x :: .int i :: va_rf r :: st) cs M K := by
  subst hr; exact kr_last j d ha.1.1 ha.1.2 ha.2.1 ha.2.2.1 ha.2.2.2 h
theorem ky_aast {r rb : Option Nat} {a b j : Nat} {i : Int32} (d : decode md.2.1 pc = .ok (.aastore, 1)) (hr : r = some a) (ha : xai M a 12 i j) (hrb : rb = some b) (hb : xat M b 1) (h : xWg l g md mc ms (pc + 1) L st cs (xsR M a j rb) K) : xWg l g md mc ms pc L (va_rf rb :: .int i :: va_rf r :: st) cs M K := by
  subst hr; subst hrb; exact kr_aast j d ha.1.1 ha.1.2 hb.1 hb.2 ha.2.1 ha.2.2.1 ha.2.2.2 h
theorem ky_alen8 {r : Option Nat} {a : Nat} (d : decode md.2.1 pc = .ok (.arraylength, 1)) (hr : r = some a) (ha : xat M a 8) (h : xWg l g md mc ms (pc + 1) L (.int (nI (xN M a)) :: st) cs M K) : xWg l g md mc ms pc L (va_rf r :: st) cs M K := by
  subst hr; exact kr_alen (t := 0) d ha.1 ha.2 (by decide) (fun _ => rfl) h
theorem ky_alen9 {r : Option Nat} {a : Nat} (d : decode md.2.1 pc = .ok (.arraylength, 1)) (hr : r = some a) (ha : xat M a 9) (h : xWg l g md mc ms (pc + 1) L (.int (nI (xN M a)) :: st) cs M K) : xWg l g md mc ms pc L (va_rf r :: st) cs M K := by
  subst hr; exact kr_alen (t := 1) d ha.1 ha.2 (by decide) (fun _ => rfl) h
theorem ky_alen11 {r : Option Nat} {a : Nat} (d : decode md.2.1 pc = .ok (.arraylength, 1)) (hr : r = some a) (ha : xat M a 11) (h : xWg l g md mc ms (pc + 1) L (.int (nI (xN M a)) :: st) cs M K) : xWg l g md mc ms pc L (va_rf r :: st) cs M K := by
  subst hr; exact kr_alen (t := 3) d ha.1 ha.2 (by decide) (fun _ => rfl) h
theorem ky_alen12 {r : Option Nat} {a : Nat} (d : decode md.2.1 pc = .ok (.arraylength, 1)) (hr : r = some a) (ha : xat M a 12) (h : xWg l g md mc ms (pc + 1) L (.int (nI (xN M a)) :: st) cs M K) : xWg l g md mc ms pc L (va_rf r :: st) cs M K := by
  subst hr; exact kr_alen (t := 4) d ha.1 ha.2 (by decide) (fun _ => rfl) h
theorem ky_alenM (d : decode md.2.1 pc = .ok (.arraylength, 1)) (h : xWg l g md mc ms (pc + 1) L (.int 5 :: st) cs M K) : xWg l g md mc ms pc L (va_rf (some g.2.2.1) :: st) cs M K := fun p e R s m args below meth c A H locs Z ls hF hE hP hS hl => by
  obtain ⟨cell, k1, k2, k3, k4, k5, k6, k7⟩ := hF.2.2.2.2.2.2.2.2.2.2.2.2.1.kept hS.2.1
  exact W.alen (n := 5) hF.1 hF.2.1 k1 k2 k5 rfl rfl d (h p e R s m args below meth c A H locs Z ls hF hE hP hS hl)
theorem ky_alenS (d : decode md.2.1 pc = .ok (.arraylength, 1)) (h : xWg l g md mc ms (pc + 1) L (.int 5 :: st) cs M K) : xWg l g md mc ms pc L (va_rf (some g.2.2.2) :: st) cs M K := fun p e R s m args below meth c A H locs Z ls hF hE hP hS hl => by
  obtain ⟨cell, k1, k2, k3, k4, k5, k6, k7⟩ := hF.2.2.2.2.2.2.2.2.2.2.2.2.2.2.1.kept hS.2.1
  exact W.alen (n := 5) hF.1 hF.2.1 k1 k2 k5 rfl rfl d (h p e R s m args below meth c A H locs Z ls hF hE hP hS hl)
theorem ky_callV {r : Option Nat} {i ci : Nat} {md2 : xMd} {mc2 ms2 a : Nat} (As : List Value) {st0 : List Value} (d : decode md.2.1 pc = .ok (.invokevirtual i, 3)) (hc : xCv md i md2 As.length ci) (hr : r = some a) (ha : xat M a ci) (hst : st0 = As.reverse ++ va_rf r :: st) (hw : (st.map fun v => v.category).sum ≤ 8) (hm : cs.1 + mc2 ≤ mc ∧ cs.2 + ms2 ≤ ms)
    (h : xSp l g md2 mc2 ms2 (va_rf r :: As) M (fun r M1 => xWg l g md mc ms (pc + 3) L (r.toList ++ st) (cs.1 + mc2, cs.2 + ms2) M1 K)) : xWg l g md mc ms pc L st0 cs M K := by
  subst hr; exact kr_callV As d hc hst ha.1 ha.2 hw hm h
theorem ky_callVN {r : Option Nat} {i ci : Nat} {md2 : xMd} {mc2 ms2 a : Nat} (As : List Value) {st0 : List Value} (d : decode md.2.1 pc = .ok (.invokevirtual i, 3)) (hc : xCvN md i md2 As.length ci) (hr : r = some a) (ha : xat M a ci) (hst : st0 = As.reverse ++ va_rf r :: st) (hw : (st.map fun v => v.category).sum ≤ 8) (hm : cs.1 + mc2 ≤ mc ∧ cs.2 + ms2 ≤ ms)
    (h : xSp l g md2 mc2 ms2 (va_rf r :: As) M (fun r M1 => xWg l g md mc ms (pc + 3) L (r.toList ++ st) (cs.1 + mc2, cs.2 + ms2) M1 K)) : xWg l g md mc ms pc L st0 cs M K := by
  subst hr; exact kr_callVN As d hc hst ha.1 ha.2 hw hm h
theorem kzistore_n {n : Fin 4} (i : Nat) {x : Int32} {L1 : List (Nat × Value)} (d : decode md.2.1 pc = .ok (.istore_n n, 1)) (hi : (n : Nat) = i) (hn : i < md.2.2.1) (hL : xst1 i (Value.int x) L = L1) (h : xWg l g md mc ms (pc + 1) L1 st cs M K) : xWg l g md mc ms pc L (.int x :: st) cs M K := by
  subst hL; exact kr_istore_n i d hi hn h
theorem kzistore {i : Nat} {x : Int32} {L1 : List (Nat × Value)} (d : decode md.2.1 pc = .ok (.istore i, 2)) (hn : i < md.2.2.1) (hL : xst1 i (Value.int x) L = L1) (h : xWg l g md mc ms (pc + 2) L1 st cs M K) : xWg l g md mc ms pc L (.int x :: st) cs M K := by
  subst hL; exact kr_istore d hn h
theorem kzlstore_n {n : Fin 4} (i : Nat) {x : Int64} {L1 : List (Nat × Value)} (d : decode md.2.1 pc = .ok (.lstore_n n, 1)) (hi : (n : Nat) = i) (hn : i + 1 < md.2.2.1) (hL : xst2 i (Value.long x) L = L1) (h : xWg l g md mc ms (pc + 1) L1 st cs M K) : xWg l g md mc ms pc L (.long x :: st) cs M K := by
  subst hL; exact kr_lstore_n i d hi hn h
theorem kzlstore {i : Nat} {x : Int64} {L1 : List (Nat × Value)} (d : decode md.2.1 pc = .ok (.lstore i, 2)) (hn : i + 1 < md.2.2.1) (hL : xst2 i (Value.long x) L = L1) (h : xWg l g md mc ms (pc + 2) L1 st cs M K) : xWg l g md mc ms pc L (.long x :: st) cs M K := by
  subst hL; exact kr_lstore d hn h
theorem kzastore_n {n : Fin 4} (i : Nat) {x : Option Nat} {L1 : List (Nat × Value)} (d : decode md.2.1 pc = .ok (.astore_n n, 1)) (hi : (n : Nat) = i) (hn : i < md.2.2.1) (hL : xst1 i (va_rf x) L = L1) (h : xWg l g md mc ms (pc + 1) L1 st cs M K) : xWg l g md mc ms pc L (va_rf x :: st) cs M K := by
  subst hL; exact kr_astore_n i d hi hn h
theorem kzastore {i : Nat} {x : Option Nat} {L1 : List (Nat × Value)} (d : decode md.2.1 pc = .ok (.astore i, 2)) (hn : i < md.2.2.1) (hL : xst1 i (va_rf x) L = L1) (h : xWg l g md mc ms (pc + 2) L1 st cs M K) : xWg l g md mc ms pc L (va_rf x :: st) cs M K := by
  subst hL; exact kr_astore d hn h
theorem kziinc {i : Nat} {n : Int} {t : Nat} {x : Int32} {L1 : List (Nat × Value)} (v : Int32) (d : decode md.2.1 pc = .ok (.iinc i n, 3)) (hL : L[i]? = some (t + 1, .int x)) (hv : x + Int32.ofInt n = v) (hn : i < md.2.2.1) (hL1 : xst1 i (.int v) L = L1) (h : xWg l g md mc ms (pc + 3) L1 st cs M K) : xWg l g md mc ms pc L st cs M K := by
  subst hL1; exact kr_iinc v d hL hv hn h
end XKR
