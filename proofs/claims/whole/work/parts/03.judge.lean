/-! THE JUDGEMENT xWp: a method's walk over the world, from a place, its locals and its stack, to its answer and the world then. -/
abbrev xMd : Type := MethodName × ByteArray × Nat × Option FieldType × Nat × Nat
def gl : List Cond := lw_tbl.filter goodWord
theorem gl_mem {w : Cond} (i : Nat) (h : lw_tbl[i]? = some w) (hg : goodWord w = true) : w ∈ gl := List.mem_filter.mpr ⟨List.mem_of_getElem? h, hg⟩
theorem gl_good : GoodIn gl gl := fun w h => ⟨h, good_of_word (List.mem_filter.mp h).2⟩
def xws (md : xMd) : List Cond := .code md.1 md.2.1 md.2.2.1 md.2.2.2.1 :: gl
theorem xws_good {md : xMd} (h : Cond.code md.1 md.2.1 md.2.2.1 md.2.2.2.1 ∈ gl) : GoodIn gl (xws md) := fun w hw => by
  rcases List.mem_cons.mp hw with rfl | hw
  · exact gl_good _ h
  · exact gl_good _ hw
def xrm (md : xMd) (mc ms : Nat) : Room := { frames := md.2.2.2.2.1, cells := mc, slots := ms, locals := md.2.2.2.2.2 }
def xNs : List Cond := [.methodLinkNest "RadixPages" 11 yX7_init "RadixPages", .methodLinkNest "RadixPages" 30 yX6_init "RadixPages", .methodLinkNest "RadixPages$Store" 11 yX0_init "RadixPages", .methodLinkNest "RadixPages$Store" 20 yX5_init "RadixPages", .methodLinkNest "RadixPages$Store" 203 yX3_setNextOf "RadixPages", .methodLinkNest "RadixPages$Tree" 31 yX3_reset "RadixPages"]
def xmc : Nat → Int32 := fun j => [0, 4, 16, 48, 256].getD j 0
def xsh : Nat → Int32 := fun j => [0, 0, 3, 12, 40].getD j 0
/-- what nobody writes: the two static arrays, the nest mates' links -/
def xSt (g : xG) (A : Nat → Prop) (U : State) (H : Heap) : Prop :=
  va_Z "RadixPages$Format" "MOST_CHILDREN" "[I" (.ref g.2.2.1) A U H ∧ va_T .int g.2.2.1 5 (fun j => .int (xmc j)) A U H ∧ va_Z "RadixPages$Format" "SHRINKS_AT" "[I" (.ref g.2.2.2) A U H ∧ va_T .int g.2.2.2 5 (fun j => .int (xsh j)) A U H ∧ (∀ w ∈ xNs, va_Nw w U) ∧ va_Nw (.fieldLinkNest "RadixPages$Disk" 27 "RadixPages$Row" "bytes" "[B" "RadixPages") U ∧ va_AO "RadixPages$Node" U
theorem xNs_warm {w : Cond} (h : w ∈ xNs) {s U : State} (hW : s.WarmedH U.vm) (hZ : va_Nw w s) : va_Nw w U := by
  simp only [xNs, List.mem_cons, List.not_mem_nil, or_false] at h
  rcases h with rfl | rfl | rfl | rfl | rfl | rfl <;> exact va_Nw.warmM hW hZ
theorem xSt.warm {g : xG} {A : Nat → Prop} {s U : State} {H : Heap} (hW : s.WarmedH U.vm) (h : xSt g A s H) : xSt g A U H := by
  obtain ⟨h1, h2, h3, h4, h5, h6, h7⟩ := h
  exact ⟨h1.moved hW.alike, h2.moved hW.alike, h3.moved hW.alike, h4.moved hW.alike, fun w hw => xNs_warm hw hW (h5 w hw), va_Nw.warmF hW h6, h7.moved hW.alike⟩
theorem xNs_tab {w : Cond} (h : w ∈ xNs) : w.onTables = true := by
  simp only [xNs, List.mem_cons, List.not_mem_nil, or_false] at h
  rcases h with rfl | rfl | rfl | rfl | rfl | rfl <;> rfl
theorem xSt.same {g : xG} {A : Nat → Prop} {s U : State} {H : Heap} (hvm : s.vm = U.vm) (h : xSt g A s H) : xSt g A U H := by
  obtain ⟨h1, h2, h3, h4, h5, h6, h7⟩ := h
  have ha : s.vm.Alike U.vm := by rw [hvm]; exact Vm.Alike.refl U.vm
  exact ⟨h1.moved ha, h2.moved ha, h3.moved ha, h4.moved ha, fun w hw => va_Nw.same (xNs_tab hw) hvm (h5 w hw), va_Nw.same rfl hvm h6, h7.moved ha⟩
theorem xSt.kept {g : xG} {A : Nat → Prop} {U : State} {H H1 : Heap} (h : xSt g A U H) (hq : ∀ a : Nat, a < H.size → ¬ A a → H1[a]? = H[a]?) : xSt g A U H1 := by
  obtain ⟨h1, h2, h3, h4, h5, h6, h7⟩ := h
  exact ⟨h1.kept hq, h2.kept hq, h3.kept hq, h4.kept hq, h5, h6, h7⟩
theorem xSt.narrow {g : xG} {A B : Nat → Prop} {U : State} {H : Heap} (h : xSt g A U H) (hAB : ∀ q, B q → A q) : xSt g B U H := by
  obtain ⟨h1, h2, h3, h4, h5, h6, h7⟩ := h
  exact ⟨h1.narrow hAB, h2.narrow hAB, h3.narrow hAB, h4.narrow hAB, h5, h6, h7⟩
/-- what stands fast in a method's walk -/
def xFix (g : xG) (md : xMd) (mc ms : Nat) (p : Program) (R : Room) (s : State) (m : MethodId) (args : Array Value) (meth : Method) (c : Code) (A : Nat → Prop) : Prop :=
  p.tables.exec = Jvm.exec ∧ c.code = md.2.1 ∧ c.maxLocals = md.2.2.1 ∧ s.vm.findClass md.1.cls = some m.cls ∧ (∀ w ∈ gl, w.before args s = true) ∧ va_K g.1 vwCl (xTy g) s ∧ meth.sig.returnType = md.2.2.2.1 ∧ meth.locks = false ∧ meth.name = md.1.name ∧ (∀ q, s.heap.size ≤ q → A q) ∧ (md.2.2.2.2.1 ≤ R.frames ∧ md.2.2.2.2.2 ≤ R.locals ∧ mc ≤ R.cells ∧ ms ≤ R.slots) ∧ xSt g A s s.heap
/-- a return: the instruction and the answer on the stack -/
def xRet (md : xMd) (pc : Nat) (r : Option Value) : Prop :=
  (md.2.2.2.1 = none ∧ r = none ∧ decode md.2.1 pc = .ok (.return_, 1)) ∨ (∃ ty v, md.2.2.2.1 = some ty ∧ r = some (.int v) ∧ narrow ty (.int v) = .int v ∧ decode md.2.1 pc = .ok (.ireturn, 1)) ∨ (∃ v, md.2.2.2.1 = some .long ∧ r = some (.long v) ∧ decode md.2.1 pc = .ok (.lreturn, 1)) ∨ (∃ n o, md.2.2.2.1 = some (.object n) ∧ r = some (va_rf o) ∧ decode md.2.1 pc = .ok (.areturn, 1))
/-- locals: their kinds (0 none, 1, 2 by category) and values -/
def xLr (ls : Array Slot) (n : Nat) (L : List (Nat × Value)) : Prop := ls.size = n ∧ lv_wf ls ∧ ∀ (i t : Nat) (v : Value), L[i]? = some (t, v) → t ≠ 0 → ls[i]? = some (.val v) ∧ v.category = t
def xEnd (l : Launch) (g : xG) (md : xMd) (mc ms : Nat) (p : Program) (e : Env) (R : Room) (s : State) (m : MethodId) (args : Array Value) (below : List Frame) (meth : Method) (c : Code) (A : Nat → Prop) (Q : Option Value → xM → Prop) (Z : State → Prop) : Prop :=
  ∀ (r : Option Value) (M : xM) (H : Heap) (locs : List Loc) (pc : Nat) (ls : Array Slot), Q r M → xP g A M H → va_S A s.heap H locs → xRet md pc r → W p l e R s m args below meth c H locs mc ms Z (F0 m pc ls r.toList)
def xWp (l : Launch) (g : xG) (md : xMd) (mc ms pc : Nat) (L : List (Nat × Value)) (st : List Value) (cs : Nat × Nat) (M : xM) (Q : Option Value → xM → Prop) : Prop :=
  ∀ (p : Program) (e : Env) (R : Room) (s : State) (m : MethodId) (args : Array Value) (below : List Frame) (meth : Method) (c : Code) (A : Nat → Prop) (H : Heap) (locs : List Loc) (Z : State → Prop) (ls : Array Slot),
    xFix g md mc ms p R s m args meth c A → xEnd l g md mc ms p e R s m args below meth c A Q Z → xP g A M H → va_S A s.heap H locs → xLr ls md.2.2.1 L → W p l e R s m args below meth c H locs cs.1 cs.2 Z (F0 m pc ls st)
/-- a method's contract -/
def xPre (g : xG) (M : xM) (sz : Nat) : State → Prop := fun U => U.heap.size = sz ∧ va_P g.1 vwCl (xW g M) U.heap ∧ va_K g.1 vwCl (xTy g) U ∧ va_D (fun _ => True) (xW g M) ∧ xSt g (va_A (xW g M) sz) U U.heap
def xPost (g : xG) (M : xM) (sz : Nat) (Q : Option Value → xM → Prop) : Array Value → State → Outcome → State → Prop := fun _ st oc t =>
  (∃ (r : Option Value) (M1 : xM), oc = .returned r ∧ Q r M1 ∧ va_P g.1 vwCl (xW g M1) t.heap ∧ va_K g.1 vwCl (xTy g) t ∧ va_D (va_A (xW g M) sz) (xW g M1)) ∧ va_F (va_A (xW g M) sz) st t
def xSpec (l : Launch) (g : xG) (md : xMd) (mc ms : Nat) (av : List Value) (M : xM) (Q : Option Value → xM → Prop) : Prop :=
  ∀ sz : Nat, Met l md.1 (xws md) (xrm md mc ms) (va_Pc av (xPre g M sz)) (xPost g M sz Q) mc ms (va_A (xW g M) sz)
def xSp (l : Launch) (g : xG) (md : xMd) (mc ms : Nat) (av : List Value) (M : xM) (Q : Option Value → xM → Prop) : Prop :=
  ∃ Q0 : Option Value → xM → Prop, (∀ r M1, Q0 r M1 → Q r M1) ∧ xSpec l g md mc ms av M Q0
theorem xSp.mono {l : Launch} {g : xG} {md : xMd} {mc ms : Nat} {av : List Value} {M : xM} {Q Q1 : Option Value → xM → Prop} (h : xSp l g md mc ms av M Q) (hQ : ∀ r M1, Q r M1 → Q1 r M1) : xSp l g md mc ms av M Q1 := by
  obtain ⟨Q0, h1, h2⟩ := h
  exact ⟨Q0, fun r M1 h => hQ r M1 (h1 r M1 h), h2⟩
/-- the locals with which a method begins, by its arguments with their categories -/
def xexp : List (Nat × Value) → List (Nat × Value)
  | [] => []
  | (t, v) :: r => if t = 2 then (2, v) :: (0, .null) :: xexp r else (1, v) :: xexp r
theorem xexp_args : ∀ (ta : List (Nat × Value)) (b : Nat), (∀ q ∈ ta, q.2.category = q.1) → ∀ (i t : Nat) (v : Value), (xexp ta)[i]? = some (t, v) → t ≠ 0 → (b + i, v) ∈ lv_args b (ta.map Prod.snd) ∧ v.category = t
  | [], b, _, i, t, v, h, _ => by simp [xexp] at h
  | (t0, v0) :: r, b, hc, i, t, v, h, ht => by
    have hc0 : v0.category = t0 := hc (t0, v0) List.mem_cons_self
    have hcr : ∀ q ∈ r, q.2.category = q.1 := fun q hq => hc q (List.mem_cons_of_mem _ hq)
    simp only [List.map_cons, lv_args]
    by_cases h2 : t0 = 2
    · subst h2
      simp only [xexp, if_pos] at h
      rw [if_pos hc0]
      match i, h with
      | 0, h => simp at h; obtain ⟨rfl, rfl⟩ := h; exact ⟨by simp, hc0⟩
      | 1, h => simp at h; exact absurd h.1.symm ht
      | i + 2, h =>
        simp at h
        obtain ⟨k1, k2⟩ := xexp_args r (b + 2) hcr i t v h ht
        exact ⟨List.mem_cons_of_mem _ (by rw [show b + (i + 2) = b + 2 + i by omega]; exact k1), k2⟩
    · have h1 : ¬ v0.category = 2 := by rw [hc0]; exact h2
      have h1' : v0.category = 1 := by rcases lv_cat v0 with q | q <;> omega
      simp only [xexp, if_neg h2] at h
      rw [if_neg h1]
      match i, h with
      | 0, h => simp at h; obtain ⟨rfl, rfl⟩ := h; exact ⟨by simp, h1'⟩
      | i + 1, h =>
        simp at h
        obtain ⟨k1, k2⟩ := xexp_args r (b + 1) hcr i t v h ht
        exact ⟨List.mem_cons_of_mem _ (by rw [show b + (i + 1) = b + 1 + i by omega]; exact k1), k2⟩
theorem xexp_pad {ta : List (Nat × Value)} {k : Nat} {i t : Nat} {v : Value} (h : (xexp ta ++ List.replicate k (0, Value.null))[i]? = some (t, v)) (ht : t ≠ 0) : (xexp ta)[i]? = some (t, v) := by
  by_cases hi : i < (xexp ta).length
  · rwa [List.getElem?_append_left hi] at h
  · rw [List.getElem?_append_right (by omega)] at h
    have := List.eq_of_mem_replicate (List.mem_of_getElem? h)
    cases this
    exact absurd rfl ht
theorem xPre_blind (g : xG) (M : xM) (sz : Nat) (av : List Value) : FrameBlind (va_Pc av (xPre g M sz)) := by
  intro a U f mk h
  obtain ⟨h0, h1, h2, h3, h4, h5⟩ := h
  exact ⟨h0, h1, h2, va_K.moved (u := U) (U := U.calling f mk a) (Vm.Alike.refl U.vm) h3, h4, xSt.same (s := U) (U := U.calling f mk a) rfl h5⟩
set_option maxHeartbeats 1000000 in
/-- a contract out of a walk of the body -/
theorem xBody {l : Launch} {g : xG} {md : xMd} {mc ms : Nat} {ta : List (Nat × Value)} {M : xM} {Q : Option Value → xM → Prop} (k : Nat) (hy : plainName md.1.cls = true) (hc : ∀ q ∈ ta, q.2.category = q.1) (hn : (lg_sl (ta.map Prod.snd)).length ≤ md.2.2.1)
    (h : xWp l g md mc ms 0 (xexp ta ++ List.replicate k (0, .null)) [] (0, 0) M Q) : xSpec l g md mc ms (ta.map Prod.snd) M Q := by
  intro sz
  refine Met.ofW (cc := md.2.1) (maxL := md.2.2.1) (ret := md.2.2.2.1) hy rfl ?_
  intro p e s m args below meth c s₁ B hml hv
  obtain ⟨rfl, hsz, hP, hK, hD0, hSt⟩ := hv
  have hts := atoms_spec (ws := xws md) B.pre
  have hown : s.vm.findClass md.1.cls = some m.cls := findClass_of_methodNamed B.named
  subst hsz
  have hD := hD0.self (sz := s.heap.size)
  have hl := lv_entry (ta.map Prod.snd) (n := md.2.2.1) hn
  rw [lg_entry_eq]
  refine h p e _ s m _ below meth c (va_A (xW g M) s.heap.size) s.heap [] _ _ ⟨B.exec, B.bytes, hml, hown, fun w hw => hts w (List.mem_cons_of_mem _ hw), hK, B.returns, B.notSynchronized, (name_of_methodNamed B.named B.method).1, fun q hq => Or.inr hq, ⟨Nat.le_refl _, Nat.le_refl _, Nat.le_refl _, Nat.le_refl _⟩, hSt⟩ ?_ ⟨hP, hD⟩ va_S.rf ⟨hl.1, hl.2.1, fun i t v hi ht => ?_⟩
  · intro r M1 H locs pc ls hq hw hS hret
    have hlocks := B.notSynchronized
    have hr := B.returns
    have key : ∀ t : State, t.heap = H → s.WarmedH t.vm → xPost g M s.heap.size Q (ta.map Prod.snd).toArray s (.returned r) t := fun t ht hWm =>
      ⟨⟨r, M1, rfl, hq, by rw [ht]; exact hw.1, va_K.moved hWm.alike hK, hw.2⟩, hS.F ht⟩
    rcases hret with ⟨e1, rfl, hd⟩ | ⟨ty, v, e1, rfl, hnr, hd⟩ | ⟨v, e1, rfl, hd⟩ | ⟨nm, o, e1, rfl, hd⟩
    · exact W.vret B.exec B.bytes (by rw [hr, e1]) key hS.2.2 hd
    · exact W.zret B.exec B.bytes (by rw [hr, e1]) hnr key hS.2.2 hd
    · exact W.lret B.exec B.bytes (by rw [hr, e1]) key hS.2.2 hd
    · refine W.aret B.exec B.bytes (by rw [hr, e1]) (Or.inl ⟨nm, rfl⟩) ?_ key hS.2.2 hd
      cases o with
      | none => exact Or.inl rfl
      | some a => exact Or.inr ⟨a, rfl⟩
  · obtain ⟨h1, h2⟩ := xexp_args ta 0 hc i t v (xexp_pad hi ht) ht
    exact ⟨by simpa using hl.2.2 _ h1, h2⟩
