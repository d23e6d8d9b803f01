/-! Helpers that catch: their contract. -/
def xwsH (md : xMd) (hh : List (Nat × Nat × Nat × Nat)) : List Cond := .codeWith md.1 md.2.1 md.2.2.1 md.2.2.2.1 hh :: gl
theorem xwsH_good {md : xMd} {hh : List (Nat × Nat × Nat × Nat)} (h : Cond.codeWith md.1 md.2.1 md.2.2.1 md.2.2.2.1 hh ∈ gl) : GoodIn gl (xwsH md hh) := fun w hw => by
  rcases List.mem_cons.mp hw with rfl | hw
  · exact gl_good _ h
  · exact gl_good _ hw
/-- a helper's contract -/
def xSpH (l : Launch) (g : xG) (md : xMd) (hh : List (Nat × Nat × Nat × Nat)) (av : List Value) (M : xM) (Q : Option Value → xM → Prop) : Prop :=
  ∃ Q0 : Option Value → xM → Prop, (∀ r M1, Q0 r M1 → Q r M1) ∧ ∀ sz : Nat, vx_Met l md.1 (xwsH md hh) (xrm md 1 6) (va_Pc av (xPreT g M sz)) (xPost g M sz Q0) (fun _ _ _ => False) 1 6 (va_A (xW g M) sz)
theorem xSpH.mono {l : Launch} {g : xG} {md : xMd} {hh : List (Nat × Nat × Nat × Nat)} {av : List Value} {M : xM} {Q Q1 : Option Value → xM → Prop} (h : xSpH l g md hh av M Q) (hQ : ∀ r M1, Q r M1 → Q1 r M1) : xSpH l g md hh av M Q1 := by
  obtain ⟨Q0, h1, h2⟩ := h
  exact ⟨Q0, fun r M1 h => hQ r M1 (h1 r M1 h), h2⟩
def xKH (l : Launch) (g : xG) (hh : List (Nat × Nat × Nat × Nat)) (M : xM) (sz : Nat) (Q : Option Value → xM → Prop) : xKt := fun p e R s m args below meth c A Z =>
  Z = vx_MQ below (xPost g M sz Q) (fun _ _ _ => False) args s 1 6 (va_A (xW g M) sz) ∧ A = va_A (xW g M) sz ∧ c.exceptionTable.toList = tableOf hh ∧ xTh A s s.heap
set_option maxHeartbeats 1000000 in
theorem xBodyH {l : Launch} {g : xG} {md : xMd} {hh : List (Nat × Nat × Nat × Nat)} {ta : List (Nat × Value)} {M : xM} {Q : Option Value → xM → Prop} (k : Nat) (hy : plainName md.1.cls = true) (hc : ∀ q ∈ ta, q.2.category = q.1) (hn : (ta.map Prod.fst).sum ≤ md.2.2.1)
    (h : ∀ sz, xWg l g md 1 6 0 (xexp ta ++ List.replicate k (0, .null)) [] (0, 0) M (xKH l g hh M sz Q)) : xSpH l g md hh (ta.map Prod.snd) M Q := by
  refine ⟨Q, fun _ _ h => h, fun sz => ?_⟩
  refine vx_ofWH (cc := md.2.1) (maxL := md.2.2.1) (ret := md.2.2.2.1) (hh := hh) hy rfl ?_
  intro p e s m args below meth c s₁ B hml hv
  obtain ⟨rfl, ⟨hsz, hP, hK, hD0, hSt⟩, hTh⟩ := hv
  have hts := atoms_spec (ws := xwsH md hh) B.pre
  have hown : s.vm.findClass md.1.cls = some m.cls := findClass_of_methodNamed B.named
  have htab := vx_table (x := md.1) B (hts _ List.mem_cons_self)
  subst hsz
  have hD := hD0.self (sz := s.heap.size)
  have hll := lv_entry (ta.map Prod.snd) (n := md.2.2.1) (by rw [sl_len, ct_sum ta hc]; exact hn)
  rw [lg_entry_eq]
  refine h s.heap.size p e _ s m _ below meth c (va_A (xW g M) s.heap.size) s.heap [] _ _ ⟨B.exec, B.bytes, hml, hown, fun w hw => hts w (List.mem_cons_of_mem _ hw), hK, B.returns, B.notSynchronized, (name_of_methodNamed B.named B.method).1, fun q hq => Or.inr hq, ⟨Nat.le_refl _, Nat.le_refl _, Nat.le_refl _, Nat.le_refl _⟩, hSt⟩ ⟨rfl, rfl, htab, hTh⟩ ⟨hP, hD⟩ va_S.rf ⟨hll.1, hll.2.1, fun i t v hi ht => ?_⟩
  obtain ⟨h1, h2⟩ := xexp_args ta 0 hc i t v (xexp_pad hi ht) ht
  exact ⟨by simpa using hll.2.2 _ h1, h2⟩
section KHH
variable {l : Launch} {g : xG} {md : xMd} {mc ms pc : Nat} {L : List (Nat × Value)} {st : List Value} {cs : Nat × Nat} {M M0 : xM} {K : xKt} {sz : Nat} {hh : List (Nat × Nat × Nat × Nat)} {Q : Option Value → xM → Prop}
/-- a helper's return -/
theorem kr_retH {v : Int32} (hm : cs.1 ≤ 1 ∧ cs.2 ≤ 6) (hr : md.2.2.2.1 = some .int) (d : decode md.2.1 pc = .ok (.ireturn, 1)) (h : Q (some (.int v)) M) : xWg l g md 1 6 pc L [.int v] cs M (xKH l g hh M0 sz Q) := fun p e R s m args below meth c A H locs Z ls hF hE hP hS hl => by
  obtain ⟨rfl, rfl, -, -⟩ := hE
  have hlocks := hF.2.2.2.2.2.2.2.1
  have hret := hF.2.2.2.2.2.2.1
  rw [hr] at hret
  refine W.widen hm.1 hm.2 (vx_ret (W.zret (ty := .int) hF.1 hF.2.1 hret rfl (fun t ht hW => ⟨⟨some (.int v), M, rfl, h, by rw [ht]; exact hP.1, va_K.moved hW.alike hF.2.2.2.2.2.1, hP.2⟩, hS.F ht⟩) hS.2.2 d))
/-- a call that throws, caught here -/
theorem kr_callT {md2 : xMd} {a i ci hpc : Nat} {E : String} (As : List Value) {st0 : List Value} (d : decode md.2.1 pc = .ok (.invokevirtual i, 3)) (hc : xCv md i md2 As.length ci) (hroom : 6 + 1 ≤ md.2.2.2.2.1 ∧ 8 + (md2.2.2.1 + 11) + 128 ≤ md.2.2.2.2.2) (hst : st0 = As.reverse ++ va_rf (some a) :: st) (ha : a ∈ xL M) (hk : xK M a = ci) (hw : (st.map fun v => v.category).sum ≤ 8) (hm : cs.1 + 1 ≤ mc ∧ cs.2 + 6 ≤ ms)
    (hTh : ∀ {p : Program} {e : Env} {R : Room} {s : State} {m : MethodId} {args : Array Value} {below : List Frame} {meth : Method} {c : Code} {A : Nat → Prop} {Z : State → Prop}, K p e R s m args below meth c A Z → xTh A s s.heap) (hT : xSpT l g md2 (va_rf (some a) :: As) M E)
    (hcatch : ∀ {p : Program} {e : Env} {R : Room} {s : State} {m : MethodId} {args : Array Value} {below : List Frame} {meth : Method} {c : Code} {A : Nat → Prop} {Z : State → Prop}, (∀ w ∈ gl, w.before args s = true) → K p e R s m args below meth c A Z → ∃ (pre : List ExceptionTableEntry) (x : ExceptionTableEntry) (suf : List ExceptionTableEntry) (name : String), c.exceptionTable.toList = pre ++ x :: suf ∧ (∀ z ∈ pre, covers z pc = false ∨ (z.catchType ≠ 0 ∧ ∃ nm : String, (Cond.classLink md.1.cls z.catchType nm).before args s = true ∧ va_Nc E nm s)) ∧ covers x pc = true ∧ x.catchType ≠ 0 ∧ (Cond.classLink md.1.cls x.catchType name).before args s = true ∧ (Cond.castable E name).before args s = true ∧ x.handlerPc = hpc)
    (h : ∀ q, xWg l g md mc ms hpc L [va_rf (some q)] (cs.1 + 1, cs.2 + 6) M K) : xWg l g md mc ms pc L st0 cs M K := fun p e R s m args below meth c A H locs Z ls hF hE hP hS hl => by
  obtain ⟨⟨c1, c2, c3, c4, c5⟩, c6, c7, c8, c9, T, N, c10⟩ := hc
  obtain ⟨r1, r2, r3, r4⟩ := hF.2.2.2.2.2.2.2.2.2.2.1
  have hts := hF.2.2.2.2.1
  obtain ⟨q0, hq0⟩ := xW_get g ha
  rw [xE_obj g hk c9] at hq0
  have hfree : ∀ q, va_A (xW g M) H.size q → A q := fun q hq => by
    rcases hq with ⟨k, e0, h1⟩ | h1
    · exact hP.2.2 k (q, e0) h1
    · exact hF.2.2.2.2.2.2.2.2.2.1 q (Nat.le_trans hS.1 h1)
  have hr := vx_runV (l := l) (e := e) (below := below) (meth := meth) (locs := locs) (cells := cs.1) (slots := cs.2) (g := F0 m pc ls st0) (As := As) (rest := st) ⟨hF.1, hF.2.1, hF.2.2.1, hF.2.2.2.1, hts⟩ (hT H.size) ⟨callB_of (rm := rmT) As.length hts (xws_good c1) rfl rfl rfl (hts _ c2) (hts _ c6) c3 ⟨Nat.le_trans hroom.1 r1, Nat.le_trans hroom.2 r2⟩, hts _ c7, hts _ c8⟩ ⟨xPreT_blind g M H.size _, va_recv hF.2.2.2.2.2.1 hP.1 c10 hq0, fun U hU hW => ⟨rfl, xPre_of hF hP hS U hU hW, by rw [hU]; exact (((hTh hE).kept hS.2.1).narrow hfree).warm hW⟩⟩ rfl rfl hl.1 hst (by show 2 * 0 + _ ≤ 8; omega) d ⟨Nat.le_trans hm.1 r3, Nat.le_trans hm.2 r4⟩
  intro T1 hT1 X
  rcases hr T1 hT1 X with ⟨v, st₀, t, T2, L', h0, X', hL, e1, e2, hq, -⟩ | ⟨q, st₀, t, T2, L', E1, ce, h0, X', hL, e1, e2, ⟨rfl, hP1, hz, hk1⟩, hce, hcv, hcl, stp⟩
  · exact hq.elim
  · rw [h0] at hz hk1
    have hS1 : va_S A s.heap T2.heap (locs ++ L') := ⟨Nat.le_trans hS.1 (by rw [e1]; exact hz), fun q h1 h2 => by rw [e1, hk1 q (Nat.lt_of_lt_of_le h1 hS.1) (fun z => h2 (hfree q z))]; exact hS.2.1 q h1 h2, fun q hq => by
        rcases List.mem_append.mp hq with z | z
        · exact hS.2.2 q z
        · exact hfree _ (hL q z)⟩
    obtain ⟨pre, x, suf, name, t1, t2, t3, t4, t5, t6, t7⟩ := hcatch hts hE
    have kk := h q p e R s m args below meth c A T2.heap (locs ++ L') Z ls hF hE ⟨by rw [e1]; exact hP1, hP.2⟩ hS1 hl
    rw [← t7] at kk
    obtain ⟨u, a1, b1⟩ := vx_catch (rest := st) (ls := ls) (pc := pc) hF.2.2.2.1 pre x suf t1 t2 t3 t4 t5 t6 (by rw [e1]; exact hce) hcv hcl kk T2 rfl X'
    exact ⟨u, stp.trans a1, b1⟩
/-- what a helper's call site stands on -/
def xCh (md : xMd) (i : Nat) (md2 : xMd) (hh : List (Nat × Nat × Nat × Nat)) (n : Nat) : Prop := (Cond.codeWith md2.1 md2.2.1 md2.2.2.1 md2.2.2.2.1 hh ∈ gl ∧ Cond.initialized md2.1.cls ∈ gl ∧ (md2.1.cls ≠ "java/lang/invoke/MethodHandle" ∧ md2.1.cls ≠ "java/lang/invoke/VarHandle" ∧ (parseMethodDescriptor md2.1.desc).map (fun d => d.parameters.length) = some n) ∧ md2.2.2.2.2.1 + 1 ≤ md.2.2.2.2.1 ∧ 8 + (md2.2.2.1 + 11) + md2.2.2.2.2.2 ≤ md.2.2.2.2.2) ∧ Cond.methodLink md.1.cls i md2.1 ∈ gl ∧ Cond.static md2.1 ∈ gl
theorem kr_callH {md2 : xMd} {i : Nat} (As : List Value) {st0 : List Value} (d : decode md.2.1 pc = .ok (.invokestatic i, 3)) (hc : xCh md i md2 hh As.length) (hst : st0 = As.reverse ++ st) (hw : (st.map fun v => v.category).sum ≤ 8) (hm : cs.1 + 1 ≤ mc ∧ cs.2 + 6 ≤ ms)
    (hTh : ∀ {p : Program} {e : Env} {R : Room} {s : State} {m : MethodId} {args : Array Value} {below : List Frame} {meth : Method} {c : Code} {A : Nat → Prop} {Z : State → Prop}, K p e R s m args below meth c A Z → xTh A s s.heap)
    (h : xSpH l g md2 hh As M (fun r M1 => xWg l g md mc ms (pc + 3) L (r.toList ++ st) (cs.1 + 1, cs.2 + 6) M1 K)) : xWg l g md mc ms pc L st0 cs M K := fun p e R s m args below meth c A H locs Z ls hF hE hP hS hl => by
  obtain ⟨Q0, h1, h2⟩ := h
  obtain ⟨⟨c1, c2, c3, c4, c5⟩, c6, c7⟩ := hc
  obtain ⟨r1, r2, r3, r4⟩ := hF.2.2.2.2.2.2.2.2.2.2.1
  have hts := hF.2.2.2.2.1
  have hfree : ∀ q, va_A (xW g M) H.size q → A q := fun q hq => by
    rcases hq with ⟨k, e0, h1⟩ | h1
    · exact hP.2.2 k (q, e0) h1
    · exact hF.2.2.2.2.2.2.2.2.2.1 q (Nat.le_trans hS.1 h1)
  have hr := vx_runSX (l := l) (e := e) (below := below) (meth := meth) (locs := locs) (cells := cs.1) (slots := cs.2) (g := F0 m pc ls st0) (hh := hh) (bytes := md2.2.1) (maxL := md2.2.2.1) (ret := md2.2.2.2.1) (As := As) (rest := st) (index := i) (n := As.length) ⟨hF.1, hF.2.1, hF.2.2.1, hF.2.2.2.1, hts⟩ (h2 H.size) ⟨⟨rfl, rfl, Nat.le_trans c4 r1, Nat.le_trans c5 r2, pay_in hts (xwsH_good c1), List.mem_cons_self⟩, hts _ c1, hts _ c2, ⟨c3.1, c3.2.1⟩, fun sig hs => by
      have q := c3.2.2
      rw [hs] at q
      exact (Option.some.inj q).symm, hts _ c6, hts _ c7⟩ ⟨xPreT_blind g M H.size _, fun U hU hW => ⟨rfl, xPre_of hF hP hS U hU hW, by rw [hU]; exact (((hTh hE).kept hS.2.1).narrow hfree).warm hW⟩⟩ rfl rfl hl.1 hst (by show 2 * 0 + _ ≤ 8; omega) d ⟨Nat.le_trans hm.1 r3, Nat.le_trans hm.2 r4⟩
  intro T1 hT1 X
  rcases hr T1 hT1 X with ⟨v, st₀, t, T2, L', h0, X', hL, e1, e2, ⟨⟨r, M1, hv, hq, hP1, hK1, hD1⟩, hz, hk⟩, stp⟩ | ⟨q, st₀, t, T2, L', E1, ce, h0, X', hL, e1, e2, hx, -⟩
  · cases hv
    rw [h0] at hz hk
    have hS1 : va_S A s.heap T2.heap (locs ++ L') := ⟨Nat.le_trans hS.1 (by rw [e1]; exact hz), fun q h1 h2 => by rw [e1, hk q (Nat.lt_of_lt_of_le h1 hS.1) (fun z => h2 (hfree q z))]; exact hS.2.1 q h1 h2, fun q hq => by
        rcases List.mem_append.mp hq with z | z
        · exact hS.2.2 q z
        · exact hfree _ (hL q z)⟩
    obtain ⟨t2, a1, b1⟩ := h1 v M1 hq p e R s m args below meth c A T2.heap (locs ++ L') Z ls hF hE ⟨by rw [e1]; exact hP1, hD1.weaken (fun _ _ _ z => hfree _ z)⟩ hS1 hl T2 rfl X'
    exact ⟨t2, stp t2 a1, b1⟩
  · exact hx.elim
end KHH
