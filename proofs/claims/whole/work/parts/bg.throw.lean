/-! Methods that throw: their contract. -/
def eIA : String := "java/lang/IllegalArgumentException"
def eIS : String := "java/lang/IllegalStateException"
def eIO : String := "java/lang/IndexOutOfBoundsException"
def eNm : List String := ["java/lang/RuntimeException", "java/lang/Exception"]
def xThW : List Cond := [.declares (Bundle.initS "java/lang/RuntimeException"), .declares (Bundle.initS "java/lang/Exception"), .declares (Bundle.initS Bundle.tN), .castable eIA eIA, .castable eIS eIS, .castable eIO eIO]
/-- what a throw stands on, beside the tables -/
def xTh (A : Nat → Prop) (U : State) (H : Heap) : Prop :=
  (vx_Zq Bundle.tN "UNASSIGNED_STACK" Bundle.steD A U H ∧ vx_Zq Bundle.tN "SUPPRESSED_SENTINEL" Bundle.listD A U H) ∧ (∃ a, vk_R RX9 45 "n is not 1 .. 8" a U) ∧ (∃ a, vk_R RX9 55 "the tape would have more than 64 bytes" a U) ∧ (∃ a, vk_R RX9 62 "the tape has not so many bytes" a U) ∧ (∃ a, vk_R RX9 180 "there is no such byte" a U) ∧ (∀ w ∈ xThW, va_Nw w U) ∧ va_Nc eIS eIA U
theorem xThW_tab {w : Cond} (h : w ∈ xThW) : w.onTables = true := by
  simp only [xThW, List.mem_cons, List.not_mem_nil, or_false] at h
  rcases h with rfl | rfl | rfl | rfl | rfl | rfl <;> rfl
theorem xThW_warm {w : Cond} (h : w ∈ xThW) {s U : State} (hW : s.WarmedH U.vm) (hZ : va_Nw w s) : va_Nw w U := by
  simp only [xThW, List.mem_cons, List.not_mem_nil, or_false] at h
  rcases h with rfl | rfl | rfl | rfl | rfl | rfl
  · exact va_Nw.warmD hW hZ
  · exact va_Nw.warmD hW hZ
  · exact va_Nw.warmD hW hZ
  · exact va_Nw.warmC hW hZ
  · exact va_Nw.warmC hW hZ
  · exact va_Nw.warmC hW hZ
theorem xTh.warm {A : Nat → Prop} {s U : State} {H : Heap} (hW : s.WarmedH U.vm) (h : xTh A s H) : xTh A U H := by
  obtain ⟨⟨h1, h2⟩, ⟨a1, h3⟩, ⟨a2, h4⟩, ⟨a3, h5⟩, ⟨a4, h6⟩, h7, h8⟩ := h
  exact ⟨⟨h1.moved hW.alike, h2.moved hW.alike⟩, ⟨a1, h3.warm hW⟩, ⟨a2, h4.warm hW⟩, ⟨a3, h5.warm hW⟩, ⟨a4, h6.warm hW⟩, fun w hw => xThW_warm hw hW (h7 w hw), h8.moved hW.alike⟩
theorem xTh.same {A : Nat → Prop} {s U : State} {H : Heap} (hvm : s.vm = U.vm) (h : xTh A s H) : xTh A U H := by
  obtain ⟨⟨h1, h2⟩, ⟨a1, h3⟩, ⟨a2, h4⟩, ⟨a3, h5⟩, ⟨a4, h6⟩, h7, h8⟩ := h
  have ha : s.vm.Alike U.vm := by rw [hvm]; exact Vm.Alike.refl U.vm
  exact ⟨⟨h1.moved ha, h2.moved ha⟩, ⟨a1, h3.same hvm.symm⟩, ⟨a2, h4.same hvm.symm⟩, ⟨a3, h5.same hvm.symm⟩, ⟨a4, h6.same hvm.symm⟩, fun w hw => va_Nw.same (xThW_tab hw) hvm (h7 w hw), h8.moved ha⟩
theorem xTh.kept {A : Nat → Prop} {U : State} {H H1 : Heap} (h : xTh A U H) (hq : ∀ a : Nat, a < H.size → ¬ A a → H1[a]? = H[a]?) : xTh A U H1 := by
  obtain ⟨⟨h1, h2⟩, h3⟩ := h
  exact ⟨⟨h1.kept hq, h2.kept hq⟩, h3⟩
theorem xTh.narrow {A B : Nat → Prop} {U : State} {H : Heap} (h : xTh A U H) (hAB : ∀ q, B q → A q) : xTh B U H := by
  obtain ⟨⟨h1, h2⟩, h3⟩ := h
  exact ⟨⟨h1.narrow hAB, h2.narrow hAB⟩, h3⟩
def xPreT (g : xG) (M : xM) (sz : Nat) : State → Prop := fun U => xPre g M sz U ∧ xTh (va_A (xW g M) sz) U U.heap
theorem xPreT_blind (g : xG) (M : xM) (sz : Nat) (av : List Value) : FrameBlind (va_Pc av (xPreT g M sz)) := by
  intro a U f mk h
  obtain ⟨h0, h1, h2⟩ := h
  obtain ⟨-, h3⟩ := xPre_blind g M sz av a U f mk ⟨h0, h1⟩
  exact ⟨h0, h3, xTh.same (s := U) (U := U.calling f mk a) rfl h2⟩
/-- thrown: the world is as it was -/
def xPostX (g : xG) (M : xM) (sz : Nat) (E : String) : String → State → State → Prop := fun E1 st t => E1 = E ∧ va_P g.1 vwCl (xW g M) t.heap ∧ va_F (va_A (xW g M) sz) st t
def rmT : Room := { frames := 6, cells := 1, slots := 6, locals := 128 }
/-- a call that throws E -/
def xSpT (l : Launch) (g : xG) (md : xMd) (av : List Value) (M : xM) (E : String) : Prop :=
  ∀ sz : Nat, vx_Met l md.1 (xws md) rmT (va_Pc av (xPreT g M sz)) (fun _ _ _ _ => False) (xPostX g M sz E) 1 6 (va_A (xW g M) sz)
def xKT (l : Launch) (g : xG) (M : xM) (sz : Nat) (E : String) : xKt := fun p e R s m args below meth c A Z =>
  Z = vx_MQ below (fun _ _ _ _ => False) (xPostX g M sz E) args s 1 6 (va_A (xW g M) sz) ∧ A = va_A (xW g M) sz ∧ (∀ x ∈ c.exceptionTable.toList, False) ∧ xTh A s s.heap ∧ l.stackTraces = false ∧ (6 ≤ R.frames ∧ 128 ≤ R.locals ∧ 1 ≤ R.cells ∧ 6 ≤ R.slots)
set_option maxHeartbeats 1000000 in
theorem xBodyT {l : Launch} {g : xG} {md : xMd} {ta : List (Nat × Value)} {M : xM} {E : String} (k : Nat) (hl : l.stackTraces = false) (hy : plainName md.1.cls = true) (hc : ∀ q ∈ ta, q.2.category = q.1) (hn : (ta.map Prod.fst).sum ≤ md.2.2.1) (hroom : md.2.2.2.2.1 ≤ 6 ∧ md.2.2.2.2.2 ≤ 128)
    (h : ∀ sz, xWg l g md 1 6 0 (xexp ta ++ List.replicate k (0, .null)) [] (0, 0) M (xKT l g M sz E)) : xSpT l g md (ta.map Prod.snd) M E := by
  intro sz
  refine vx_ofW (cc := md.2.1) (maxL := md.2.2.1) (ret := md.2.2.2.1) hy rfl ?_
  intro p e s m args below meth c s₁ B hml ht hv
  obtain ⟨rfl, ⟨hsz, hP, hK, hD0, hSt⟩, hTh⟩ := hv
  have hts := atoms_spec (ws := xws md) B.pre
  have hown : s.vm.findClass md.1.cls = some m.cls := findClass_of_methodNamed B.named
  subst hsz
  have hD := hD0.self (sz := s.heap.size)
  have hll := lv_entry (ta.map Prod.snd) (n := md.2.2.1) (by rw [sl_len, ct_sum ta hc]; exact hn)
  rw [lg_entry_eq]
  refine h s.heap.size p e _ s m _ below meth c (va_A (xW g M) s.heap.size) s.heap [] _ _ ⟨B.exec, B.bytes, hml, hown, fun w hw => hts w (List.mem_cons_of_mem _ hw), hK, B.returns, B.notSynchronized, (name_of_methodNamed B.named B.method).1, fun q hq => Or.inr hq, ⟨hroom.1, hroom.2, Nat.le_refl _, Nat.le_refl _⟩, hSt⟩ ⟨rfl, rfl, ht, hTh, hl, Nat.le_refl _, Nat.le_refl _, Nat.le_refl _, Nat.le_refl _⟩ ⟨hP, hD⟩ va_S.rf ⟨hll.1, hll.2.1, fun i t v hi ht => ?_⟩
  obtain ⟨h1, h2⟩ := xexp_args ta 0 hc i t v (xexp_pad hi ht) ht
  exact ⟨by simpa using hll.2.2 _ h1, h2⟩
theorem gl_at {w : Cond} (ps : List Nat) {ws : List Cond} (hp : ws = ps.filterMap (fun i => lw_tbl[i]?)) (hg : ws.all goodWord = true) (hw : w ∈ ws) : w ∈ gl := by
  have h1 := List.all_eq_true.mp hg w hw
  rw [hp] at hw
  obtain ⟨i, -, hi⟩ := List.mem_filterMap.mp hw
  exact gl_mem i hi h1
section KTH
variable {l : Launch} {g : xG} {md : xMd} {pc : Nat} {L : List (Nat × Value)} {M : xM} {sz : Nat} {cls text : String} {ik is ic : Nat}
/-- throw new E("text") -/
theorem kr_throw (hown : md.1.cls = RX9) (hcls : Bundle.fit cls = true) (hk : Cond.classLink RX9 ik cls ∈ gl) (hini : Cond.initialized cls ∈ gl) (hat : ∀ w ∈ (vx_atS RX9 ic cls eNm).filter goodWord, w ∈ gl) (hbad : ∀ w ∈ (vx_atS RX9 ic cls eNm).filter (fun w => !goodWord w), w ∈ xThW)
    (hgood : ∀ w ∈ Cond.classLink RX9 ik cls :: Cond.initialized cls :: vx_atS RX9 ic cls eNm, vx_ot w = true) (hstr : ∀ {A : Nat → Prop} {U : State} {H : Heap}, xTh A U H → ∃ a, vk_R RX9 is text a U)
    (d0 : decode md.2.1 pc = .ok (.new ik, 3)) (d3 : decode md.2.1 (pc + 3) = .ok (.dup, 1)) (d4 : decode md.2.1 (pc + 4) = .ok (.ldc is, 2)) (d6 : decode md.2.1 (pc + 6) = .ok (.invokespecial ic, 3)) (d9 : decode md.2.1 (pc + 9) = .ok (.athrow, 1)) :
    xWg l g md 1 6 pc L [] (0, 0) M (xKT l g M sz cls) := fun p e R s m args below meth c A H locs Z ls hF hE hP hS hl => by
  obtain ⟨rfl, rfl, hex, hTh, htr, r1, r2, r3, r4⟩ := hE
  obtain ⟨sa, hs⟩ := hstr hTh
  have hts := hF.2.2.2.2.1
  have hfc : s.vm.findClass RX9 = some m.cls := by rw [← hown]; exact hF.2.2.2.1
  have hrl : ([] : List Value).map (fun v => v.category) = [] := rfl
  refine vx_throwS (A := va_A (xW g M) sz) hF.1 hF.2.1 htr hfc hcls (fun n hn => ?_) (hts _ hk) (hts _ hini) hs ?_ hgood hTh.1.1 hTh.1.2 hS (by rw [hl.1, hF.2.2.1]) d0 d3 d4 d6 d9 (fun x hx => (hex x hx).elim) (by show 2 + 3 < R.frames; omega) (by show 0 + (13 * (2 + 1) + 43) ≤ R.locals; omega) (by show 0 + 1 ≤ R.cells; omega) (by show 0 + 6 ≤ R.slots; omega) hF.2.2.2.2.2.2.2.1 (fun t ha hz hq => ⟨rfl, ?_, ?_⟩) hS.2.2 (Nat.le_refl _) (Nat.le_refl _)
  · simp only [eNm, List.mem_cons, List.not_mem_nil, or_false] at hn
    rcases hn with rfl | rfl <;> decide +kernel
  · exact vx_hat (fun w hw => hts w (hat w hw)) hbad (fun w hw => va_Nw.use (xThW_tab hw) (hTh.2.2.2.2.2.1 w hw))
  · exact va_P.kept hP.1 (fun k q hk => hq q.1 (vx_lt hP.1 hk))
  · exact ⟨Nat.le_trans hS.1 hz, fun q h1 h2 => (hq q (Nat.lt_of_lt_of_le h1 hS.1)).trans (hS.2.1 q h1 h2)⟩
end KTH
