/-! The law's cases where nothing is thrown. -/
/-- where a case goes on -/
def lGo (l : Launch) (g : xG) (mc ms : Nat) (K9 : xKt) (b0 i k : Nat) (F : Nat → Prop) (x y o : Nat) (ad : Nat → Nat) (c1 c2 : Nat) : Prop :=
  ∀ (M1 : xM) (K : List Nat) (dn : Bool) (T Tc : TT) (D : Nat → Nat) (pw : Option Nat) (tr sq d1 d2 : Nat) (w5 w6 : Value), d1 ≤ c1 + 1 → d2 ≤ c2 + 6 → lI (k + 1) F M1 x y o ad K dn T Tc D pw tr sq → xWg l g hL_law mc ms 739 [(1, va_rf (some b0)), (1, va_rf (some x)), (1, va_rf (some y)), (1, va_rf (some o)), (1, .int (nI i)), (0, w5), (0, w6)] [] (d1, d2) M1 K9
section LCA
variable {l : Launch} {g : xG} {K9 : xKt} {Ls : Nat} {xs : Nat → Int32} {b0 i k mc ms c1 c2 : Nat} {w5 w6 : Value} {F : Nat → Prop} {M : xM} {x y o : Nat} {ad : Nat → Nat} {K : List Nat} {dn : Bool} {T Tc : TT} {D : Nat → Nat} {pw : Option Nat} {tr sq : Nat}
theorem lI.gd (h : lI k F M x y o ad K dn T Tc D pw tr sq) : (tWF T ∧ tInv T) ∧ (tWF Tc ∧ tInv Tc ∧ ∀ n, tU Tc n = true → tR Tc n = false) ∧ sq ≤ 1000000000 + (k + 1) := ⟨h.1.1, h.1.2.1, by have := h.1.2.2; omega⟩
theorem lI.ky (h : lI k F M x y o ad K dn T Tc D pw tr sq) : K.length ≤ 64 ∧ ∀ b ∈ K, b < 256 := ⟨h.2.2.1.2.1.2.1, h.2.2.1.2.1.2.2.2⟩
theorem aPut_ok {v : Int64} (h : lI k F M x y o ad K dn T Tc D pw tr sq) : tWF (aPut K dn T v).2 ∧ tInv (aPut K dn T v).2 := by
  unfold aPut
  split
  · exact h.1.1
  · split
    · exact h.1.1
    · rename_i h2
      exact tPut_ok h.1.1.1 h.1.1.2 (by have : ¬ 12 < K.length := fun z => h2 (Or.inl z); omega) h.ky.2
theorem aRem_ok (h : lI k F M x y o ad K dn T Tc D pw tr sq) : tWF (aRem K dn T).2 ∧ tInv (aRem K dn T).2 := by
  unfold aRem
  split
  · exact h.1.1
  · split
    · exact h.1.1
    · exact tRem_ok h.1.1.1 h.1.1.2 K
theorem lc_tapeAt (hscr : xScr K9 b0 Ls xs) (hth : xThK K9) (hk : k ≤ 512) (hi : i + 4 ≤ Ls) (hm : c1 + 1 ≤ mc ∧ c2 + 6 ≤ ms) (h : lI k F M x y o ad K dn T Tc D pw tr sq) (hn : lGo l g mc ms K9 b0 i k F x y o ad c1 c2) :
    xWg l g hL_law mc ms 280 [(1, va_rf (some b0)), (1, va_rf (some x)), (1, va_rf (some y)), (1, va_rf (some o)), (1, .int (nI i)), (0, w5), (0, w6)] [] (c1, c2) M K9 := by
  have hA := h.a hk
  have e1 : nI i + 1 = nI (i + 1) := nI_1 i
  have hc : c1 ≤ mc ∧ c2 ≤ ms := ⟨by omega, by omega⟩
  exact bL_law_280 _ _ _ _ _ _ hscr hth ⟨i + 1, e1, by omega, x, rfl, h.x6, hc, sX9_tapeAt h.2.1 ⟨_, rfl, i + 1, e1, by omega, y, rfl, h.y7, hc, sX10_tapeAt hA h.2.2.1 (fun M2 r2 x2 t2 => ⟨_, rfl, fun _ => hn M2 _ _ _ _ _ _ _ _ _ _ _ _ (by omega) (by omega) (h.r xag.rf x2 h.gd h.2.1 r2), fun z => absurd rfl z⟩)⟩⟩
theorem lc_put (hscr : xScr K9 b0 Ls xs) (hth : xThK K9) (hk : k ≤ 512) (hi : i + 4 ≤ Ls) (hm : c1 + 1 ≤ mc ∧ c2 + 6 ≤ ms) (h : lI k F M x y o ad K dn T Tc D pw tr sq) (hn : lGo l g mc ms K9 b0 i k F x y o ad c1 c2) :
    xWg l g hL_law mc ms 305 [(1, va_rf (some b0)), (1, va_rf (some x)), (1, va_rf (some y)), (1, va_rf (some o)), (1, .int (nI i)), (0, w5), (0, w6)] [] (c1, c2) M K9 := by
  have hA := h.a hk
  have e1 : nI i + 1 = nI (i + 1) := nI_1 i
  have e2 : nI i + 2 = nI (i + 2) := nI_add i 2
  have hc : c1 ≤ mc ∧ c2 ≤ ms := ⟨by omega, by omega⟩
  exact bL_law_305 _ _ _ _ _ _ hscr hth ⟨i + 1, e1, by omega, i + 2, e2, by omega, x, rfl, h.x6, hc, sX9_put hA h.2.1 (fun M1 q1 x1 => ⟨_, rfl, i + 1, e1, by omega, i + 2, e2, by omega, y, rfl, (h.c x1).2.2, hc, sX10_put hA (h.c x1).1 (fun M2 r2 x2 t2 => ⟨_, rfl, fun _ => hn M2 _ _ _ _ _ _ _ _ _ _ _ _ (by omega) (by omega) (h.r x1 x2 ⟨aPut_ok h, h.gd.2⟩ q1 r2), fun z => absurd rfl z⟩)⟩)⟩
theorem lc_remove (hscr : xScr K9 b0 Ls xs) (hth : xThK K9) (hk : k ≤ 512) (hm : c1 + 1 ≤ mc ∧ c2 + 6 ≤ ms) (h : lI k F M x y o ad K dn T Tc D pw tr sq) (hn : lGo l g mc ms K9 b0 i k F x y o ad c1 c2) :
    xWg l g hL_law mc ms 362 [(1, va_rf (some b0)), (1, va_rf (some x)), (1, va_rf (some y)), (1, va_rf (some o)), (1, .int (nI i)), (0, w5), (0, w6)] [] (c1, c2) M K9 := by
  have hA := h.a hk
  have hc : c1 ≤ mc ∧ c2 ≤ ms := ⟨by omega, by omega⟩
  exact bL_law_362 _ _ _ _ _ _ hscr hth ⟨x, rfl, h.x6, hc, sX9_remove hA h.2.1 (fun M1 q1 x1 => ⟨_, rfl, y, rfl, (h.c x1).2.2, hc, sX10_remove hA (h.c x1).1 (fun M2 r2 x2 t2 => ⟨_, rfl, fun _ => hn M2 _ _ _ _ _ _ _ _ _ _ _ _ (by omega) (by omega) (h.r x1 x2 ⟨aRem_ok h, h.gd.2⟩ q1 r2), fun z => absurd rfl z⟩)⟩)⟩
theorem lc_get (hscr : xScr K9 b0 Ls xs) (hth : xThK K9) (hk : k ≤ 512) (hm : c1 + 1 ≤ mc ∧ c2 + 6 ≤ ms) (h : lI k F M x y o ad K dn T Tc D pw tr sq) (hn : lGo l g mc ms K9 b0 i k F x y o ad c1 c2) :
    xWg l g hL_law mc ms 375 [(1, va_rf (some b0)), (1, va_rf (some x)), (1, va_rf (some y)), (1, va_rf (some o)), (1, .int (nI i)), (0, w5), (0, w6)] [] (c1, c2) M K9 := by
  have hA := h.a hk
  have hc : c1 ≤ mc ∧ c2 ≤ ms := ⟨by omega, by omega⟩
  exact bL_law_375 _ _ _ _ _ _ hscr hth ⟨x, rfl, h.x6, hc, sX9_get hA h.2.1 (fun M1 q1 x1 => ⟨_, rfl, y, rfl, (h.c x1).2.2, hc, sX10_get hA (h.c x1).1 (fun M2 r2 x2 t2 => ⟨_, rfl, fun _ => hn M2 _ _ _ _ _ _ _ _ _ _ _ _ (by omega) (by omega) (h.r x1 x2 h.gd q1 r2), fun z => absurd (lgeq.mpr rfl) z⟩)⟩)⟩
theorem lc_with (hscr : xScr K9 b0 Ls xs) (hth : xThK K9) (hk : k ≤ 512) (hm : c1 + 1 ≤ mc ∧ c2 + 6 ≤ ms) (h : lI k F M x y o ad K dn T Tc D pw tr sq) (hn : lGo l g mc ms K9 b0 i k F x y o ad c1 c2) :
    xWg l g hL_law mc ms 389 [(1, va_rf (some b0)), (1, va_rf (some x)), (1, va_rf (some y)), (1, va_rf (some o)), (1, .int (nI i)), (0, w5), (0, w6)] [] (c1, c2) M K9 := by
  have hA := h.a hk
  have hc : c1 ≤ mc ∧ c2 ≤ ms := ⟨by omega, by omega⟩
  exact bL_law_389 _ _ _ _ _ _ hscr hth ⟨x, rfl, h.x6, hc, sX9_with hA h.2.1 (fun M1 q1 x1 => ⟨_, rfl, y, rfl, (h.c x1).2.2, hc, sX10_with hA (h.c x1).1 (fun M2 r2 x2 t2 => ⟨_, rfl, fun _ => hn M2 _ _ _ _ _ _ _ _ _ _ _ _ (by omega) (by omega) (h.r x1 x2 h.gd q1 r2), fun z => absurd rfl z⟩)⟩)⟩
theorem lc_before (hscr : xScr K9 b0 Ls xs) (hth : xThK K9) (hk : k ≤ 512) (hm : c1 + 1 ≤ mc ∧ c2 + 6 ≤ ms) (h : lI k F M x y o ad K dn T Tc D pw tr sq) (hn : lGo l g mc ms K9 b0 i k F x y o ad c1 c2) :
    xWg l g hL_law mc ms 402 [(1, va_rf (some b0)), (1, va_rf (some x)), (1, va_rf (some y)), (1, va_rf (some o)), (1, .int (nI i)), (0, w5), (0, w6)] [] (c1, c2) M K9 := by
  have hA := h.a hk
  have hc : c1 ≤ mc ∧ c2 ≤ ms := ⟨by omega, by omega⟩
  exact bL_law_402 _ _ _ _ _ _ hscr hth ⟨x, rfl, h.x6, hc, sX9_before hA h.2.1 (fun M1 q1 x1 => ⟨_, rfl, y, rfl, (h.c x1).2.2, hc, sX10_before hA (h.c x1).1 (fun M2 r2 x2 t2 => ⟨_, rfl, fun _ => hn M2 _ _ _ _ _ _ _ _ _ _ _ _ (by omega) (by omega) (h.r x1 x2 h.gd q1 r2), fun z => absurd rfl z⟩)⟩)⟩
theorem lc_nth (hscr : xScr K9 b0 Ls xs) (hth : xThK K9) (hk : k ≤ 512) (hi : i + 4 ≤ Ls) (hm : c1 + 1 ≤ mc ∧ c2 + 6 ≤ ms) (h : lI k F M x y o ad K dn T Tc D pw tr sq) (hn : lGo l g mc ms K9 b0 i k F x y o ad c1 c2) :
    xWg l g hL_law mc ms 415 [(1, va_rf (some b0)), (1, va_rf (some x)), (1, va_rf (some y)), (1, va_rf (some o)), (1, .int (nI i)), (0, w5), (0, w6)] [] (c1, c2) M K9 := by
  have hA := h.a hk
  have e1 : nI i + 1 = nI (i + 1) := nI_1 i
  have hc : c1 ≤ mc ∧ c2 ≤ ms := ⟨by omega, by omega⟩
  exact bL_law_415 _ _ _ _ _ _ hscr hth ⟨i + 1, e1, by omega, x, rfl, h.x6, hc, sX9_nth hA h.2.1 (fun M1 q1 x1 => ⟨_, rfl, i + 1, e1, by omega, y, rfl, (h.c x1).2.2, hc, sX10_nth hA (h.c x1).1 (fun M2 r2 x2 t2 => ⟨_, rfl, fun _ => hn M2 _ _ _ _ _ _ _ _ _ _ _ _ (by omega) (by omega) (h.r x1 x2 h.gd q1 r2), fun z => absurd rfl z⟩)⟩)⟩
theorem lc_commit (hscr : xScr K9 b0 Ls xs) (hth : xThK K9) (hk : k ≤ 512) (hm : c1 + 1 ≤ mc ∧ c2 + 6 ≤ ms) (h : lI k F M x y o ad K dn T Tc D pw tr sq) (hn : lGo l g mc ms K9 b0 i k F x y o ad c1 c2) :
    xWg l g hL_law mc ms 440 [(1, va_rf (some b0)), (1, va_rf (some x)), (1, va_rf (some y)), (1, va_rf (some o)), (1, .int (nI i)), (0, w5), (0, w6)] [] (c1, c2) M K9 := by
  have hA := h.a hk
  have hc : c1 ≤ mc ∧ c2 ≤ ms := ⟨by omega, by omega⟩
  exact bL_law_440 _ _ _ _ _ _ hscr hth ⟨x, rfl, h.x6, hc, sX9_commit hA h.2.1 (fun M1 q1 x1 => ⟨_, rfl, y, rfl, (h.c x1).2.2, hc, sX10_commit hA (h.c x1).1 (fun M2 r2 x2 t2 => ⟨_, rfl, fun _ => hn M2 _ _ _ _ _ _ _ _ _ _ _ _ (by omega) (by omega) (h.r x1 x2 (aCom_ok h.1.1.1 h.1.1.2 h.1.2.1.1 h.1.2.1.2.1 h.1.2.1.2.2 h.1.2.2) q1 r2), fun z => absurd rfl z⟩)⟩)⟩
theorem lc_back (hscr : xScr K9 b0 Ls xs) (hth : xThK K9) (hk : k ≤ 512) (hm : c1 + 1 ≤ mc ∧ c2 + 6 ≤ ms) (h : lI k F M x y o ad K dn T Tc D pw tr sq) (hn : lGo l g mc ms K9 b0 i k F x y o ad c1 c2) :
    xWg l g hL_law mc ms 453 [(1, va_rf (some b0)), (1, va_rf (some x)), (1, va_rf (some y)), (1, va_rf (some o)), (1, .int (nI i)), (0, w5), (0, w6)] [] (c1, c2) M K9 := by
  have hA := h.a hk
  have hc : c1 ≤ mc ∧ c2 ≤ ms := ⟨by omega, by omega⟩
  have hT : tWF (if dn = true then T else Tc) ∧ tInv (if dn = true then T else Tc) := by
    split
    · exact h.1.1
    · exact ⟨h.1.2.1.1, h.1.2.1.2.1⟩
  exact bL_law_453 _ _ _ _ _ _ hscr hth ⟨x, rfl, h.x6, hc, sX9_back hA h.2.1 (fun M1 q1 x1 => ⟨_, rfl, y, rfl, (h.c x1).2.2, hc, sX10_back hA (h.c x1).1 (fun M2 r2 x2 t2 => ⟨_, rfl, fun _ => hn M2 _ _ _ _ _ _ _ _ _ _ _ _ (by omega) (by omega) (h.r x1 x2 ⟨hT, h.gd.2⟩ q1 r2), fun z => absurd rfl z⟩)⟩)⟩
theorem lc_count (hscr : xScr K9 b0 Ls xs) (hth : xThK K9) (hk : k ≤ 512) (hi : i + 4 ≤ Ls) (hm : c1 + 1 ≤ mc ∧ c2 + 6 ≤ ms) (h : lI k F M x y o ad K dn T Tc D pw tr sq) (hn : lGo l g mc ms K9 b0 i k F x y o ad c1 c2) :
    xWg l g hL_law mc ms 466 [(1, va_rf (some b0)), (1, va_rf (some x)), (1, va_rf (some y)), (1, va_rf (some o)), (1, .int (nI i)), (0, w5), (0, w6)] [] (c1, c2) M K9 := by
  have hA := h.a hk
  have e1 : nI i + 1 = nI (i + 1) := nI_1 i
  have hc : c1 ≤ mc ∧ c2 ≤ ms := ⟨by omega, by omega⟩
  exact bL_law_466 _ _ _ _ _ _ hscr hth ⟨i + 1, e1, by omega, x, rfl, h.x6, hc, sX9_count hA h.2.1 ⟨_, rfl, i + 1, e1, by omega, y, rfl, h.y7, hc, sX10_count hA h.2.2.1 (fun M2 r2 x2 t2 => ⟨_, rfl, fun _ => hn M2 _ _ _ _ _ _ _ _ _ _ _ _ (by omega) (by omega) (h.r xag.rf x2 h.gd h.2.1 r2), fun z => absurd rfl z⟩)⟩⟩
theorem lc_node (hscr : xScr K9 b0 Ls xs) (hth : xThK K9) (hk : k ≤ 512) (hi : i + 4 ≤ Ls) (hm : c1 + 1 ≤ mc ∧ c2 + 6 ≤ ms) (h : lI k F M x y o ad K dn T Tc D pw tr sq) (hn : lGo l g mc ms K9 b0 i k F x y o ad c1 c2) :
    xWg l g hL_law mc ms 491 [(1, va_rf (some b0)), (1, va_rf (some x)), (1, va_rf (some y)), (1, va_rf (some o)), (1, .int (nI i)), (0, w5), (0, w6)] [] (c1, c2) M K9 := by
  have hA := h.a hk
  have e1 : nI i + 1 = nI (i + 1) := nI_1 i
  have e2 : nI i + 2 = nI (i + 2) := nI_add i 2
  have hc : c1 ≤ mc ∧ c2 ≤ ms := ⟨by omega, by omega⟩
  exact bL_law_491 _ _ _ _ _ _ hscr hth ⟨i + 1, e1, by omega, i + 2, e2, by omega, x, rfl, h.x6, hc, sX9_node hA h.2.1 ⟨_, rfl, i + 1, e1, by omega, i + 2, e2, by omega, y, rfl, h.y7, hc, sX10_node hA h.2.2.1 (fun M2 r2 x2 t2 => ⟨_, rfl, fun _ => hn M2 _ _ _ _ _ _ _ _ _ _ _ _ (by omega) (by omega) (h.r xag.rf x2 h.gd h.2.1 r2), fun z => absurd rfl z⟩)⟩⟩
theorem lc_power (hscr : xScr K9 b0 Ls xs) (hth : xThK K9) (hk : k ≤ 512) (hi : i + 4 ≤ Ls) (hm : c1 + 1 ≤ mc ∧ c2 + 6 ≤ ms) (h : lI k F M x y o ad K dn T Tc D pw tr sq) (hn : lGo l g mc ms K9 b0 i k F x y o ad c1 c2) :
    xWg l g hL_law mc ms 528 [(1, va_rf (some b0)), (1, va_rf (some x)), (1, va_rf (some y)), (1, va_rf (some o)), (1, .int (nI i)), (0, w5), (0, w6)] [] (c1, c2) M K9 := by
  have hA := h.a hk
  have e1 : nI i + 1 = nI (i + 1) := nI_1 i
  have e2 : nI i + 2 = nI (i + 2) := nI_add i 2
  have hc : c1 ≤ mc ∧ c2 ≤ ms := ⟨by omega, by omega⟩
  exact bL_law_528 _ _ _ _ _ _ hscr hth ⟨i + 1, e1, by omega, i + 2, e2, by omega, x, rfl, h.x6, hc, sX9_power hA h.2.1 (fun M1 q1 x1 => ⟨_, rfl, i + 1, e1, by omega, i + 2, e2, by omega, y, rfl, (h.c x1).2.2, hc, sX10_power hA (h.c x1).1 (fun M2 r2 x2 t2 => ⟨_, rfl, fun _ => hn M2 _ _ _ _ _ _ _ _ _ _ _ _ (by omega) (by omega) (h.r x1 x2 h.gd q1 r2), fun z => absurd rfl z⟩)⟩)⟩
theorem lc_start (hscr : xScr K9 b0 Ls xs) (hth : xThK K9) (hk : k ≤ 512) (hm : c1 + 1 ≤ mc ∧ c2 + 6 ≤ ms) (h : lI k F M x y o ad K dn T Tc D pw tr sq) (hn : lGo l g mc ms K9 b0 i k F x y o ad c1 c2) :
    xWg l g hL_law mc ms 565 [(1, va_rf (some b0)), (1, va_rf (some x)), (1, va_rf (some y)), (1, va_rf (some o)), (1, .int (nI i)), (0, w5), (0, w6)] [] (c1, c2) M K9 := by
  have hA := h.a hk
  have hc : c1 ≤ mc ∧ c2 ≤ ms := ⟨by omega, by omega⟩
  cases dn with
  | false => exact bL_law_565 _ _ _ _ _ _ hscr hth ⟨x, rfl, h.x6, hc, sX9_start0 h.2.1 ⟨_, rfl, y, rfl, h.y7, hc, sX10_start0 hA h.2.2.1 (fun M2 r2 x2 t2 => ⟨_, rfl, fun _ => hn M2 _ _ _ _ _ _ _ _ _ _ _ _ (by omega) (by omega) (h.r xag.rf x2 h.gd h.2.1 r2), fun z => absurd rfl z⟩)⟩⟩
  | true =>
    obtain ⟨a1, a2, a3, a4⟩ := tLoad_ok (D := D) h.2.2.1.2.2.2.2.2.2.1.2
    exact bL_law_565 _ _ _ _ _ _ hscr hth ⟨x, rfl, h.x6, hc, sX9_start hA h.2.1 (fun M1 q1 x1 => ⟨_, rfl, y, rfl, (h.c x1).2.2, hc, sX10_start hA (h.c x1).1 (fun M2 r2 x2 t2 => ⟨_, rfl, fun _ => hn M2 _ _ _ _ _ _ _ _ _ _ _ _ (by omega) (by omega) (h.r x1 x2 ⟨⟨a1, a2⟩, ⟨a1, a2, a3⟩, by omega⟩ q1 r2), fun z => absurd rfl z⟩)⟩)⟩
theorem lc_halt (hscr : xScr K9 b0 Ls xs) (hth : xThK K9) (hk : k ≤ 512) (hm : c1 + 1 ≤ mc ∧ c2 + 6 ≤ ms) (h : lI k F M x y o ad K dn T Tc D pw tr sq) (hn : lGo l g mc ms K9 b0 i k F x y o ad c1 c2) :
    xWg l g hL_law mc ms 578 [(1, va_rf (some b0)), (1, va_rf (some x)), (1, va_rf (some y)), (1, va_rf (some o)), (1, .int (nI i)), (0, w5), (0, w6)] [] (c1, c2) M K9 := by
  have hA := h.a hk
  have hc : c1 ≤ mc ∧ c2 ≤ ms := ⟨by omega, by omega⟩
  exact bL_law_578 _ _ _ _ _ _ hscr hth ⟨x, rfl, h.x6, hc, sX9_halt hA h.2.1 (fun M1 q1 x1 => ⟨_, rfl, y, rfl, (h.c x1).2.2, hc, sX10_halt hA (h.c x1).1 (fun M2 r2 x2 t2 => ⟨_, rfl, fun _ => hn M2 _ _ _ _ _ _ _ _ _ _ _ _ (by omega) (by omega) (h.r x1 x2 h.gd q1 r2), fun z => absurd rfl z⟩)⟩)⟩
end LCA
