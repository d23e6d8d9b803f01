/-! The law's cases where something may be thrown. -/
theorem xWg.lw {l : Launch} {g : xG} {md : xMd} {mc ms pc : Nat} {L L1 : List (Nat × Value)} {st : List Value} {cs : Nat × Nat} {M : xM} {K : xKt} (h : xWg l g md mc ms pc L st cs M K) (hL : xlw L L1) : xWg l g md mc ms pc L1 st cs M K :=
  fun p e R s m args below meth c A H locs Z ls hF hE hP hS hl => h p e R s m args below meth c A H locs Z ls hF hE hP hS ⟨hl.1, hl.2.1, fun i t v hi ht => hl.2.2 i t v (xlw_get hL i t v hi ht) ht⟩
section LCB
variable {l : Launch} {g : xG} {K9 : xKt} {Ls : Nat} {xs : Nat → Int32} {b0 i k mc ms c1 c2 : Nat} {w5 w6 : Value} {F : Nat → Prop} {M M1 M2 : xM} {x y o : Nat} {ad : Nat → Nat} {K K1 : List Nat} {dn dn1 : Bool} {T Tc T1 Tc1 : TT} {D D1 : Nat → Nat} {pw pw1 : Option Nat} {tr sq tr1 sq1 : Nat} {Q : Option Value → xM → Prop}
theorem sX10_thrown (h : xat M y 7) (hQ : Q (some (.int (xI M y 0))) M) : xSp l g mX10_thrown 0 0 [va_rf (some y)] M Q := eX10_thrown _ (bX10_thrown_0 _ ⟨h, hQ⟩)
theorem lI.t (h : lI k F M x y o ad K dn T Tc D pw tr sq) (hx : xag (rG y ad) M M1) (hr : rR M1 y ad K dn T Tc D pw tr sq) : lI (k + 1) F M1 x y o ad K dn T Tc D pw tr sq := h.r xag.rf hx h.gd h.2.1 hr
/-- behind the class's call and the write to the law's row -/
theorem lI.w {v : Int64} (h : lI k F M x y o ad K dn T Tc D pw tr sq) (hx1 : xag F M M1) (hx2 : xag (rG y ad) (xsJ M1 o 0 v) M2) (hg : (tWF T1 ∧ tInv T1) ∧ (tWF Tc1 ∧ tInv Tc1 ∧ ∀ n, tU Tc1 n = true → tR Tc1 n = false) ∧ sq1 ≤ 1000000000 + (k + 1)) (hc : cR F M1 x K1 dn1 T1 Tc1 D1 pw1 tr1 sq1) (hr : rR M2 y ad K1 dn1 T1 Tc1 D1 pw1 tr1 sq1) : lI (k + 1) F M2 x y o ad K1 dn1 T1 Tc1 D1 pw1 tr1 sq1 ∧ xJ M2 o 0 = v := by
  have ho1 : xat M1 o 10 := hx1.at.mpr h.2.2.2.1.1
  have hc1 := hc.out (v := v) (o := o) hg.1.1 hg.2.1.1 ho1 h.2.2.2.2.2.1
  have hS1 := ((h.c hx1).1.out (v := v) h.2.2.2.2.2.2).1
  refine ⟨⟨hg, hc1.ag hg.1.1 hg.2.1.1 hx2 h.2.2.2.2.1 (fun a ra => rG_kind hS1 ra), hr, ⟨hx2.at.mpr ho1, ?_⟩, h.2.2.2.2⟩, ?_⟩
  · rw [hx2.1.2.2.1]
    show xN M1 o = 1
    rw [hx1.1.2.2.1]; exact h.2.2.2.1.2
  · rw [(hx2.2 o h.2.2.2.2.2.2).2.1, xJ_sJ, if_pos ⟨rfl, rfl⟩]
theorem lI.ox1 (h : lI k F M x y o ad K dn T Tc D pw tr sq) (hx1 : xag F M M1) : xai M1 o 10 (0 : Int32) 0 := ⟨hx1.at.mpr h.2.2.2.1.1, rfl, by rw [hx1.1.2.2.1, h.2.2.2.1.2]; omega, by rw [hx1.1.2.2.1, h.2.2.2.1.2]; omega⟩
theorem lc_cut (hl : l.stackTraces = false) (hscr : xScr K9 b0 Ls xs) (hth : xThK K9) (hk : k ≤ 512) (hi : i + 4 ≤ Ls) (hm : c1 + 1 ≤ mc ∧ c2 + 6 ≤ ms) (h : lI k F M x y o ad K dn T Tc D pw tr sq) (hn : lGo l g mc ms K9 b0 i k F x y o ad c1 c2) :
    xWg l g hL_law mc ms 224 [(1, va_rf (some b0)), (1, va_rf (some x)), (1, va_rf (some y)), (1, va_rf (some o)), (1, .int (nI i)), (0, w5), (0, w6)] [] (c1, c2) M K9 := by
  have hA := h.a hk
  have e1 : nI i + 1 = nI (i + 1) := nI_1 i
  have e2 : nI i + 2 = nI (i + 2) := nI_add i 2
  have e3 : nI i + 3 = nI (i + 3) := nI_add i 3
  have hG := h.2.2.2.2.2.2
  have h64 := h.ky.1
  have go : ∀ {M3 : xM} {K2 : List Nat} {dn2 : Bool} {T2 Tc2 : TT} {D2 : Nat → Nat} {pw2 : Option Nat} {tr2 sq2 : Nat} {u v : Value}, lI (k + 1) F M3 x y o ad K2 dn2 T2 Tc2 D2 pw2 tr2 sq2 → xWg l g hL_law mc ms 739 [(1, va_rf (some b0)), (1, va_rf (some x)), (1, va_rf (some y)), (1, va_rf (some o)), (1, .int (nI i)), (1, u), (1, v)] [] ((c1 + 1), (c2 + 6)) M3 K9 := fun {M3 K2 dn2 T2 Tc2 D2 pw2 tr2 sq2 u v} h3 => xWg.lw (hn M3 _ _ _ _ _ _ _ _ (c1 + 1) (c2 + 6) u v (Nat.le_refl _) (Nat.le_refl _) h3) ⟨Or.inl rfl, Or.inl rfl, Or.inl rfl, Or.inl rfl, Or.inl rfl, Or.inr rfl, Or.inr rfl, trivial⟩
  refine bL_law_224 _ _ _ _ _ _ hscr hth ⟨i + 1, e1, by omega, hm, ?_⟩
  by_cases hr : 0 ≤ xs (i + 1) ∧ xs (i + 1) ≤ nI K.length
  · obtain ⟨m, hm31, hx⟩ := nI_of (Int32.not_lt.mpr hr.1)
    have hmK : m ≤ K.length := nle hr.2 hx rfl
    rw [hx]
    refine sL_cut_ret h.x6 (sX9_cut hA hmK h.2.1 (fun M1 q1 x1 => ⟨_, rfl, h.ox1 x1, 0, rfl, i + 1, e1, by omega, y, rfl, (h.c x1).2.2, hm, ?_⟩))
    rw [hx]
    refine sX10_cut hA hmK ((h.c x1).1.out hG) (fun M2 r2 x2 t2 => ⟨_, rfl, r2.1.1, hm, sX10_thrown r2.1.1 ⟨_, rfl, fun _ => ⟨fun z => absurd rfl z, fun _ => ?_⟩, fun z => absurd t2 z⟩⟩)
    obtain ⟨h3, e9⟩ := h.w x1 x2 h.gd q1 r2
    exact ⟨o, rfl, 0, h3.ox, fun _ => go h3, fun z => absurd (lgeq.mpr (by rw [e9])) z⟩
  · refine sL_cut_1 h.x6 (sT_cut hl hr h.2.1) ⟨1, rfl, i + 1, e1, by omega, y, rfl, h.y7, hm, ?_⟩
    exact sX10_cut_no hr hA h.2.2.1 (fun M2 r2 x2 t2 => ⟨_, rfl, r2.1.1, hm, sX10_thrown r2.1.1 ⟨_, rfl, fun _ => ⟨fun _ => go (h.t x2 r2), fun z => absurd z (by decide)⟩, fun z => absurd t2 z⟩⟩)
theorem lc_type (hl : l.stackTraces = false) (hscr : xScr K9 b0 Ls xs) (hth : xThK K9) (hk : k ≤ 512) (hi : i + 4 ≤ Ls) (hm : c1 + 1 ≤ mc ∧ c2 + 6 ≤ ms) (h : lI k F M x y o ad K dn T Tc D pw tr sq) (hn : lGo l g mc ms K9 b0 i k F x y o ad c1 c2) :
    xWg l g hL_law mc ms 124 [(1, va_rf (some b0)), (1, va_rf (some x)), (1, va_rf (some y)), (1, va_rf (some o)), (1, .int (nI i)), (0, w5), (0, w6)] [] (c1, c2) M K9 := by
  have hA := h.a hk
  have e1 : nI i + 1 = nI (i + 1) := nI_1 i
  have e2 : nI i + 2 = nI (i + 2) := nI_add i 2
  have e3 : nI i + 3 = nI (i + 3) := nI_add i 3
  have hG := h.2.2.2.2.2.2
  have h64 := h.ky.1
  have go : ∀ {M3 : xM} {K2 : List Nat} {dn2 : Bool} {T2 Tc2 : TT} {D2 : Nat → Nat} {pw2 : Option Nat} {tr2 sq2 : Nat} {u v : Value}, lI (k + 1) F M3 x y o ad K2 dn2 T2 Tc2 D2 pw2 tr2 sq2 → xWg l g hL_law mc ms 739 [(1, va_rf (some b0)), (1, va_rf (some x)), (1, va_rf (some y)), (1, va_rf (some o)), (1, .int (nI i)), (1, u), (1, v)] [] ((c1 + 1), (c2 + 6)) M3 K9 := fun {M3 K2 dn2 T2 Tc2 D2 pw2 tr2 sq2 u v} h3 => xWg.lw (hn M3 _ _ _ _ _ _ _ _ (c1 + 1) (c2 + 6) u v (Nat.le_refl _) (Nat.le_refl _) h3) ⟨Or.inl rfl, Or.inl rfl, Or.inl rfl, Or.inl rfl, Or.inl rfl, Or.inr rfl, Or.inr rfl, trivial⟩
  refine bL_law_124 _ _ _ _ _ _ hscr hth ⟨i + 1, e1, by omega, i + 2, e2, by omega, i + 3, e3, by omega, hm, ?_⟩
  by_cases hr : 1 ≤ xs (i + 3) ∧ xs (i + 3) ≤ 8
  · have h0 : ¬ xs (i + 3) < 0 := fun z => by
      have a1 := Int32.le_iff_toInt_le.mp hr.1
      have a2 := Int32.lt_iff_toInt_lt.mp z
      rw [show (1 : Int32).toInt = 1 from rfl] at a1
      rw [show (0 : Int32).toInt = 0 from rfl] at a2
      omega
    obtain ⟨m, hm31, hx⟩ := nI_of h0
    have hm1 : 1 ≤ m := nle hr.1 (a := 1) rfl hx
    have hm8 : m ≤ 8 := nle hr.2 hx (b := 8) rfl
    rw [hx]
    by_cases hf : K.length + m ≤ 64
    · refine sL_type_ret h.x6 (sX9_type hA hm1 hm8 hf h.2.1 (fun M1 q1 x1 => ⟨_, rfl, h.ox1 x1, 0, rfl, i + 1, e1, by omega, i + 2, e2, by omega, i + 3, e3, by omega, y, rfl, (h.c x1).2.2, hm, ?_⟩))
      rw [hx]
      refine sX10_type hA hm1 hm8 hf ((h.c x1).1.out hG) (fun M2 r2 x2 t2 => ⟨_, rfl, r2.1.1, hm, sX10_thrown r2.1.1 ⟨_, rfl, fun _ => ⟨fun z => absurd rfl z, fun _ => ?_⟩, fun z => absurd t2 z⟩⟩)
      obtain ⟨h3, e9⟩ := h.w x1 x2 h.gd q1 r2
      exact ⟨o, rfl, 0, h3.ox, fun _ => go h3, fun z => absurd (lgeq.mpr (by rw [e9])) z⟩
    · refine sL_type_2 h.x6 (sT_type2 hl hm1 hm8 (by omega) h.2.1) ⟨2, rfl, i + 1, e1, by omega, i + 2, e2, by omega, i + 3, e3, by omega, y, rfl, h.y7, hm, ?_⟩
      rw [hx]
      exact sX10_type_full hm1 hm8 (by omega) hA h.2.2.1 (fun M2 r2 x2 t2 => ⟨_, rfl, r2.1.1, hm, sX10_thrown r2.1.1 ⟨_, rfl, fun _ => ⟨fun _ => go (h.t x2 r2), fun z => absurd z (by decide)⟩, fun z => absurd t2 z⟩⟩)
  · refine sL_type_1 h.x6 (sT_type1 hl hr) ⟨1, rfl, i + 1, e1, by omega, i + 2, e2, by omega, i + 3, e3, by omega, y, rfl, h.y7, hm, ?_⟩
    exact sX10_type_no hr hA h.2.2.1 (fun M2 r2 x2 t2 => ⟨_, rfl, r2.1.1, hm, sX10_thrown r2.1.1 ⟨_, rfl, fun _ => ⟨fun _ => go (h.t x2 r2), fun z => absurd z (by decide)⟩, fun z => absurd t2 z⟩⟩)
theorem lc_octet (hl : l.stackTraces = false) (hscr : xScr K9 b0 Ls xs) (hth : xThK K9) (hk : k ≤ 512) (hi : i + 4 ≤ Ls) (hm : c1 + 1 ≤ mc ∧ c2 + 6 ≤ ms) (h : lI k F M x y o ad K dn T Tc D pw tr sq) (hn : lGo l g mc ms K9 b0 i k F x y o ad c1 c2) :
    xWg l g hL_law mc ms 591 [(1, va_rf (some b0)), (1, va_rf (some x)), (1, va_rf (some y)), (1, va_rf (some o)), (1, .int (nI i)), (0, w5), (0, w6)] [] (c1, c2) M K9 := by
  have hA := h.a hk
  have e1 : nI i + 1 = nI (i + 1) := nI_1 i
  have e2 : nI i + 2 = nI (i + 2) := nI_add i 2
  have e3 : nI i + 3 = nI (i + 3) := nI_add i 3
  have hG := h.2.2.2.2.2.2
  have h64 := h.ky.1
  have go : ∀ {M3 : xM} {K2 : List Nat} {dn2 : Bool} {T2 Tc2 : TT} {D2 : Nat → Nat} {pw2 : Option Nat} {tr2 sq2 : Nat} {u v : Value}, lI (k + 1) F M3 x y o ad K2 dn2 T2 Tc2 D2 pw2 tr2 sq2 → xWg l g hL_law mc ms 739 [(1, va_rf (some b0)), (1, va_rf (some x)), (1, va_rf (some y)), (1, va_rf (some o)), (1, .int (nI i)), (1, u), (1, v)] [] ((c1 + 1), (c2 + 6)) M3 K9 := fun {M3 K2 dn2 T2 Tc2 D2 pw2 tr2 sq2 u v} h3 => xWg.lw (hn M3 _ _ _ _ _ _ _ _ (c1 + 1) (c2 + 6) u v (Nat.le_refl _) (Nat.le_refl _) h3) ⟨Or.inl rfl, Or.inl rfl, Or.inl rfl, Or.inl rfl, Or.inl rfl, Or.inr rfl, Or.inr rfl, trivial⟩
  refine bL_law_591 _ _ _ _ _ _ hscr hth ⟨i + 1, e1, by omega, i + 2, e2, by omega, hm, ?_⟩
  by_cases hr : (0 ≤ xs (i + 1) ∧ xs (i + 1) ≤ 255) ∧ (0 ≤ xs (i + 2) ∧ xs (i + 2) ≤ 511)
  · obtain ⟨p, hp31, hp⟩ := nI_of (Int32.not_lt.mpr hr.1.1)
    obtain ⟨q, hq31, hq⟩ := nI_of (Int32.not_lt.mpr hr.2.1)
    have hp2 : p ≤ 255 := nle hr.1.2 hp (b := 255) rfl
    have hq2 : q ≤ 511 := nle hr.2.2 hq (b := 511) rfl
    rw [hp, hq]
    refine sL_octet_ret h.x6 (sX9_octet (by omega) (by omega) h.2.1 ⟨_, rfl, h.ox, 0, rfl, i + 1, e1, by omega, i + 2, e2, by omega, y, rfl, h.y7, hm, ?_⟩)
    have x1 : xag F M M := xag.rf
    have q1 := h.2.1
    rw [hp, hq]
    refine sX10_octet (by omega) (by omega) hA ((h.c x1).1.out hG) (fun M2 r2 x2 t2 => ⟨_, rfl, r2.1.1, hm, sX10_thrown r2.1.1 ⟨_, rfl, fun _ => ⟨fun z => absurd rfl z, fun _ => ?_⟩, fun z => absurd t2 z⟩⟩)
    obtain ⟨h3, e9⟩ := h.w x1 x2 h.gd q1 r2
    exact ⟨o, rfl, 0, h3.ox, fun _ => go h3, fun z => absurd (lgeq.mpr (by rw [e9])) z⟩
  · refine sL_octet_1 h.x6 (sT_octet hl hr) ⟨1, rfl, i + 1, e1, by omega, i + 2, e2, by omega, y, rfl, h.y7, hm, ?_⟩
    exact sX10_octet_no hr hA h.2.2.1 (fun M2 r2 x2 t2 => ⟨_, rfl, r2.1.1, hm, sX10_thrown r2.1.1 ⟨_, rfl, fun _ => ⟨fun _ => go (h.t x2 r2), fun z => absurd z (by decide)⟩, fun z => absurd t2 z⟩⟩)
theorem lc_poke (hl : l.stackTraces = false) (hscr : xScr K9 b0 Ls xs) (hth : xThK K9) (hk : k ≤ 512) (hi : i + 4 ≤ Ls) (hm : c1 + 1 ≤ mc ∧ c2 + 6 ≤ ms) (h : lI k F M x y o ad K dn T Tc D pw tr sq) (hn : lGo l g mc ms K9 b0 i k F x y o ad c1 c2) :
    xWg l g hL_law mc ms 659 [(1, va_rf (some b0)), (1, va_rf (some x)), (1, va_rf (some y)), (1, va_rf (some o)), (1, .int (nI i)), (0, w5), (0, w6)] [] (c1, c2) M K9 := by
  have hA := h.a hk
  have e1 : nI i + 1 = nI (i + 1) := nI_1 i
  have e2 : nI i + 2 = nI (i + 2) := nI_add i 2
  have e3 : nI i + 3 = nI (i + 3) := nI_add i 3
  have hG := h.2.2.2.2.2.2
  have h64 := h.ky.1
  have go : ∀ {M3 : xM} {K2 : List Nat} {dn2 : Bool} {T2 Tc2 : TT} {D2 : Nat → Nat} {pw2 : Option Nat} {tr2 sq2 : Nat} {u v : Value}, lI (k + 1) F M3 x y o ad K2 dn2 T2 Tc2 D2 pw2 tr2 sq2 → xWg l g hL_law mc ms 739 [(1, va_rf (some b0)), (1, va_rf (some x)), (1, va_rf (some y)), (1, va_rf (some o)), (1, .int (nI i)), (1, u), (1, v)] [] ((c1 + 1), (c2 + 6)) M3 K9 := fun {M3 K2 dn2 T2 Tc2 D2 pw2 tr2 sq2 u v} h3 => xWg.lw (hn M3 _ _ _ _ _ _ _ _ (c1 + 1) (c2 + 6) u v (Nat.le_refl _) (Nat.le_refl _) h3) ⟨Or.inl rfl, Or.inl rfl, Or.inl rfl, Or.inl rfl, Or.inl rfl, Or.inr rfl, Or.inr rfl, trivial⟩
  refine bL_law_659 _ _ _ _ _ _ hscr hth ⟨i + 1, e1, by omega, i + 2, e2, by omega, i + 3, e3, by omega, hm, ?_⟩
  by_cases hr : (0 ≤ xs (i + 1) ∧ xs (i + 1) ≤ 255) ∧ (0 ≤ xs (i + 2) ∧ xs (i + 2) ≤ 511)
  · obtain ⟨p, hp31, hp⟩ := nI_of (Int32.not_lt.mpr hr.1.1)
    obtain ⟨q, hq31, hq⟩ := nI_of (Int32.not_lt.mpr hr.2.1)
    have hp2 : p ≤ 255 := nle hr.1.2 hp (b := 255) rfl
    have hq2 : q ≤ 511 := nle hr.2.2 hq (b := 511) rfl
    rw [hp, hq]
    refine sL_poke_ret h.x6 (sX9_poke hA (by omega) (by omega) h.2.1 (fun M1 q1 x1 => ⟨_, rfl, h.ox1 x1, 0, rfl, i + 1, e1, by omega, i + 2, e2, by omega, i + 3, e3, by omega, y, rfl, (h.c x1).2.2, hm, ?_⟩))
    rw [hp, hq]
    refine sX10_poke hA (by omega) (by omega) ((h.c x1).1.out hG) (fun M2 r2 x2 t2 => ⟨_, rfl, r2.1.1, hm, sX10_thrown r2.1.1 ⟨_, rfl, fun _ => ⟨fun z => absurd rfl z, fun _ => ?_⟩, fun z => absurd t2 z⟩⟩)
    obtain ⟨h3, e9⟩ := h.w x1 x2 h.gd q1 r2
    exact ⟨o, rfl, 0, h3.ox, fun _ => go h3, fun z => absurd (lgeq.mpr (by rw [e9])) z⟩
  · refine sL_poke_1 h.x6 (sT_poke hl hr) ⟨1, rfl, i + 1, e1, by omega, i + 2, e2, by omega, i + 3, e3, by omega, y, rfl, h.y7, hm, ?_⟩
    exact sX10_poke_no hr hA h.2.2.1 (fun M2 r2 x2 t2 => ⟨_, rfl, r2.1.1, hm, sX10_thrown r2.1.1 ⟨_, rfl, fun _ => ⟨fun _ => go (h.t x2 r2), fun z => absurd z (by decide)⟩, fun z => absurd t2 z⟩⟩)
end LCB
