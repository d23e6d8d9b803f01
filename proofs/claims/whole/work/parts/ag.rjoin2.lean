/-! The reference's putTogether, remove. -/
section RRM
variable {l : Launch} {g : xG} {M M0 M1 M2 M3 M4 M5 : xM} {Q : Option Value → xM → Prop} {y : Nat} {ad : Nat → Nat} {T T1 Tc : TT} {o n b c s m w a u : Nat} {K W p : List Nat} {v : Int64} {P P1 : Nat → Nat → Prop} {dn : Bool} {D : Nat → Nat} {pw : Option Nat} {tr sq : Nat}
theorem sX10_putTogether (hW : tWF T) (hu : tU T u = true) (hC : tC T u = [c]) (hS : rS M y ad) (hT : rT M ad 0 T) (hr : xI M y 14 = nI (tO T))
    (hQ : ∀ M1, rX (rLo y ad) M M1 → rT M1 ad 0 (tFr (tJn T u c) c) → xI M1 y 14 = nI (tO (tJn T u c)) → xI M1 y 0 = xI M y 0 → Q none M1) : xSp l g mX10_putTogether 0 0 [va_rf (some y), .int (nI u)] M Q := by
  have hcm : c ∈ tC T u := by rw [hC]; exact List.mem_singleton.mpr rfl
  obtain ⟨hcu, hcp⟩ := hW.2.2.2.2.1 u c hu hcm
  have hlc := (hW.2.2.2.1 c u hcu hcp).2.2
  have huc : u ≠ c := fun z => by rw [← z] at hlc; omega
  have hu220 := (hW.2.1 u hu).1
  have hc220 := (hW.2.1 c hcu).1
  have hl := (hW.2.1 c hcu).2.2.2
  obtain ⟨u1, u2, u3, u4, -⟩ := hT.d hW hu
  obtain ⟨c1, c2, c3, c4, -⟩ := hT.d hW hcu
  have hWj := tJn_wf hW hu hC
  have hcj : tU (tJn T u c) c = true := by
    show va_up (tU T) u false c = true
    rw [va_up_ne _ _ (Ne.symm huc)]; exact hcu
  refine eX10_putTogether _ _ (bX10_putTogether_0 _ _ ⟨hS.1, sX10_childFrom (b := 0) hS hT hW hu (by omega) ⟨_, rfl, hS.1, ad 8, (hS.2.1 8 (by decide)).1, u, hS.ai (j := 8) (by decide) (by show u < 440; omega), ?_⟩⟩)
  rw [tK_0, hC]
  refine ⟨c, hS.ai (j := 8) (by decide) (by show c < 440; omega), ?_⟩
  rw [u3, c3, show nI (tX T c).length - 1 = nI (tX T c).length + (-1) from Int32.sub_eq_add_neg _ _]
  refine join_shift (X := tX T c) (w := (tX T u).length) hS hc220 (by omega) c4 (fun M2 hx2 h27 => ?_) (tX T c).length M (Nat.le_refl _) rX.rf c4 (fun j h1 h2 => by omega)
  have hS2 := hx2.sS hS
  refine join_pre (X := tX T c) (U := tX T u) hS2 hc220 hu220 huc rfl (by omega) (fun i hi => by
    have hi12 := (tX_le hW hu).1
    rw [(hx2.2 _ _ (fun z => by omega)).1]; exact u4 i hi) h27 (fun M3 hx3 h37 h37b => ?_) (tX T u).length 0 M2 (by omega) rX.rf (fun j hj => by omega) h27
  have hx03 := hx2.trans hx3
  have hS3 := hx03.sS hS
  have g : ∀ j ∈ RL9, j ≠ 7 → ∀ k, xI M3 (ad j) k = xI M (ad j) k := fun j hj n7 k => (hx03.2 _ _ (fun z => hS.na hj (by decide) n7 z.1)).1
  have e7 : (12 * nI c) + nI (tX T u).length = nI (12 * c + (tX T u).length) := by rw [show (12 : Int32) = nI 12 from rfl, nI_mul, nI_add]
  have e6 : xI M3 (ad 6) c = nI (tB T c) := by rw [g 6 (by decide) (by decide)]; exact c2
  have e8 : xI (xsI M3 (ad 7) (12 * c + (tX T u).length) (nI (tB T c))) (ad 8) c + (nI (tX T u).length + 1) = nI ((tX T c).length + ((tX T u).length + 1)) := by
    rw [rsk hS (i := 8) (j := 7) (by decide) (by decide) (by decide), g 8 (by decide) (by decide), c3, nI_1, nI_add]
  refine bX10_putTogether_66 _ _ _ _ _ ⟨fun _ => ⟨hS3.1, ad 6, (hS3.2.1 6 (by decide)).1, c, hS3.ai (j := 6) (by decide) (by show c < 440; omega), ad 7, (hS3.2.1 7 (by decide)).1, 12 * c + (tX T u).length, by rw [e7]; exact hS3.ai (j := 7) (by decide) (by show _ < 5280; omega), ad 8, (hS3.2.1 8 (by decide)).1, c, hS3.ai (j := 8) (by decide) (by show c < 440; omega), c, hS3.ai (j := 8) (by decide) (by show c < 440; omega), ad 5, (hS3.2.1 5 (by decide)).1, u, hS3.ai (j := 5) (by decide) (by show u < 440; omega), c, hS3.ai (j := 5) (by decide) (by show c < 440; omega), ad 6, (hS3.2.1 6 (by decide)).1, u, hS3.ai (j := 6) (by decide) (by show u < 440; omega), c, hS3.ai (j := 6) (by decide) (by show c < 440; omega), ad 4, (hS3.2.1 4 (by decide)).1, u, hS3.ai (j := 4) (by decide) (by show u < 440; omega), ?_⟩, fun z => absurd (Int32.le_refl _) z⟩
  rw [e6, e8]
  have e5 : xI (xsI (xsI M3 (ad 7) (12 * c + (tX T u).length) (nI (tB T c))) (ad 8) c (nI ((tX T c).length + ((tX T u).length + 1)))) (ad 5) u = pI (tP T u) := by
    rw [rsk hS (i := 5) (j := 8) (by decide) (by decide) (by decide), rsk hS (i := 5) (j := 7) (by decide) (by decide) (by decide), g 5 (by decide) (by decide)]; exact u1
  rw [e5]
  have e6u : xI (xsI (xsI (xsI M3 (ad 7) (12 * c + (tX T u).length) (nI (tB T c))) (ad 8) c (nI ((tX T c).length + ((tX T u).length + 1)))) (ad 5) c (pI (tP T u))) (ad 6) u = nI (tB T u) := by
    rw [rsk hS (i := 6) (j := 5) (by decide) (by decide) (by decide), rsk hS (i := 6) (j := 8) (by decide) (by decide) (by decide), rsk hS (i := 6) (j := 7) (by decide) (by decide) (by decide), g 6 (by decide) (by decide)]; exact u2
  rw [e6u, show ((0 : Int32) &&& 1) = 0 by decide]
  generalize hM4 : xsI (xsI (xsI (xsI (xsI M3 (ad 7) (12 * c + (tX T u).length) (nI (tB T c))) (ad 8) c (nI ((tX T c).length + ((tX T u).length + 1)))) (ad 5) c (pI (tP T u))) (ad 6) c (nI (tB T u))) (ad 4) u 0 = M4
  obtain ⟨hx4, hT4, y4⟩ := rT_jn hW hu hcu hC huc hS hT hx03 h37 h37b hM4.symm
  have hS4 := hx4.sS hS
  refine ⟨fun z => ?_, fun z => ?_⟩
  · have hro : ¬ u = tO T := fun q => z (by rw [y4 14, hr, q])
    refine sX10_freshen hWj hS4 hT4 hcj (fun M5 hx5 hT5 => ⟨rfl, hQ M5 (hx4.trans (hx5.mono rFc_lo)) hT5 ?_ ((rFc_y hS4 hx5 0).trans (y4 0))⟩)
    rw [rFc_y hS4 hx5 14, y4 14, hr]
    show nI (tO T) = nI (if u = tO T then c else tO T)
    rw [if_neg hro]
  · have hro : u = tO T := by
      rw [y4 14, hr] at z
      have := (hW.2.1 _ hW.1.1).1
      exact (nI_inj (by omega) (by omega) z).symm
    have hT4b : rT (xsI M4 y 14 (nI c)) ad 0 (tJn T u c) := rT_y hS4 hT4 (fun n _ hn => (tX_le hWj hn).1)
    have hx4b : rX (rLo y ad) M4 (xsI M4 y 14 (nI c)) := rX_I (Or.inr (Or.inl ⟨rfl, rfl⟩))
    have hS4b := hx4b.sS hS4
    refine sX10_freshen hWj hS4b hT4b hcj (fun M5 hx5 hT5 => ⟨rfl, hQ M5 (hx4.trans (hx4b.trans (hx5.mono rFc_lo))) hT5 ?_ ?_⟩)
    · rw [rFc_y hS4b hx5 14, xI_sI, if_pos ⟨rfl, rfl⟩]
      show nI c = nI (if u = tO T then c else tO T)
      rw [if_pos hro]
    · rw [rFc_y hS4b hx5 0, xI_sI, if_neg (fun z => absurd z.2 (by decide))]; exact y4 0
/-- the last step of remove, where the node keeps a value or a child -/
theorem rem_154 {w2 w3 : Value} (hW : tWF T) (hu : tU T u = true) (hC : (tC T u).length < 1000) (hne : tC T u ≠ [] ∨ (tV T u).isSome = true) (hS : rS M y ad) (hT : rT M ad 0 T) (hr : xI M y 14 = nI (tO T))
    (hQ : ∀ M1, rX (rLo y ad) M M1 → rT M1 ad 0 (tJoin T u) → xI M1 y 14 = nI (tO (tJoin T u)) → xI M1 y 0 = xI M y 0 → Q (some (.int 1)) M1) : xWp l g mX10_remove 0 0 154 [(1, va_rf (some y)), (1, .int (nI u)), (0, w2), (0, w3)] [] (0, 0) M Q := by
  have hu220 := (hW.2.1 u hu).1
  have c9 := (hT.d hW hu).2.2.2.2.1
  have out : tJoin T u = T → Q (some (.int 1)) M := fun e => by rw [e] at hQ; exact hQ M rX.rf hT hr rfl
  refine bX10_remove_154 _ _ _ _ ⟨hS.1, sX10_children hS hT hW hu ⟨_, rfl, fun z => ⟨hS.1, sX10_children hS hT hW hu ⟨_, rfl, fun z2 => ?_, fun z2 => ⟨hS.1, ad 9, (hS.2.1 9 (by decide)).1, u, hS.ai (j := 9) (by decide) (by show u < 440; omega), fun z3 => ?_, fun z3 => ?_⟩⟩⟩, fun z => ⟨hS.1, ad 9, (hS.2.1 9 (by decide)).1, u, hS.ai (j := 9) (by decide) (by show u < 440; omega), fun z2 => sX10_children hS hT hW hu ⟨_, rfl, fun z3 => ?_, fun z3 => ?_⟩, fun z2 => ?_⟩⟩⟩
  · exact out (tJoin_len (fun q => z2 (by rw [q]; rfl)))
  · exact out (tJoin_val (bnf (fun q => z3 (c9.trans (z01.mpr q)))))
  · have h1 := neq z2 rfl (b := 1) rfl
    obtain ⟨c, hc⟩ := List.length_eq_one_iff.mp h1
    have hv : tV T u = none := by
      have := z01.mp (c9.symm.trans z3)
      cases hh : tV T u with
      | none => rfl
      | some q => rw [hh] at this; cases this
    rw [tJoin_one hc hv] at hQ
    exact sX10_putTogether hW hu hc hS hT hr (fun M1 h1 h2 h3 h4 => ⟨rfl, hQ M1 h1 h2 h3 h4⟩)
  · have h0 := neq z rfl (b := 0) rfl
    exact out (tJoin_len (by omega))
  · have h0 := neq z rfl (b := 0) rfl
    have h1 := neq z3 rfl (b := 1) rfl
    omega
  · exfalso
    have h0 := neq z rfl (b := 0) rfl
    rcases hne with h | h
    · exact h (List.length_eq_zero_iff.mp h0)
    · have := z01.mp (c9.symm.trans z2)
      rw [this] at h; cases h
/-- and where it is an empty root -/
theorem rem_root {w2 w3 : Value} (hW : tWF T) (hu : tU T u = true) (hC : tC T u = []) (hv : tV T u = none) (hS : rS M y ad) (hT : rT M ad 0 T)
    (hQ : ∀ M1, rX (rLo y ad) M M1 → rT M1 ad 0 (tXf T u [] 1) → (∀ k, xI M1 y k = xI M y k) → Q (some (.int 1)) M1) : xWp l g mX10_remove 0 0 154 [(1, va_rf (some y)), (1, .int (nI u)), (0, w2), (0, w3)] [] (0, 0) M Q := by
  have hu220 := (hW.2.1 u hu).1
  obtain ⟨c1, c2, c3, c4, c5, c6, c7, c8, c9⟩ := hT.d hW hu
  refine bX10_remove_154 _ _ _ _ ⟨hS.1, sX10_children hS hT hW hu ⟨_, rfl, fun z => ?_, fun z => ⟨hS.1, ad 9, (hS.2.1 9 (by decide)).1, u, hS.ai (j := 9) (by decide) (by show u < 440; omega), fun z2 => ?_, fun z2 => ⟨ad 8, (hS.2.1 8 (by decide)).1, u, hS.ai (j := 8) (by decide) (by show u < 440; omega), ad 11, (hS.2.1 11 (by decide)).1, u, hS.ai (j := 11) (by decide) (by show u < 440; omega), ?_⟩⟩⟩⟩
  · rw [hC] at z; exact absurd rfl z
  · rw [c5, hv] at z2; exact absurd rfl z2
  · have hx : rX (rN ad u) M (xsI (xsI M (ad 8) u 0) (ad 11) u 1) := (rX_I (Or.inl ⟨8, by decide, rfl, rfl⟩)).trans (rX_I (Or.inl ⟨11, by decide, rfl, rfl⟩))
    have e : ∀ j ∈ RL9, j ≠ 8 → j ≠ 11 → ∀ k, xI (xsI (xsI M (ad 8) u 0) (ad 11) u 1) (ad j) k = xI M (ad j) k := fun j hj n1 n2 k => by rw [rsk hS hj (by decide) n2, rsk hS hj (by decide) n1]
    refine hQ _ (hx.mono (rN_lo hu220)) ?_ (fun k => (hx.2 _ _ (rN_y hS k)).1)
    refine rT_upd (c := u) hS hT hx (x12 hW) ⟨by rw [e 4 (by decide) (by decide) (by decide)]; exact hT.u hu220, fun _ => rC0.mpr ?_⟩ (fun m hm => ⟨rfl, rfl, rfl, va_up_ne _ _ hm, rfl, va_up_ne _ _ hm, rfl, rfl⟩)
    have eX : tX (tXf T u [] 1) u = [] := va_up_self _ _ _
    have eF : tF (tXf T u [] 1) u = 1 := va_up_self _ _ _
    refine ⟨by rw [e 5 (by decide) (by decide) (by decide)]; exact c1, by rw [e 6 (by decide) (by decide) (by decide)]; exact c2, ?_, fun i hi => by rw [eX] at hi; exact absurd hi (Nat.not_lt_zero _), by rw [e 9 (by decide) (by decide) (by decide)]; exact c5, c6, ?_, by rw [e 12 (by decide) (by decide) (by decide)]; exact c8, by rw [e 13 (by decide) (by decide) (by decide)]; exact c9⟩
    · rw [eX, rsk hS (i := 8) (j := 11) (by decide) (by decide) (by decide), xI_sI, if_pos ⟨rfl, rfl⟩]; rfl
    · rw [eF, xI_sI, if_pos ⟨rfl, rfl⟩]; rfl
/-- a leaf is no more used -/
theorem rT_del (hS : rS M y ad) (hT : rT M ad 0 T) (hW : tWF T) (hn : n < 220) {S : TT} (h1 : tU S = va_up (tU T) n false) (h2 : ∀ x, tSm T S x) : rT (xsI M (ad 4) n 0) ad 0 S := by
  refine rT_upd (c := n) hS hT (rX_I (Or.inl ⟨4, by decide, rfl, rfl⟩)) (x12 hW) ⟨?_, fun z => ?_⟩ (fun m hm => ⟨by rw [h1, va_up_ne _ _ hm], h2 m⟩)
  · rw [xI_sI, if_pos ⟨rfl, rfl⟩, h1, va_up_self]; rfl
  · rw [h1, va_up_self] at z; cases z
end RRM
