/-! The reference's start. -/
theorem l_lt {a b : Nat} (ha : a < 2 ^ 31) (hb : b < 2 ^ 31) : Int64.ofNat a < Int64.ofNat b ↔ a < b := by
  rw [Int64.lt_iff_toInt_lt, Int64.toInt_ofNat_of_lt (by omega), Int64.toInt_ofNat_of_lt (by omega)]
  omega
section RSU
variable {l : Launch} {g : xG} {M M0 M1 : xM} {Q : Option Value → xM → Prop} {y : Nat} {ad : Nat → Nat} {D : Nat → Nat} {T Tc T1 : TT} {K : List Nat} {dn : Bool} {pw : Option Nat} {tr sq sq1 p : Nat}
theorem st_done {x5 x7 : Int32} {j1 j3 : Int64} {w2 w4 a b c : Value} (h : rR M0 y ad K false T Tc D none 0 sq) (hx : rX (rSf y ad) M0 M1) (hT1 : rT M1 ad 0 T1) (hW : tWF T1) (h14 : xI M1 y 14 = nI (tO T1)) (h16 : xJ M1 y 16 = Int64.ofNat sq1) (h0 : xI M1 y 0 = 0)
    (hQ : ∀ M2, rR M2 y ad K false T1 T1 D none 0 sq1 → xag (rG y ad) M0 M2 → xI M2 y 0 = 0 → Q (some (.int (nI sq1))) M2) :
    xWp l g mX10_start 0 0 60 [(1, va_rf (some y)), (2, .long j1), (0, w2), (2, .long j3), (0, w4), (1, .int x5), (1, .int 1), (1, .int x7), (0, a), (0, b), (0, c)] [] (0, 0) M1 Q := by
  have hS1 := hx.sS h.1
  have go := st_keep (l := l) (g := g) h hx hT1 hW h14 h16 h0 hQ
  exact bX10_start_60 _ _ _ _ _ _ _ _ _ _ _ ⟨fun _ => ⟨fun _ => ⟨hS1.1, go⟩, fun z => absurd z (by decide)⟩, fun _ => ⟨fun _ => ⟨fun _ => ⟨hS1.1, go⟩, fun z => absurd z (by decide)⟩, fun z => absurd z (by decide)⟩⟩
theorem st_none {x5 : Int32} {j1 j3 : Int64} {w2 w4 a b c : Value} (h : rR M0 y ad K false T Tc D none 0 sq) (hx : rX (rSf y ad) M0 M1) (h16 : xJ M1 y 16 = 0) (h0 : xI M1 y 0 = 0)
    (hQ : ∀ M2, rR M2 y ad K false tNil tNil D none 0 0 → xag (rG y ad) M0 M2 → xI M2 y 0 = 0 → Q (some (.int (nI 0))) M2) :
    xWp l g mX10_start 0 0 60 [(1, va_rf (some y)), (2, .long j1), (0, w2), (2, .long j3), (0, w4), (1, .int x5), (1, .int 0), (1, .int (0 + 1 + 1)), (0, a), (0, b), (0, c)] [] (0, 0) M1 Q := by
  have hS := h.1
  have hS1 := hx.sS hS
  refine bX10_start_60 _ _ _ _ _ _ _ _ _ _ _ ⟨fun _ => ⟨fun z => absurd rfl z, fun _ => ⟨hS1.1, ?_⟩⟩, fun z => absurd (by decide) z⟩
  refine sX10_clear hS1 (fun M2 hx2 hT2 h14 hy => ⟨rfl, (hx2.sS hS1).1, ?_⟩)
  refine st_keep (sq1 := 0) h (hx.trans (hx2.mono (fun a k z => ?_))) hT2 tNil_wf (by rw [h14]; rfl) ?_ (by rw [hy 0 (by decide)]; exact h0) hQ
  · rcases z with z | z | z | z
    · exact Or.inr (Or.inr (Or.inr z))
    · exact Or.inr (Or.inr (Or.inl ⟨z.1, Or.inl z.2⟩))
    · exact Or.inl (Or.inr (Or.inl z))
    · exact Or.inl (Or.inr (Or.inr z))
  · rw [(hx2.2 _ _ (fun z => ?_)).2, h16]; rfl
    rcases z with (z | z) | z | ⟨j, hj, z, -⟩ | z
    · omega
    · exact hS.ny (j := 23) (by decide) z.symm
    · omega
    · exact hS.ny (RA_RL j hj) z.symm
    · exact hS.ny (j := 7) (by decide) z.1.symm
theorem st_two {q0 q1 : Nat} {w2 w4 a b c : Value} (hq : (hdN D 1 < hdN D 0 ∧ q0 = 0 ∧ q1 = 1) ∨ (¬ hdN D 1 < hdN D 0 ∧ q0 = 1 ∧ q1 = 0)) (h : rR M0 y ad K false T Tc D none 0 sq) (hx : rX (rSf y ad) M0 M1) (h16 : xJ M1 y 16 = 0) (h0 : xI M1 y 0 = 0)
    (hQ : ∀ M2, rR M2 y ad K false (tLoad D).2 (tLoad D).2 D none 0 (tLoad D).1 → xag (rG y ad) M0 M2 → xI M2 y 0 = 0 → Q (some (.int (nI (tLoad D).1))) M2) :
    xWp l g mX10_start 0 0 60 [(1, va_rf (some y)), (2, .long (Int64.ofNat (hdN D 0))), (0, w2), (2, .long (Int64.ofNat (hdN D 1))), (0, w4), (1, .int (nI q0)), (1, .int 0), (1, .int 0), (0, a), (0, b), (0, c)] [] (0, 0) M1 Q := by
  have hS := h.1
  have hD2 : ∀ k, D k < 256 := h.2.2.2.2.2.2.1.2
  have hD0 : rDk M0 ad D := h.2.2.2.2.2.2.1
  have hDx : ∀ {N : xM}, rX (rSf y ad) M0 N → rDk N ad D := fun {N} hN => ⟨fun k hk => by rw [(hN.2 _ _ (rSf_a hS (by decide) (by decide))).1]; exact hD0.1 k hk, hD0.2⟩
  have ry : ∀ {N N2 : xM}, rX (rRt y ad) N N2 → (xI N2 y 0 = xI N y 0) ∧ xJ N2 y 16 = xJ N y 16 := fun {N N2} hN => by
    have no : ∀ k, k ≠ 14 → ¬ rRt y ad y k := fun k hk z => z.elim (rRd_y hS) (fun q => hk q.2)
    exact ⟨(hN.2 _ _ (no 0 (by decide))).1, (hN.2 _ _ (no 16 (by decide))).2⟩
  have h2p : ∀ p, 0 < hdN D p → 2 ≤ D (512 * p + 9) := fun p hp => (hdN_pos hp).2.2.2.1
  have hmx : Nat.max (hdN D 0) (hdN D 1) = hdN D q0 := by
    rcases hq with ⟨e, e0, -⟩ | ⟨e, e0, -⟩
    · rw [e0]; exact Nat.max_eq_left (by omega)
    · rw [e0]; exact Nat.max_eq_right (by omega)
  have hmn : Nat.min (hdN D 0) (hdN D 1) = hdN D q1 := by
    rcases hq with ⟨e, -, e0⟩ | ⟨e, -, e0⟩
    · rw [e0]; exact Nat.min_eq_right (by omega)
    · rw [e0]; exact Nat.min_eq_left (by omega)
  rw [tLoad_eq D hq, hmx, hmn] at hQ
  have hq0 : q0 < 2 := by omega
  have hq1 : q1 < 2 := by omega
  have good : ∀ {N N2 : xM} {p : Nat} {T' : TT} {x7 : Int32} {a b c : Value}, rX (rSf y ad) M0 N → xI N y 0 = 0 → 0 < hdN D p → ldTree D p = some T' → rX (rRt y ad) N N2 → rT N2 ad 0 T' → xI N2 y 14 = nI (tO T') → (∀ M2, rR M2 y ad K false T' T' D none 0 (hdN D p) → xag (rG y ad) M0 M2 → xI M2 y 0 = 0 → Q (some (.int (nI (hdN D p)))) M2) → xWp l g mX10_start 0 0 60 [(1, va_rf (some y)), (2, .long (Int64.ofNat (hdN D 0))), (0, w2), (2, .long (Int64.ofNat (hdN D 1))), (0, w4), (1, .int (nI q0)), (1, .int 1), (1, .int x7), (0, a), (0, b), (0, c)] [] (0, 0) (xsJ N2 y 16 (Int64.ofNat (hdN D p))) Q := fun {N N2 p T' x7 a b c} hN hN0 hp hT' hx2 hT2 h14 hQ2 => by
    have hW' := (ldTree_ok hD2 (h2p p hp) hT').1
    have hxJ : rX (rSf y ad) N2 (xsJ N2 y 16 (Int64.ofNat (hdN D p))) := rX_J (Or.inr (Or.inr (Or.inl ⟨rfl, Or.inr (Or.inr rfl)⟩)))
    have hxJ2 : rX (fun a k => a = y ∧ k = 16) N2 (xsJ N2 y 16 (Int64.ofNat (hdN D p))) := rX_J ⟨rfl, rfl⟩
    refine st_done h ((hN.trans (hx2.mono rRt_f)).trans hxJ) (hxJ2.tT hT2 (fun j hj n hn z => hS.ny (RA_RL j hj) z.1) (fun i hi z => hS.ny (j := 7) (by decide) z.1) (fun n hn hu => (tX_le hW' hu).1)) hW' h14 (by rw [xJ_sJ, if_pos ⟨rfl, rfl⟩]) ?_ hQ2
    show xI N2 y 0 = 0
    rw [(ry hx2).1]; exact hN0
  have second : ∀ {N : xM}, rX (rSf y ad) M0 N → xI N y 0 = 0 → xJ N y 16 = 0 → (∀ M2, rR M2 y ad K false (lo2 D q1 (hdN D q1)).2 (lo2 D q1 (hdN D q1)).2 D none 0 (lo2 D q1 (hdN D q1)).1 → xag (rG y ad) M0 M2 → xI M2 y 0 = 0 → Q (some (.int (nI (lo2 D q1 (hdN D q1)).1))) M2) → ∀ a b c, xWp l g mX10_start 0 0 60 [(1, va_rf (some y)), (2, .long (Int64.ofNat (hdN D 0))), (0, w2), (2, .long (Int64.ofNat (hdN D 1))), (0, w4), (1, .int (nI q0)), (1, .int 0), (1, .int (0 + 1)), (0, a), (0, b), (0, c)] [] (0, 0) N Q := fun {N} hN hN0 hN16 hQ2 a b c => by
    have t : ∀ w9 w10, xWp l g mX10_start 0 0 97 [(1, va_rf (some y)), (2, .long (Int64.ofNat (hdN D 0))), (0, w2), (2, .long (Int64.ofNat (hdN D 1))), (0, w4), (1, .int (nI q0)), (1, .int 0), (1, .int (0 + 1)), (1, .int (nI q1)), (0, w9), (0, w10)] [.long (Int64.ofNat (hdN D q1))] (0, 0) N Q := fun w9 w10 => by
      refine st_97 hq1 (hN.sS hS) (hDx hN) (fun hz a b c => ?_) (fun hp hn M2 hx2 a b c => ?_) (fun hp T' hT' M2 hx2 hT2 h14 a b c => ?_)
      · have e : lo2 D q1 (hdN D q1) = (0, tNil) := by unfold lo2; rw [if_neg (by omega)]
        rw [e] at hQ2
        exact st_none h hN hN16 hN0 hQ2
      · have e : lo2 D q1 (hdN D q1) = (0, tNil) := by unfold lo2; rw [if_pos hp, hn]
        rw [e] at hQ2
        exact st_none h (hN.trans (hx2.mono rRt_f)) (by rw [(ry hx2).2]; exact hN16) (by rw [(ry hx2).1]; exact hN0) hQ2
      · have e : lo2 D q1 (hdN D q1) = (hdN D q1, T') := by unfold lo2; rw [if_pos hp, hT']
        rw [e] at hQ2
        exact good hN hN0 hp hT' hx2 hT2 h14 hQ2
    refine bX10_start_60 _ _ _ _ _ _ _ _ _ _ _ ⟨fun z => absurd z (by decide), fun _ => ⟨fun z => absurd rfl z, fun _ => ⟨fun _ => ?_, fun z => absurd z (by decide)⟩⟩⟩
    rcases hq with ⟨e, e0, e1⟩ | ⟨e, e0, e1⟩
    · subst e0; subst e1
      exact ⟨fun _ => t b c, fun z => absurd z (by decide)⟩
    · subst e0; subst e1
      exact ⟨fun z => absurd (by decide) z, fun _ => t b c⟩
  have t : ∀ w9 w10, xWp l g mX10_start 0 0 97 [(1, va_rf (some y)), (2, .long (Int64.ofNat (hdN D 0))), (0, w2), (2, .long (Int64.ofNat (hdN D 1))), (0, w4), (1, .int (nI q0)), (1, .int 0), (1, .int 0), (1, .int (nI q0)), (0, w9), (0, w10)] [.long (Int64.ofNat (hdN D q0))] (0, 0) M1 Q := fun w9 w10 => by
    refine st_97 hq0 (hx.sS hS) (hDx hx) (fun hz => ?_) (fun hp hn M2 hx2 => ?_) (fun hp T' hT' M2 hx2 hT2 h14 a b c => ?_)
    · rw [if_neg (by omega)] at hQ
      exact second hx h0 h16 hQ
    · rw [if_pos hp, hn] at hQ
      exact second (hx.trans (hx2.mono rRt_f)) (by rw [(ry hx2).1]; exact h0) (by rw [(ry hx2).2]; exact h16) hQ
    · rw [if_pos hp, hT'] at hQ
      exact good hx h0 hp hT' hx2 hT2 h14 hQ
  refine bX10_start_60 _ _ _ _ _ _ _ _ _ _ _ ⟨fun z => absurd z (by decide), fun _ => ⟨fun z => absurd rfl z, fun _ => ⟨fun z => absurd rfl z, fun _ => ?_⟩⟩⟩
  rcases hq with ⟨e, e0, e1⟩ | ⟨e, e0, e1⟩
  · subst e0; subst e1
    exact ⟨fun z => absurd rfl z, fun _ => t b c⟩
  · subst e0; subst e1
    exact ⟨fun _ => t b c, fun z => absurd z (by decide)⟩
theorem sX10_start0 (hA : aI T Tc sq) (h : rR M y ad K false T Tc D pw tr sq) (hQ : ∀ M1, rR M1 y ad K false T Tc D pw tr sq → xag (rG y ad) M M1 → xI M1 y 0 = 0 → Q (some (.int (-1))) M1) : xSp l g mX10_start 0 0 [va_rf (some y)] M Q := by
  have hR0 := h.th (v := 0) hA
  exact eX10_start _ (bX10_start_0 _ ⟨h.1.1, fun z => absurd hR0.2.2.1 z, fun _ => th_out hA h hQ⟩)
theorem sX10_start (hA : aI T Tc sq) (h : rR M y ad K true T Tc D pw tr sq) (hQ : ∀ M1, rR M1 y ad K false (tLoad D).2 (tLoad D).2 D none 0 (tLoad D).1 → xag (rG y ad) M M1 → xI M1 y 0 = 0 → Q (some (.int (nI (tLoad D).1))) M1) : xSp l g mX10_start 0 0 [va_rf (some y)] M Q := by
  have hR0 := h.th (v := 0) hA
  have h3 := hR0.2.2.1
  have hy7 := h.1.1
  refine eX10_start _ (bX10_start_0 _ ⟨hy7, fun _ => ?_, fun z => ?_⟩)
  · have hx : rX (fun a k => a = y ∧ (k = 3 ∨ k = 18)) (xsI M y 0 0) (xsI (xsI (xsI M y 0 0) y 3 0) y 18 (-1)) := (rX_I ⟨rfl, Or.inl rfl⟩).trans (rX_I ⟨rfl, Or.inr rfl⟩)
    have hN := hR0.fy (S := fun k => k = 3 ∨ k = 18) (dn1 := false) (pw1 := none) (tr1 := 0) hA hx ⟨by decide, by decide, by decide, by decide⟩ (by rw [xI_sI, if_neg (fun q => absurd q.2 (by decide)), xI_sI, if_pos ⟨rfl, rfl⟩]; rfl) (fun _ => by rw [xI_sI, if_pos ⟨rfl, rfl⟩]; rfl) (fun q => absurd rfl q) (by omega) (fun k hk => by cases hk)
    have hg : xag (rG y ad) M (xsI (xsI (xsI M y 0 0) y 3 0) y 18 (-1)) := (((rX_I (P := fun a _ => a = y) rfl).trans (rX_I (P := fun a _ => a = y) rfl)).trans (rX_I (P := fun a _ => a = y) rfl)).xa (fun a k z => Or.inl z)
    have e0 : xI (xsI (xsI (xsI M y 0 0) y 3 0) y 18 (-1)) y 0 = 0 := by rw [xI_sI, if_neg (fun q => absurd q.2 (by decide)), xI_sI, if_neg (fun q => absurd q.2 (by decide)), xI_sI, if_pos ⟨rfl, rfl⟩]
    generalize xsI (xsI (xsI M y 0 0) y 3 0) y 18 (-1) = N at *
    have hS := hN.1
    have hD : rDk N ad D := hN.2.2.2.2.2.2.1
    have l0 : hdN D 0 ≤ 1000000000 := hdN_le
    have l1 : hdN D 1 ≤ 1000000000 := hdN_le
    have hxJ : rX (rSf y ad) N (xsJ N y 16 0) := rX_J (Or.inr (Or.inr (Or.inl ⟨rfl, Or.inr (Or.inr rfl)⟩)))
    have e16 : xJ (xsJ N y 16 0) y 16 = 0 := by rw [xJ_sJ, if_pos ⟨rfl, rfl⟩]
    refine sX10_headOf (p := 0) hS hD (by omega) ⟨_, rfl, hS.1, sX10_headOf (p := 1) hS hD (by omega) ⟨_, rfl, fun z => ⟨hS.1, ?_⟩, fun z => ⟨hS.1, ?_⟩⟩⟩
    · have hn : ¬ hdN D 1 < hdN D 0 := fun q => Int32.not_lt.mpr z (lggt.mpr ((l_lt (by omega) (by omega)).mpr q))
      exact st_two (q0 := 1) (q1 := 0) (Or.inr ⟨hn, rfl, rfl⟩) hN hxJ e16 e0 (fun M2 a b c => hQ M2 a (hg.trans b) c)
    · have hn : hdN D 1 < hdN D 0 := (l_lt (by omega) (by omega)).mp (lggt.mp (Int32.not_le.mp z))
      exact st_two (q0 := 0) (q1 := 1) (Or.inl ⟨hn, rfl, rfl⟩) hN hxJ e16 e0 (fun M2 a b c => hQ M2 a (hg.trans b) c)
  · rw [h3] at z
    exact absurd z (by decide)
end RSU
