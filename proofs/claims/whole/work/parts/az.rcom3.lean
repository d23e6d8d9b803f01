/-! The reference's commit. -/
section RCE
variable {l : Launch} {g : xG} {M M0 M1 : xM} {Q : Option Value → xM → Prop} {y n : Nat} {ad : Nat → Nat} {T S Tc : TT} {tk : Nat → Bool} {tr sq : Nat} {D : Nat → Nat} {pw : Option Nat} {K : List Nat} {dn : Bool}
theorem com_end {x1 : Int32} {w : Value} (hW : tWF T) (ht : tr < 512) (hS0 : rS M0 y ad) (hO0 : xI M0 y 14 = nI (tO T)) (hJ0 : xJ M0 y 16 = Int64.ofNat sq) (hsq : sq < 2 ^ 30) (hV : rVn M0 M1 y ad T tr (S, tk, D, pw))
    (hok : pw ≠ some 0 → ∀ M2, rV M0 M2 y ad T tr (S, tk, dkW D ((sq + 1) % 2) (hdF (Int64.ofNat (sq + 1)) (tG S (tO T)) (tKy T)) pw tr, pwN pw) → xI M2 y 18 = pwI (pwN pw) → xI M2 y 3 = 0 → xWp l g mX10_commit 0 0 241 [(1, va_rf (some y)), (1, .int x1), (1, .int (-1)), (1, .int (nI 0))] [] (0, 0) (xsJ M2 y 16 (Int64.ofNat (sq + 1))) Q)
    (hlost : pw = some 0 → ∀ M2, rV M0 M2 y ad T tr (S, tk, dkW D ((sq + 1) % 2) (hdF (Int64.ofNat (sq + 1)) (tG S (tO T)) (tKy T)) pw tr, pwN pw) → xI M2 y 3 = 1 → Q (some (.int (-3))) M2) :
    xWp l g mX10_commit 0 0 46 [(1, va_rf (some y)), (1, .int x1), (1, .int (-1)), (0, w)] [] (0, 0) M1 Q := by
  obtain ⟨⟨hx, hT, hk, hI, hD, hDl, hpw, h19⟩, hK, h18, h3⟩ := id hV
  have hk : svK T S := hk
  have hI : tI1 S := hI
  have hT : rT M1 ad 0 S := hT
  have hS1 := hx.sS hS0
  have hWS : tWF S := hk.wf hW
  have hro : tU S (tO T) = true := by rw [hk.1]; exact hW.1.1
  have hr220 := (hWS.2.1 _ hro).1
  have hO1 : xI M1 y 14 = nI (tO T) := by rw [(hx.2 _ _ (rCm_y hS0 (by decide))).1, hO0]
  have hJ1 : xJ M1 y 16 = Int64.ofNat sq := by rw [(hx.2 _ _ (rCm_y hS0 (by decide))).2, hJ0]
  have hGr : tG S (tO T) < 256 := (hI _ hro).2.2.1
  have hky : tKy T ≤ 220 := by
    have := List.countP_le_length (p := fun n => tU T n && (tV T n).isSome) (l := List.range 220)
    rw [List.length_range] at this
    exact this
  have eq1 : Int64.ofNat sq + 1 = Int64.ofNat (sq + 1) := (Int64.ofNat_add sq 1).symm
  have sh : ∀ {N : xM}, rX (fun a _ => a = ad 25) M1 N → rS N y ad ∧ rT N ad 0 S ∧ xJ N y 16 = Int64.ofNat sq ∧ xI N y 14 = nI (tO T) := fun {N} hN => by
    have q := fun k => hN.2 y k (fun z => hS1.ny (j := 25) (by decide) z.symm)
    exact ⟨hN.sS hS1, sh_T hN hS1 hWS hT, by rw [(q 16).2]; exact hJ1, by rw [(q 14).1]; exact hO1⟩
  refine bX10_commit_46 _ _ _ _ ⟨fun _ => ⟨hS1.1, sX10_beginSheet hS1 (fun M2 hx2 hB2 => ⟨rfl, ?_⟩)⟩, fun z => absurd rfl z⟩
  obtain ⟨hS2, -, -, -⟩ := sh hx2
  refine ⟨hS2.1, ad 25, (hS2.2.1 25 (by decide)).1, 0, hS2.ai (j := 25) (by decide) (by decide), ?_⟩
  have hx3 : rX (fun a _ => a = ad 25) M1 (xsI M2 (ad 25) 0 1) := hx2.trans (rX_I (P := fun a _ => a = ad 25) rfl)
  obtain ⟨hS3, -, hJ3, -⟩ := sh hx3
  have hB3 : rB (xsI M2 (ad 25) 0 1) ad (va_up (fun _ => 0) 0 1) := hB2.up (i := 0) (b := 1) (by decide)
  rw [hJ3, eq1]
  refine sX10_number (i := 1) (n := 8) hS3 hB3 (by omega) (by omega) (fun M4 hx4' hB4 => ⟨rfl, ?_⟩)
  have hx4 := hx3.trans hx4'
  obtain ⟨hS4, hT4, -, hO4⟩ := sh hx4
  refine ⟨hS4.1, ad 12, (hS4.2.1 12 (by decide)).1, tO T, by rw [hO4]; exact hS4.ai (j := 12) (by decide) (by show tO T < 440; omega), ad 25, (hS4.2.1 25 (by decide)).1, 9, hS4.ai (j := 25) (by decide) (by decide), ?_⟩
  rw [(hT4.d hWS hro).2.2.2.2.2.2.2.1]
  have hx5 : rX (fun a _ => a = ad 25) M1 (xsI M4 (ad 25) 9 (nI (tG S (tO T)))) := hx4.trans (rX_I (P := fun a _ => a = ad 25) rfl)
  obtain ⟨hS5, hT5, -, -⟩ := sh hx5
  have hB5 := hB4.up (i := 9) (b := tG S (tO T)) hGr
  refine sX10_keys hS5 hT5 ⟨_, rfl, hS5.1, ?_⟩
  rw [(svK_cnt hk).2, nI_long (by omega)]
  refine sX10_number (i := 10) (n := 2) hS5 hB5 (by omega) (by omega) (fun M6 hx6' hB6 => ⟨rfl, ?_⟩)
  have hx6 := hx5.trans hx6'
  obtain ⟨hS6, hT6, hJ6, -⟩ := sh hx6
  rw [setN_8, setN_2 (by omega)] at hB6
  rw [hJ6, eq1, l_rem2 (by omega), l_32]
  have y6 : ∀ k, xI M6 y k = xI M1 y k := fun k => (hx6.2 _ _ (fun z => hS1.ny (j := 25) (by decide) z.symm)).1
  refine ⟨hS6.1, sX10_write (by omega) hS6 hB6 (D := D) (pw := pw) (tr := tr) (fun k hk => by rw [(hx6.2 _ _ (fun z => hS1.na (i := 17) (j := 25) (by decide) (by decide) (by decide) z)).1]; exact hD k hk) (by rw [y6]; exact h18) (fun z => by rw [y6]; exact h19 z) ht hpw (fun M7 hx7 k1 k2 k3 => ⟨_, rfl, ?_⟩)⟩
  have hx07 : rX (rCm y ad) M0 M7 := (hx.trans (hx6.mono (fun a k z => Or.inl (Or.inl z)))).trans (hx7.mono (fun a k z => Or.inl z))
  have hV7 : rV M0 M7 y ad T tr (S, tk, dkW D ((sq + 1) % 2) (hdF (Int64.ofNat (sq + 1)) (tG S (tO T)) (tKy T)) pw tr, pwN pw) := by
    refine ⟨hx07, rWr_T hx7 hS6 hWS hT6, hk, hI, k1, dkW_lt hDl (hdF_lt hGr (by omega)), fun k hk => ?_, fun z => ?_⟩
    · have hk : pwN pw = some k := hk
      cases hq : pw with
      | none => rw [hq] at hk; cases hk
      | some j =>
        have hj := hpw j hq
        rw [hq] at hk
        cases j with
        | zero => cases hk
        | succ j => injection hk with hk; omega
    · rw [(hx7.2 _ _ (rWr_y hS6 (by decide))).1, y6]
      refine h19 (fun q => z ?_)
      have q : pw = none := q
      show pwN pw = none
      rw [q]; rfl
  refine ⟨fun z => ⟨(hx07.sS hS0).1, ?_⟩, fun z => ?_⟩
  · have hp0 : ¬ pw = some 0 := fun q => z (if_pos q)
    rw [(hx7.2 _ _ (rWr_y hS6 (by decide))).2, hJ6, eq1]
    exact hok hp0 M7 hV7 (k3 hp0) (by rw [k2, if_neg hp0])
  · have hp0 : pw = some 0 := Classical.byContradiction (fun q => by rw [if_neg q] at z; exact absurd z (by decide))
    exact hlost hp0 M7 hV7 (by rw [k2, if_pos hp0])
theorem rCm_T (hx : rX (rCm y ad) M M1) (hS : rS M y ad) (hW : tWF T) (hT : rT M ad 220 T) : rT M1 ad 220 T := by
  refine hx.tT hT (fun j hj n hn z => ?_) (fun i hi z => ?_) (fun n hn hu => (tX_le hW hu).1)
  · rcases z with z | z | z
    · exact rWr_a hS (RA_RL j hj) ⟨fun q => by subst q; revert hj; decide, fun q => by subst q; revert hj; decide⟩ z
    · exact hS.na (RA_RL j hj) (j := 26) (by decide) (fun q => by subst q; revert hj; decide) z
    · omega
  · rcases z with z | z | z
    · exact rWr_a hS (j := 7) (by decide) (by decide) z
    · exact hS.na (i := 7) (j := 26) (by decide) (by decide) (by decide) z
    · exact hS.na (i := 7) (j := 12) (by decide) (by decide) (by decide) z.1
theorem rCm_G (h : rCm y ad n tr) : rG y ad n := by
  rcases h with (z | z | z) | z | z
  · exact Or.inr ⟨25, by decide, z⟩
  · exact Or.inr ⟨17, by decide, z⟩
  · exact Or.inl z.1
  · exact Or.inr ⟨26, by decide, z⟩
  · exact Or.inr ⟨12, by decide, z.1⟩
theorem rP_x {P : Nat → Nat → Prop} (hx : rX P M M1) (h2 : ¬ P y 2) (h1 : ∀ k, ¬ P (ad 1) k) (h : rP M y ad K) : rP M1 y ad K := by
  obtain ⟨a, b, c, d⟩ := h
  exact ⟨by rw [(hx.2 _ _ h2).1]; exact a, b, fun i hi => by rw [(hx.2 _ _ (h1 i)).1]; exact c i hi, d⟩
theorem rV.r {s : SvS} {T0 : TT} {D0 : Nat → Nat} {pw0 : Option Nat} (hA : aI T0 Tc sq) (hO : tO T = tO T0) (h : rR M0 y ad K dn T0 Tc D0 pw0 tr sq) (hV : rV M0 M1 y ad T tr s) (h3 : xI M1 y 3 = 1) : rR M1 y ad K true s.1 Tc s.2.2.1 s.2.2.2 tr sq := by
  obtain ⟨hx, hT1, hk, hI, hD, hDl, hpw1, h19⟩ := hV
  obtain ⟨hS, hP, -, ⟨hT, hr⟩, ⟨hTc, hrc⟩, hq, -, hp, ht, ht2, hpw⟩ := h
  have ey : ∀ k, k ≠ 18 ∧ k ≠ 3 → xI M1 y k = xI M0 y k ∧ xJ M1 y k = xJ M0 y k := fun k hk => hx.2 _ _ (rCm_y hS hk)
  refine ⟨hx.sS hS, rP_x hx (rCm_y hS (by decide)) (fun k z => ?_) hP, h3, ⟨hT1, by rw [(ey 14 (by decide)).1, hr, hk.2.2.2.2.2.2.2.2.2, hO]⟩, ⟨rCm_T hx hS hA.2.1.1 hTc, by rw [(ey 15 (by decide)).1]; exact hrc⟩, by rw [(ey 16 (by decide)).2]; exact hq, ⟨hD, hDl⟩, fun z => (by cases z), h19, ht2, hpw1⟩
  rcases z with z | z | z
  · exact rWr_a hS (j := 1) (by decide) (by decide) z
  · exact hS.na (i := 1) (j := 26) (by decide) (by decide) (by decide) z
  · exact hS.na (i := 1) (j := 12) (by decide) (by decide) (by decide) z.1
/-- behind the last step -/
theorem rV.ok {M2 : xM} {tk : Nat → Bool} (h : rR M0 y ad K false T Tc D pw tr sq) {D2 : Nat → Nat} {pw2 : Option Nat} (hV : rV M0 M1 y ad T tr (S, tk, D2, pw2)) (h18 : xI M1 y 18 = pwI pw2) (h3 : xI M1 y 3 = 0)
    (hx5 : rX (fun a k => rH ad 220 a k ∨ (a = y ∧ k = 15) ∨ (a = ad 13 ∧ k < 220)) (xsJ M1 y 16 (Int64.ofNat (sq + 1))) M2) (hT5 : rT M2 ad 0 (tSet S)) (hTc5 : rT M2 ad 220 (tSet S)) (h15 : xI M2 y 15 = xI (xsJ M1 y 16 (Int64.ofNat (sq + 1))) y 14) :
    rR M2 y ad K false (tSet S) (tSet S) D2 pw2 tr (sq + 1) ∧ rX (fun a _ => rG y ad a) M0 M2 ∧ xI M2 y 0 = xI M0 y 0 := by
  obtain ⟨hx, hT1, hk, hI, hD, hDl, hpw1, h19⟩ := hV
  obtain ⟨hS, hP, -, ⟨hT, hr⟩, ⟨hTc, hrc⟩, hq, -, hp, ht, ht2, hpw⟩ := h
  have hk : svK T S := hk
  have ey : ∀ k, k ≠ 18 ∧ k ≠ 3 → xI M1 y k = xI M0 y k ∧ xJ M1 y k = xJ M0 y k := fun k hk => hx.2 _ _ (rCm_y hS hk)
  have no5 : ∀ k, k ≠ 15 → ¬ (rH ad 220 y k ∨ (y = y ∧ k = 15) ∨ (y = ad 13 ∧ k < 220)) := fun k hk z => by
    rcases z with (⟨j, hj, z, -⟩ | ⟨z, -⟩) | z | z
    · exact hS.ny (RA_RL j hj) z.symm
    · exact hS.ny (j := 7) (by decide) z.symm
    · exact hk z.2
    · exact hS.ny (j := 13) (by decide) z.1.symm
  have no5a : ∀ j ∈ RL9, j ∉ RA9 → j ≠ 7 → ∀ k, ¬ (rH ad 220 (ad j) k ∨ (ad j = y ∧ k = 15) ∨ (ad j = ad 13 ∧ k < 220)) := fun j hj h9 h7 k z => by
    rcases z with (⟨i, hi, z, -⟩ | ⟨z, -⟩) | z | z
    · exact hS.na hj (RA_RL i hi) (fun q => h9 (by rw [q]; exact hi)) z
    · exact hS.na hj (j := 7) (by decide) h7 z
    · exact hS.ny hj z.1
    · exact hS.na hj (j := 13) (by decide) (fun q => h9 (by rw [q]; decide)) z.1
  have e5 : ∀ k, k ≠ 15 → xI M2 y k = xI M1 y k := fun k hk => by rw [(hx5.2 _ _ (no5 k hk)).1]; rfl
  have hxJ : rX (fun a k => a = y ∧ k = 16) M1 (xsJ M1 y 16 (Int64.ofNat (sq + 1))) := rX_J ⟨rfl, rfl⟩
  have hG : rX (fun a _ => rG y ad a) M0 M2 := ((hx.mono (fun a k z => rCm_G z)).trans (hxJ.mono (fun a k z => Or.inl z.1))).trans (hx5.mono (fun a k z => by
    rcases z with (⟨i, hi, z, -⟩ | ⟨z, -⟩) | z | z
    · exact Or.inr ⟨i, RA_RL i hi, z⟩
    · exact Or.inr ⟨7, by decide, z⟩
    · exact Or.inl z.1
    · exact Or.inr ⟨13, by decide, z.1⟩))
  have hS1 := hx.sS hS
  have eO : tO (tSet S) = tO T := hk.2.2.2.2.2.2.2.2.2
  refine ⟨⟨hG.sS hS, ?_, by rw [e5 3 (by decide)]; exact h3, ⟨hT5, by rw [e5 14 (by decide), (ey 14 (by decide)).1, hr, eO]⟩, ⟨hTc5, ?_⟩, ?_, ⟨fun k hk => ?_, hDl⟩, fun _ => by rw [e5 18 (by decide)]; exact h18, fun z => by rw [e5 19 (by decide)]; exact h19 z, ht2, hpw1⟩, hG, by rw [e5 0 (by decide), (ey 0 (by decide)).1]⟩
  · refine rP_x hx5 (no5 2 (by decide)) (fun k => no5a 1 (by decide) (by decide) (by decide) k) (rP_x hxJ (fun z => absurd z.2 (by decide)) (fun k z => hS.ny (j := 1) (by decide) z.1) (rP_x hx (rCm_y hS (by decide)) (fun k z => ?_) hP))
    rcases z with z | z | z
    · exact rWr_a hS (j := 1) (by decide) (by decide) z
    · exact hS.na (i := 1) (j := 26) (by decide) (by decide) (by decide) z
    · exact hS.na (i := 1) (j := 12) (by decide) (by decide) (by decide) z.1
  · rw [h15]
    show xI M1 y 14 = _
    rw [(ey 14 (by decide)).1, hr, eO]
  · rw [(hx5.2 _ _ (no5 16 (by decide))).2, xJ_sJ, if_pos ⟨rfl, rfl⟩]
  · rw [(hx5.2 _ _ (no5a 17 (by decide) (by decide) (by decide) k)).1]
    exact hD k hk
theorem sX10_commit (hA : aI T Tc sq) (h : rR M y ad K dn T Tc D pw tr sq) (hQ : ∀ M1, rR M1 y ad K (aCom dn T Tc D pw tr sq).2.1 (aCom dn T Tc D pw tr sq).2.2.1 (aCom dn T Tc D pw tr sq).2.2.2.1 (aCom dn T Tc D pw tr sq).2.2.2.2.1 (aCom dn T Tc D pw tr sq).2.2.2.2.2.1 tr (aCom dn T Tc D pw tr sq).2.2.2.2.2.2 → xag (rG y ad) M M1 → xI M1 y 0 = 0 → Q (some (.int (aCom dn T Tc D pw tr sq).1)) M1) : xSp l g mX10_commit 0 0 [va_rf (some y)] M Q := by
  have hW := hA.1.1
  have hWc := hA.2.1.1
  have hfn := tFn_le hW hA.1.2.2.2
  have hsq := hA.2.2
  have hy7 := h.1.1
  have h1 := h.th hA (v := 0)
  have hx1 : rX (rY y ad) M (xsI M y 0 0) := rX_I (Or.inl ⟨rfl, Or.inl rfl⟩)
  have e0 : xI (xsI M y 0 0) y 0 = 0 := by rw [xI_sI, if_pos ⟨rfl, rfl⟩]
  refine eX10_commit _ (bX10_commit_0 _ ⟨hy7, ?_⟩)
  generalize xsI M y 0 0 = N0 at h1 hx1 e0 ⊢
  have xg : ∀ {N : xM}, rX (fun a _ => rG y ad a) N0 N → xag (rG y ad) M N := fun {N} hx => (hx1.xa rY_g).trans (hx.xa (fun a k z => z))
  obtain ⟨hS, hP, h3, ⟨hT, hr⟩, ⟨hTc, hrc⟩, hq, ⟨hD, hD2⟩, hp, ht, ht2, hpw⟩ := id h1
  unfold aCom at hQ
  refine ⟨fun c => ?_, fun c => ?_⟩
  · have hdn := (dn0 h3).mp c
    rw [if_neg (by rw [hdn]; decide)] at hQ
    refine sX10_freshMany hS hT hW ⟨_, rfl, fun c3 => ⟨hS.1, ?_⟩, fun c3 => ?_⟩
    · have k0 : tFn T ≠ 0 := nne c3 rfl (b := 0) rfl
      rw [if_neg k0] at hQ
      refine sX10_findTaken hWc (fun n hn => (hA.2.1.2.1.1 n hn).2.2.1) hS hTc (fun N1 hxT hK => ⟨_, rfl, fun c4 => ⟨(hxT.sS hS).1, ?_⟩, fun c4 => ?_⟩)
      · have k4 : tFn T ≤ 254 - tOn Tc := nle c4 rfl rfl
        rw [if_neg (by omega)] at hQ
        have hS1 := hxT.sS hS
        have hT1 := tkT hxT hS hW hT
        have y1 : ∀ k, xI N1 y k = xI N0 y k := fun k => (hxT.2 _ _ (fun z => hS.ny (j := 26) (by decide) z.symm)).1
        rw [y1 14, hr]
        refine sX10_deepest hS1 hT1 hW hW.1.1 ⟨_, rfl, ?_⟩
        have e0' : nI (tD T 13 (tO T)) = pI (tPs T).head? := by rw [tPs_head hW]; rfl
        rw [e0']
        have hcnt : cTk (tTk Tc) + (tPs T).countP (tR T) ≤ 254 := by
          have := cTk_tree Tc
          rw [tPs_fn hW]
          unfold tOn at k4
          omega
        refine com_loop (Q1 := fun r => r = svL tr (tPs T) (T, tTk Tc, D, pw)) (M0 := N0) hW hA.1.2.2.2 ht2 hS hr (fun M2 s w hV hq1 => ?_) (fun M2 s hV h3' hq1 => ?_) (tPs T) [] N1 (T, tTk Tc, D, pw) _ rfl ?_ hcnt rfl
        · obtain ⟨S, tk2, D2, pw2⟩ := s
          have e1 : tSave T Tc D pw tr (sq + 1) = (decide (pw2 ≠ some 0), (S, tk2, dkW D2 ((sq + 1) % 2) (hdF (Int64.ofNat (sq + 1)) (tG S (tO T)) (tKy T)) pw2 tr, pwN pw2)) := by
            unfold tSave
            rw [← hq1]
            rfl
          rw [e1] at hQ
          refine com_end hW ht2 hS hr hq hsq hV (fun hp0 M3 hV3 k18 k3 => ?_) (fun hp0 M3 hV3 k3 => ?_)
          · rw [if_pos (by simpa using hp0)] at hQ
            have hWS : tWF S := hV3.2.2.1.wf hW
            have hS3 := hV3.1.sS hS
            have hxJ : rX (fun a k => a = y ∧ k = 16) M3 (xsJ M3 y 16 (Int64.ofNat (sq + 1))) := rX_J ⟨rfl, rfl⟩
            have hT4 : rT (xsJ M3 y 16 (Int64.ofNat (sq + 1))) ad 0 S := hxJ.tT hV3.2.1 (fun j hj n hn z => hS.ny (RA_RL j hj) z.1) (fun i hi z => hS.ny (j := 7) (by decide) z.1) (fun n hn hu => (tX_le hWS hu).1)
            refine com_set hWS (hxJ.sS hS3) hT4 (fun M5 hx5 hT5 hTc5 h15 => ?_) 220 0 _ (by omega) rX.rf (fun i hi => by omega)
            rw [hdn] at h1
            obtain ⟨r1, r2, r3⟩ := hV3.ok h1 k18 k3 hx5 hT5 hTc5 h15
            have := hQ M5 (by rw [hdn]; exact r1) (xg r2) (by rw [r3]; exact e0)
            rw [nI_1]
            exact this
          · rw [if_neg (by simpa using hp0)] at hQ
            exact hQ M3 (hV3.r hA rfl h1 k3) (xg (hV3.1.mono (fun a k z => rCm_G z))) (by rw [(hV3.1.2 _ _ (rCm_y hS (by decide))).1]; exact e0)
        · have e1 : tSave T Tc D pw tr (sq + 1) = (false, s) := by
            unfold tSave
            rw [← hq1]
            rfl
          rw [e1] at hQ
          exact hQ M2 (hV.r hA rfl h1 h3') (xg (hV.1.mono (fun a k z => rCm_G z))) (by rw [(hV.1.2 _ _ (rCm_y hS (by decide))).1]; exact e0)
        · exact ⟨⟨hxT.mono (fun a k z => Or.inr (Or.inl z)), hT1, svK.rf T, hA.1.2.1, fun k hk => by rw [(hxT.2 _ _ (fun z => hS.na (i := 17) (j := 26) (by decide) (by decide) (by decide) z)).1]; exact hD k hk, hD2, hpw, fun z => by rw [y1]; exact ht z⟩, fun p hp => by (have := hK p hp; rw [tkN_tTk hWc] at this; exact this), by rw [y1]; exact hp hdn, by rw [y1, h3, hdn]; rfl⟩
      · have k4 : 254 - tOn Tc < tFn T := nnle c4 rfl rfl
        rw [if_pos k4] at hQ
        exact hQ N1 (h1.sh hA (hxT.mono (fun a k z => Or.inr z))) (xg (hxT.mono (fun a k z => Or.inr ⟨26, by decide, z⟩))) (by rw [(hxT.2 _ _ (fun z => hS.ny (j := 26) (by decide) z.symm)).1]; exact e0)
    · have k0 : tFn T = 0 := neq c3 rfl (b := 0) rfl
      rw [if_pos k0] at hQ
      exact hQ N0 h1 (xg rX.rf) e0
  · have hdn := dn1 h3 c
    rw [if_pos hdn] at hQ
    exact hQ N0 h1 (xg rX.rf) e0
end RCE
