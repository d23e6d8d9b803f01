/-! The reference's remove. -/
/-- a leaf goes; its parent's format is not looked at yet -/
def tDe0 (T : TT) (n p : Nat) : TT :=
  (va_up (tU T) n false, tP T, tB T, tX T, tV T, tF T, tG T, tR T, va_up (tC T) p ((tC T p).filter (fun x => decide (x ≠ n))), tL T, tO T)
section RRN
variable {l : Launch} {g : xG} {M M0 M1 M2 M3 M4 M5 : xM} {Q : Option Value → xM → Prop} {y : Nat} {ad : Nat → Nat} {T T1 Tc : TT} {o n b c s m w a u p : Nat} {K W : List Nat} {v : Int64} {P P1 : Nat → Nat → Prop} {dn : Bool} {D : Nat → Nat} {pw : Option Nat} {tr sq : Nat}
theorem tDel_fm : tFm (tDe0 T n p) p (fShrink (tF T p) ((tC T p).length - 1)) = tDel T n p := rfl
/-- the format of a parent that lost a child -/
theorem rem_fm {x2 x3 : Value} {t2 t3 : Nat} (hW : tWF T) (hn : tU T n = true) (hp : tP T n = some p) (hc : tC T n = []) (hI : 1 ≤ tF T p ∧ tF T p ≤ 4) (hL : (tC T p).length ≤ 256) (hv : (tV T p).isSome = true ∨ 2 ≤ (tC T p).length) (hS : rS M y ad) (hT : rT M ad 0 (tDe0 T n p)) (hr : xI M y 14 = nI (tO T))
    (hQ : ∀ M1, rX (rLo y ad) M M1 → rT M1 ad 0 (tJoin (tDel T n p) p) → xI M1 y 14 = nI (tO (tJoin (tDel T n p) p)) → xI M1 y 0 = xI M y 0 → Q (some (.int 1)) M1) :
    (fShrink (tF T p) ((tC T p).length - 1) = tF T p → xWp l g mX10_remove 0 0 154 [(1, va_rf (some y)), (1, .int (nI p)), (t2, x2), (t3, x3)] [] (0, 0) M Q) ∧ (fShrink (tF T p) ((tC T p).length - 1) = tF T p - 1 → xWp l g mX10_remove 0 0 154 [(1, va_rf (some y)), (1, .int (nI p)), (t2, x2), (t3, x3)] [] (0, 0) (xsI M (ad 11) p (nI (tF T p) - 1)) Q) := by
  obtain ⟨p1, p2, p3⟩ := hW.2.2.2.1 n p hn hp
  have hp220 := (hW.2.1 p p1).1
  have hWd := tDel_wf hW hn hp hc
  have hnp : p ≠ n := fun z => by rw [z] at p3; omega
  have hW0 : tWF (tDe0 T n p) := tWF_same hWd rfl rfl rfl rfl rfl rfl rfl
  have hup : tU (tDel T n p) p = true := by
    show va_up (tU T) n false p = true
    rw [va_up_ne _ _ hnp]; exact p1
  have hCp : tC (tDel T n p) p = (tC T p).filter (fun x => decide (x ≠ n)) := va_up_self _ _ _
  obtain ⟨l1, l2⟩ := tDel_len hW p1 p2
  have hne : tC (tDel T n p) p ≠ [] ∨ (tV (tDel T n p) p).isSome = true := by
    rcases hv with h | h
    · exact Or.inr h
    · refine Or.inl (fun z => ?_)
      rw [hCp] at z
      rw [z] at l1
      simp at l1
      omega
  have hl : (tC (tDel T n p) p).length < 1000 := by rw [hCp, l1]; omega
  refine ⟨fun h => ?_, fun h => ?_⟩
  · have e : tDe0 T n p = tDel T n p := by
      rw [← tDel_fm, h]
      exact (tFm_self (tDe0 T n p) p).symm
    rw [e] at hT
    refine xWp.lw (rem_154 (w2 := .null) (w3 := .null) hWd hup hl hne hS hT hr hQ) ⟨Or.inl rfl, Or.inl rfl, Or.inr rfl, Or.inr rfl, trivial⟩
  · have hup0 : tU (tDe0 T n p) p = true := hup
    have hT2 := rT_fm (f := tF T p - 1) hS hT hW0 hup0
    have e : tFm (tDe0 T n p) p (tF T p - 1) = tDel T n p := by rw [← tDel_fm, h]
    rw [e] at hT2
    have ef : nI (tF T p) - 1 = nI (tF T p - 1) := by
      have : tF T p = (tF T p - 1) + 1 := by omega
      rw [this, nI_pred, Nat.add_sub_cancel]
    rw [ef]
    have hx2 : rX (rLo y ad) M (xsI M (ad 11) p (nI (tF T p - 1))) := rX_I (Or.inr (Or.inr (Or.inl ⟨11, by decide, rfl, hp220⟩)))
    have y2 : ∀ k, xI (xsI M (ad 11) p (nI (tF T p - 1))) y k = xI M y k := fun k => by rw [xI_sI, if_neg (fun z => hS.ny (j := 11) (by decide) z.1.symm)]
    refine xWp.lw (rem_154 (w2 := .null) (w3 := .null) hWd hup hl hne (hx2.sS hS) hT2 (by rw [y2 14]; exact hr) (fun M1 k1 k2 k3 k4 => hQ M1 (hx2.trans k1) k2 k3 (by rw [k4]; exact y2 0))) ⟨Or.inl rfl, Or.inl rfl, Or.inr rfl, Or.inr rfl, trivial⟩
theorem fSh (f k : Nat) (h1 : 1 < f) (hk : k ≤ fLeast f) : fShrink f k = f - 1 := by unfold fShrink; rw [if_pos ⟨h1, hk⟩]
theorem fSt (f k : Nat) (hk : ¬ (1 < f ∧ k ≤ fLeast f)) : fShrink f k = f := by unfold fShrink; rw [if_neg hk]
theorem sX10_remove (hA : aI T Tc sq) (h : rR M y ad K dn T Tc D pw tr sq) (hQ : ∀ M1, rR M1 y ad K dn (aRem K dn T).2 Tc D pw tr sq → xag (rG y ad) M M1 → xI M1 y 0 = 0 → Q (some (.int (aRem K dn T).1)) M1) : xSp l g mX10_remove 0 0 [va_rf (some y)] M Q := by
  obtain ⟨hS, hP, h3, ⟨hT, hr⟩, -⟩ := h.th (v := 0) hA
  have hS0 := h.1
  obtain ⟨hW, hI⟩ := hA.1
  unfold aRem at hQ
  refine eX10_remove _ (bX10_remove_0 _ ⟨hS.1, fun c => ?_, fun c => ?_⟩)
  · have hdn := (dn0 h3).mp c
    rw [if_neg (by rw [hdn]; decide)] at hQ
    refine sX10_isKey hS hP ⟨_, rfl, fun c2 => ⟨hS.1, ?_⟩, fun c2 => ?_⟩
    · have h12 : K.length ≤ 12 := Classical.byContradiction (fun z => by rw [if_neg z] at c2; exact c2 rfl)
      rw [if_neg (by omega)] at hQ
      refine sX10_isFound hW h12 hS hT hr hP (fun M1 hO e20 e21 e22 => ⟨_, rfl, fun c4 => ?_, fun c4 => ?_⟩)
      · have hR1 := (h.th (v := 0) hA).oo hA hO
        obtain ⟨hS1, hP1, -, ⟨hT1, hr1⟩, -⟩ := id hR1
        have t1 : xI M1 y 0 = 0 := hO.t0 hS0
        have xa1 : rX (rLo y ad) M M1 := hO.th.mono (fun a k z => Or.inl z)
        have hk := tSe_sk hW K
        have h1p := tFd_iff.mp (bnf (fun z => c4 (z01.mpr z)))
        have hfd : tFd T K = some (tSe T K).1 := by unfold tFd; rw [if_pos h1p]
        unfold tRem at hQ
        rw [hfd] at hQ
        dsimp only at hQ
        generalize (tSe T K).1 = n at hQ hk e20 h1p
        have hn := hk.1
        have hn220 := (hW.2.1 n hn).1
        have hroom : ∀ f, fRoom f ≤ 256 := fun f => by unfold fRoom; repeat (first | omega | split)
        have hC256 : ∀ x, tU T x = true → (tC T x).length ≤ 256 := fun x hx => Nat.le_trans (hI.1 x hx).2.2.2 (hroom _)
        have hCn := hC256 n hn
        refine ⟨hS1.1, ad 9, (hS1.2.1 9 (by decide)).1, n, by rw [e20]; exact hS1.ai (j := 9) (by decide) (by show n < 440; omega), ad 10, (hS1.2.1 10 (by decide)).1, n, by rw [e20]; exact hS1.ai (j := 10) (by decide) (by show n < 440; omega), ?_⟩
        rw [e20, show ((0 : Int32) &&& 1) = 0 by decide]
        have hx2 : rX (rN ad n) M1 (xsJ (xsI M1 (ad 9) n 0) (ad 10) n 0) := (rX_I (Or.inl ⟨9, by decide, rfl, rfl⟩)).trans (rX_J (Or.inl ⟨10, by decide, rfl, rfl⟩))
        have hT2 := rT_v0 hS1 hT1 hW hn
        generalize xsJ (xsI M1 (ad 9) n 0) (ad 10) n 0 = M2 at hx2 hT2 ⊢
        have hS2 := hx2.sS hS1
        have y2 : ∀ k, xI M2 y k = xI M1 y k := fun k => (hx2.2 _ _ (rN_y hS1 k)).1
        have hW2 := tSv_wf hW n none
        refine sX10_freshen hW2 hS2 hT2 hn (fun M3 hx3 hT3 => ⟨rfl, ?_⟩)
        have hS3 := hx3.sS hS2
        have y3 : ∀ k, xI M3 y k = xI M1 y k := fun k => (rFc_y hS2 hx3 k).trans (y2 k)
        have hx13 : rX (rLo y ad) M1 M3 := (hx2.mono (rN_lo hn220)).trans (hx3.mono rFc_lo)
        have hW3 := tFr_wf hW2 n
        have fin : ∀ (S : TT) (M4 : xM), tRemG T n = S → rX (rLo y ad) M1 M4 → rT M4 ad 0 S → xI M4 y 14 = nI (tO S) → xI M4 y 0 = xI M1 y 0 → Q (some (.int 1)) M4 := fun S M4 k1 k2 k3 k4 k5 => by
          rw [k1] at hQ
          exact hQ M4 (hR1.low hA k2 k3 k4) ((xa1.trans k2).xa rLo_g) (k5.trans t1)
        have hr3 : xI M3 y 14 = nI (tO (tFr (tSv T n none) n)) := by rw [y3 14, hr1]; rfl
        refine ⟨hS3.1, sX10_children hS3 hT3 hW3 hn ⟨_, rfl, fun c5 => ?_, fun c5 => ⟨hS3.1, fun c6 => ?_, fun c6 => ?_⟩⟩⟩
        · have hc0 : tC T n ≠ [] := fun z => c5 (by show nI (tC T n).length = 0; rw [z]; rfl)
          have hg : tRemG T n = tJoin (tFr (tSv T n none) n) n := by unfold tRemG; rw [if_neg hc0]
          exact rem_154 hW3 hn (by show (tC T n).length < 1000; omega) (Or.inl hc0) hS3 hT3 hr3 (fun M4 k1 k2 k3 k4 => fin _ M4 hg (hx13.trans k1) k2 k3 (k4.trans (y3 0)))
        · have hc0 : tC T n = [] := List.length_eq_zero_iff.mp (neq c5 rfl (b := 0) rfl (by show (tC T n).length < 2 ^ 31; omega))
          have hro : n = tO T := by
            rw [y3 14, hr1] at c6
            have := (hW.2.1 _ hW.1.1).1
            exact nI_inj (by omega) (by omega) c6
          have hpn : tP T n = none := by rw [hro]; exact hW.1.2.1
          have hg : tRemG T n = tXf (tFr (tSv T n none) n) n [] 1 := by unfold tRemG; rw [if_pos hc0, hpn]
          exact rem_root hW3 hn hc0 (va_up_self _ _ _) hS3 hT3 (fun M4 k1 k2 k3 => fin _ M4 hg (hx13.trans k1) k2 (by rw [k3 14, hr3]; rfl) ((k3 0).trans (y3 0)))
        · have hc0 : tC T n = [] := List.length_eq_zero_iff.mp (neq c5 rfl (b := 0) rfl (by show (tC T n).length < 2 ^ 31; omega))
          have hro : n ≠ tO T := fun z => c6 (by rw [y3 14, hr1, z])
          obtain ⟨p, hp, -⟩ := hW.2.2.1 n hn hro
          obtain ⟨p1, p2, p3⟩ := hW.2.2.2.1 n p hn hp
          have hp220 := (hW.2.1 p p1).1
          have hnp : p ≠ n := fun z => by rw [z] at p3; omega
          have hg : tRemG T n = tJoin (tDel (tFr (tSv T n none) n) n p) p := by unfold tRemG; rw [if_pos hc0, hp]
          have hF := hI.1 p p1
          have hCp := hC256 p p1
          have hvp : (tV (tFr (tSv T n none) n) p).isSome = true ∨ 2 ≤ (tC (tFr (tSv T n none) n) p).length := by
            have ev : tV (tFr (tSv T n none) n) p = tV T p := va_up_ne _ _ hnp
            rw [ev]
            rcases hI.2.1 p p1 with h | h | h
            · exact Or.inl h
            · exact Or.inr h
            · rw [h.2.1] at p2; cases p2
          have hWd := tDel_wf (T := tFr (tSv T n none) n) hW3 hn hp hc0
          have hW0 : tWF (tDe0 (tFr (tSv T n none) n) n p) := tWF_same hWd rfl rfl rfl rfl rfl rfl rfl
          have hT4 := rT_del (n := n) (S := tDe0 (tFr (tSv T n none) n) n p) hS3 hT3 hW3 hn220 rfl (fun x => ⟨rfl, rfl, rfl, rfl, rfl, rfl, rfl⟩)
          have h5 := (hT3.d hW3 hn).1
          have h5b : xI M3 (ad 5) n = nI p := by rw [h5]; show pI (tP T n) = _; rw [hp]; rfl
          have hx4 : rX (rLo y ad) M3 (xsI M3 (ad 4) n 0) := rX_I (Or.inr (Or.inr (Or.inl ⟨4, by decide, rfl, hn220⟩)))
          have e5 : xI (xsI M3 (ad 4) n 0) (ad 5) n = nI p := by rw [rsk hS (i := 5) (j := 4) (by decide) (by decide) (by decide)]; exact h5b
          have y4 : ∀ k, xI (xsI M3 (ad 4) n 0) y k = xI M1 y k := fun k => by rw [xI_sI, if_neg (fun z => hS.ny (j := 4) (by decide) z.1.symm)]; exact y3 k
          have hS4 := hx4.sS hS3
          refine ⟨ad 4, (hS3.2.1 4 (by decide)).1, n, hS3.ai (j := 4) (by decide) (by show n < 440; omega), ad 5, (hS3.2.1 5 (by decide)).1, n, hS3.ai (j := 5) (by decide) (by show n < 440; omega), ?_⟩
          rw [e5]
          generalize xsI M3 (ad 4) n 0 = M4 at hT4 hx4 y4 hS4 ⊢
          have hup0 : tU (tDe0 (tFr (tSv T n none) n) n p) p = true := by
            show va_up (tU T) n false p = true
            rw [va_up_ne _ _ hnp]; exact p1
          have hf : xI M4 (ad 11) p = nI (tF T p) := (hT4.d hW0 hup0).2.2.2.2.2.2.1
          have hlen : (tC (tDe0 (tFr (tSv T n none) n) n p) p).length = (tC T p).length - 1 := by
            have e : tC (tDe0 (tFr (tSv T n none) n) n p) p = (tC T p).filter (fun x => decide (x ≠ n)) := va_up_self _ _ _
            rw [e]; exact (tDel_len hW p1 p2).1
          have sh : ∀ {t2 t3 : Nat} {x2 x3 : Value}, _ := fun {t2 t3 x2 x3} => rem_fm (l := l) (g := g) (Q := Q) (t2 := t2) (t3 := t3) (x2 := x2) (x3 := x3) (T := tFr (tSv T n none) n) hW3 hn hp hc0 ⟨hF.1, hF.2.1⟩ hCp hvp hS4 hT4 (by rw [y4 14, hr1]; rfl) (fun M5 k1 k2 k3 k4 => fin _ M5 hg ((hx13.trans hx4).trans k1) k2 k3 (k4.trans (y4 0)))
          refine sX10_children hS4 hT4 hW0 hup0 ⟨_, rfl, hS4.1, ad 11, (hS4.2.1 11 (by decide)).1, p, hS4.ai (j := 11) (by decide) (by show p < 440; omega), ?_⟩
          rw [hlen, hf]
          have ai11 := hS4.ai (j := 11) (k := p) (by decide) (by show p < 440; omega)
          refine ⟨fun n2 => ⟨p, ai11, fun n3 => ⟨p, ai11, fun n4 => ⟨fun c7 => ?_, fun c7 => ?_⟩, fun n4 => ⟨fun c7 => ?_, fun c7 => ⟨p, ai11, p, ai11, ?_⟩⟩⟩, fun n3 => ⟨fun c7 => ?_, fun c7 => ⟨p, ai11, p, ai11, ?_⟩⟩⟩, fun n2 => ⟨fun c7 => ?_, fun c7 => ⟨p, ai11, p, ai11, ?_⟩⟩⟩
          · have g2 := nne n2 rfl (b := 2) rfl
            have g3 := nne n3 hf (b := 3) rfl
            have g4 := nne n4 hf (b := 4) rfl
            exact sh.1 (fSt _ _ (fun z => by have z1 : 1 < tF T p := z.1; omega))
          · exact absurd (Int32.not_le.mp (nI_nm1 (k := (tC T p).length - 1) (by omega))) c7
          · have g4 : tF T p = 4 := neq n4 hf (b := 4) rfl
            have k := nlt c7 (a := 40) rfl rfl
            exact sh.1 (fSt _ _ (fun z => by have z2 : (tC T p).length - 1 ≤ fLeast (tF T p) := z.2; rw [g4] at z2; have : fLeast 4 = 40 := rfl; omega))
          · have g4 : tF T p = 4 := neq n4 hf (b := 4) rfl
            have k := nnlt c7 (a := 40) rfl rfl
            rw [hf]
            exact sh.2 (fSh _ _ (by show 1 < tF T p; omega) (by show (tC T p).length - 1 ≤ fLeast (tF T p); rw [g4]; exact k))
          · have g4 : tF T p = 3 := neq n3 hf (b := 3) rfl
            have k := nlt c7 (a := 12) rfl rfl
            exact sh.1 (fSt _ _ (fun z => by have z2 : (tC T p).length - 1 ≤ fLeast (tF T p) := z.2; rw [g4] at z2; have : fLeast 3 = 12 := rfl; omega))
          · have g4 : tF T p = 3 := neq n3 hf (b := 3) rfl
            have k := nnlt c7 (a := 12) rfl rfl
            rw [hf]
            exact sh.2 (fSh _ _ (by show 1 < tF T p; omega) (by show (tC T p).length - 1 ≤ fLeast (tF T p); rw [g4]; exact k))
          · have g4 : tF T p = 2 := neq n2 rfl (b := 2) rfl
            have k := nlt c7 (a := 3) rfl rfl
            exact sh.1 (fSt _ _ (fun z => by have z2 : (tC T p).length - 1 ≤ fLeast (tF T p) := z.2; rw [g4] at z2; have : fLeast 2 = 3 := rfl; omega))
          · have g4 : tF T p = 2 := neq n2 rfl (b := 2) rfl
            have k := nnlt c7 (a := 3) rfl rfl
            rw [hf]
            exact sh.2 (fSh _ _ (by show 1 < tF T p; omega) (by show (tC T p).length - 1 ≤ fLeast (tF T p); rw [g4]; exact k))
      · have hfd : tFd T K = none := by
          cases hf : tFd T K with
          | none => rfl
          | some n => rw [hf] at c4; exact absurd c4 (by simp)
        unfold tRem at hQ
        rw [hfd] at hQ
        exact hQ M1 ((h.th hA).oo hA hO) (hO.th.xa rY_g) (hO.t0 hS0)
    · have h12 : ¬ K.length ≤ 12 := fun z => by rw [if_pos z] at c2; exact absurd c2 (by decide)
      rw [if_pos (by omega)] at hQ
      exact th_out hA h hQ
  · rw [if_pos (dn1 h3 c)] at hQ
    exact th_out hA h hQ
end RRN
