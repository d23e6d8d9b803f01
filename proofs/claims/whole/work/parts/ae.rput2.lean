/-! The reference's put, whole. -/
section RPQ
variable {l : Launch} {g : xG} {M M0 M1 M2 M3 M4 M5 : xM} {Q : Option Value → xM → Prop} {y : Nat} {ad : Nat → Nat} {T T1 Tc : TT} {o n b c s m w a : Nat} {K W p : List Nat} {v : Int64} {P P1 : Nat → Nat → Prop} {dn : Bool} {D : Nat → Nat} {pw : Option Nat} {tr sq : Nat}
theorem put_145 (hW : tWF T) (hI : tInv T) (hk : skOk T K s m w) (hK : K.length ≤ 12) (hS : rS M y ad) (hT : rT M ad 0 T) (hr : xI M y 14 = nI (tO T)) (hP : rP M y ad K) (e20 : xI M y 20 = nI s) (e21 : xI M y 21 = nI m) (e22 : xI M y 22 = nI w)
    (hQ : ∀ M1, rX (rLo y ad) M M1 → rT M1 ad 0 (tPutR T K v s m w (tFree T) (tFree (tCut T s m (tFree T)))).2 → xI M1 y 14 = nI (tO (tPutR T K v s m w (tFree T) (tFree (tCut T s m (tFree T)))).2) → xI M1 y 0 = xI M y 0 → Q (some (.int (tPutR T K v s m w (tFree T) (tFree (tCut T s m (tFree T)))).1)) M1) :
    xWp l g mX10_put 0 0 145 [(1, va_rf (some y)), (2, .long v), (0, .null), (0, .null), (0, .null), (0, .null)] [.int (if m < (tX T s).length then 1 else 0)] (0, 0) M Q := by
  have hk3 := hk.2.2.1
  have key := put_177 (l := l) (g := g) (w2 := .null) (w5 := .null) (v := v) (Q := Q) hW hI hk hK hS hT hr hP e20 e21 e22 hQ
  have fin : ∀ (x : Int32), ((if m < (tX T s).length then 1 else 0 : Int32) = 0 → xWp l g mX10_put 0 0 177 [(1, va_rf (some y)), (2, .long v), (0, .null), (1, .int (if m < (tX T s).length then 1 else 0)), (1, .int (if w < K.length then 1 else 0)), (0, .null)] [.int 0, .int (nI (tCnt T))] (0, 0) M Q) ∧ (¬ (if m < (tX T s).length then 1 else 0 : Int32) = 0 → xWp l g mX10_put 0 0 177 [(1, va_rf (some y)), (2, .long v), (0, .null), (1, .int (if m < (tX T s).length then 1 else 0)), (1, .int (if w < K.length then 1 else 0)), (0, .null)] [.int 1, .int (nI (tCnt T))] (0, 0) M Q) := fun _ => by
    by_cases hm : m < (tX T s).length
    · rw [if_pos hm] at key ⊢
      exact ⟨fun z => absurd z (by decide), fun _ => key⟩
    · rw [if_neg hm] at key ⊢
      exact ⟨fun _ => key, fun z => absurd rfl z⟩
  refine bX10_put_145 _ _ _ _ _ _ _ ⟨hS.1, fun c => ?_, fun c => ?_⟩
  · have hw : ¬ w < K.length := by
      have := nle c hP.1 e22
      omega
    refine sX10_nodes hS hT ⟨_, rfl, ?_⟩
    have := fin 0
    rw [if_neg hw] at this
    exact this
  · have hw : w < K.length := nnle c hP.1 e22
    refine sX10_nodes hS hT ⟨_, rfl, ?_⟩
    have := fin 0
    rw [if_pos hw] at this
    exact this
/-- the root alone takes a key -/
theorem rT_xf {f : Nat} (hS : rS M y ad) (hT : rT M ad 0 T) (hW : tWF T) (hn : tU T n = true) (hx : rX (rXp ad n) M M1) (h8 : xI M1 (ad 8) n = nI p.length) (h7 : ∀ i, i < p.length → xI M1 (ad 7) (12 * n + i) = nI (p.getD i 0)) : rT M1 ad 0 (tXf T n p (tF T n)) := by
  obtain ⟨c1, c2, c3, c4, c5, c6, c7, c8, c9⟩ := hT.d hW hn
  have e : ∀ j ∈ RL9, j ≠ 8 → j ≠ 7 → ∀ k, xI M1 (ad j) k = xI M (ad j) k ∧ xJ M1 (ad j) k = xJ M (ad j) k := fun j hj n2 n3 k =>
    hx.2 _ _ (fun z => by
      rcases z with z | z
      · exact hS.na hj (by decide) n2 z.1
      · exact hS.na hj (by decide) n3 z.1)
  refine rT_upd (c := n) hS hT (hx.mono rXp_n) (x12 hW) ⟨by rw [(e 4 (by decide) (by decide) (by decide) _).1]; exact hT.u (hW.2.1 n hn).1, fun _ => rC0.mpr ?_⟩ (fun m hm => ⟨rfl, rfl, rfl, va_up_ne _ _ hm, rfl, va_up_ne _ _ hm, rfl, rfl⟩)
  have eX : tX (tXf T n p (tF T n)) n = p := va_up_self _ _ _
  have eF : tF (tXf T n p (tF T n)) n = tF T n := va_up_self _ _ _
  refine ⟨by rw [(e 5 (by decide) (by decide) (by decide) _).1]; exact c1, by rw [(e 6 (by decide) (by decide) (by decide) _).1]; exact c2, by rw [eX]; exact h8, fun i hi => by rw [eX] at hi ⊢; exact h7 i hi, by rw [(e 9 (by decide) (by decide) (by decide) _).1]; exact c5, by rw [(e 10 (by decide) (by decide) (by decide) _).2]; exact c6, by rw [eF, (e 11 (by decide) (by decide) (by decide) _).1]; exact c7, by rw [(e 12 (by decide) (by decide) (by decide) _).1]; exact c8, by rw [(e 13 (by decide) (by decide) (by decide) _).1]; exact c9⟩
theorem tFd_iff : (tFd T K).isSome = true ↔ (tSe T K).2.2 = K.length ∧ (tSe T K).2.1 = (tX T (tSe T K).1).length ∧ (tV T (tSe T K).1).isSome = true := by
  unfold tFd
  split
  · next h => exact ⟨fun _ => h, fun _ => rfl⟩
  · next h => exact ⟨fun z => (by cases z), fun z => absurd z h⟩
theorem sX10_put (hA : aI T Tc sq) (h : rR M y ad K dn T Tc D pw tr sq) (hQ : ∀ M1, rR M1 y ad K dn (aPut K dn T v).2 Tc D pw tr sq → xag (rG y ad) M M1 → xI M1 y 0 = 0 → Q (some (.int (aPut K dn T v).1)) M1) : xSp l g mX10_put 0 0 [va_rf (some y), .long v] M Q := by
  obtain ⟨hS, hP, h3, ⟨hT, hr⟩, -⟩ := h.th (v := 0) hA
  have hS0 := h.1
  obtain ⟨hW, hI⟩ := hA.1
  unfold aPut at hQ
  refine eX10_put _ _ (bX10_put_0 _ _ ⟨hS.1, fun c => ?_, fun c => ?_⟩)
  · have hdn := (dn0 h3).mp c
    rw [if_neg (by rw [hdn]; decide)] at hQ
    refine sX10_isKey hS hP ⟨_, rfl, fun c2 => ?_, fun c2 => ⟨fun c3 => ⟨hS.1, ?_⟩, fun c3 => ?_⟩⟩
    · have h12 : ¬ K.length ≤ 12 := fun z => by rw [if_pos z] at c2; exact absurd c2 (by decide)
      rw [if_pos (Or.inl (by omega))] at hQ
      exact th_out hA h hQ
    · have h12 : K.length ≤ 12 := Classical.byContradiction (fun z => by rw [if_neg z] at c2; exact c2 rfl)
      have hv : v ≠ -9223372036854775808 := fun z => c3 (lg0.mpr z)
      rw [if_neg (fun z => by rcases z with z | z; · omega
                              · exact hv z)] at hQ
      refine sX10_isFound hW h12 hS hT hr hP (fun M1 hO e20 e21 e22 => ⟨_, rfl, fun c4 => ?_, fun c4 => ?_⟩)
      · have hR1 := (h.th (v := 0) hA).oo hA hO
        obtain ⟨hS1, hP1, -, ⟨hT1, hr1⟩, -⟩ := id hR1
        have t1 : xI M1 y 0 = 0 := hO.t0 hS0
        have xa1 : rX (rLo y ad) M M1 := hO.th.mono (fun a k z => Or.inl z)
        have hk := tSe_sk hW K
        unfold tPut at hQ
        have h1n : ¬ ((tSe T K).2.2 = K.length ∧ (tSe T K).2.1 = (tX T (tSe T K).1).length ∧ (tV T (tSe T K).1).isSome = true) := fun z => by
          rw [tFd_iff.mpr z] at c4; exact absurd c4 (by decide)
        unfold tPutG at hQ
        rw [if_neg h1n] at hQ
        generalize (tSe T K).1 = s at hQ hk e20 h1n
        generalize (tSe T K).2.1 = m at hQ hk e21 h1n
        generalize (tSe T K).2.2 = w at hQ hk e22 h1n
        have ho220 := (hW.2.1 _ hW.1.1).1
        have d1 := hT1.d hW hW.1.1
        have hs220 := (hW.2.1 s hk.1).1
        have ds := hT1.d hW hk.1
        have hm12 := (tX_le hW hk.1).1
        have hmk := hk.2.1
        have rest : ¬ (tV T (tO T) = none ∧ tC T (tO T) = []) → xWp l g mX10_put 0 0 145 [(1, va_rf (some y)), (2, .long v), (0, .null), (0, .null), (0, .null), (0, .null)] [.int (if m < (tX T s).length then 1 else 0)] (0, 0) M1 Q := fun h2n => by
          rw [if_neg h2n] at hQ
          exact put_145 hW hI hk h12 hS1 hT1 hr1 hP1 e20 e21 e22 (fun M2 hx2 hT2 hr2 h02 => hQ M2 (hR1.low hA hx2 hT2 hr2) ((xa1.trans hx2).xa rLo_g) (h02.trans t1))
        have cutf : ¬ (tV T (tO T) = none ∧ tC T (tO T) = []) → ∃ a16, xR M1 y 8 = some a16 ∧ ∃ i18, xai M1 a16 9 (xI M1 y 20) i18 ∧ ((xI M1 a16 i18 ≤ xI M1 y 21 → xWp l g mX10_put 0 0 145 [(1, va_rf (some y)), (2, .long v), (0, .null), (0, .null), (0, .null), (0, .null)] [.int 0] (0, 0) M1 Q) ∧ (¬ xI M1 a16 i18 ≤ xI M1 y 21 → xWp l g mX10_put 0 0 145 [(1, va_rf (some y)), (2, .long v), (0, .null), (0, .null), (0, .null), (0, .null)] [.int 1] (0, 0) M1 Q)) := fun h2n => by
          refine ⟨ad 8, (hS1.2.1 8 (by decide)).1, s, by rw [e20]; exact hS1.ai (j := 8) (by decide) (by show s < 440; omega), fun c5 => ?_, fun c5 => ?_⟩
          · have := nle c5 ds.2.2.1 e21
            have q := rest h2n
            rw [if_neg (show ¬ m < (tX T s).length by omega)] at q
            exact q
          · have := nnle c5 ds.2.2.1 e21
            have q := rest h2n
            rw [if_pos this] at q
            exact q
        refine ⟨hS1.1, ad 9, (hS1.2.1 9 (by decide)).1, tO T, by rw [hr1]; exact hS1.ai (j := 9) (by decide) (by show tO T < 440; omega), fun c5 => ?_, fun c5 => ?_⟩
        · refine cutf (fun z => c5 ?_)
          rw [d1.2.2.2.2.1, z.1]; rfl
        · have hvn : tV T (tO T) = none := by
            rw [d1.2.2.2.2.1] at c5
            have := z01.mp c5
            cases hh : tV T (tO T) with
            | none => rfl
            | some q => rw [hh] at this; cases this
          rw [hr1]
          refine sX10_children hS1 hT1 hW hW.1.1 ⟨_, rfl, fun c6 => ⟨hS1.1, cutf (fun z => c6 (by rw [z.2]; rfl))⟩, fun c6 => ⟨hS1.1, ?_⟩⟩
          have hc0 : tC T (tO T) = [] := by
            have hl : (tC T (tO T)).length ≤ fRoom (tF T (tO T)) := (hI.1 _ hW.1.1).2.2.2
            have hroom : ∀ f, fRoom f ≤ 256 := fun f => by unfold fRoom; repeat (first | omega | split)
            have := hroom (tF T (tO T))
            have := neq c6 rfl (b := 0) rfl
            exact List.length_eq_zero_iff.mp this
          rw [if_pos ⟨hvn, hc0⟩] at hQ
          rw [hr1]
          refine sX10_setPrefix (f := 0) (K := K) hS1 hP1 ho220 (by omega) (by omega) (fun M2 hx2 h28 h27 => ⟨rfl, ?_⟩)
          rw [List.drop_zero] at h28 h27
          have hS2 := hx2.sS hS1
          have yx : ∀ k, xI M2 y k = xI M1 y k := fun k => (hx2.2 _ _ (fun z => rN_y hS1 k (rXp_n _ _ z))).1
          refine ⟨hS2.1, ?_⟩
          rw [yx 14, hr1]
          have hT2 := rT_xf (f := 0) hS1 hT1 hW hW.1.1 hx2 h28 h27
          have hW2 : tWF (tXf T (tO T) K (tF T (tO T))) := tXf_wf hW rfl hc0 hP.2.2.2 h12 _
          have hx3 : rX (rN ad (tO T)) M2 (xsJ (xsI M2 (ad 9) (tO T) 1) (ad 10) (tO T) v) := (rX_I (Or.inl ⟨9, by decide, rfl, rfl⟩)).trans (rX_J (Or.inl ⟨10, by decide, rfl, rfl⟩))
          have hT3 := rT_v1 (v := v) hS2 hT2 hW2 hW.1.1
          refine sX10_give hS2 ho220 ⟨rfl, ?_⟩
          generalize xsJ (xsI M2 (ad 9) (tO T) 1) (ad 10) (tO T) v = M3 at hx3 hT3 ⊢
          have hS3 := hx3.sS hS2
          have y3 : ∀ k, xI M3 y k = xI M1 y k := fun k => ((hx3.2 _ _ (rN_y hS1 k)).1).trans (yx k)
          refine ⟨hS3.1, ?_⟩
          rw [y3 14, hr1]
          refine sX10_freshen (tSv_wf hW2 _ (some v)) hS3 hT3 hW.1.1 (fun M4 hx4 hT4 => ⟨rfl, ?_⟩)
          have y4 : ∀ k, xI M4 y k = xI M1 y k := fun k => (rFc_y hS3 hx4 k).trans (y3 k)
          have hx14 : rX (rLo y ad) M1 M4 := ((hx2.mono rXp_n).mono (rN_lo ho220)).trans ((hx3.mono (rN_lo ho220)).trans (hx4.mono rFc_lo))
          exact hQ M4 (hR1.low hA hx14 hT4 (by rw [y4 14, hr1]; rfl)) ((xa1.trans hx14).xa rLo_g) ((y4 0).trans t1)
      · have hR1 := (h.th (v := 0) hA).oo hA hO
        obtain ⟨hS1, hP1, -, ⟨hT1, hr1⟩, -⟩ := id hR1
        have t1 : xI M1 y 0 = 0 := hO.t0 hS0
        have xa1 : rX (rLo y ad) M M1 := hO.th.mono (fun a k z => Or.inl z)
        have hk := tSe_sk hW K
        have h1p : ((tSe T K).2.2 = K.length ∧ (tSe T K).2.1 = (tX T (tSe T K).1).length ∧ (tV T (tSe T K).1).isSome = true) := tFd_iff.mp (bnf (fun z => c4 (z01.mpr z)))
        unfold tPut tPutG at hQ
        rw [if_pos h1p] at hQ
        generalize (tSe T K).1 = s at hQ hk e20 h1p
        have hs220 := (hW.2.1 s hk.1).1
        have ds := hT1.d hW hk.1
        have h10 := ds.2.2.2.2.2.1
        obtain ⟨v0, hv0⟩ := Option.isSome_iff_exists.mp h1p.2.2
        rw [hv0] at h10
        have h10b : xJ M1 (ad 10) s = v0 := h10
        refine ⟨hS1.1, ad 10, (hS1.2.1 10 (by decide)).1, s, by rw [e20]; exact hS1.ai (j := 10) (by decide) (by show s < 440; omega), fun c5 => ?_, fun c5 => ?_⟩
        · have hv1 : v0 = v := by rw [h10b] at c5; exact lg0.mp c5
          rw [if_pos (by rw [hv0, hv1])] at hQ
          refine ⟨s, by rw [e20]; exact hS1.ai (j := 10) (by decide) (by show s < 440; omega), ?_⟩
          have hT2 := rT_v2 (v := v) hS1 hT1 hW hk.1 h1p.2.2
          rw [tSv_self (by rw [hv0, hv1])] at hT2
          have hx2 : rX (rLo y ad) M1 (xsJ M1 (ad 10) s v) := rX_J (Or.inr (Or.inr (Or.inl ⟨10, by decide, rfl, hs220⟩)))
          exact hQ _ (hR1.low hA hx2 hT2 hr1) ((xa1.trans hx2).xa rLo_g) t1
        · have hv1 : ¬ tV T s = some v := fun z => c5 (by rw [hv0] at z; cases z; exact lg0.mpr h10b)
          rw [if_neg hv1] at hQ
          rw [e20]
          refine sX10_freshen hW hS1 hT1 hk.1 (fun M2 hx2 hT2 => ⟨rfl, ?_⟩)
          have hS2 := hx2.sS hS1
          have y2 : ∀ k, xI M2 y k = xI M1 y k := fun k => rFc_y hS1 hx2 k
          refine ⟨hS2.1, ad 10, (hS2.2.1 10 (by decide)).1, s, by rw [y2 20, e20]; exact hS2.ai (j := 10) (by decide) (by show s < 440; omega), ?_⟩
          have hT3 := rT_v2 (v := v) hS2 hT2 (tFr_wf hW s) hk.1 h1p.2.2
          rw [tFr_sv] at hT3
          have hx3 : rX (rLo y ad) M1 (xsJ M2 (ad 10) s v) := (hx2.mono rFc_lo).trans (rX_J (Or.inr (Or.inr (Or.inl ⟨10, by decide, rfl, hs220⟩))))
          exact hQ _ (hR1.low hA hx3 hT3 (by show xI M2 y 14 = _; rw [y2 14, hr1]; rfl)) ((xa1.trans hx3).xa rLo_g) ((y2 0).trans t1)
    · rw [if_pos (Or.inr (lg0.mp c3))] at hQ
      exact th_out hA h hQ
  · rw [if_pos (dn1 h3 c)] at hQ
    exact th_out hA h hQ
end RPQ
