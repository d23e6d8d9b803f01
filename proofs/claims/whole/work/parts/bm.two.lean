/-! Both objects side by side. -/
section TWO
variable {M M1 M2 : xM} {F P : Nat → Prop} {x y o : Nat} {ad : Nat → Nat} {K K1 : List Nat} {dn dn1 : Bool} {T Tc T1 Tc1 : TT} {D D1 : Nat → Nat} {pw pw1 : Option Nat} {tr tr1 sq sq1 k : Nat}
theorem cR.ag (hW : tWF T) (hWc : tWF Tc) (h : cR F M x K dn T Tc D pw tr sq) (hx : xag P M M1) (hF : ∀ a, F a → ¬ P a) (hk : ∀ a, P a → xK M a ≠ 3 ∧ xK M a ≠ 12) : cR F M1 x K dn T Tc D pw tr sq := by
  obtain ⟨tp, tb, t, tc, s, d, db, w, rb, w2, rb2, ta, st, stc, KK, KKc, φ, φc, ψ, sp, spc, tk, ⟨a1, a2, a3, a4, a5, a6, a7⟩, b, ⟨c1, c2⟩, ⟨e1, e2⟩, f, ⟨g1, g2, g3⟩, i⟩ := h
  obtain ⟨p1, -, p3⟩ := hx.2 x (hF _ (i x (Or.inl rfl)))
  obtain ⟨q1, -, q3⟩ := hx.2 tp (hF _ (i tp (Or.inr (Or.inl rfl))))
  obtain ⟨u1, -, -⟩ := hx.2 tb (hF _ (i tb (Or.inr (Or.inr (Or.inl rfl)))))
  have h12 : ∀ {z : Nat}, xat M z 12 → ¬ P z := fun hz hp => (hk _ hp).2 hz.2
  have hrs : ∀ z, RS d db rb rb2 ta z → ¬ P z := fun z hz => hF _ (i z (Or.inr (Or.inr (Or.inr (Or.inr (Or.inr hz))))))
  exact ⟨tp, tb, t, tc, s, d, db, w, rb, w2, rb2, ta, st, stc, KK, KKc, φ, φc, ψ, sp, spc, tk, ⟨hx.at.mpr a1, by rw [p3]; exact a2, by rw [p3]; exact a3, by rw [p3]; exact a4, by rw [p3]; exact a5, by rw [p1]; exact a6, by rw [p1]; exact a7⟩, tpR_fr b hx.1.1 hx.1.2.1 hx.1.2.2.1 (q1 1) (q3 0) u1, ⟨c1.ag hx (h12 c1.2.1.2.1), c2.ag hW hx (fun a pa ra => hF _ (i a (Or.inr (Or.inr (Or.inr (Or.inl ra))))) pa)⟩, ⟨e1.ag hx (h12 e1.2.1.2.1), e2.ag hWc hx (fun a pa ra => hF _ (i a (Or.inr (Or.inr (Or.inr (Or.inr (Or.inl ra)))))) pa)⟩, f.ag hx (fun hp => (hk _ hp).1 f.1.1.2) (hrs d (Or.inl rfl)) (hrs db (Or.inr (Or.inl rfl))) (hrs rb (Or.inr (Or.inr (Or.inl rfl)))) (hrs rb2 (Or.inr (Or.inr (Or.inr (Or.inl rfl))))) (hrs ta (Or.inr (Or.inr (Or.inr (Or.inr rfl))))), ⟨g1, g2, g3⟩, i⟩
theorem rS_ag (hS : rS M y ad) (hx : xag P M M1) (hG : ∀ a, rG y ad a → ¬ P a) : rS M1 y ad := by
  refine ⟨hx.at.mpr hS.1, fun j hj => ?_, hS.2.2⟩
  obtain ⟨h1, h2, h3⟩ := hS.2.1 j hj
  exact ⟨by rw [(hx.2 y (hG y (Or.inl rfl))).2.2]; exact h1, hx.at.mpr h2, by rw [hx.1.2.2.1]; exact h3⟩
theorem rT_ag {o : Nat} (hx : xag P M M1) (hG : ∀ a, rG y ad a → ¬ P a) (hT : rT M ad o T) : rT M1 ad o T := fun n hn => by
  have e : ∀ j ∈ RL9, ∀ i, xI M1 (ad j) i = xI M (ad j) i ∧ xJ M1 (ad j) i = xJ M (ad j) i := fun j hj i => ⟨(hx.2 _ (hG _ (Or.inr ⟨j, hj, rfl⟩))).1 i, (hx.2 _ (hG _ (Or.inr ⟨j, hj, rfl⟩))).2.1 i⟩
  obtain ⟨h1, h2⟩ := hT n hn
  refine ⟨by rw [(e 4 (by decide) _).1]; exact h1, fun hu => ?_⟩
  obtain ⟨c1, c2, c3, c4, c5, c6, c7, c8, c9⟩ := h2 hu
  exact ⟨by rw [(e 5 (by decide) _).1]; exact c1, by rw [(e 6 (by decide) _).1]; exact c2, by rw [(e 8 (by decide) _).1]; exact c3, fun i hi => by rw [(e 7 (by decide) _).1]; exact c4 i hi, by rw [(e 9 (by decide) _).1]; exact c5, by rw [(e 10 (by decide) _).2]; exact c6, by rw [(e 11 (by decide) _).1]; exact c7, by rw [(e 12 (by decide) _).1]; exact c8, by rw [(e 13 (by decide) _).1]; exact c9⟩
theorem rR.ag (h : rR M y ad K dn T Tc D pw tr sq) (hx : xag P M M1) (hG : ∀ a, rG y ad a → ¬ P a) : rR M1 y ad K dn T Tc D pw tr sq := by
  obtain ⟨hS, hP, h3, ⟨hT, hr⟩, ⟨hTc, hrc⟩, hq, ⟨hD, hD2⟩, hp, ht, ht2, hpw⟩ := h
  have ey := hx.2 y (hG y (Or.inl rfl))
  have e : ∀ j ∈ RL9, ∀ i, xI M1 (ad j) i = xI M (ad j) i := fun j hj i => (hx.2 _ (hG _ (Or.inr ⟨j, hj, rfl⟩))).1 i
  obtain ⟨p1, p2, p3, p4⟩ := hP
  exact ⟨rS_ag hS hx hG, ⟨by rw [ey.1]; exact p1, p2, fun i hi => by rw [e 1 (by decide)]; exact p3 i hi, p4⟩, by rw [ey.1]; exact h3, ⟨rT_ag hx hG hT, by rw [ey.1]; exact hr⟩, ⟨rT_ag hx hG hTc, by rw [ey.1]; exact hrc⟩, by rw [ey.2.1]; exact hq, ⟨fun k hk => by rw [e 17 (by decide)]; exact hD k hk, hD2⟩, fun z => by rw [ey.1]; exact hp z, fun z => by rw [ey.1]; exact ht z, ht2, hpw⟩
theorem rG_kind (hS : rS M y ad) {a : Nat} (h : rG y ad a) : xK M a ≠ 3 ∧ xK M a ≠ 12 := by
  rcases h with rfl | ⟨j, hj, rfl⟩
  · rw [hS.1.2]; exact ⟨by decide, by decide⟩
  · rw [(hS.2.1 j hj).2.1.2]
    revert j; decide
/-- what holds between two calls of the law -/
def lI (k : Nat) (F : Nat → Prop) (M : xM) (x y o : Nat) (ad : Nat → Nat) (K : List Nat) (dn : Bool) (T Tc : TT) (D : Nat → Nat) (pw : Option Nat) (tr sq : Nat) : Prop :=
  ((tWF T ∧ tInv T) ∧ (tWF Tc ∧ tInv Tc ∧ ∀ n, tU Tc n = true → tR Tc n = false) ∧ sq ≤ 1000000000 + k) ∧ cR F M x K dn T Tc D pw tr sq ∧ rR M y ad K dn T Tc D pw tr sq ∧ (xat M o 10 ∧ xN M o = 1) ∧ ((∀ a, F a → ¬ rG y ad a) ∧ ¬ F o ∧ ¬ rG y ad o)
theorem lI.a (h : lI k F M x y o ad K dn T Tc D pw tr sq) (hk : k ≤ 512) : aI T Tc sq := ⟨h.1.1, h.1.2.1, by have := h.1.2.2; omega⟩
theorem lI.ox (h : lI k F M x y o ad K dn T Tc D pw tr sq) : xai M o 10 (0 : Int32) 0 := ⟨h.2.2.2.1.1, rfl, by rw [h.2.2.2.1.2]; omega, by rw [h.2.2.2.1.2]; omega⟩
theorem lI.x6 (h : lI k F M x y o ad K dn T Tc D pw tr sq) : xat M x 6 := h.2.1.tp.1
theorem lI.y7 (h : lI k F M x y o ad K dn T Tc D pw tr sq) : xat M y 7 := h.2.2.1.1.1
/-- behind a call of the class -/
theorem lI.c (h : lI k F M x y o ad K dn T Tc D pw tr sq) (hx : xag F M M1) : rR M1 y ad K dn T Tc D pw tr sq ∧ (xat M1 o 10 ∧ xN M1 o = 1) ∧ xat M1 y 7 :=
  ⟨h.2.2.1.ag hx (fun a ra fa => h.2.2.2.2.1 a fa ra), ⟨hx.at.mpr h.2.2.2.1.1, by rw [hx.1.2.2.1]; exact h.2.2.2.1.2⟩, hx.at.mpr h.y7⟩
/-- behind both calls -/
theorem lI.r (h : lI k F M x y o ad K dn T Tc D pw tr sq) (hx1 : xag F M M1) (hx2 : xag (rG y ad) M1 M2) (hg : (tWF T1 ∧ tInv T1) ∧ (tWF Tc1 ∧ tInv Tc1 ∧ ∀ n, tU Tc1 n = true → tR Tc1 n = false) ∧ sq1 ≤ 1000000000 + (k + 1)) (hc : cR F M1 x K1 dn1 T1 Tc1 D1 pw1 tr1 sq1) (hr : rR M2 y ad K1 dn1 T1 Tc1 D1 pw1 tr1 sq1) : lI (k + 1) F M2 x y o ad K1 dn1 T1 Tc1 D1 pw1 tr1 sq1 := by
  have hS1 := rS_ag h.2.2.1.1 hx1 (fun a ra fa => h.2.2.2.2.1 a fa ra)
  exact ⟨hg, hc.ag hg.1.1 hg.2.1.1 hx2 h.2.2.2.2.1 (fun a ra => rG_kind hS1 ra), hr, ⟨hx2.at.mpr (hx1.at.mpr h.2.2.2.1.1), by rw [hx2.1.2.2.1, hx1.1.2.2.1]; exact h.2.2.2.1.2⟩, h.2.2.2.2⟩
/-- a long written to the law's own row -/
theorem cR.out {v : Int64} (hW : tWF T) (hWc : tWF Tc) (h : cR F M x K dn T Tc D pw tr sq) (ho : xat M o 10) (hF : ¬ F o) : cR F (xsJ M o 0 v) x K dn T Tc D pw tr sq :=
  h.ag (P := fun a => a = o) hW hWc (xag_J _ rfl) (fun a fa e => hF (e ▸ fa)) (fun a e => by rw [e, ho.2]; exact ⟨by decide, by decide⟩)
theorem rR.out {v : Int64} (h : rR M y ad K dn T Tc D pw tr sq) (hG : ¬ rG y ad o) : rR (xsJ M o 0 v) y ad K dn T Tc D pw tr sq :=
  h.ag (P := fun a => a = o) (xag_J _ rfl) (fun a ra e => hG (e ▸ ra))
theorem lI.up (h : lI k F M x y o ad K dn T Tc D pw tr sq) {k1 : Nat} (hk : k ≤ k1) : lI k1 F M x y o ad K dn T Tc D pw tr sq := ⟨⟨h.1.1, h.1.2.1, by have := h.1.2.2; omega⟩, h.2⟩
theorem lI.out {v : Int64} (h : lI k F M x y o ad K dn T Tc D pw tr sq) : lI k F (xsJ M o 0 v) x y o ad K dn T Tc D pw tr sq :=
  ⟨h.1, h.2.1.out h.1.1.1 h.1.2.1.1 h.2.2.2.1.1 h.2.2.2.2.2.1, h.2.2.1.out h.2.2.2.2.2.2, h.2.2.2⟩
end TWO
/-! What is saved keeps to the rules. -/
theorem svL_i1 (tr : Nat) : ∀ (l : List Nat) (s : SvS), tI1 s.1 → cTk s.2.1 + l.countP (tR s.1) ≤ 254 → tI1 (svL tr l s).2.1
  | [], s, h, _ => h
  | n :: r, s, h, hc => by
    unfold svL
    rw [List.countP_cons] at hc
    by_cases h1 : tR s.1 n = true
    · rw [if_pos h1] at hc
      have hc2 : cTk s.2.1 < 254 := by omega
      obtain ⟨o1, o2, o3⟩ := tLp_ok hc2
      have hI : tI1 (svN tr s n).1 := tGs_i1 h o2
      rw [if_pos h1]
      by_cases h2 : s.2.2.2 = some 0
      · rw [if_pos h2]; exact hI
      · rw [if_neg h2]
        refine svL_i1 tr r (svN tr s n) hI ?_
        show cTk (va_up s.2.1 (tLp s.2.1) true) + r.countP (tR s.1) ≤ 254
        rw [cTk_up o1 o2 o3]; omega
    · rw [if_neg h1]
      exact svL_i1 tr r s h (by omega)
theorem aCom_ok {dn : Bool} {T Tc : TT} {D : Nat → Nat} {pw : Option Nat} {tr sq k : Nat} (hW : tWF T) (hI : tInv T) (hWc : tWF Tc) (hIc : tInv Tc) (hR : ∀ n, tU Tc n = true → tR Tc n = false) (hs : sq ≤ 1000000000 + k) :
    (tWF (aCom dn T Tc D pw tr sq).2.2.1 ∧ tInv (aCom dn T Tc D pw tr sq).2.2.1) ∧ (tWF (aCom dn T Tc D pw tr sq).2.2.2.1 ∧ tInv (aCom dn T Tc D pw tr sq).2.2.2.1 ∧ ∀ n, tU (aCom dn T Tc D pw tr sq).2.2.2.1 n = true → tR (aCom dn T Tc D pw tr sq).2.2.2.1 n = false) ∧ (aCom dn T Tc D pw tr sq).2.2.2.2.2.2 ≤ 1000000000 + (k + 1) := by
  unfold aCom
  by_cases h1 : dn = true
  · rw [if_pos h1]; exact ⟨⟨hW, hI⟩, ⟨hWc, hIc, hR⟩, by show sq ≤ _; omega⟩
  · rw [if_neg h1]
    by_cases h2 : tFn T = 0
    · rw [if_pos h2]; exact ⟨⟨hW, hI⟩, ⟨hWc, hIc, hR⟩, by show sq ≤ _; omega⟩
    · rw [if_neg h2]
      by_cases h3 : 254 - tOn Tc < tFn T
      · rw [if_pos h3]; exact ⟨⟨hW, hI⟩, ⟨hWc, hIc, hR⟩, by show sq ≤ _; omega⟩
      · rw [if_neg h3]
        have hS : svK T (tSave T Tc D pw tr (sq + 1)).2.1 ∧ tI1 (tSave T Tc D pw tr (sq + 1)).2.1 := by
          have hk := svL_keep tr (tPs T) (T, tTk Tc, D, pw)
          have hi := svL_i1 tr (tPs T) (T, tTk Tc, D, pw) hI.1 (by
            show cTk (tTk Tc) + (tPs T).countP (tR T) ≤ 254
            have := cTk_tree Tc
            rw [tPs_fn hW]
            unfold tOn at h3
            omega)
          unfold tSave
          split
          · exact ⟨hk, hi⟩
          · exact ⟨hk, hi⟩
        have hWS := hS.1.wf hW
        have hIS := svK_inv hS.1 hS.2 hI
        by_cases h4 : (tSave T Tc D pw tr (sq + 1)).1 = true
        · rw [if_pos h4]
          exact ⟨⟨tSet_wf hWS, tSet_inv hIS⟩, ⟨tSet_wf hWS, tSet_inv hIS, fun _ _ => rfl⟩, by show sq + 1 ≤ _; omega⟩
        · rw [if_neg h4]
          exact ⟨⟨hWS, hIS⟩, ⟨hWc, hIc, hR⟩, by show sq ≤ _; omega⟩
