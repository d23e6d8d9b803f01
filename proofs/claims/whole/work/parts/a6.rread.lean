/-! The reference's with, before, nth, tapeAt. -/
section RNT
variable {l : Launch} {g : xG} {M M1 M2 : xM} {Q : Option Value → xM → Prop} {y : Nat} {ad : Nat → Nat} {T Tc : TT} {o n b : Nat} {K W : List Nat} {dn : Bool} {D : Nat → Nat} {pw : Option Nat} {tr sq : Nat} {P P1 : Nat → Nat → Prop}
theorem hd_pI (hW : tWF T) {l1 r : List Nat} (he : tEs T = l1 ++ r) : ∀ p, r.head? = some p → p < 220 := fun p hp => (hW.2.1 p ((tEs_mem hW).mp (by rw [he]; exact List.mem_append_right _ (List.mem_of_head? hp)))).1
theorem cnt_snoc (p : Nat → Bool) (l1 : List Nat) (n : Nat) : (l1 ++ [n]).countP p = l1.countP p + (if p n = true then 1 else 0) := by
  rw [List.countP_append, List.countP_cons, List.countP_nil]; simp
/-- what the loop counts -/
def rcq (w : Bool) (T : TT) (K : List Nat) (n : Nat) : Bool := (tV T n).isSome && (if w = true then kbg (tKey T n) K else kbf (tKey T n) K)
theorem countKeys_loop (w : Bool) (hW : tWF T) (hS : rS M y ad) (hT : rT M ad 0 T) (hr : xI M y 14 = nI (tO T)) (hP : rP M y ad K)
    (hQ : ∀ M1, rO M M1 y ad → Q (some (.int (nI ((tEs T).countP (rcq w T K))))) M1) :
    ∀ (r l1 : List Nat) (M1 : xM), tEs T = l1 ++ r → rO M M1 y ad → xWp l g mX10_countKeys 0 0 7 [(1, va_rf (some y)), (1, .int (if w = true then 1 else 0)), (1, .int (nI (l1.countP (rcq w T K)))), (1, .int (pI r.head?))] [] (0, 0) M1 Q := by
  intro r
  induction r with
  | nil =>
    intro l1 M1 he hO
    rw [List.append_nil] at he
    rw [← he]
    exact bX10_countKeys_7 _ _ _ _ ⟨fun _ => hQ M1 hO, fun c => absurd rfl c⟩
  | cons n r ih =>
    intro l1 M1 he hO
    have hS1 := hO.s hS
    have hT1 := hO.t hS hT
    have hr1 : xI M1 y 14 = nI (tO T) := by rw [hO.f hS (by decide)]; exact hr
    obtain ⟨hu, hN⟩ := tEs_at hW he
    have hn220 := (hW.2.1 n hu).1
    have he2 : tEs T = (l1 ++ [n]) ++ r := by rw [he]; simp
    have c9 := ((hT1 n hn220).2 hu).2.2.2.2.1
    rw [Nat.zero_add] at c9
    have key : ∀ M2, rO M M2 y ad → xWp l g mX10_countKeys 0 0 7 [(1, va_rf (some y)), (1, .int (if w = true then 1 else 0)), (1, .int (nI (l1.countP (rcq w T K) + (if rcq w T K n = true then 1 else 0)))), (1, .int (pI r.head?))] [] (0, 0) M2 Q := fun M2 hO2 => by
      have := ih (l1 ++ [n]) M2 he2 hO2
      rw [cnt_snoc] at this
      exact this
    have nx : ∀ M2, rO M M2 y ad → xSp l g mX10_next 0 0 [va_rf (some y), .int (nI n)] M2 (fun ρ M3 => ρ = some (.int (pI r.head?)) ∧ M3 = M2) := fun M2 hO2 =>
      sX10_next (hO2.s hS) (hO2.t hS hT) hW (by rw [hO2.f hS (by decide)]; exact hr) hu ⟨by rw [hN], rfl⟩
    refine bX10_countKeys_7 _ _ _ _ ⟨fun c => ?_, fun _ => ⟨hS1.1, ad 9, (hS1.2.1 9 (by decide)).1, n, hS1.ai (j := 9) (by decide) (by show n < 440; omega), fun c => ?_, fun c => ?_⟩⟩
    · exact absurd ((pI_m1 (o := some n) (fun q hq => by cases hq; exact hn220)).mp c) (fun z => by cases z)
    · have hv : (tV T n).isSome = true := bnf (fun z => c (c9.trans (z01.mpr z)))
      refine sX10_tell hW hu hS1 hT1 hr1 (fun M2 hO2 hR => ⟨rfl, fun c2 => ?_, fun c2 => ?_⟩)
      · have hw : w = false := z01.mp c2
        have hO3 := hO.trans hO2
        refine bX10_countKeys_41 _ _ _ _ _ ⟨fun z => absurd c2 z, fun _ => ⟨(hO3.s hS).1, sX10_isBefore (hO3.s hS) (hO3.p hS hP) hR ⟨_, rfl, fun c3 => ⟨(hO3.s hS).1, (nx M2 hO3).mono ?_⟩, fun c3 => ⟨(hO3.s hS).1, (nx M2 hO3).mono ?_⟩⟩⟩⟩
        · rintro ρ M3 ⟨e1, e2⟩
          subst e2
          refine ⟨_, e1, ?_⟩
          have hk := z01.mp c3
          have := key _ hO3
          rw [if_neg (show ¬ rcq w T K n = true by unfold rcq; rw [hw, hk]; simp), Nat.add_zero] at this
          rw [Int32.add_zero]
          exact this
        · rintro ρ M3 ⟨e1, e2⟩
          subst e2
          refine ⟨_, e1, ?_⟩
          have hk := bnf (fun z => c3 (z01.mpr z))
          have := key _ hO3
          rw [if_pos (show rcq w T K n = true by unfold rcq; rw [hw, hv, hk]; rfl), ← nI_1] at this
          exact this
      · have hw : w = true := bnf (fun z => c2 (z01.mpr z))
        have hO3 := hO.trans hO2
        refine ⟨(hO3.s hS).1, sX10_begins (hO3.s hS) (hO3.p hS hP) hR ⟨_, rfl, fun c3 => ⟨(hO3.s hS).1, (nx M2 hO3).mono ?_⟩, fun c3 => ?_⟩⟩
        · rintro ρ M3 ⟨e1, e2⟩
          subst e2
          refine ⟨_, e1, ?_⟩
          have hk := bnf (fun z => c3 (z01.mpr z))
          have := key _ hO3
          rw [if_pos (show rcq w T K n = true by unfold rcq; rw [hw, hv, hk]; rfl), ← nI_1] at this
          exact this
        · refine bX10_countKeys_41 _ _ _ _ _ ⟨fun _ => ⟨(hO3.s hS).1, (nx M2 hO3).mono ?_⟩, fun z => absurd z c2⟩
          rintro ρ M3 ⟨e1, e2⟩
          subst e2
          refine ⟨_, e1, ?_⟩
          have hk := z01.mp c3
          have := key _ hO3
          rw [if_neg (show ¬ rcq w T K n = true by unfold rcq; rw [hw, hk]; simp), Nat.add_zero] at this
          rw [Int32.add_zero]
          exact this
    · have hv := z01.mp (c9.symm.trans c)
      refine (nx M1 hO).mono ?_
      rintro ρ M3 ⟨e1, e2⟩
      subst e2
      refine ⟨_, e1, ?_⟩
      have := key _ hO
      rw [if_neg (show ¬ rcq w T K n = true by unfold rcq; rw [hv]; simp), Nat.add_zero] at this
      exact this
theorem sX10_countKeys (w : Bool) (hW : tWF T) (hS : rS M y ad) (hT : rT M ad 0 T) (hr : xI M y 14 = nI (tO T)) (hP : rP M y ad K)
    (hQ : ∀ M1, rO M M1 y ad → Q (some (.int (nI (if w = true then tWn T K else tAn T K)))) M1) : xSp l g mX10_countKeys 0 0 [va_rf (some y), .int (if w = true then 1 else 0)] M Q := by
  refine eX10_countKeys _ _ (bX10_countKeys_0 _ _ ⟨hS.1, ?_⟩)
  have := countKeys_loop (l := l) (g := g) (Q := Q) w hW hS hT hr hP (fun M1 hO => by
    have h := hQ M1 hO
    cases w
    · exact h
    · exact h) (tEs T) [] M rfl rO.rf
  rw [tEs_head] at this
  rw [hr]
  exact this
theorem th_out {v : Int32} (hA : aI T Tc sq) (h : rR M y ad K dn T Tc D pw tr sq) (hq : ∀ M1, rR M1 y ad K dn T Tc D pw tr sq → xag (rG y ad) M M1 → xI M1 y 0 = 0 → Q (some (.int v)) M1) : Q (some (.int v)) (xsI M y 0 0) :=
  hq _ (h.th hA) ((rX_I (P := rY y ad) (Or.inl ⟨rfl, Or.inl rfl⟩)).xa rY_g) (by rw [xI_sI, if_pos ⟨rfl, rfl⟩])
theorem dn1 {b : Bool} {z : Int32} (h : z = if b = true then 1 else 0) (c : ¬ z = 0) : b = true := bnf (fun q => c ((dn0 h).mpr q))
theorem sX10_with (hA : aI T Tc sq) (h : rR M y ad K dn T Tc D pw tr sq) (hQ : ∀ M1, rR M1 y ad K dn T Tc D pw tr sq → xag (rG y ad) M M1 → xI M1 y 0 = 0 → Q (some (.int (aWith K dn T))) M1) : xSp l g mX10_with 0 0 [va_rf (some y)] M Q := by
  obtain ⟨hS, hP, h3, ⟨hT, hr⟩, -⟩ := h.th (v := 0) hA
  have hS0 := h.1
  unfold aWith at hQ
  refine eX10_with _ (bX10_with_0 _ ⟨hS.1, fun c => ?_, fun c => ?_⟩)
  · have hdn := (dn0 h3).mp c
    rw [if_neg (by rw [hdn]; decide)] at hQ
    refine sX10_isKey hS hP ⟨_, rfl, fun c2 => ?_, fun c2 => ⟨hS.1, ?_⟩⟩
    · have h12 : ¬ K.length ≤ 12 := fun z => by rw [if_pos z] at c2; exact absurd c2 (by decide)
      rw [if_pos (by omega)] at hQ
      exact th_out hA h hQ
    · have h12 : K.length ≤ 12 := Classical.byContradiction (fun z => by rw [if_neg z] at c2; exact c2 rfl)
      rw [if_neg (by omega)] at hQ
      exact sX10_countKeys true hA.1.1 hS hT hr hP (fun M1 hO => ⟨_, rfl, hQ M1 ((h.th hA).oo hA hO) (hO.th.xa rY_g) (hO.t0 hS0)⟩)
  · rw [if_pos (dn1 h3 c)] at hQ
    exact th_out hA h hQ
theorem sX10_before (hA : aI T Tc sq) (h : rR M y ad K dn T Tc D pw tr sq) (hQ : ∀ M1, rR M1 y ad K dn T Tc D pw tr sq → xag (rG y ad) M M1 → xI M1 y 0 = 0 → Q (some (.int (aBef K dn T))) M1) : xSp l g mX10_before 0 0 [va_rf (some y)] M Q := by
  obtain ⟨hS, hP, h3, ⟨hT, hr⟩, -⟩ := h.th (v := 0) hA
  have hS0 := h.1
  unfold aBef at hQ
  refine eX10_before _ (bX10_before_0 _ ⟨hS.1, fun c => ?_, fun c => ?_⟩)
  · have hdn := (dn0 h3).mp c
    rw [if_neg (by rw [hdn]; decide)] at hQ
    refine sX10_isKey hS hP ⟨_, rfl, fun c2 => ?_, fun c2 => ⟨hS.1, ?_⟩⟩
    · have h12 : ¬ K.length ≤ 12 := fun z => by rw [if_pos z] at c2; exact absurd c2 (by decide)
      rw [if_pos (by omega)] at hQ
      exact th_out hA h hQ
    · have h12 : K.length ≤ 12 := Classical.byContradiction (fun z => by rw [if_neg z] at c2; exact c2 rfl)
      rw [if_neg (by omega)] at hQ
      exact sX10_countKeys false hA.1.1 hS hT hr hP (fun M1 hO => ⟨_, rfl, hQ M1 ((h.th hA).oo hA hO) (hO.th.xa rY_g) (hO.t0 hS0)⟩)
  · rw [if_pos (dn1 h3 c)] at hQ
    exact th_out hA h hQ
end RNT
