/-! The reference's tell, begins, isBefore. -/
/-- the row -/
def rW (M : xM) (y : Nat) (ad : Nat → Nat) (W : List Nat) : Prop := xI M y 24 = nI W.length ∧ W.length ≤ 12 ∧ (∀ i, i < W.length → xI M (ad 23) i = nI (W.getD i 0)) ∧ ∀ b ∈ W, b < 256
theorem nI_sb (a b : Nat) : nI (a + b) - nI b = nI a := by rw [← nI_add]; exact Int32.add_sub_cancel _ _
theorem nI_am (a : Nat) : nI (a + 1) + (-1) = nI a := by rw [← nI_1, Int32.add_assoc]; exact Int32.add_zero _
section RTL
variable {l : Launch} {g : xG} {M M1 M2 : xM} {Q : Option Value → xM → Prop} {y : Nat} {ad : Nat → Nat} {T : TT} {o n b : Nat} {K W : List Nat}
theorem rtell_in (hW : tWF T) {x : Nat} {x1 : Int32} (hx : tU T x = true) (hK12 : K.length ≤ 12) (hpre : ∃ r, K = tKey T x ++ r) (hS : rS M y ad) (hT : rT M ad 0 T)
    (hcont : ∀ M1, rO M M1 y ad → xI M1 y 24 = nI K.length → (∀ j, tL T x ≤ j → j < K.length → xI M1 (ad 23) j = nI (K.getD j 0)) → ((nI x = (xI M1 y 14) → xWp l g mX10_tell 0 0 23 [(1, va_rf (some y)), (1, .int x1), (1, .int (nI (tL T x))), (1, .int (pI (tP T x))), (1, .int (nI (tX T x).length))] [] (0, 0) M1 Q) ∧ (¬ nI x = (xI M1 y 14) → ∃ i16, xai M1 (ad 23) 9 (nI (tL T x) + (-1)) i16 ∧ xWp l g mX10_tell 0 0 23 [(1, va_rf (some y)), (1, .int x1), (1, .int (nI (tL T x) + (-1))), (1, .int (pI (tP T x))), (1, .int (nI (tX T x).length))] [] (0, 0) (xsI M1 (ad 23) i16 (nI (tB T x))) Q))) :
    ∀ (d i : Nat) (M1 : xM), (tX T x).length = i + d → rO M M1 y ad → xI M1 y 24 = nI K.length → (∀ j, (tKey T x).length ≤ j → j < K.length → xI M1 (ad 23) j = nI (K.getD j 0)) → (∀ j, tL T x ≤ j → j < tL T x + i → xI M1 (ad 23) j = nI (K.getD j 0)) → xWp l g mX10_tell 0 0 40 [(1, va_rf (some y)), (1, .int x1), (1, .int (nI (tL T x))), (1, .int (nI x)), (1, .int (nI i))] [] (0, 0) M1 Q := by
  have h12 := (tX_le hW hx)
  have hkl := tKey_len hW hx
  have hx220 := (hW.2.1 x hx).1
  intro d
  induction d with
  | zero =>
    intro i M1 hd hO e24 hlo hhi
    have hS1 := hO.s hS
    have hT1 := hO.t hS hT
    obtain ⟨c1, c2, c3, c4, -⟩ := (hT1 x hx220).2 hx
    rw [Nat.zero_add] at c1 c2 c3 c4
    have hi : i = (tX T x).length := by omega
    subst hi
    obtain ⟨k1, k2⟩ := hcont M1 hO e24 (fun j hj1 hj2 => by
      by_cases hj : j < tL T x + (tX T x).length
      · exact hhi j hj1 hj
      · exact hlo j (by omega) hj2)
    refine bX10_tell_40 _ _ _ _ _ ⟨hS1.1, ad 8, (hS1.2.1 8 (by decide)).1, x, hS1.ai (j := 8) (by decide) (by show x < 440; omega), fun _ => ⟨fun z => ?_, fun z => ?_⟩, fun c => ?_⟩
    · refine ⟨ad 5, (hS1.2.1 5 (by decide)).1, x, hS1.ai (j := 5) (by decide) (by show x < 440; omega), ?_⟩
      rw [c1]
      exact k1 z
    · obtain ⟨i16, g1, g2⟩ := k2 z
      refine ⟨ad 6, (hS1.2.1 6 (by decide)).1, x, hS1.ai (j := 6) (by decide) (by show x < 440; omega), ad 23, (hS1.2.1 23 (by decide)).1, i16, g1, ad 5, (hS1.2.1 5 (by decide)).1, x, hS1.ai (j := 5) (by decide) (by show x < 440; omega), ?_⟩
      rw [c2, xI_sI, if_neg (fun z => absurd (hS1.2.2 5 (by decide) 23 (by decide) z.1) (by decide)), c1]
      exact g2
    · exfalso
      have := nnle c c3 rfl
      omega
  | succ d ih =>
    intro i M1 hd hO e24 hlo hhi
    have hS1 := hO.s hS
    have hT1 := hO.t hS hT
    obtain ⟨c1, c2, c3, c4, -⟩ := (hT1 x hx220).2 hx
    rw [Nat.zero_add] at c1 c2 c3 c4
    obtain ⟨r, hr⟩ := hpre
    have hlK : (tKey T x).length ≤ K.length := by rw [hr]; simp
    refine bX10_tell_40 _ _ _ _ _ ⟨hS1.1, ad 8, (hS1.2.1 8 (by decide)).1, x, hS1.ai (j := 8) (by decide) (by show x < 440; omega), fun c => ?_, fun c => ?_⟩
    · exfalso
      have := nle c c3 rfl
      omega
    · have e7 : 12 * nI x + nI i = nI (12 * x + i) := by rw [show (12 : Int32) = nI 12 from rfl, nI_mul, nI_add]
      refine ⟨ad 7, (hS1.2.1 7 (by decide)).1, 12 * x + i, by rw [e7]; exact hS1.ai (j := 7) (by decide) (by show 12 * x + i < 5280; omega), ad 23, (hS1.2.1 23 (by decide)).1, tL T x + i, by rw [nI_add]; exact hS1.ai (j := 23) (by decide) (by show _ < 40; omega), ?_⟩
      rw [nI_1, c4 i (by omega)]
      have hval : K.getD (tL T x + i) 0 = (tX T x).getD i 0 := by
        rw [hr, tKey_eq hW hx, List.append_assoc, getD_app, if_neg (by rw [tPth_len hW hx]; omega), tPth_len hW hx, Nat.add_sub_cancel_left, getD_app, if_pos (by omega)]
      refine ih (i + 1) _ (by omega) (hO.trans rO_r) ?_ (fun j hj1 hj2 => ?_) (fun j hj1 hj2 => ?_)
      · rw [xI_sI, if_neg (fun z => hS.ny (j := 23) (by decide) z.1.symm)]; exact e24
      · rw [xI_sI, if_neg (fun z => by omega)]; exact hlo j hj1 hj2
      · by_cases hj : j = tL T x + i
        · rw [xI_sI, if_pos ⟨rfl, hj⟩, hj, hval]
        · rw [xI_sI, if_neg (fun z => hj z.2)]; exact hhi j hj1 (by omega)
theorem rtell_up (hW : tWF T) {x1 : Int32} (hK12 : K.length ≤ 12) (hS : rS M y ad) (hT : rT M ad 0 T) (hr : xI M y 14 = nI (tO T))
    (hQ : ∀ M1, rO M M1 y ad → xI M1 y 24 = nI K.length → (∀ j, j < K.length → xI M1 (ad 23) j = nI (K.getD j 0)) → Q none M1) :
    ∀ (k x : Nat) (M1 : xM) (w4 : Value), tU T x = true → tL T x ≤ k → (∃ r, K = tKey T x ++ r) → rO M M1 y ad → xI M1 y 24 = nI K.length → (∀ j, (tKey T x).length ≤ j → j < K.length → xI M1 (ad 23) j = nI (K.getD j 0)) → xWp l g mX10_tell 0 0 23 [(1, va_rf (some y)), (1, .int x1), (1, .int (nI (tKey T x).length)), (1, .int (nI x)), (0, w4)] [] (0, 0) M1 Q := by
  intro k
  induction k with
  | zero =>
    intro x M1 w4 hx hk hpre hO e24 hlo
    have hx220 := (hW.2.1 x hx).1
    have hS1 := hO.s hS
    have hT1 := hO.t hS hT
    have hkl := tKey_len hW hx
    obtain ⟨c1, c2, c3, c4, -⟩ := (hT1 x hx220).2 hx
    rw [Nat.zero_add] at c1 c2 c3 c4
    have hro : x = tO T := by
      apply Classical.byContradiction
      intro z
      obtain ⟨p, hp, -⟩ := hW.2.2.1 x hx z
      have := (hW.2.2.2.1 x p hx hp).2.2
      omega
    refine bX10_tell_23 _ _ _ _ _ ⟨fun z => ?_, fun _ => ⟨hS1.1, ad 8, (hS1.2.1 8 (by decide)).1, x, hS1.ai (j := 8) (by decide) (by show x < 440; omega), ?_⟩⟩
    · exact absurd ((pI_m1 (o := some x) (fun q hq => by cases hq; exact hx220)).mp z) (fun z => by cases z)
    · rw [c3, hkl, nI_sb]
      refine rtell_in hW hx hK12 hpre hS hT (fun M2 hO2 e2 hall => ⟨fun _ => ?_, fun z => ?_⟩) (tX T x).length 0 M1 (by omega) hO e24 hlo (fun j a b => by omega)
      · rw [hro, hW.1.2.1]
        exact xWp.lw (bX10_tell_23 _ _ _ _ .null ⟨fun _ => hQ M2 hO2 e2 (fun j hj => hall j (by omega) hj), fun z => absurd rfl z⟩) ⟨Or.inl rfl, Or.inl rfl, Or.inl rfl, Or.inl rfl, Or.inr rfl, trivial⟩
      · exact absurd ((root_iff hW hx (by rw [hO2.f hS (by decide)]; exact hr)).mpr hro) z
  | succ k ih =>
    intro x M1 w4 hx hk hpre hO e24 hlo
    have hx220 := (hW.2.1 x hx).1
    have hS1 := hO.s hS
    have hT1 := hO.t hS hT
    have hkl := tKey_len hW hx
    obtain ⟨c1, c2, c3, c4, -⟩ := (hT1 x hx220).2 hx
    rw [Nat.zero_add] at c1 c2 c3 c4
    refine bX10_tell_23 _ _ _ _ _ ⟨fun z => ?_, fun _ => ⟨hS1.1, ad 8, (hS1.2.1 8 (by decide)).1, x, hS1.ai (j := 8) (by decide) (by show x < 440; omega), ?_⟩⟩
    · exact absurd ((pI_m1 (o := some x) (fun q hq => by cases hq; exact hx220)).mp z) (fun z => by cases z)
    · rw [c3, hkl, nI_sb]
      refine rtell_in hW hx hK12 hpre hS hT (fun M2 hO2 e2 hall => ⟨fun z => ?_, fun z => ?_⟩) (tX T x).length 0 M1 (by omega) hO e24 hlo (fun j a b => by omega)
      · have hro := (root_iff hW hx (by rw [hO2.f hS (by decide)]; exact hr)).mp z
        have hl0 : tL T x = 0 := by rw [hro]; exact hW.1.2.2
        rw [hro, hW.1.2.1]
        exact xWp.lw (bX10_tell_23 _ _ _ _ .null ⟨fun _ => hQ M2 hO2 e2 (fun j hj => hall j (by omega) hj), fun z => absurd rfl z⟩) ⟨Or.inl rfl, Or.inl rfl, Or.inl rfl, Or.inl rfl, Or.inr rfl, trivial⟩
      · have hro : x ≠ tO T := fun q => z ((root_iff hW hx (by rw [hO2.f hS (by decide)]; exact hr)).mpr q)
        obtain ⟨p, hp, hpc⟩ := hW.2.2.1 x hx hro
        obtain ⟨p1, p2, p3⟩ := hW.2.2.2.1 x p hx hp
        have h12 := (tX_le hW hx).2
        have hpk := tKey_len hW p1
        obtain ⟨r, hr2⟩ := id hpre
        have ekx : tKey T x = tKey T p ++ (tB T x :: tX T x) := by
          rw [tKey_eq hW hx, tPth_child hp, List.append_assoc]; rfl
        have hKp : ∃ r, K = tKey T p ++ r := ⟨tB T x :: tX T x ++ r, by rw [hr2, ekx, List.append_assoc]⟩
        have hS2 := hO2.s hS
        rw [hp, p3, nI_am, ← hpk]
        refine ⟨(tKey T p).length, hS2.ai (j := 23) (by decide) (by show _ < 40; omega), ?_⟩
        refine xWp.lw (ih p _ .null p1 (by omega) hKp (hO2.trans rO_r) ?_ (fun j hj1 hj2 => ?_)) ⟨Or.inl rfl, Or.inl rfl, Or.inl rfl, Or.inl rfl, Or.inr rfl, trivial⟩
        · rw [xI_sI, if_neg (fun z => hS.ny (j := 23) (by decide) z.1.symm)]; exact e2
        · by_cases hj : j = (tKey T p).length
          · rw [xI_sI, if_pos ⟨rfl, hj⟩, hj, hr2, ekx, List.append_assoc, getD_app, if_neg (by omega), Nat.sub_self]; rfl
          · rw [xI_sI, if_neg (fun z => hj z.2)]; exact hall j (by omega) hj2
theorem sX10_tell (hW : tWF T) (hn : tU T n = true) (hS : rS M y ad) (hT : rT M ad 0 T) (hr : xI M y 14 = nI (tO T))
    (hQ : ∀ M1, rO M M1 y ad → rW M1 y ad (tKey T n) → Q none M1) : xSp l g mX10_tell 0 0 [va_rf (some y), .int (nI n)] M Q := by
  have hn220 := (hW.2.1 n hn).1
  have hkl := tKey_len hW hn
  have h12 := (hW.2.1 n hn).2.2.2
  obtain ⟨c1, c2, c3, c4, -⟩ := (hT n hn220).2 hn
  rw [Nat.zero_add] at c1 c2 c3 c4
  refine eX10_tell _ _ (bX10_tell_0 _ _ ⟨hS.1, sX10_lead hS hT hW hr hn ⟨_, rfl, hS.1, ad 8, (hS.2.1 8 (by decide)).1, n, hS.ai (j := 8) (by decide) (by show n < 440; omega), ?_⟩⟩)
  rw [c3, nI_add, ← hkl, xI_sI, if_pos ⟨rfl, rfl⟩]
  refine rtell_up hW (by omega) hS hT hr (fun M1 hO e24 hall => hQ M1 hO ⟨e24, by omega, hall, fun b hb => ?_⟩) (tL T n) n _ .null hn (Nat.le_refl _) ⟨[], by simp⟩ (rO_y (by decide)) (by rw [xI_sI, if_pos ⟨rfl, rfl⟩]) (fun j a b => by omega)
  exact tKey_lt hW 12 n hn b hb
theorem kbg_len {a b : List Nat} (h : a.length < b.length) : kbg a b = false := by
  unfold kbg
  have := (lcp_le a b).1
  simp only [decide_eq_false_iff_not]
  omega
theorem lcp_pre (a b : List Nat) : ∀ k, k ≤ lcp a b → lcp a b = k + lcp (a.drop k) (b.drop k)
  | 0, _ => by simp
  | k + 1, h => by
    have ih := lcp_pre a b k (by omega)
    have hl := lcp_le a b
    have h1 := lcp_step a b k k (by omega) (by omega)
    by_cases e : a.getD k 0 = b.getD k 0
    · rw [if_pos e] at h1; omega
    · rw [if_neg e] at h1; omega
theorem begins_out {x1 : Int32} {k : Nat} (hS : rS M y ad) (hP : rP M y ad K) (hk : k ≤ K.length) (hQ : Q (some (.int 0)) M) : xWp l g mX10_begins 0 0 19 [(1, va_rf (some y)), (1, .int 0), (1, .int (nI k))] [] (0, 0) M Q :=
  bX10_begins_19 _ _ _ ⟨hS.1, fun _ => ⟨Or.inl rfl, hQ⟩, fun _ => ⟨fun _ => ⟨Or.inl rfl, hQ⟩, fun c => absurd rfl c⟩⟩
theorem begins_loop (hS : rS M y ad) (hP : rP M y ad K) (hR : rW M y ad W) (hKW : K.length ≤ W.length) (hQ : Q (some (.int (if kbg W K = true then 1 else 0))) M) : ∀ (d k : Nat), K.length = k + d → k ≤ lcp W K → xWp l g mX10_begins 0 0 19 [(1, va_rf (some y)), (1, .int 1), (1, .int (nI k))] [] (0, 0) M Q := by
  have hl := lcp_le W K
  have hW12 := hR.2.1
  intro d
  induction d with
  | zero =>
    intro k hd hk
    have e : kbg W K = true := by unfold kbg; simp only [decide_eq_true_eq]; omega
    rw [e] at hQ
    refine bX10_begins_19 _ _ _ ⟨hS.1, fun _ => ⟨Or.inr rfl, hQ⟩, fun c => ?_⟩
    exfalso
    have := nnle c hP.1 rfl
    omega
  | succ d ih =>
    intro k hd hk
    have hp := lcp_pre W K k hk
    have hst := lcp_step W K k k (by omega) (by omega)
    refine bX10_begins_19 _ _ _ ⟨hS.1, fun c => ?_, fun _ => ⟨fun c => absurd c (by decide), fun _ => ⟨ad 23, (hS.2.1 23 (by decide)).1, k, hS.ai (j := 23) (by decide) (by show k < 40; omega), ad 1, (hS.2.1 1 (by decide)).1, k, hS.ai (j := 1) (by decide) (by show k < 64; omega), fun c => ?_, fun c => ?_⟩⟩⟩
    · exfalso
      have := nle c hP.1 rfl
      omega
    · rw [hR.2.2.1 k (by omega), hP.2.2.1 k (by omega)] at c
      rw [if_neg (fun z => c (by rw [z]))] at hst
      have e : kbg W K = false := by unfold kbg; simp only [decide_eq_false_iff_not]; omega
      rw [e] at hQ
      rw [nI_1]
      exact begins_out (x1 := 0) hS hP (by omega) hQ
    · rw [hR.2.2.1 k (by omega), hP.2.2.1 k (by omega)] at c
      have g1 : W.getD k 0 < 256 := getD_lt hR.2.2.2
      have g2 : K.getD k 0 < 256 := getD_lt hP.2.2.2
      rw [if_pos (nI_inj (by omega) (by omega) c)] at hst
      rw [nI_1]
      exact ih (k + 1) (by omega) (by omega)
theorem sX10_begins (hS : rS M y ad) (hP : rP M y ad K) (hR : rW M y ad W) (hQ : Q (some (.int (if kbg W K = true then 1 else 0))) M) : xSp l g mX10_begins 0 0 [va_rf (some y)] M Q := by
  have hW12 := hR.2.1
  have hK64 := hP.2.1
  refine eX10_begins _ (bX10_begins_0 _ ⟨hS.1, fun c => ?_, fun c => ?_⟩)
  · have := nlt c hR.1 hP.1
    rw [kbg_len this] at hQ
    exact begins_out (x1 := 0) (k := 0) hS hP (Nat.zero_le _) hQ
  · have := nnlt c hR.1 hP.1
    exact begins_loop hS hP hR this hQ K.length 0 (by omega) (Nat.zero_le _)
theorem isBefore_end (hS : rS M y ad) (hP : rP M y ad K) (hR : rW M y ad W) (hQ : Q (some (.int (if kbf W K = true then 1 else 0))) M) : xWp l g mX10_isBefore 0 0 39 [(1, va_rf (some y)), (1, .int (nI (lcp W K)))] [] (0, 0) M Q := by
  have hl := lcp_le W K
  have hW12 := hR.2.1
  have hK64 := hP.2.1
  have e : ∀ b, (lcp W K < K.length ∧ (lcp W K = W.length ∨ W.getD (lcp W K) 0 < K.getD (lcp W K) 0) ↔ b = true) → kbf W K = b := fun b hb => by
    unfold kbf
    cases b
    · simp only [decide_eq_false_iff_not]; intro z; exact absurd (hb.mp z) (by decide)
    · simp only [decide_eq_true_eq]; exact hb.mpr rfl
  refine bX10_isBefore_39 _ _ ⟨hS.1, fun c => ?_, fun c => ⟨fun c2 => ?_, fun c2 => ?_⟩⟩
  · have := nle c hP.1 rfl
    rw [e false ⟨fun z => by omega, fun z => by cases z⟩] at hQ
    exact hQ
  · have h1 := nnle c hP.1 rfl
    have h2 := neq c2 rfl hR.1
    rw [e true ⟨fun _ => rfl, fun _ => ⟨h1, Or.inl h2⟩⟩] at hQ
    exact hQ
  · have h1 := nnle c hP.1 rfl
    have h2 := nne c2 rfl hR.1
    have g1 : W.getD (lcp W K) 0 < 256 := getD_lt hR.2.2.2
    have g2 : K.getD (lcp W K) 0 < 256 := getD_lt hP.2.2.2
    refine ⟨ad 23, (hS.2.1 23 (by decide)).1, lcp W K, hS.ai (j := 23) (by decide) (by show _ < 40; omega), ad 1, (hS.2.1 1 (by decide)).1, lcp W K, hS.ai (j := 1) (by decide) (by show _ < 64; omega), fun c3 => ?_, fun c3 => ?_⟩
    · rw [hR.2.2.1 _ (by omega), hP.2.2.1 _ (by omega)] at c3
      have := nle c3 rfl rfl
      rw [e false ⟨fun z => by omega, fun z => by cases z⟩] at hQ
      exact hQ
    · rw [hR.2.2.1 _ (by omega), hP.2.2.1 _ (by omega)] at c3
      have := nnle c3 rfl rfl
      rw [e true ⟨fun _ => rfl, fun _ => ⟨h1, Or.inr this⟩⟩] at hQ
      exact hQ
theorem isBefore_loop (hS : rS M y ad) (hP : rP M y ad K) (hR : rW M y ad W) (hQ : Q (some (.int (if kbf W K = true then 1 else 0))) M) : ∀ (d k : Nat), lcp W K = k + d → xWp l g mX10_isBefore 0 0 2 [(1, va_rf (some y)), (1, .int (nI k))] [] (0, 0) M Q := by
  have hl := lcp_le W K
  have hW12 := hR.2.1
  have hK64 := hP.2.1
  intro d
  induction d with
  | zero =>
    intro k hd
    have hk : k = lcp W K := by omega
    have go := isBefore_end (l := l) (g := g) (Q := Q) hS hP hR hQ
    rw [← hk] at go
    refine bX10_isBefore_2 _ _ ⟨hS.1, fun _ => go, fun c => ⟨fun _ => go, fun c2 => ?_⟩⟩
    have h1 := nnle c hR.1 rfl
    have h2 := nnle c2 hP.1 rfl
    refine ⟨ad 23, (hS.2.1 23 (by decide)).1, k, hS.ai (j := 23) (by decide) (by show _ < 40; omega), ad 1, (hS.2.1 1 (by decide)).1, k, hS.ai (j := 1) (by decide) (by show _ < 64; omega), fun c3 => go, fun c3 => ?_⟩
    exfalso
    rw [hR.2.2.1 _ h1, hP.2.2.1 _ h2] at c3
    have g1 : W.getD k 0 < 256 := getD_lt hR.2.2.2
    have g2 : K.getD k 0 < 256 := getD_lt hP.2.2.2
    have hp := lcp_pre W K k (by omega)
    have hst := lcp_step W K k k h1 h2
    rw [if_pos (nI_inj (by omega) (by omega) c3)] at hst
    omega
  | succ d ih =>
    intro k hd
    have hp := lcp_pre W K k (by omega)
    have hst := lcp_step W K k k (by omega) (by omega)
    refine bX10_isBefore_2 _ _ ⟨hS.1, fun c => ?_, fun c => ⟨fun c2 => ?_, fun c2 => ?_⟩⟩
    · exfalso
      have := nle c hR.1 rfl
      omega
    · exfalso
      have := nle c2 hP.1 rfl
      omega
    · refine ⟨ad 23, (hS.2.1 23 (by decide)).1, k, hS.ai (j := 23) (by decide) (by show _ < 40; omega), ad 1, (hS.2.1 1 (by decide)).1, k, hS.ai (j := 1) (by decide) (by show _ < 64; omega), fun c3 => ?_, fun c3 => ?_⟩
      · exfalso
        rw [hR.2.2.1 k (by omega), hP.2.2.1 k (by omega)] at c3
        rw [if_neg (fun z => c3 (by rw [z]))] at hst
        omega
      · rw [nI_1]
        exact ih (k + 1) (by omega)
theorem sX10_isBefore (hS : rS M y ad) (hP : rP M y ad K) (hR : rW M y ad W) (hQ : Q (some (.int (if kbf W K = true then 1 else 0))) M) : xSp l g mX10_isBefore 0 0 [va_rf (some y)] M Q :=
  eX10_isBefore _ (bX10_isBefore_0 _ (isBefore_loop hS hP hR hQ (lcp W K) 0 (by omega)))
end RTL
