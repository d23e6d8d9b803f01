/-! The reference's arrays written: one node's cells; freshen, newNode, setPrefix, give. -/
def RA9 : List Nat := [4, 5, 6, 8, 9, 10, 11, 12, 13]
/-- the cells of node c -/
def rN (ad : Nat → Nat) (c : Nat) (a k : Nat) : Prop := (∃ j ∈ RA9, a = ad j ∧ k = c) ∨ (a = ad 7 ∧ 12 * c ≤ k ∧ k < 12 * c + 12)
/-- the cells of the low half, and scratch -/
def rLo (y : Nat) (ad : Nat → Nat) (a k : Nat) : Prop := rY y ad a k ∨ (a = y ∧ k = 14) ∨ (∃ j ∈ RA9, a = ad j ∧ k < 220) ∨ (a = ad 7 ∧ k < 2640)
/-- pages and marks of some nodes -/
def tFrS (T : TT) (s : List Nat) : TT := (tU T, tP T, tB T, tX T, tV T, tF T, (fun x => if x ∈ s then 0 else tG T x), (fun x => if x ∈ s then true else tR T x), tC T, tL T, tO T)
section RWR
variable {l : Launch} {g : xG} {M M1 M2 : xM} {Q : Option Value → xM → Prop} {y : Nat} {ad : Nat → Nat} {T T1 Tc : TT} {o n b c : Nat} {K W : List Nat} {dn : Bool} {D : Nat → Nat} {pw : Option Nat} {tr sq : Nat} {P P1 : Nat → Nat → Prop}
theorem rX_J {a k : Nat} {v : Int64} (h : P a k) : rX P M (xsJ M a k v) := ⟨⟨rfl, rfl, rfl, rfl⟩, fun a2 k2 z => ⟨rfl, by rw [xJ_sJ, if_neg (fun q => z (by rw [q.1, q.2]; exact h))]⟩⟩
theorem RA_RL : ∀ j ∈ RA9, j ∈ RL9 := by decide
theorem rN_lo (hc : c < 220) : ∀ a k, rN ad c a k → rLo y ad a k := fun a k h => by
  rcases h with ⟨j, hj, h1, h2⟩ | ⟨h1, h2, h3⟩
  · exact Or.inr (Or.inr (Or.inl ⟨j, hj, h1, by omega⟩))
  · exact Or.inr (Or.inr (Or.inr ⟨h1, by omega⟩))
theorem rLo_g : ∀ a k, rLo y ad a k → rG y ad a := fun a k h => by
  rcases h with h | h | ⟨j, hj, h1, h2⟩ | h
  · exact rY_g a k h
  · exact Or.inl h.1
  · exact Or.inr ⟨j, RA_RL j hj, h1⟩
  · exact Or.inr ⟨7, by decide, h.1⟩
/-- what is written of one node is not of another -/
theorem rN_arr (hS : rS M y ad) {j k : Nat} (hj : j ∈ RA9) (hk : k ≠ c) : ¬ rN ad c (ad j) k := fun z => by
  rcases z with ⟨i, hi, h1, h2⟩ | ⟨h1, h2, h3⟩
  · exact hk h2
  · exact hS.na (RA_RL j hj) (j := 7) (by decide) (fun q => by subst q; revert hj; decide) h1
theorem rN_pre (hS : rS M y ad) {k : Nat} (hk : ¬ (12 * c ≤ k ∧ k < 12 * c + 12)) : ¬ rN ad c (ad 7) k := fun z => by
  rcases z with ⟨i, hi, h1, h2⟩ | ⟨h1, h2, h3⟩
  · exact hS.na (i := 7) (by decide) (RA_RL i hi) (fun q => by subst q; revert hi; decide) h1
  · exact hk ⟨h2, h3⟩
/-- what two trees agree in, of a node -/
def tSm (T T1 : TT) (n : Nat) : Prop := tP T1 n = tP T n ∧ tB T1 n = tB T n ∧ tX T1 n = tX T n ∧ tV T1 n = tV T n ∧ tF T1 n = tF T n ∧ tG T1 n = tG T n ∧ tR T1 n = tR T n
theorem rC_same (hS : rS M y ad) (hx : rX (rN ad c) M M1) (hn : n ≠ c) (h12 : (tX T n).length ≤ 12) (h : rC M ad 0 T n) (hs : tSm T T1 n) : rC M1 ad 0 T1 n := by
  obtain ⟨c1, c2, c3, c4, c5, c6, c7, c8, c9⟩ := h
  obtain ⟨s1, s2, s3, s4, s5, s6, s7⟩ := hs
  have gi : ∀ j ∈ RA9, xI M1 (ad j) (0 + n) = xI M (ad j) (0 + n) := fun j hj => (hx.2 _ _ (rN_arr hS hj (by omega))).1
  refine ⟨by rw [gi 5 (by decide), s1]; exact c1, by rw [gi 6 (by decide), s2]; exact c2, by rw [gi 8 (by decide), s3]; exact c3, fun i hi => ?_, by rw [gi 9 (by decide), s4]; exact c5, by rw [(hx.2 _ _ (rN_arr (j := 10) hS (by decide) (by omega))).2, s4]; exact c6, by rw [gi 11 (by decide), s5]; exact c7, by rw [gi 12 (by decide), s6]; exact c8, by rw [gi 13 (by decide), s7]; exact c9⟩
  rw [s3] at hi ⊢
  rw [(hx.2 _ _ (rN_pre hS (by omega))).1]; exact c4 i hi
/-- one node's cells written -/
theorem rT_upd (hS : rS M y ad) (hT : rT M ad 0 T) (hx : rX (rN ad c) M M1) (h12 : ∀ n, tU T n = true → (tX T n).length ≤ 12)
    (hc : xI M1 (ad 4) c = (if tU T1 c = true then 1 else 0) ∧ (tU T1 c = true → rC M1 ad 0 T1 c)) (hs : ∀ n, n ≠ c → tU T1 n = tU T n ∧ tSm T T1 n) : rT M1 ad 0 T1 := by
  intro n hn
  by_cases e : n = c
  · subst e; rw [Nat.zero_add]; exact hc
  · obtain ⟨h1, h2⟩ := hT n hn
    obtain ⟨u1, u2⟩ := hs n e
    refine ⟨by rw [(hx.2 _ _ (rN_arr (j := 4) hS (by decide) (by omega))).1, u1]; exact h1, fun hu => ?_⟩
    rw [u1] at hu
    exact rC_same hS hx e (h12 n hu) (h2 hu) u2
/-- the low half written -/
theorem rR.low (hA : aI T Tc sq) (h : rR M y ad K dn T Tc D pw tr sq) (hx : rX (rLo y ad) M M1) (hT1 : rT M1 ad 0 T1) (hr1 : xI M1 y 14 = nI (tO T1)) : rR M1 y ad K dn T1 Tc D pw tr sq := by
  obtain ⟨hS, hP, h3, ⟨hT, hr⟩, ⟨hTc, hrc⟩, hq, ⟨hD, hD2⟩, hp, ht, ht2, hpw⟩ := h
  have fy : ∀ k, ¬ (k = 0 ∨ k = 20 ∨ k = 21 ∨ k = 22 ∨ k = 24 ∨ k = 14) → ¬ rLo y ad y k := fun k hk z => by
    rcases z with (z | z) | z | ⟨j, hj, z, -⟩ | z
    · exact hk (by omega)
    · exact hS.ny (j := 23) (by decide) z.symm
    · exact hk (by omega)
    · exact hS.ny (RA_RL j hj) z.symm
    · exact hS.ny (j := 7) (by decide) z.1.symm
  have fa : ∀ j ∈ RL9, j ≠ 23 → j ≠ 7 → (∀ i ∈ RA9, j ≠ i) → ∀ k, ¬ rLo y ad (ad j) k := fun j hj h23 h7 h9 k z => by
    rcases z with (z | z) | z | ⟨i, hi, z, -⟩ | z
    · exact hS.ny hj z.1
    · exact hS.na hj (by decide) h23 z
    · exact hS.ny hj z.1
    · exact hS.na hj (RA_RL i hi) (h9 i hi) z
    · exact hS.na hj (by decide) h7 z.1
  have fh : ∀ j ∈ RA9, ∀ k, 220 ≤ k → ¬ rLo y ad (ad j) k := fun j hj k hk z => by
    rcases z with (z | z) | z | ⟨i, hi, z, z2⟩ | z
    · exact hS.ny (RA_RL j hj) z.1
    · exact hS.na (RA_RL j hj) (j := 23) (by decide) (fun q => by subst q; revert hj; decide) z
    · exact hS.ny (RA_RL j hj) z.1
    · omega
    · exact hS.na (RA_RL j hj) (j := 7) (by decide) (fun q => by subst q; revert hj; decide) z.1
  have fp : ∀ k, 2640 ≤ k → ¬ rLo y ad (ad 7) k := fun k hk z => by
    rcases z with (z | z) | z | ⟨i, hi, z, z2⟩ | z
    · exact hS.ny (j := 7) (by decide) z.1
    · exact hS.na (i := 7) (j := 23) (by decide) (by decide) (by decide) z
    · exact hS.ny (j := 7) (by decide) z.1
    · exact hS.na (i := 7) (by decide) (RA_RL i hi) (fun q => by subst q; revert hi; decide) z
    · omega
  refine ⟨hx.sS hS, ⟨by rw [(hx.2 _ _ (fy 2 (by decide))).1]; exact hP.1, hP.2.1, fun i hi => by rw [(hx.2 _ _ (fa 1 (by decide) (by decide) (by decide) (by decide) _)).1]; exact hP.2.2.1 i hi, hP.2.2.2⟩, by rw [(hx.2 _ _ (fy 3 (by decide))).1]; exact h3, ⟨hT1, hr1⟩, ⟨?_, by rw [(hx.2 _ _ (fy 15 (by decide))).1]; exact hrc⟩, by rw [(hx.2 _ _ (fy 16 (by decide))).2]; exact hq, ⟨fun k hk => by rw [(hx.2 _ _ (fa 17 (by decide) (by decide) (by decide) (by decide) _)).1]; exact hD k hk, hD2⟩, fun z => by rw [(hx.2 _ _ (fy 18 (by decide))).1]; exact hp z, fun z => by rw [(hx.2 _ _ (fy 19 (by decide))).1]; exact ht z, ht2, hpw⟩
  exact hx.tT hTc (fun j hj n hn => fh j hj _ (by omega)) (fun i hi => fp _ (by omega)) (fun n hn hu => (tX_le hA.2.1.1 hu).1)
/-- pages and marks: the cells a freshen may write -/
def rFc (ad : Nat → Nat) (a k : Nat) : Prop := (a = ad 12 ∨ a = ad 13) ∧ k < 220
theorem rFc_lo : ∀ a k, rFc ad a k → rLo y ad a k := fun a k h => by
  rcases h with ⟨h | h, h2⟩
  · exact Or.inr (Or.inr (Or.inl ⟨12, by decide, h, h2⟩))
  · exact Or.inr (Or.inr (Or.inl ⟨13, by decide, h, h2⟩))
theorem rFc_y (hS : rS M y ad) (hx : rX (rFc ad) M M1) (k : Nat) : xI M1 y k = xI M y k := (hx.2 _ _ (fun z => by
  rcases z with ⟨h | h, -⟩
  · exact hS.ny (j := 12) (by decide) h.symm
  · exact hS.ny (j := 13) (by decide) h.symm)).1
theorem rT_fr (hS : rS M y ad) {s : List Nat} (hT : rT M ad 0 (tFrS T s)) (hc : c < 220) (h12 : ∀ n, tU T n = true → (tX T n).length ≤ 12) : rT (xsI (xsI M (ad 13) c 1) (ad 12) c 0) ad 0 (tFrS T (c :: s)) := by
  intro n hn
  obtain ⟨h1, h2⟩ := hT n hn
  have e : ∀ j ∈ RL9, j ≠ 12 → j ≠ 13 → ∀ k, xI (xsI (xsI M (ad 13) c 1) (ad 12) c 0) (ad j) k = xI M (ad j) k := fun j hj n1 n2 k => by
    rw [xI_sI, if_neg (fun z => hS.na hj (by decide) n1 z.1), xI_sI, if_neg (fun z => hS.na hj (by decide) n2 z.1)]
  refine ⟨by rw [e 4 (by decide) (by decide) (by decide)]; exact h1, fun hu => ?_⟩
  obtain ⟨c1, c2, c3, c4, c5, c6, c7, c8, c9⟩ := h2 hu
  refine ⟨by rw [e 5 (by decide) (by decide) (by decide)]; exact c1, by rw [e 6 (by decide) (by decide) (by decide)]; exact c2, by rw [e 8 (by decide) (by decide) (by decide)]; exact c3, fun i hi => by rw [e 7 (by decide) (by decide) (by decide)]; exact c4 i hi, by rw [e 9 (by decide) (by decide) (by decide)]; exact c5, c6, by rw [e 11 (by decide) (by decide) (by decide)]; exact c7, ?_, ?_⟩
  · show _ = nI (if n ∈ c :: s then 0 else tG T n)
    by_cases hnc : n = c
    · rw [xI_sI, if_pos ⟨rfl, by omega⟩, if_pos (by rw [hnc]; exact List.mem_cons_self)]; rfl
    · rw [xI_sI, if_neg (fun z => hnc (by omega)), xI_sI, if_neg (fun z => hnc (by omega)), c8]
      show nI (if n ∈ s then 0 else tG T n) = _
      by_cases hs : n ∈ s
      · rw [if_pos hs, if_pos (List.mem_cons_of_mem _ hs)]
      · rw [if_neg hs, if_neg (fun z => by rcases List.mem_cons.mp z with z | z; · exact hnc z
                                           · exact hs z)]
  · show _ = if (if n ∈ c :: s then true else tR T n) = true then 1 else 0
    by_cases hnc : n = c
    · rw [xI_sI, if_neg (fun z => hS.na (i := 13) (j := 12) (by decide) (by decide) (by decide) z.1), xI_sI, if_pos ⟨rfl, by omega⟩, if_pos (show n ∈ c :: s by rw [hnc]; exact List.mem_cons_self)]; rfl
    · rw [xI_sI, if_neg (fun z => hnc (by omega)), xI_sI, if_neg (fun z => hnc (by omega)), c9]
      show (if (if n ∈ s then true else tR T n) = true then (1 : Int32) else 0) = _
      by_cases hs : n ∈ s
      · rw [if_pos hs, if_pos (show n ∈ c :: s from List.mem_cons_of_mem _ hs)]
      · have hn2 : ¬ n ∈ c :: s := fun z => by
          rcases List.mem_cons.mp z with z | z
          · exact hnc z
          · exact hs z
        rw [if_neg hs, if_neg hn2]
theorem tFrS_congr {s t : List Nat} (h : ∀ x, x ∈ s ↔ x ∈ t) : tFrS T s = tFrS T t := by
  unfold tFrS
  have e1 : (fun x => if x ∈ s then 0 else tG T x) = (fun x => if x ∈ t then 0 else tG T x) := by
    funext x
    by_cases hx : x ∈ s
    · rw [if_pos hx, if_pos ((h x).mp hx)]
    · rw [if_neg hx, if_neg (fun z => hx ((h x).mpr z))]
  have e2 : (fun x => if x ∈ s then true else tR T x) = (fun x => if x ∈ t then true else tR T x) := by
    funext x
    by_cases hx : x ∈ s
    · rw [if_pos hx, if_pos ((h x).mp hx)]
    · rw [if_neg hx, if_neg (fun z => hx ((h x).mpr z))]
  rw [e1, e2]
theorem rfreshen_loop {x1 : Int32} (hW : tWF T) (hS : rS M y ad) {n : Nat}
    (hQ : ∀ M1, rX (rFc ad) M M1 → rT M1 ad 0 (tFr T n) → Q none M1) :
    ∀ (f x : Nat) (s : List Nat) (M1 : xM), tU T x = true → tL T x ≤ f → (∀ z, z ∈ tA T 12 n ↔ z ∈ s ∨ z ∈ tA T f x) → rX (rFc ad) M M1 → rT M1 ad 0 (tFrS T s) → xWp l g mX10_freshen 0 0 2 [(1, va_rf (some y)), (1, .int x1), (1, .int (nI x))] [] (0, 0) M1 Q := by
  have h12 : ∀ n, tU T n = true → (tX T n).length ≤ 12 := fun n hn => (tX_le hW hn).1
  intro f
  induction f with
  | zero =>
    intro x s M1 hx hf hA hx1 hT1
    have hS1 := hx1.sS hS
    have hx220 := (hW.2.1 x hx).1
    have hp : tP T x = none := by
      cases hp : tP T x with
      | none => rfl
      | some p => have := (hW.2.2.2.1 x p hx hp).2.2; omega
    have hup := ((hT1 x hx220).2 hx).1
    rw [Nat.zero_add] at hup
    have hup2 : xI M1 (ad 5) x = pI (tP T x) := hup
    refine bX10_freshen_2 _ _ _ ⟨fun c => ?_, fun _ => ⟨hS1.1, ad 13, (hS1.2.1 13 (by decide)).1, x, hS1.ai (j := 13) (by decide) (by show x < 440; omega), ad 12, (hS1.2.1 12 (by decide)).1, x, hS1.ai (j := 12) (by decide) (by show x < 440; omega), ad 5, (hS1.2.1 5 (by decide)).1, x, hS1.ai (j := 5) (by decide) (by show x < 440; omega), ?_⟩⟩
    · exact absurd ((pI_m1 (o := some x) (fun q hq => by cases hq; exact hx220)).mp c) (fun z => by cases z)
    · rw [xI_sI, if_neg (fun z => hS.na (i := 5) (j := 12) (by decide) (by decide) (by decide) z.1), xI_sI, if_neg (fun z => hS.na (i := 5) (j := 13) (by decide) (by decide) (by decide) z.1), hup2, hp]
      refine bX10_freshen_2 _ _ _ ⟨fun _ => hQ _ (hx1.trans ((rX_I ⟨Or.inr rfl, hx220⟩).trans (rX_I ⟨Or.inl rfl, hx220⟩))) ?_, fun z => absurd rfl z⟩
      have := rT_fr (c := x) hS1 hT1 hx220 h12
      rw [tFrS_congr (t := tA T 12 n) (fun z => by rw [hA z, List.mem_cons]; simp only [tA, List.mem_singleton]; exact or_comm)] at this
      exact this
  | succ f ih =>
    intro x s M1 hx hf hA hx1 hT1
    have hS1 := hx1.sS hS
    have hx220 := (hW.2.1 x hx).1
    have hup := ((hT1 x hx220).2 hx).1
    rw [Nat.zero_add] at hup
    have hup2 : xI M1 (ad 5) x = pI (tP T x) := hup
    have hx2 := (hx1.trans ((rX_I (M := M1) (P := rFc ad) (a := ad 13) (k := x) (v := 1) ⟨Or.inr rfl, hx220⟩).trans (rX_I (a := ad 12) (k := x) (v := 0) ⟨Or.inl rfl, hx220⟩)))
    have hT2 := rT_fr (c := x) hS1 hT1 hx220 h12
    refine bX10_freshen_2 _ _ _ ⟨fun c => ?_, fun _ => ⟨hS1.1, ad 13, (hS1.2.1 13 (by decide)).1, x, hS1.ai (j := 13) (by decide) (by show x < 440; omega), ad 12, (hS1.2.1 12 (by decide)).1, x, hS1.ai (j := 12) (by decide) (by show x < 440; omega), ad 5, (hS1.2.1 5 (by decide)).1, x, hS1.ai (j := 5) (by decide) (by show x < 440; omega), ?_⟩⟩
    · exact absurd ((pI_m1 (o := some x) (fun q hq => by cases hq; exact hx220)).mp c) (fun z => by cases z)
    · rw [xI_sI, if_neg (fun z => hS.na (i := 5) (j := 12) (by decide) (by decide) (by decide) z.1), xI_sI, if_neg (fun z => hS.na (i := 5) (j := 13) (by decide) (by decide) (by decide) z.1), hup2]
      cases hp : tP T x with
      | none =>
        refine bX10_freshen_2 _ _ _ ⟨fun _ => hQ _ hx2 ?_, fun z => absurd rfl z⟩
        rw [tFrS_congr (t := tA T 12 n) (fun z => by rw [hA z, List.mem_cons]; simp only [tA, hp, List.mem_singleton]; exact or_comm)] at hT2
        exact hT2
      | some p =>
        obtain ⟨p1, p2, p3⟩ := hW.2.2.2.1 x p hx hp
        refine ih p (x :: s) _ p1 (by omega) (fun z => ?_) hx2 hT2
        rw [hA z, List.mem_cons]
        simp only [tA, hp, List.mem_cons]
        constructor
        · rintro (h | h | h)
          · exact Or.inl (Or.inr h)
          · exact Or.inl (Or.inl h)
          · exact Or.inr h
        · rintro ((h | h) | h)
          · exact Or.inr (Or.inl h)
          · exact Or.inl h
          · exact Or.inr (Or.inr h)
theorem sX10_freshen (hW : tWF T) (hS : rS M y ad) (hT : rT M ad 0 T) (hn : tU T n = true) (hQ : ∀ M1, rX (rFc ad) M M1 → rT M1 ad 0 (tFr T n) → Q none M1) : xSp l g mX10_freshen 0 0 [va_rf (some y), .int (nI n)] M Q := by
  have h12 := (hW.2.1 n hn).2.2.2
  refine eX10_freshen _ _ (bX10_freshen_0 _ _ (rfreshen_loop hW hS hQ 12 n [] M hn (by omega) (fun z => by simp) rX.rf ?_))
  exact hT
theorem tFree_first (h : tCnt T < 220) : ∀ i, i < tFree T → tU T i = true := by
  intro i hi
  apply Classical.byContradiction
  intro z
  unfold tFree at hi
  cases hf : (List.range 220).find? (fun n => !tU T n) with
  | none =>
    rw [hf] at hi
    simp at hi
  | some m =>
    rw [hf] at hi
    have hi2 : i < m := hi
    rw [List.find?_eq_some_iff_append] at hf
    obtain ⟨h1, as, bs, h2, h3⟩ := hf
    have hlen : i < as.length := by
      apply Classical.byContradiction
      intro q
      have g1 : (List.range 220)[as.length]? = some m := by rw [h2]; simp
      have hl : as.length < 220 := by
        have := congrArg List.length h2
        simp at this
        omega
      rw [List.getElem?_range hl] at g1
      simp at g1
      omega
    have g2 : as[i]? = some i := by
      have : (List.range 220)[i]? = as[i]? := by rw [h2, List.getElem?_append_left hlen]
      rw [← this]
      have hl : as.length < 220 := by
        have := congrArg List.length h2
        simp at this
        omega
      rw [List.getElem?_range (by omega)]
    have := h3 i (List.mem_of_getElem? g2)
    simp at this
    exact z this
end RWR
