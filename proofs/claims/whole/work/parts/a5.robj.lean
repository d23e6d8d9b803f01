/-! THE REFERENCE'S OBJECT: what it holds; its public methods that only read. -/
/-- only cells of P changed -/
def rX (P : Nat → Nat → Prop) (M M1 : xM) : Prop := (xL M1 = xL M ∧ xK M1 = xK M ∧ xN M1 = xN M ∧ xR M1 = xR M) ∧ ∀ a k, ¬ P a k → xI M1 a k = xI M a k ∧ xJ M1 a k = xJ M a k
/-- the reference's cells -/
def rG (y : Nat) (ad : Nat → Nat) (a : Nat) : Prop := a = y ∨ ∃ j ∈ RL9, a = ad j
/-- scratch -/
def rY (y : Nat) (ad : Nat → Nat) (a k : Nat) : Prop := (a = y ∧ (k = 0 ∨ k = 20 ∨ k = 21 ∨ k = 22 ∨ k = 24)) ∨ a = ad 23
/-- what the reference's object holds -/
def rR (M : xM) (y : Nat) (ad : Nat → Nat) (K : List Nat) (dn : Bool) (T Tc : TT) (D : Nat → Nat) (pw : Option Nat) (tr sq : Nat) : Prop :=
  rS M y ad ∧ rP M y ad K ∧ xI M y 3 = (if dn = true then 1 else 0) ∧ (rT M ad 0 T ∧ xI M y 14 = nI (tO T)) ∧ (rT M ad 220 Tc ∧ xI M y 15 = nI (tO Tc)) ∧ xJ M y 16 = Int64.ofNat sq ∧ ((∀ k, k < 131072 → xI M (ad 17) k = nI (D k)) ∧ ∀ k, D k < 256) ∧ (dn = false → xI M y 18 = pwI pw) ∧ (pw ≠ none → xI M y 19 = nI tr) ∧ tr < 512 ∧ ∀ k, pw = some k → k ≤ 1000
section RRR
variable {l : Launch} {g : xG} {M M1 M2 : xM} {Q : Option Value → xM → Prop} {y : Nat} {ad : Nat → Nat} {T Tc : TT} {o n b : Nat} {K W : List Nat} {dn : Bool} {D : Nat → Nat} {pw : Option Nat} {tr sq : Nat} {P P1 : Nat → Nat → Prop}
theorem rX.rf : rX P M M := ⟨⟨rfl, rfl, rfl, rfl⟩, fun _ _ _ => ⟨rfl, rfl⟩⟩
theorem rX.trans (h1 : rX P M M1) (h2 : rX P M1 M2) : rX P M M2 := by
  obtain ⟨⟨a1, a2, a3, a4⟩, a6⟩ := h1
  obtain ⟨⟨b1, b2, b3, b4⟩, b6⟩ := h2
  exact ⟨⟨b1.trans a1, b2.trans a2, b3.trans a3, b4.trans a4⟩, fun a k h => ⟨(b6 a k h).1.trans (a6 a k h).1, (b6 a k h).2.trans (a6 a k h).2⟩⟩
theorem rX.mono (h1 : rX P M M1) (h : ∀ a k, P a k → P1 a k) : rX P1 M M1 := ⟨h1.1, fun a k z => h1.2 a k (fun q => z (h a k q))⟩
theorem rX_I {a k : Nat} {v : Int32} (h : P a k) : rX P M (xsI M a k v) := ⟨⟨rfl, rfl, rfl, rfl⟩, fun a2 k2 z => ⟨by rw [xI_sI, if_neg (fun q => z (by rw [q.1, q.2]; exact h))], rfl⟩⟩
theorem rO.x (h : rO M M1 y ad) : rX (rY y ad) M M1 := by
  obtain ⟨⟨a1, a2, a3, a4, a5⟩, a6⟩ := h
  exact ⟨⟨a1, a2, a3, a5⟩, fun a k z => ⟨a6 a k (fun q => z (Or.inl ⟨q.1, Or.inr q.2⟩)) (fun q => z (Or.inr q)), by rw [a4]⟩⟩
theorem rX.xa (h : rX P M M1) (hP : ∀ a k, P a k → rG y ad a) : xag (rG y ad) M M1 := by
  obtain ⟨⟨a1, a2, a3, a4⟩, a6⟩ := h
  exact ⟨⟨a1, a2, a3, fun a => by rw [a4]⟩, fun a z => ⟨fun k => (a6 a k (fun q => z (hP a k q))).1, fun k => (a6 a k (fun q => z (hP a k q))).2, fun k => by rw [a4]⟩⟩
theorem rY_g : ∀ a k, rY y ad a k → rG y ad a := fun a k h => by
  rcases h with h | h
  · exact Or.inl h.1
  · exact Or.inr ⟨23, by decide, h⟩
theorem rX.sS (h : rX P M M1) (hS : rS M y ad) : rS M1 y ad := by
  obtain ⟨⟨a1, a2, a3, a5⟩, a6⟩ := h
  refine ⟨⟨by rw [a1]; exact hS.1.1, by rw [a2]; exact hS.1.2⟩, fun j hj => ?_, hS.2.2⟩
  obtain ⟨h1, h2, h3⟩ := hS.2.1 j hj
  exact ⟨by rw [a5]; exact h1, ⟨by rw [a1]; exact h2.1, by rw [a2]; exact h2.2⟩, by rw [a3]; exact h3⟩
/-- a half of the arrays that was not touched -/
theorem rX.tT (h : rX P M M1) (hT : rT M ad o T) (h1 : ∀ j ∈ [4, 5, 6, 8, 9, 10, 11, 12, 13], ∀ n, n < 220 → ¬ P (ad j) (o + n)) (h2 : ∀ i, i < 2640 → ¬ P (ad 7) (12 * o + i)) (h12 : ∀ n, n < 220 → tU T n = true → (tX T n).length ≤ 12) : rT M1 ad o T := by
  intro n hn
  obtain ⟨e1, e2⟩ := hT n hn
  have gi : ∀ j ∈ [4, 5, 6, 8, 9, 10, 11, 12, 13], xI M1 (ad j) (o + n) = xI M (ad j) (o + n) := fun j hj => (h.2 _ _ (h1 j hj n hn)).1
  refine ⟨by rw [gi 4 (by decide)]; exact e1, fun hu => ?_⟩
  obtain ⟨c1, c2, c3, c4, c5, c6, c7, c8, c9⟩ := e2 hu
  have hl := h12 n hn hu
  exact ⟨by rw [gi 5 (by decide)]; exact c1, by rw [gi 6 (by decide)]; exact c2, by rw [gi 8 (by decide)]; exact c3, fun i hi => by rw [show 12 * (o + n) + i = 12 * o + (12 * n + i) by omega, (h.2 _ _ (h2 (12 * n + i) (by omega))).1, show 12 * o + (12 * n + i) = 12 * (o + n) + i by omega]; exact c4 i hi, by rw [gi 9 (by decide)]; exact c5, by rw [(h.2 _ _ (h1 10 (by decide) n hn)).2]; exact c6, by rw [gi 11 (by decide)]; exact c7, by rw [gi 12 (by decide)]; exact c8, by rw [gi 13 (by decide)]; exact c9⟩
theorem rS.na (hS : rS M y ad) {i j : Nat} (hi : i ∈ RL9) (hj : j ∈ RL9) (h : i ≠ j) : ad i ≠ ad j := fun z => h (hS.2.2 i hi j hj z)
/-- scratch changed -/
theorem rR.ry (hA : aI T Tc sq) (h : rR M y ad K dn T Tc D pw tr sq) (hx : rX (rY y ad) M M1) : rR M1 y ad K dn T Tc D pw tr sq := by
  obtain ⟨hS, hP, h3, ⟨hT, hr⟩, ⟨hTc, hrc⟩, hq, ⟨hD, hD2⟩, hp, ht, ht2, hpw⟩ := h
  have fy : ∀ k, ¬ (k = 0 ∨ k = 20 ∨ k = 21 ∨ k = 22 ∨ k = 24) → ¬ rY y ad y k := fun k hk z => by
    rcases z with z | z
    · exact hk z.2
    · exact hS.ny (j := 23) (by decide) z.symm
  have fa : ∀ j ∈ RL9, j ≠ 23 → ∀ k, ¬ rY y ad (ad j) k := fun j hj h23 k z => by
    rcases z with z | z
    · exact hS.ny hj z.1
    · exact hS.na hj (by decide) h23 z
  have hW := hA.1.1
  have hWc := hA.2.1.1
  refine ⟨hx.sS hS, ⟨by rw [(hx.2 _ _ (fy 2 (by decide))).1]; exact hP.1, hP.2.1, fun i hi => by rw [(hx.2 _ _ (fa 1 (by decide) (by decide) _)).1]; exact hP.2.2.1 i hi, hP.2.2.2⟩, by rw [(hx.2 _ _ (fy 3 (by decide))).1]; exact h3, ⟨?_, by rw [(hx.2 _ _ (fy 14 (by decide))).1]; exact hr⟩, ⟨?_, by rw [(hx.2 _ _ (fy 15 (by decide))).1]; exact hrc⟩, by rw [(hx.2 _ _ (fy 16 (by decide))).2]; exact hq, ⟨fun k hk => by rw [(hx.2 _ _ (fa 17 (by decide) (by decide) _)).1]; exact hD k hk, hD2⟩, fun z => by rw [(hx.2 _ _ (fy 18 (by decide))).1]; exact hp z, fun z => by rw [(hx.2 _ _ (fy 19 (by decide))).1]; exact ht z, ht2, hpw⟩
  · refine hx.tT hT (fun j hj n hn => fa j ?_ ?_ _) (fun i hi => fa 7 (by decide) (by decide) _) (fun n hn hu => (tX_le hW hu).1)
    · revert j; decide
    · intro z; subst z; revert hj; decide
  · refine hx.tT hTc (fun j hj n hn => fa j ?_ ?_ _) (fun i hi => fa 7 (by decide) (by decide) _) (fun n hn hu => (tX_le hWc hu).1)
    · revert j; decide
    · intro z; subst z; revert hj; decide
theorem rR.oo (hA : aI T Tc sq) (h : rR M y ad K dn T Tc D pw tr sq) (hx : rO M M1 y ad) : rR M1 y ad K dn T Tc D pw tr sq := h.ry hA hx.x
theorem rR.th (hA : aI T Tc sq) (h : rR M y ad K dn T Tc D pw tr sq) {v : Int32} : rR (xsI M y 0 v) y ad K dn T Tc D pw tr sq := h.ry hA (rX_I (Or.inl ⟨rfl, Or.inl rfl⟩))
theorem rO.th {v : Int32} (hx : rO (xsI M y 0 v) M1 y ad) : rX (rY y ad) M M1 := (rX_I (Or.inl ⟨rfl, Or.inl rfl⟩)).trans hx.x
theorem rO.t0 (hS : rS M y ad) {v : Int32} (hx : rO (xsI M y 0 v) M1 y ad) : xI M1 y 0 = v := by
  have h1 : xI M1 y 0 = xI (xsI M y 0 v) y 0 := hx.2 _ _ (fun z => absurd z.2 (by decide)) (fun z => hS.ny (j := 23) (by decide) z.symm)
  rw [h1, xI_sI, if_pos ⟨rfl, rfl⟩]
theorem i64lt {a b : Int32} : a.toInt64 < b.toInt64 ↔ a < b := by
  simp only [Int64.lt_iff_toInt_lt, Int32.lt_iff_toInt_lt, Int32.toInt_toInt64]
theorem sX10_in {x a b : Int32} (hQ : Q (some (.int (if a ≤ x ∧ x ≤ b then 1 else 0))) M) : xSp l g mX10_in 0 0 [.long x.toInt64, .long a.toInt64, .long b.toInt64] M Q := by
  refine eX10_in _ _ _ (bX10_in_0 _ _ _ ⟨fun c => ?_, fun c => ⟨fun c2 => ?_, fun c2 => ?_⟩⟩)
  · have h := i64lt.mp (lglt.mp c)
    rw [if_neg (fun z => Int32.not_lt.mpr z.1 h)] at hQ
    exact hQ
  · have h := i64lt.mp (lggt.mp c2)
    rw [if_neg (fun z => Int32.not_lt.mpr z.2 h)] at hQ
    exact hQ
  · have h1 : ¬ x < a := fun z => c (lglt.mpr (i64lt.mpr z))
    have h2 : ¬ b < x := fun z => c2 (lggt.mpr (i64lt.mpr z))
    rw [if_pos ⟨Int32.not_lt.mp h1, Int32.not_lt.mp h2⟩] at hQ
    exact hQ
theorem sX10_isKey (hS : rS M y ad) (hP : rP M y ad K) (hQ : Q (some (.int (if K.length ≤ 12 then 1 else 0))) M) : xSp l g mX10_isKey 0 0 [va_rf (some y)] M Q := by
  have h64 := hP.2.1
  refine eX10_isKey _ (bX10_isKey_0 _ ⟨hS.1, fun c => ?_, fun c => ?_⟩)
  · have := nlt c (a := 12) rfl hP.1
    rw [if_neg (by omega)] at hQ
    exact hQ
  · have := nnlt c (a := 12) rfl hP.1
    rw [if_pos (by omega)] at hQ
    exact hQ
theorem sX10_get (hA : aI T Tc sq) (h : rR M y ad K dn T Tc D pw tr sq) (hQ : ∀ M1, rR M1 y ad K dn T Tc D pw tr sq → xag (rG y ad) M M1 → xI M1 y 0 = 0 → Q (some (.long (aGet K dn T))) M1) : xSp l g mX10_get 0 0 [va_rf (some y)] M Q := by
  obtain ⟨hS, hP, h3, ⟨hT, hr⟩, -⟩ := h.th (v := 0) hA
  have hd := dn0 h3
  have hS0 := h.1
  unfold aGet at hQ
  have q0 : ∀ v, (∀ M1, rR M1 y ad K dn T Tc D pw tr sq → xag (rG y ad) M M1 → xI M1 y 0 = 0 → Q (some (.long v)) M1) → Q (some (.long v)) (xsI M y 0 0) := fun v hq => hq _ (h.th hA) ((rX_I (P := rY y ad) (Or.inl ⟨rfl, Or.inl rfl⟩)).xa rY_g) (by rw [xI_sI, if_pos ⟨rfl, rfl⟩])
  refine eX10_get _ (bX10_get_0 _ ⟨hS.1, fun c => ?_, fun c => ?_⟩)
  · have hdn : dn = true := by
      cases hh : dn
      · exact absurd (hd.mpr hh) c
      · rfl
    rw [if_pos (Or.inl hdn)] at hQ
    exact q0 _ hQ
  · have hdn := hd.mp c
    refine sX10_isKey hS hP ⟨_, rfl, fun c2 => ?_, fun c2 => ⟨hS.1, ?_⟩⟩
    · by_cases h12 : K.length ≤ 12
      · rw [if_pos h12] at c2; exact absurd c2 (by decide)
      · rw [if_pos (Or.inr (by omega))] at hQ
        exact q0 _ hQ
    · by_cases h12 : K.length ≤ 12
      · rw [if_neg (fun z => by rcases z with z | z; · rw [hdn] at z; cases z
                                · omega)] at hQ
        refine sX10_isFound hA.1.1 h12 hS hT hr hP (fun M1 hO e20 e21 e22 => ⟨_, rfl, fun c3 => ?_, fun c3 => ?_⟩)
        · have : tFd T K = none := by
            cases hf : tFd T K with
            | none => rfl
            | some n => rw [hf] at c3; exact absurd c3 (by simp)
          rw [this] at hQ
          exact hQ M1 ((h.th hA).oo hA hO) (hO.th.xa rY_g) (hO.t0 hS0)
        · cases hf : tFd T K with
          | none => rw [hf] at c3; exact absurd rfl c3
          | some n =>
            rw [hf] at hQ
            have hn : n = (tSe T K).1 := by
              unfold tFd at hf
              split at hf
              · cases hf; rfl
              · cases hf
            have hu := (tSe_ok hA.1.1 K).1
            have hs220 := (hA.1.1.2.1 _ hu).1
            have h1 := (h.th (v := 0) hA).oo hA hO
            have c6 := ((h1.2.2.2.1.1 _ hs220).2 hu).2.2.2.2.2.1
            rw [Nat.zero_add] at c6
            refine ⟨h1.1.1, ad 10, (h1.1.2.1 10 (by decide)).1, (tSe T K).1, by rw [e20]; exact h1.1.ai (j := 10) (by decide) (by show _ < 440; omega), ?_⟩
            rw [c6, ← hn]
            exact hQ M1 h1 (hO.th.xa rY_g) (hO.t0 hS0)
      · rw [if_neg h12] at c2; exact absurd rfl c2
end RRR
