/-! The reference's seek. -/
/-- the tape -/
def rP (M : xM) (y : Nat) (ad : Nat → Nat) (K : List Nat) : Prop := xI M y 2 = nI K.length ∧ K.length ≤ 64 ∧ (∀ i, i < K.length → xI M (ad 1) i = nI (K.getD i 0)) ∧ ∀ b ∈ K, b < 256
/-- only scratch cells changed -/
def rO (M M1 : xM) (y : Nat) (ad : Nat → Nat) : Prop := (xL M1 = xL M ∧ xK M1 = xK M ∧ xN M1 = xN M ∧ xJ M1 = xJ M ∧ xR M1 = xR M) ∧ ∀ a k, ¬ (a = y ∧ (k = 20 ∨ k = 21 ∨ k = 22 ∨ k = 24)) → a ≠ ad 23 → xI M1 a k = xI M a k
section RK
variable {l : Launch} {g : xG} {M M1 M2 : xM} {Q : Option Value → xM → Prop} {y : Nat} {ad : Nat → Nat} {T : TT} {o n b : Nat} {K : List Nat}
theorem rO.rf : rO M M y ad := ⟨⟨rfl, rfl, rfl, rfl, rfl⟩, fun _ _ _ _ => rfl⟩
theorem rO.trans (h1 : rO M M1 y ad) (h2 : rO M1 M2 y ad) : rO M M2 y ad := by
  obtain ⟨⟨a1, a2, a3, a4, a5⟩, a6⟩ := h1
  obtain ⟨⟨b1, b2, b3, b4, b5⟩, b6⟩ := h2
  exact ⟨⟨b1.trans a1, b2.trans a2, b3.trans a3, b4.trans a4, b5.trans a5⟩, fun a k h1 h2 => (b6 a k h1 h2).trans (a6 a k h1 h2)⟩
theorem rO_y {k : Nat} {v : Int32} (hk : k = 20 ∨ k = 21 ∨ k = 22 ∨ k = 24) : rO M (xsI M y k v) y ad := ⟨⟨rfl, rfl, rfl, rfl, rfl⟩, fun a j h _ => by rw [xI_sI, if_neg (fun z => h ⟨z.1, by rw [z.2]; exact hk⟩)]⟩
theorem rO_r {k : Nat} {v : Int32} : rO M (xsI M (ad 23) k v) y ad := ⟨⟨rfl, rfl, rfl, rfl, rfl⟩, fun a j _ h => by rw [xI_sI, if_neg (fun z => h z.1)]⟩
theorem rO.s (h : rO M M1 y ad) (hS : rS M y ad) : rS M1 y ad := by
  obtain ⟨⟨a1, a2, a3, a4, a5⟩, a6⟩ := h
  refine ⟨⟨by rw [a1]; exact hS.1.1, by rw [a2]; exact hS.1.2⟩, fun j hj => ?_, hS.2.2⟩
  obtain ⟨h1, h2, h3⟩ := hS.2.1 j hj
  exact ⟨by rw [a5]; exact h1, ⟨by rw [a1]; exact h2.1, by rw [a2]; exact h2.2⟩, by rw [a3]; exact h3⟩
theorem rS.ny (hS : rS M y ad) {j : Nat} (hj : j ∈ RL9) : ad j ≠ y := by
  have h2 := (hS.2.1 j hj).2.1.2
  refine ne_of_kind h2 hS.1.2 ?_
  unfold rk
  split
  · decide
  · split <;> decide
theorem rO.i (h : rO M M1 y ad) (hS : rS M y ad) {j : Nat} (hj : j ∈ RL9) (h23 : j ≠ 23) (k : Nat) : xI M1 (ad j) k = xI M (ad j) k :=
  h.2 _ _ (fun z => hS.ny hj z.1) (fun z => h23 (hS.2.2 j hj 23 (by decide) z))
theorem rO.f (h : rO M M1 y ad) (hS : rS M y ad) {k : Nat} (hk : ¬ (k = 20 ∨ k = 21 ∨ k = 22 ∨ k = 24)) : xI M1 y k = xI M y k := h.2 _ _ (fun z => hk z.2) (fun z => hS.ny (j := 23) (by decide) z.symm)
theorem rO.t (h : rO M M1 y ad) (hS : rS M y ad) (hT : rT M ad o T) : rT M1 ad o T := by
  intro n hn
  obtain ⟨h1, h2⟩ := hT n hn
  refine ⟨by rw [h.i hS (by decide) (by decide)]; exact h1, fun hu => ?_⟩
  obtain ⟨c1, c2, c3, c4, c5, c6, c7, c8, c9⟩ := h2 hu
  exact ⟨by rw [h.i hS (by decide) (by decide)]; exact c1, by rw [h.i hS (by decide) (by decide)]; exact c2, by rw [h.i hS (by decide) (by decide)]; exact c3, fun i hi => by rw [h.i hS (by decide) (by decide)]; exact c4 i hi, by rw [h.i hS (by decide) (by decide)]; exact c5, by rw [h.1.2.2.2.1]; exact c6, by rw [h.i hS (by decide) (by decide)]; exact c7, by rw [h.i hS (by decide) (by decide)]; exact c8, by rw [h.i hS (by decide) (by decide)]; exact c9⟩
theorem rO.p (h : rO M M1 y ad) (hS : rS M y ad) (hP : rP M y ad K) : rP M1 y ad K := by
  obtain ⟨p1, p2, p3, p4⟩ := hP
  exact ⟨by rw [h.f hS (by decide)]; exact p1, p2, fun i hi => by rw [h.i hS (by decide) (by decide)]; exact p3 i hi, p4⟩
theorem lcp_step (X K : List Nat) (i u : Nat) (hX : i < X.length) (hK : u < K.length) : lcp (X.drop i) (K.drop u) = if X.getD i 0 = K.getD u 0 then lcp (X.drop (i + 1)) (K.drop (u + 1)) + 1 else 0 := by
  rw [dropD hX, dropD hK]
  rfl
theorem rmatch (hW : tWF T) (hn : tU T n = true) (h12 : K.length ≤ 12) {x1 : Int32} {w2 : Value} {u m : Nat} (hS : rS M y ad) (hT : rT M ad 0 T) (hP : rP M y ad K)
    (hcont : ∀ M1, rO M M1 y ad → xI M1 y 20 = nI n → xI M1 y 21 = nI m → xI M1 y 22 = nI (u + m) → xWp l g mX10_seek 0 0 103 [(1, va_rf (some y)), (1, .int x1), (0, w2)] [] (0, 0) M1 Q) :
    ∀ (d i : Nat) (M1 : xM), m = i + d → i ≤ (tX T n).length → u + i ≤ K.length → lcp ((tX T n).drop i) (K.drop (u + i)) = d → rO M M1 y ad → xI M1 y 20 = nI n → xI M1 y 21 = nI i → xI M1 y 22 = nI (u + i) → xWp l g mX10_seek 0 0 24 [(1, va_rf (some y)), (1, .int x1), (0, w2)] [] (0, 0) M1 Q := by
  have hn220 := (hW.2.1 n hn).1
  have hx12 := (tX_le hW hn).1
  intro d
  induction d with
  | zero =>
    intro i M1 hm hi hu hl hO e20 e21 e22
    have hmi : m = i := by omega
    have hS1 := hO.s hS
    have hT1 := hO.t hS hT
    have hP1 := hO.p hS hP
    obtain ⟨c1, c2, c3, c4, -⟩ := (hT1 n hn220).2 hn
    rw [Nat.zero_add] at c1 c2 c3 c4
    have go : xWp l g mX10_seek 0 0 103 [(1, va_rf (some y)), (1, .int x1), (0, w2)] [] (0, 0) M1 Q := hcont M1 hO e20 (by rw [hmi]; exact e21) (by rw [hmi]; exact e22)
    refine bX10_seek_24 _ _ _ ⟨hS1.1, ad 8, (hS1.2.1 8 (by decide)).1, n, by rw [e20]; exact hS1.ai (j := 8) (by decide) (by show n < 440; omega), fun _ => go, fun k1 => ⟨fun _ => go, fun k2 => ?_⟩⟩
    have f1 := nnle k1 c3 e21
    have f2 := nnle k2 hP1.1 e22
    have e7 : 12 * xI M1 y 20 + xI M1 y 21 = nI (12 * n + i) := by rw [e20, e21, show (12 : Int32) = nI 12 from rfl, nI_mul, nI_add]
    refine ⟨ad 7, (hS1.2.1 7 (by decide)).1, 12 * n + i, by rw [e7]; exact hS1.ai (j := 7) (by decide) (by show 12 * n + i < 5280; omega), ad 1, (hS1.2.1 1 (by decide)).1, u + i, by rw [e22]; exact hS1.ai (j := 1) (by decide) (by show u + i < 64; omega), fun _ => go, fun k3 => ?_⟩
    exfalso
    rw [c4 i f1, hP1.2.2.1 (u + i) f2] at k3
    have g1 : (tX T n).getD i 0 < 256 := getD_lt (hW.2.1 n hn).2.2.1
    have g2 : K.getD (u + i) 0 < 256 := getD_lt hP1.2.2.2
    have e := nI_inj (by omega) (by omega) k3
    rw [lcp_step _ _ _ _ f1 f2, if_pos e] at hl
    omega
  | succ d ih =>
    intro i M1 hm hi hu hl hO e20 e21 e22
    have hS1 := hO.s hS
    have hT1 := hO.t hS hT
    have hP1 := hO.p hS hP
    obtain ⟨c1, c2, c3, c4, -⟩ := (hT1 n hn220).2 hn
    rw [Nat.zero_add] at c1 c2 c3 c4
    have hle := lcp_le ((tX T n).drop i) (K.drop (u + i))
    rw [hl, List.length_drop, List.length_drop] at hle
    have f1 : i < (tX T n).length := by omega
    have f2 : u + i < K.length := by omega
    have hst := lcp_step (tX T n) K i (u + i) f1 f2
    rw [hl] at hst
    have heq : (tX T n).getD i 0 = K.getD (u + i) 0 := Classical.byContradiction (fun z => by rw [if_neg z] at hst; omega)
    rw [if_pos heq] at hst
    refine bX10_seek_24 _ _ _ ⟨hS1.1, ad 8, (hS1.2.1 8 (by decide)).1, n, by rw [e20]; exact hS1.ai (j := 8) (by decide) (by show n < 440; omega), fun k1 => ?_, fun k1 => ⟨fun k2 => ?_, fun k2 => ?_⟩⟩
    · exfalso
      have := nle k1 c3 e21
      omega
    · exfalso
      have := nle k2 hP1.1 e22
      omega
    · have e7 : 12 * xI M1 y 20 + xI M1 y 21 = nI (12 * n + i) := by rw [e20, e21, show (12 : Int32) = nI 12 from rfl, nI_mul, nI_add]
      refine ⟨ad 7, (hS1.2.1 7 (by decide)).1, 12 * n + i, by rw [e7]; exact hS1.ai (j := 7) (by decide) (by show 12 * n + i < 5280; omega), ad 1, (hS1.2.1 1 (by decide)).1, u + i, by rw [e22]; exact hS1.ai (j := 1) (by decide) (by show u + i < 64; omega), fun k3 => ?_, fun _ => ?_⟩
      · exfalso
        rw [c4 i f1, hP1.2.2.1 (u + i) f2, heq] at k3
        exact k3 rfl
      · have e22' : xI (xsI M1 y 21 (xI M1 y 21 + 1)) y 22 = nI (u + i) := by rw [xI_sI, if_neg (fun z => absurd z.2 (by decide))]; exact e22
        rw [e22', e21, nI_1, nI_1]
        refine ih (i + 1) _ (by omega) (by omega) (by omega) (by rw [show u + (i + 1) = u + i + 1 by omega]; omega) (hO.trans ((rO_y (by decide)).trans (rO_y (by decide)))) ?_ ?_ ?_
        · rw [xI_sI, if_neg (fun z => absurd z.2 (by decide)), xI_sI, if_neg (fun z => absurd z.2 (by decide))]; exact e20
        · rw [xI_sI, if_neg (fun z => absurd z.2 (by decide)), xI_sI, if_pos ⟨rfl, rfl⟩]
        · rw [xI_sI, if_pos ⟨rfl, rfl⟩, show u + (i + 1) = u + i + 1 by omega]
theorem tKb_lt (hW : tWF T) (hn : tU T n = true) : ∀ p, tKb T n b = some p → p < 220 := fun p hp => by
  unfold tKb at hp
  cases hk : tK T n b with
  | none => rw [hk] at hp; cases hp
  | some k =>
    rw [hk] at hp
    dsimp only at hp
    by_cases hb : tB T k = b
    · rw [if_pos hb] at hp; cases hp; exact tK_lt hW hn p hk
    · rw [if_neg hb] at hp; cases hp
theorem rseek_loop (hW : tWF T) (h12 : K.length ≤ 12) (hS : rS M y ad) (hT : rT M ad 0 T) (hP : rP M y ad K) {R : Nat × Nat × Nat}
    (hQ : ∀ M1, rO M M1 y ad → xI M1 y 20 = nI R.1 → xI M1 y 21 = nI R.2.1 → xI M1 y 22 = nI R.2.2 → Q none M1) :
    ∀ (f n u : Nat) (M1 : xM) (w2 : Value), tU T n = true → 12 ≤ f + tL T n → u ≤ K.length → tSk T K f n u = R → rO M M1 y ad → xI M1 y 20 = nI n → xI M1 y 22 = nI u → xWp l g mX10_seek 0 0 15 [(1, va_rf (some y)), (1, .int 1), (0, w2)] [] (0, 0) M1 Q := by
  intro f
  induction f with
  | zero =>
    intro n u M1 w2 hn hf hu hR hO e20 e22
    have hS1 := hO.s hS
    have hc := tC_none12 hW hn (by omega)
    refine bX10_seek_15 _ _ _ ⟨fun c => absurd c (by decide), fun _ => ⟨hS1.1, ?_⟩⟩
    have hO1 : rO M (xsI M1 y 21 0) y ad := hO.trans (rO_y (by decide))
    refine rmatch (u := u) (m := lcp (tX T n) (K.drop u)) hW hn h12 hS hT hP (fun M2 hO2 g20 g21 g22 => ?_) (lcp (tX T n) (K.drop u)) 0 _ (by omega) (Nat.zero_le _) hu rfl hO1 ?_ ?_ ?_
    · have hS2 := hO2.s hS
      have hT2 := hO2.t hS hT
      have hP2 := hO2.p hS hP
      have hn220 := (hW.2.1 n hn).1
      obtain ⟨c1, c2, c3, c4, -⟩ := (hT2 n hn220).2 hn
      rw [Nat.zero_add] at c3
      have hx12 := (tX_le hW hn).1
      have hle := lcp_le (tX T n) (K.drop u)
      have hend : xWp l g mX10_seek 0 0 151 [(1, va_rf (some y)), (1, .int 1), (0, w2)] [.int (-1)] (0, 0) M2 Q := by
        refine bX10_seek_151 _ _ _ _ ⟨fun _ => ⟨fun _ => ?_, fun c => absurd rfl c⟩, fun c => absurd rfl c⟩
        refine xWp.lw (bX10_seek_15 _ _ .null ⟨fun _ => ?_, fun c => absurd rfl c⟩) ⟨Or.inl rfl, Or.inl rfl, Or.inr rfl, trivial⟩
        refine hQ M2 hO2 ?_ ?_ ?_
        · rw [← hR]; exact g20
        · rw [← hR]; exact g21
        · rw [← hR]; exact g22
      refine bX10_seek_103 _ _ _ ⟨hS2.1, ad 8, (hS2.2.1 8 (by decide)).1, n, by rw [g20]; exact hS2.ai (j := 8) (by decide) (by show n < 440; omega), fun _ => hend, fun k1 => ⟨fun _ => hend, fun k2 => ?_⟩⟩
      have f2 := nnle k2 hP2.1 g22
      refine ⟨ad 1, (hS2.2.1 1 (by decide)).1, u + lcp (tX T n) (K.drop u), by rw [g22]; exact hS2.ai (j := 1) (by decide) (by show _ < 64; omega), ?_⟩
      rw [g20, hP2.2.2.1 _ f2]
      have g2 : K.getD (u + lcp (tX T n) (K.drop u)) 0 < 256 := getD_lt hP2.2.2.2
      refine sX10_child hS2 hT2 hW hn g2 ⟨_, rfl, ?_⟩
      have e : tKb T n (K.getD (u + lcp (tX T n) (K.drop u)) 0) = none := by unfold tKb tK; rw [hc]; rfl
      rw [e]
      exact hend
    · rw [xI_sI, if_neg (fun z => absurd z.2 (by decide))]; exact e20
    · rw [xI_sI, if_pos ⟨rfl, rfl⟩]; rfl
    · rw [xI_sI, if_neg (fun z => absurd z.2 (by decide))]; exact e22
  | succ f ih =>
    intro n u M1 w2 hn hf hu hR hO e20 e22
    have hS1 := hO.s hS
    refine bX10_seek_15 _ _ _ ⟨fun c => absurd c (by decide), fun _ => ⟨hS1.1, ?_⟩⟩
    have hO1 : rO M (xsI M1 y 21 0) y ad := hO.trans (rO_y (by decide))
    refine rmatch (u := u) (m := lcp (tX T n) (K.drop u)) hW hn h12 hS hT hP (fun M2 hO2 g20 g21 g22 => ?_) (lcp (tX T n) (K.drop u)) 0 _ (by omega) (Nat.zero_le _) hu rfl hO1 ?_ ?_ ?_
    · have hS2 := hO2.s hS
      have hT2 := hO2.t hS hT
      have hP2 := hO2.p hS hP
      have hn220 := (hW.2.1 n hn).1
      obtain ⟨c1, c2, c3, c4, -⟩ := (hT2 n hn220).2 hn
      rw [Nat.zero_add] at c3
      have hx12 := (tX_le hW hn).1
      have hle := lcp_le (tX T n) (K.drop u)
      rw [List.length_drop] at hle
      have hend : tSt T K n (lcp (tX T n) (K.drop u)) (u + lcp (tX T n) (K.drop u)) = none → xWp l g mX10_seek 0 0 151 [(1, va_rf (some y)), (1, .int 1), (0, w2)] [.int (-1)] (0, 0) M2 Q := fun hs => by
        have hR2 : R = (n, lcp (tX T n) (K.drop u), u + lcp (tX T n) (K.drop u)) := by rw [← hR]; simp only [tSk, hs]
        refine bX10_seek_151 _ _ _ _ ⟨fun _ => ⟨fun _ => ?_, fun c => absurd rfl c⟩, fun c => absurd rfl c⟩
        refine xWp.lw (bX10_seek_15 _ _ .null ⟨fun _ => ?_, fun c => absurd rfl c⟩) ⟨Or.inl rfl, Or.inl rfl, Or.inr rfl, trivial⟩
        exact hQ M2 hO2 (by rw [hR2]; exact g20) (by rw [hR2]; exact g21) (by rw [hR2]; exact g22)
      refine bX10_seek_103 _ _ _ ⟨hS2.1, ad 8, (hS2.2.1 8 (by decide)).1, n, by rw [g20]; exact hS2.ai (j := 8) (by decide) (by show n < 440; omega), fun k1 => ?_, fun k1 => ⟨fun k2 => ?_, fun k2 => ?_⟩⟩
      · have f1 := nne k1 g21 c3
        exact hend (by unfold tSt; rw [if_pos (Or.inl (by omega))])
      · have f2 := nle k2 hP2.1 g22
        exact hend (by unfold tSt; rw [if_pos (Or.inr (by omega))])
      · have f1 := neq k1 g21 c3
        have f2 := nnle k2 hP2.1 g22
        refine ⟨ad 1, (hS2.2.1 1 (by decide)).1, u + lcp (tX T n) (K.drop u), by rw [g22]; exact hS2.ai (j := 1) (by decide) (by show _ < 64; omega), ?_⟩
        rw [g20, hP2.2.2.1 _ f2]
        have g2 : K.getD (u + lcp (tX T n) (K.drop u)) 0 < 256 := getD_lt hP2.2.2.2
        have eS : tSt T K n (lcp (tX T n) (K.drop u)) (u + lcp (tX T n) (K.drop u)) = tKb T n (K.getD (u + lcp (tX T n) (K.drop u)) 0) := by unfold tSt; rw [if_neg (by omega)]
        refine sX10_child hS2 hT2 hW hn g2 ⟨_, rfl, ?_⟩
        cases hk : tKb T n (K.getD (u + lcp (tX T n) (K.drop u)) 0) with
        | none => exact hend (by rw [eS, hk])
        | some c =>
          rw [hk] at eS
          obtain ⟨h1, h2, h3, h4, h5⟩ := tSt_in hW hn eS
          have hc220 := (hW.2.1 c h2).1
          have hR2 : tSk T K f c (u + lcp (tX T n) (K.drop u) + 1) = R := by rw [← hR]; simp only [tSk, eS]
          refine bX10_seek_151 _ _ _ _ ⟨fun c2 => ?_, fun _ => ⟨fun c2 => absurd c2 (by decide), fun _ => ⟨hS2.1, ?_⟩⟩⟩
          · have := (pI_m1 (o := some c) (fun q hq => by cases hq; exact hc220)).mp c2
            cases this
          · have e22' : xI (xsI M2 y 20 (pI (some c))) y 22 = nI (u + lcp (tX T n) (K.drop u)) := by rw [xI_sI, if_neg (fun z => absurd z.2 (by decide))]; exact g22
            rw [e22', nI_1]
            refine xWp.lw (ih c (u + lcp (tX T n) (K.drop u) + 1) _ .null h2 (by omega) (by omega) hR2 (hO2.trans ((rO_y (by decide)).trans (rO_y (by decide)))) ?_ ?_) ⟨Or.inl rfl, Or.inl rfl, Or.inr rfl, trivial⟩
            · rw [xI_sI, if_neg (fun z => absurd z.2 (by decide)), xI_sI, if_pos ⟨rfl, rfl⟩]; rfl
            · rw [xI_sI, if_pos ⟨rfl, rfl⟩]
    · rw [xI_sI, if_neg (fun z => absurd z.2 (by decide))]; exact e20
    · rw [xI_sI, if_pos ⟨rfl, rfl⟩]; rfl
    · rw [xI_sI, if_neg (fun z => absurd z.2 (by decide))]; exact e22
theorem sX10_seek (hW : tWF T) (h12 : K.length ≤ 12) (hS : rS M y ad) (hT : rT M ad 0 T) (hr : xI M y 14 = nI (tO T)) (hP : rP M y ad K)
    (hQ : ∀ M1, rO M M1 y ad → xI M1 y 20 = nI (tSe T K).1 → xI M1 y 21 = nI (tSe T K).2.1 → xI M1 y 22 = nI (tSe T K).2.2 → Q none M1) : xSp l g mX10_seek 0 0 [va_rf (some y)] M Q := by
  refine eX10_seek _ (bX10_seek_0 _ ⟨hS.1, ?_⟩)
  rw [hr]
  refine rseek_loop (R := tSe T K) hW h12 hS hT hP hQ 12 (tO T) 0 _ _ hW.1.1 (by omega) (Nat.zero_le _) rfl ((rO_y (by decide)).trans (rO_y (by decide))) ?_ ?_
  · rw [xI_sI, if_neg (fun z => absurd z.2 (by decide)), xI_sI, if_pos ⟨rfl, rfl⟩]
  · rw [xI_sI, if_pos ⟨rfl, rfl⟩]; rfl
theorem sX10_isFound (hW : tWF T) (h12 : K.length ≤ 12) (hS : rS M y ad) (hT : rT M ad 0 T) (hr : xI M y 14 = nI (tO T)) (hP : rP M y ad K)
    (hQ : ∀ M1, rO M M1 y ad → xI M1 y 20 = nI (tSe T K).1 → xI M1 y 21 = nI (tSe T K).2.1 → xI M1 y 22 = nI (tSe T K).2.2 → Q (some (.int (if (tFd T K).isSome = true then 1 else 0))) M1) : xSp l g mX10_isFound 0 0 [va_rf (some y)] M Q := by
  obtain ⟨hu, hm, hw⟩ := tSe_ok hW K
  have hs220 := (hW.2.1 _ hu).1
  have hx12 := (tX_le hW hu).1
  refine eX10_isFound _ (bX10_isFound_0 _ ⟨hS.1, sX10_seek hW h12 hS hT hr hP (fun M1 hO g20 g21 g22 => ⟨rfl, ?_⟩)⟩)
  have hS1 := hO.s hS
  have hT1 := hO.t hS hT
  have hP1 := hO.p hS hP
  obtain ⟨c1, c2, c3, c4, c5, -⟩ := (hT1 _ hs220).2 hu
  rw [Nat.zero_add] at c3 c5
  have hq := hQ M1 hO g20 g21 g22
  have hn : ¬ ((tSe T K).2.2 = K.length ∧ (tSe T K).2.1 = (tX T (tSe T K).1).length ∧ (tV T (tSe T K).1).isSome = true) → Q (some (.int 0)) M1 := fun z => by
    have e : tFd T K = none := if_neg z
    rw [e] at hq; exact hq
  have hy : ((tSe T K).2.2 = K.length ∧ (tSe T K).2.1 = (tX T (tSe T K).1).length ∧ (tV T (tSe T K).1).isSome = true) → Q (some (.int 1)) M1 := fun z => by
    have e : tFd T K = some (tSe T K).1 := if_pos z
    rw [e] at hq; exact hq
  refine ⟨hS1.1, ad 8, (hS1.2.1 8 (by decide)).1, (tSe T K).1, by rw [g20]; exact hS1.ai (j := 8) (by decide) (by show _ < 440; omega), fun k1 => ?_, fun k1 => ⟨fun k2 => ?_, fun k2 => ⟨ad 9, (hS1.2.1 9 (by decide)).1, (tSe T K).1, by rw [g20]; exact hS1.ai (j := 9) (by decide) (by show _ < 440; omega), fun k3 => ?_, fun k3 => ?_⟩⟩⟩
  · have f1 := nne k1 g21 c3
    exact hn (fun z => f1 z.2.1)
  · have f2 := nne k2 g22 hP1.1
    exact hn (fun z => f2 z.1)
  · have f3 := z01.mp (c5.symm.trans k3)
    exact hn (fun z => by rw [f3] at z; cases z.2.2)
  · have f1 := neq k1 g21 c3
    have f2 := neq k2 g22 hP1.1
    have f3 := bnf (fun z => k3 (c5.trans (z01.mpr z)))
    exact hy ⟨f2, f1, f3⟩
end RK
