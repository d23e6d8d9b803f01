/-! The reference's object is made. -/
section RMK
variable {l : Launch} {g : xG} {M0 M M1 M2 : xM} {Q : Option Value → xM → Prop} {y q j kd n : Nat} {ad : Nat → Nat} {L : List Nat} {e : Int32} {P : Nat → Prop} {R : Nat → Nat → Prop} {K : List Nat} {dn : Bool} {T Tc : TT} {D : Nat → Nat} {pw : Option Nat} {tr sq : Nat}
theorem xgr_rX (h : xgr P M0 M) (hx : rX R M M1) (hp : ∀ a ∈ xL M0, ¬ P a → ∀ k, ¬ R a k) : xgr P M0 M1 := fun a ha => by
  obtain ⟨a1, a2, a3, a4⟩ := h a ha
  refine ⟨by rw [hx.1.1]; exact a1, by rw [hx.1.2.1]; exact a2, by rw [hx.1.2.2.1]; exact a3, fun z => ?_⟩
  obtain ⟨c1, c2, c3⟩ := a4 z
  exact ⟨fun k => by rw [(hx.2 _ _ (hp a ha z k)).1]; exact c1 k, fun k => by rw [(hx.2 _ _ (hp a ha z k)).2]; exact c2 k, fun k => by rw [hx.1.2.2.2]; exact c3 k⟩
/-- some of its arrays are there -/
def rMk (M0 M : xM) (y : Nat) (ad : Nat → Nat) (L : List Nat) (e : Int32) : Prop :=
  (xat M y 7 ∧ (∀ k, k ≠ 18 → xI M y k = 0) ∧ xI M y 18 = e ∧ ∀ k, xJ M y k = 0) ∧
  (∀ j ∈ L, xR M y j = some (ad j) ∧ xat M (ad j) (rk j) ∧ xN M (ad j) = rn j ∧ ad j ∉ xL M0 ∧ (∀ k, xI M (ad j) k = 0) ∧ ∀ k, xJ M (ad j) k = 0) ∧
  (∀ i ∈ L, ∀ j ∈ L, ad i = ad j → i = j) ∧ xgr (fun a => a = y) M0 M
theorem rMk.st (h : rMk M0 M y ad L e) (hq : q ∉ xL M) (hj : j ∉ L) (hk : rk j = kd) (hn : rn j = n) : rMk M0 (xsR (xnew M q kd n) y j (some q)) y (va_up ad j q) (j :: L) e := by
  obtain ⟨⟨a1, a2, a3, a4⟩, b, c, d⟩ := h
  have hyq : y ≠ q := fun z => hq (z ▸ a1.1)
  have hq0 : q ∉ xL M0 := fun z => hq (d q z).1
  have hne : ∀ i ∈ L, i ≠ j := fun i hi z => hj (z ▸ hi)
  have hnq : ∀ i ∈ L, ad i ≠ q := fun i hi z => hq (z ▸ (b i hi).2.1.1)
  refine ⟨⟨xat_old (n := n) hq a1, fun k hk => ?_, ?_, fun k => ?_⟩, fun i hi => ?_, fun i hi i2 hi2 he => ?_, ?_⟩
  · rw [xI_sR, xI_new, if_neg hyq]; exact a2 k hk
  · rw [xI_sR, xI_new, if_neg hyq]; exact a3
  · rw [xJ_sR, xJ_new, if_neg hyq]; exact a4 k
  · rcases List.mem_cons.mp hi with rfl | hi
    · rw [va_up_self]
      refine ⟨by rw [xR_sR, if_pos ⟨rfl, rfl⟩], by rw [hk]; exact xat_q (n := n), by rw [xN_sR, xN_new, if_pos rfl, hn], hq0, fun k => by rw [xI_sR, xI_new, if_pos rfl], fun k => by rw [xJ_sR, xJ_new, if_pos rfl]⟩
    · obtain ⟨b1, b2, b3, b4, b5, b6⟩ := b i hi
      rw [va_up_ne _ _ (hne i hi)]
      refine ⟨by rw [xR_sR, if_neg (fun z => hne i hi z.2), xR_new, if_neg hyq]; exact b1, xat_old (n := n) hq b2, by rw [xN_sR, xN_new, if_neg (hnq i hi)]; exact b3, b4, fun k => by rw [xI_sR, xI_new, if_neg (hnq i hi)]; exact b5 k, fun k => by rw [xJ_sR, xJ_new, if_neg (hnq i hi)]; exact b6 k⟩
  · rcases List.mem_cons.mp hi with e1 | h1
    · rcases List.mem_cons.mp hi2 with e2 | h2
      · rw [e1, e2]
      · rw [e1, va_up_self, va_up_ne _ _ (hne i2 h2)] at he
        exact absurd he.symm (hnq i2 h2)
    · rcases List.mem_cons.mp hi2 with e2 | h2
      · rw [e2, va_up_self, va_up_ne _ _ (hne i h1)] at he
        exact absurd he (hnq i h1)
      · rw [va_up_ne _ _ (hne i h1), va_up_ne _ _ (hne i2 h2)] at he
        exact c i h1 i2 h2 he
  · exact d.trans ((xgr_new hq).trans (xgr_R rfl))
theorem rMk.pw1 {e2 : Int32} (h : rMk M0 M y ad L e) (hn : ∀ j ∈ L, ad j ≠ y) : rMk M0 (xsI M y 18 e2) y ad L e2 := by
  obtain ⟨⟨a1, a2, a3, a4⟩, b, c, d⟩ := h
  refine ⟨⟨a1, fun k hk => by rw [xI_sI, if_neg (fun z => hk z.2)]; exact a2 k hk, by rw [xI_sI, if_pos ⟨rfl, rfl⟩], a4⟩, fun i hi => ?_, c, d.trans (xgr_I rfl)⟩
  obtain ⟨b1, b2, b3, b4, b5, b6⟩ := b i hi
  exact ⟨b1, b2, b3, b4, fun k => by rw [xI_sI, if_neg (fun z => hn i hi z.1)]; exact b5 k, b6⟩
theorem rMk.ny (h : rMk M0 M y ad L e) : ∀ j ∈ L, ad j ≠ y := fun j hj z => by
  have h1 := (h.2.1 j hj).2.1.2
  rw [z, h.1.1.2] at h1
  unfold rk at h1
  split at h1
  · cases h1
  · split at h1 <;> cases h1
theorem rMk.rs (h : rMk M0 M y ad [26, 25, 23, 17, 13, 12, 11, 10, 9, 8, 7, 6, 5, 4, 1] e) : rS M y ad := by
  have hs : ∀ j ∈ RL9, j ∈ [26, 25, 23, 17, 13, 12, 11, 10, 9, 8, 7, 6, 5, 4, 1] := by decide
  exact ⟨h.1.1, fun j hj => ⟨(h.2.1 j (hs j hj)).1, (h.2.1 j (hs j hj)).2.1, (h.2.1 j (hs j hj)).2.2.1⟩, fun i hi j hj => h.2.2.1 i (hs i hi) j (hs j hj)⟩
theorem rMk.done (h : rMk M0 M y ad [26, 25, 23, 17, 13, 12, 11, 10, 9, 8, 7, 6, 5, 4, 1] (-1)) (hx1 : rX (rLo y ad) M M1) (hT1 : rT M1 ad 0 tNil) (h14 : xI M1 y 14 = 0) (hk : ∀ k, k ≠ 14 → xI M1 y k = xI M y k)
    (hx2 : rX (fun a k => rH ad 220 a k ∨ (a = y ∧ k = 15)) M1 M2) (hT2 : rT M2 ad 220 tNil) (h15 : xI M2 y 15 = xI M1 y 14) : rR M2 y ad [] false tNil tNil (fun _ => 0) none 0 0 ∧ (∀ j ∈ RL9, ad j ∉ xL M0) ∧ xgr (fun a => a = y) M0 M2 := by
  have hs : ∀ j ∈ RL9, j ∈ [26, 25, 23, 17, 13, 12, 11, 10, 9, 8, 7, 6, 5, 4, 1] := by decide
  have hS := h.rs
  have hS1 := hx1.sS hS
  have hn0 : ∀ j ∈ RL9, ad j ∉ xL M0 := fun j hj => (h.2.1 j (hs j hj)).2.2.2.1
  have no : ∀ k, k ≠ 15 → ¬ (rH ad 220 y k ∨ (y = y ∧ k = 15)) := fun k hk z => by
    rcases z with (⟨j, hj, z, -⟩ | ⟨z, -⟩) | z
    · exact hS.ny (RA_RL j hj) z.symm
    · exact hS.ny (j := 7) (by decide) z.symm
    · exact hk z.2
  have hy : ∀ k, k ≠ 14 → k ≠ 15 → xI M2 y k = xI M y k := fun k h1 h2 => by rw [(hx2.2 _ _ (no k h2)).1, hk k h1]
  have hT3 : rT M2 ad 0 tNil := hx2.tT hT1 (fun j hj n hn z => by
      rcases z with (⟨i, hi, z, z2⟩ | ⟨z, -⟩) | z
      · omega
      · exact hS.na (RA_RL j hj) (j := 7) (by decide) (fun q => by subst q; revert hj; decide) z
      · exact hS.ny (RA_RL j hj) z.1) (fun i hi z => by
      rcases z with (⟨j, hj, z, -⟩ | ⟨z, z2⟩) | z
      · exact hS.na (i := 7) (by decide) (RA_RL j hj) (fun q => by subst q; revert hj; decide) z
      · omega
      · exact hS.ny (j := 7) (by decide) z.1) (fun n _ hu => (tX_le tNil_wf hu).1)
  have hlo : ∀ a k, rLo y ad a k → rG y ad a := rLo_g
  have j16 : ¬ rLo y ad y 16 := fun z => by
    rcases z with (z | z) | z | ⟨j, hj, z, -⟩ | ⟨z, -⟩
    · omega
    · exact hS.ny (j := 23) (by decide) z.symm
    · omega
    · exact hS.ny (RA_RL j hj) z.symm
    · exact hS.ny (j := 7) (by decide) z.symm
  have hd : ∀ k, ¬ rLo y ad (ad 17) k := fun k z => by
    rcases z with (z | z) | z | ⟨j, hj, z, -⟩ | ⟨z, -⟩
    · exact hS.ny (j := 17) (by decide) z.1
    · exact hS.na (i := 17) (j := 23) (by decide) (by decide) (by decide) z
    · exact hS.ny (j := 17) (by decide) z.1
    · exact hS.na (i := 17) (by decide) (RA_RL j hj) (fun q => by subst q; revert hj; decide) z
    · exact hS.na (i := 17) (j := 7) (by decide) (by decide) (by decide) z
  have hd2 : ∀ k, ¬ (rH ad 220 (ad 17) k ∨ (ad 17 = y ∧ k = 15)) := fun k z => by
    rcases z with (⟨j, hj, z, -⟩ | ⟨z, -⟩) | z
    · exact hS.na (i := 17) (by decide) (RA_RL j hj) (fun q => by subst q; revert hj; decide) z
    · exact hS.na (i := 17) (j := 7) (by decide) (by decide) (by decide) z
    · exact hS.ny (j := 17) (by decide) z.1
  refine ⟨⟨hx2.sS hS1, ⟨?_, by decide, fun i hi => absurd hi (Nat.not_lt_zero _), fun b hb => by cases hb⟩, ?_, ⟨hT3, ?_⟩, ⟨hT2, ?_⟩, ?_, ⟨fun k hk => ?_, fun _ => (by show (0:Nat) < 256; decide)⟩, fun _ => ?_, fun z => absurd rfl z, by decide, fun k z => by cases z⟩, hn0, ?_⟩
  · rw [hy 2 (by decide) (by decide), h.1.2.1 2 (by decide)]; rfl
  · rw [hy 3 (by decide) (by decide), h.1.2.1 3 (by decide)]; rfl
  · rw [(hx2.2 _ _ (no 14 (by decide))).1, h14]; rfl
  · rw [h15, h14]; rfl
  · rw [(hx2.2 _ _ (no 16 (by decide))).2, (hx1.2 _ _ j16).2, h.1.2.2.2]; rfl
  · rw [(hx2.2 _ _ (hd2 k)).1, (hx1.2 _ _ (hd k)).1, (h.2.1 17 (by decide)).2.2.2.2.1]; rfl
  · rw [hy 18 (by decide) (by decide), h.1.2.2.1]; rfl
  · refine xgr_rX (xgr_rX h.2.2.2 hx1 (fun a ha hp k z => ?_)) hx2 (fun a ha hp k z => ?_)
    · rcases rLo_g a k z with z | ⟨j, hj, z⟩
      · exact hp z
      · exact hn0 j hj (z ▸ ha)
    · rcases z with (⟨j, hj, z, -⟩ | ⟨z, -⟩) | z
      · exact hn0 j (RA_RL j hj) (z ▸ ha)
      · exact hn0 7 (by decide) (z ▸ ha)
      · exact hp z.1
theorem sX10_init (hy : xat M y 7) (hI : ∀ k, xI M y k = 0) (hJ : ∀ k, xJ M y k = 0) (hQ : ∀ M1 ad, rR M1 y ad [] false tNil tNil (fun _ => 0) none 0 0 → (∀ j ∈ RL9, ad j ∉ xL M) → xgr (fun a => a = y) M M1 → Q none M1) : xSp l g mX10_init 15 141184 [va_rf (some y)] M Q := by
  have b0 : rMk M M y (fun _ => 0) [] 0 := ⟨⟨hy, fun k _ => hI k, hI 18, hJ⟩, fun j hj => (by cases hj), fun j hj => (by cases hj), xgr.rf⟩
  refine eX10_init _ (bX10_init_0 _ ⟨by omega, fun q1 h1 => ⟨xat_old h1 hy, by omega, fun q2 h2 => ⟨by omega, fun q3 h3 => ⟨by omega, fun q4 h4 => ⟨by omega, fun q5 h5 => ⟨by omega, fun q6 h6 => ⟨by omega, fun q7 h7 => ⟨by omega, fun q8 h8 => ⟨by omega, fun q9 h9 => ⟨by omega, fun q10 h10 => ⟨by omega, fun q11 h11 => ⟨by omega, fun q12 h12 => ⟨by omega, fun q13 h13 => ⟨by omega, fun q14 h14 => ⟨by omega, fun q15 h15 => ?_⟩⟩⟩⟩⟩⟩⟩⟩⟩⟩⟩⟩⟩⟩⟩)
  have b1 := b0.st (j := 1) h1 (by decide) rfl rfl
  have b2 := b1.st (j := 4) h2 (by decide) rfl rfl
  have b3 := b2.st (j := 5) h3 (by decide) rfl rfl
  have b4 := b3.st (j := 6) h4 (by decide) rfl rfl
  have b5 := b4.st (j := 7) h5 (by decide) rfl rfl
  have b6 := b5.st (j := 8) h6 (by decide) rfl rfl
  have b7 := b6.st (j := 9) h7 (by decide) rfl rfl
  have b8 := b7.st (j := 10) h8 (by decide) rfl rfl
  have b9 := b8.st (j := 11) h9 (by decide) rfl rfl
  have b10 := b9.st (j := 12) h10 (by decide) rfl rfl
  have b11 := b10.st (j := 13) h11 (by decide) rfl rfl
  have b12 := b11.st (j := 17) h12 (by decide) rfl rfl
  have b13 := (b12.pw1 (e2 := -1) b12.ny).st (j := 23) h13 (by decide) rfl rfl
  have b14 := b13.st (j := 25) h14 (by decide) rfl rfl
  have b15 := b14.st (j := 26) h15 (by decide) rfl rfl
  clear b0 b1 b2 b3 b4 b5 b6 b7 b8 b9 b10 b11 b12 b13 b14
  refine ⟨by omega, sX10_clear b15.rs (fun M1 hx1 hT1 hz14 hk => ⟨rfl, (hx1.sS b15.rs).1, by omega, sX10_keep (hx1.sS b15.rs) hT1 (fun n _ hu => (tX_le tNil_wf hu).1) (fun M2 hx2 hT2 hz15 => ⟨rfl, by omega, ?_⟩)⟩)⟩
  obtain ⟨r1, r2, r3⟩ := b15.done hx1 hT1 hz14 hk hx2 hT2 hz15
  exact hQ M2 _ r1 r2 r3
end RMK
