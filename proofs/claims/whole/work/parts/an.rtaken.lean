/-! The reference's findTaken, count. -/
/-- the marks of pages -/
def rK (M : xM) (ad : Nat → Nat) (tk : Nat → Bool) : Prop := ∀ p, p < 256 → xI M (ad 26) p = (if tk p = true then 1 else 0)
section RFT
variable {l : Launch} {g : xG} {M M0 M1 M2 M3 M4 M5 : xM} {Q : Option Value → xM → Prop} {y : Nat} {ad : Nat → Nat} {T T1 Tc : TT} {o n b c s m w a u f t k : Nat} {K W js : List Nat} {v : Int64} {P P1 : Nat → Nat → Prop} {dn dn1 : Bool} {D : Nat → Nat} {pw pw1 : Option Nat} {tr tr1 sq : Nat}
/-- marks and the sheet changed -/
theorem rR.sh (hA : aI T Tc sq) (h : rR M y ad K dn T Tc D pw tr sq) (hx : rX (fun a _ => a = ad 25 ∨ a = ad 26) M M1) : rR M1 y ad K dn T Tc D pw tr sq := by
  obtain ⟨hS, hP, h3, ⟨hT, hr⟩, ⟨hTc, hrc⟩, hq, ⟨hD, hD2⟩, hp, ht, ht2, hpw⟩ := h
  have fy : ∀ k, xI M1 y k = xI M y k ∧ xJ M1 y k = xJ M y k := fun k => hx.2 _ _ (fun z => by
    rcases z with z | z
    · exact hS.ny (j := 25) (by decide) z.symm
    · exact hS.ny (j := 26) (by decide) z.symm)
  have fa : ∀ j ∈ RL9, j ≠ 25 → j ≠ 26 → ¬ (ad j = ad 25 ∨ ad j = ad 26) := fun j hj n1 n2 z => by
    rcases z with z | z
    · exact hS.na hj (by decide) n1 z
    · exact hS.na hj (by decide) n2 z
  have na : ∀ j ∈ RA9, ¬ (ad j = ad 25 ∨ ad j = ad 26) := fun j hj => fa j (RA_RL j hj) (fun q => by subst q; revert hj; decide) (fun q => by subst q; revert hj; decide)
  refine ⟨hx.sS hS, ⟨by rw [(fy 2).1]; exact hP.1, hP.2.1, fun i hi => by rw [(hx.2 _ _ (fa 1 (by decide) (by decide) (by decide))).1]; exact hP.2.2.1 i hi, hP.2.2.2⟩, by rw [(fy 3).1]; exact h3, ⟨?_, by rw [(fy 14).1]; exact hr⟩, ⟨?_, by rw [(fy 15).1]; exact hrc⟩, by rw [(fy 16).2]; exact hq, ⟨fun k hk => by rw [(hx.2 _ _ (fa 17 (by decide) (by decide) (by decide))).1]; exact hD k hk, hD2⟩, fun z => by rw [(fy 18).1]; exact hp z, fun z => by rw [(fy 19).1]; exact ht z, ht2, hpw⟩
  · exact hx.tT hT (fun j hj n hn => na j hj) (fun i hi => fa 7 (by decide) (by decide) (by decide)) (fun n hn hu => (tX_le hA.1.1 hu).1)
  · exact hx.tT hTc (fun j hj n hn => na j hj) (fun i hi => fa 7 (by decide) (by decide) (by decide)) (fun n hn hu => (tX_le hA.2.1.1 hu).1)
theorem take_in {x1 : Int32} (hS : rS M y ad) (hcont : ∀ M1, rX (fun a _ => a = ad 26) M M1 → rK M1 ad (fun p => decide (p < 2)) → xWp l g mX10_findTaken 0 0 39 [(1, va_rf (some y)), (1, .int x1), (1, .int 220)] [] (0, 0) M1 Q) :
    ∀ (d k : Nat) (M1 : xM), 256 = k + d → rX (fun a _ => a = ad 26) M M1 → (∀ p, p < k → xI M1 (ad 26) p = (if decide (p < 2) = true then 1 else 0)) → xWp l g mX10_findTaken 0 0 6 [(1, va_rf (some y)), (1, .int x1), (1, .int (nI k))] [] (0, 0) M1 Q := by
  intro d
  induction d with
  | zero =>
    intro k M1 hd hx h
    have hk : k = 256 := by omega
    subst hk
    exact bX10_findTaken_6 _ _ _ ⟨fun _ => hcont M1 hx h, fun z => absurd (Int32.le_refl _) z⟩
  | succ d ih =>
    intro k M1 hd hx h
    have hS1 := hx.sS hS
    have nx : ∀ v : Int32, v = (if decide (k < 2) = true then 1 else 0) → xWp l g mX10_findTaken 0 0 6 [(1, va_rf (some y)), (1, .int x1), (1, .int (nI k + 1))] [] (0, 0) (xsI M1 (ad 26) k v) Q := fun v hv => by
      rw [nI_1]
      refine ih (k + 1) _ (by omega) (hx.trans (rX_I rfl)) (fun p hp => ?_)
      by_cases e : p = k
      · rw [xI_sI, if_pos ⟨rfl, e⟩, e]; exact hv
      · rw [xI_sI, if_neg (fun z => e z.2)]; exact h p (by omega)
    refine bX10_findTaken_6 _ _ _ ⟨fun z => ?_, fun _ => ⟨hS1.1, fun z => ⟨ad 26, (hS1.2.1 26 (by decide)).1, k, hS1.ai (j := 26) (by decide) (by show k < 256; omega), nx _ ?_⟩, fun z => ⟨ad 26, (hS1.2.1 26 (by decide)).1, k, hS1.ai (j := 26) (by decide) (by show k < 256; omega), nx _ ?_⟩⟩⟩
    · exfalso
      have := nle z (a := 256) rfl rfl
      omega
    · have := nle z (a := 2) rfl rfl
      rw [decide_eq_false (by omega)]; decide
    · have := nnle z (a := 2) rfl rfl
      rw [decide_eq_true (by omega)]; decide
/-- the marks after so many nodes -/
def tkN (T : TT) (k : Nat) (p : Nat) : Bool := decide (p < 2) || (List.range k).any (fun n => tU T n && decide (tG T n ≠ 0) && decide (tG T n = p))
theorem tkN_succ (T : TT) (k p : Nat) : tkN T (k + 1) p = (tkN T k p || (tU T k && decide (tG T k ≠ 0) && decide (tG T k = p))) := by
  unfold tkN
  rw [List.range_succ, List.any_append]
  simp [Bool.or_assoc]
theorem take_on (hW : tWF T) (hG : ∀ n, tU T n = true → tG T n < 256) (hS : rS M y ad) (hT : rT M ad 220 T)
    (hQ : ∀ M1, rX (fun a _ => a = ad 26) M M1 → rK M1 ad (tkN T 220) → Q (some (.int (nI (254 - (List.range 220).countP (fun n => tU T n && decide (tG T n ≠ 0)))))) M1) :
    ∀ (d k : Nat) (M1 : xM), 220 = k + d → rX (fun a _ => a = ad 26) M M1 → rK M1 ad (tkN T k) → xWp l g mX10_findTaken 0 0 39 [(1, va_rf (some y)), (1, .int (nI (254 - (List.range k).countP (fun n => tU T n && decide (tG T n ≠ 0))))), (1, .int (nI (220 + k)))] [] (0, 0) M1 Q := by
  intro d
  induction d with
  | zero =>
    intro k M1 hd hx h
    have hk : k = 220 := by omega
    subst hk
    exact bX10_findTaken_39 _ _ _ ⟨fun _ => hQ M1 hx h, fun z => absurd (Int32.le_refl _) z⟩
  | succ d ih =>
    intro k M1 hd hx h
    have hS1 := hx.sS hS
    have hT1 : rT M1 ad 220 T := hx.tT hT (fun j hj n hn => hS.na (RA_RL j hj) (j := 26) (by decide) (fun q => by subst q; revert hj; decide)) (fun i hi => hS.na (i := 7) (j := 26) (by decide) (by decide) (by decide)) (fun n hn hu => (tX_le hW hu).1)
    obtain ⟨h4, hc⟩ := hT1 k (by omega)
    have hle : (List.range k).countP (fun n => tU T n && decide (tG T n ≠ 0)) ≤ k := by
      have := List.countP_le_length (p := fun n => tU T n && decide (tG T n ≠ 0)) (l := List.range k)
      rw [List.length_range] at this; exact this
    have no : (tU T k && decide (tG T k ≠ 0)) = false → xWp l g mX10_findTaken 0 0 39 [(1, va_rf (some y)), (1, .int (nI (254 - (List.range k).countP (fun n => tU T n && decide (tG T n ≠ 0))))), (1, .int (nI (220 + k) + 1))] [] (0, 0) M1 Q := fun hf => by
      have := ih (k + 1) M1 (by omega) hx (fun p hp => by rw [h p hp, tkN_succ, hf]; simp)
      rw [cnt_succ, if_neg (by rw [hf]; decide), Nat.add_zero] at this
      rw [nI_1]
      exact this
    have ai : ∀ j ∈ RL9, rn j = 440 → xai M1 (ad j) (rk j) (nI (220 + k)) (220 + k) := fun j hj hn => hS1.ai hj (by rw [hn]; omega)
    refine bX10_findTaken_39 _ _ _ ⟨fun z => ?_, fun _ => ⟨hS1.1, ad 4, (hS1.2.1 4 (by decide)).1, 220 + k, ai 4 (by decide) rfl, fun z => ?_, fun z => ⟨ad 12, (hS1.2.1 12 (by decide)).1, 220 + k, ai 12 (by decide) rfl, fun z2 => ?_, fun z2 => ?_⟩⟩⟩
    · exfalso
      have := nle z (a := 440) rfl rfl
      omega
    · exact no (by rw [z01.mp (h4.symm.trans z)]; rfl)
    · have hu := bnf (fun q => z (h4.trans (z01.mpr q)))
      have h12 := (hc hu).2.2.2.2.2.2.2.1
      have hg := hG k hu
      rw [h12] at z2
      have hg0 : tG T k ≠ 0 := fun q => z2 (by rw [q]; rfl)
      refine ⟨220 + k, ai 12 (by decide) rfl, ad 26, (hS1.2.1 26 (by decide)).1, tG T k, by rw [h12]; exact hS1.ai (j := 26) (by decide) (by show _ < 256; omega), ?_⟩
      have key := ih (k + 1) (xsI M1 (ad 26) (tG T k) ((1 : Int32) &&& 1)) (by omega) (hx.trans (rX_I rfl)) (fun p hp => by
        rw [tkN_succ, hu, decide_eq_true hg0]
        by_cases e : p = tG T k
        · rw [xI_sI, if_pos ⟨rfl, e⟩, decide_eq_true e.symm]; simp
        · rw [xI_sI, if_neg (fun q => e q.2), h p hp, decide_eq_false (fun q => e q.symm)]; simp)
      rw [cnt_succ, if_pos (by rw [hu, decide_eq_true hg0]; rfl)] at key
      rw [nI_1]
      have e : 254 - (List.range k).countP (fun n => tU T n && decide (tG T n ≠ 0)) = (254 - ((List.range k).countP (fun n => tU T n && decide (tG T n ≠ 0)) + 1)) + 1 := by omega
      rw [e, nI_am]
      exact key
    · have hu := bnf (fun q => z (h4.trans (z01.mpr q)))
      have h12 := (hc hu).2.2.2.2.2.2.2.1
      have hg := hG k hu
      rw [h12] at z2
      have hg0 : tG T k = 0 := neq z2 rfl (b := 0) rfl
      exact no (by rw [hu, hg0]; rfl)
theorem sX10_findTaken (hW : tWF T) (hG : ∀ n, tU T n = true → tG T n < 256) (hS : rS M y ad) (hT : rT M ad 220 T)
    (hQ : ∀ M1, rX (fun a _ => a = ad 26) M M1 → rK M1 ad (tkN T 220) → Q (some (.int (nI (254 - tOn T)))) M1) : xSp l g mX10_findTaken 0 0 [va_rf (some y)] M Q := by
  refine eX10_findTaken _ (bX10_findTaken_0 _ (take_in hS (fun M1 hx h => ?_) 256 0 M (by omega) rX.rf (fun p hp => by omega)))
  have hT1 : rT M1 ad 220 T := hx.tT hT (fun j hj n hn => hS.na (RA_RL j hj) (j := 26) (by decide) (fun q => by subst q; revert hj; decide)) (fun i hi => hS.na (i := 7) (j := 26) (by decide) (by decide) (by decide)) (fun n hn hu => (tX_le hW hu).1)
  exact take_on hW hG (hx.sS hS) hT1 (fun M2 hx2 h2 => by
    have := hQ M2 (hx.trans hx2) h2
    unfold tOn at this
    rw [tEs_cnt hW] at this
    exact this) 220 0 M1 (by omega) rX.rf (fun p hp => by rw [h p hp]; simp [tkN])
end RFT
