/-! The reference's halt, power, cut, octet, node. -/
section RHT
variable {l : Launch} {g : xG} {M M0 M1 M2 M3 M4 M5 : xM} {Q : Option Value → xM → Prop} {y : Nat} {ad : Nat → Nat} {T T1 Tc : TT} {o n b c s m w a u f t k : Nat} {K W js : List Nat} {v : Int64} {P P1 : Nat → Nat → Prop} {dn dn1 : Bool} {D : Nat → Nat} {pw pw1 : Option Nat} {tr tr1 sq : Nat}
/-- fields of the object written -/
theorem rR.fy {S : Nat → Prop} (hA : aI T Tc sq) (hx : rX (fun a k => a = y ∧ S k) M M1) (hn : ¬ S 2 ∧ ¬ S 14 ∧ ¬ S 15 ∧ ¬ S 16) (h : rR M y ad K dn T Tc D pw tr sq) (h3 : xI M1 y 3 = (if dn1 = true then 1 else 0)) (h18 : dn1 = false → xI M1 y 18 = pwI pw1) (h19 : pw1 ≠ none → xI M1 y 19 = nI tr1) (ht : tr1 < 512) (hpw : ∀ k, pw1 = some k → k ≤ 1000) : rR M1 y ad K dn1 T Tc D pw1 tr1 sq := by
  obtain ⟨hS, hP, -, ⟨hT, hr⟩, ⟨hTc, hrc⟩, hq, ⟨hD, hD2⟩, -⟩ := h
  have fa : ∀ j ∈ RL9, ∀ k, xI M1 (ad j) k = xI M (ad j) k := fun j hj k => (hx.2 _ _ (fun z => hS.ny hj z.1)).1
  refine ⟨hx.sS hS, ⟨by rw [(hx.2 _ _ (fun z => hn.1 z.2)).1]; exact hP.1, hP.2.1, fun i hi => by rw [fa 1 (by decide)]; exact hP.2.2.1 i hi, hP.2.2.2⟩, h3, ⟨?_, by rw [(hx.2 _ _ (fun z => hn.2.1 z.2)).1]; exact hr⟩, ⟨?_, by rw [(hx.2 _ _ (fun z => hn.2.2.1 z.2)).1]; exact hrc⟩, by rw [(hx.2 _ _ (fun z => hn.2.2.2 z.2)).2]; exact hq, ⟨fun k hk => by rw [fa 17 (by decide)]; exact hD k hk, hD2⟩, h18, h19, ht, hpw⟩
  · exact hx.tT hT (fun j hj n hn z => hS.ny (RA_RL j hj) z.1) (fun i hi z => hS.ny (j := 7) (by decide) z.1) (fun n hn hu => (tX_le hA.1.1 hu).1)
  · exact hx.tT hTc (fun j hj n hn z => hS.ny (RA_RL j hj) z.1) (fun i hi z => hS.ny (j := 7) (by decide) z.1) (fun n hn hu => (tX_le hA.2.1.1 hu).1)
theorem fy_g {S : Nat → Prop} : ∀ a k, (a = y ∧ S k) → rG y ad a := fun a k h => Or.inl h.1
theorem sX10_halt (hA : aI T Tc sq) (h : rR M y ad K dn T Tc D pw tr sq) (hQ : ∀ M1, rR M1 y ad K true T Tc D pw tr sq → xag (rG y ad) M M1 → xI M1 y 0 = 0 → Q (some (.int (if dn = true then -4 else 1))) M1) : xSp l g mX10_halt 0 0 [va_rf (some y)] M Q := by
  have hR0 := h.th (v := 0) hA
  obtain ⟨hS, hP, h3, -, -, -, -, -, h19, ht, hpw⟩ := id hR0
  refine eX10_halt _ (bX10_halt_0 _ ⟨hS.1, fun c => ?_, fun c => ?_⟩)
  · have hdn := (dn0 h3).mp c
    rw [if_neg (by rw [hdn]; decide)] at hQ
    have hx : rX (fun a k => a = y ∧ k = 3) (xsI M y 0 0) (xsI (xsI M y 0 0) y 3 1) := rX_I ⟨rfl, rfl⟩
    refine hQ _ (hR0.fy (S := fun k => k = 3) hA hx ⟨by decide, by decide, by decide, by decide⟩ (by rw [xI_sI, if_pos ⟨rfl, rfl⟩]; rfl) (fun z => by cases z) (fun z => by rw [xI_sI, if_neg (fun q => absurd q.2 (by decide))]; exact h19 z) ht hpw) ?_ ?_
    · exact ((rX_I (P := fun a _ => a = y) rfl).trans (hx.mono (fun a k z => z.1))).xa (fun a k z => Or.inl z)
    · rw [xI_sI, if_neg (fun q => absurd q.2 (by decide)), xI_sI, if_pos ⟨rfl, rfl⟩]
  · have hdn := dn1 h3 c
    subst hdn
    exact th_out hA h hQ
theorem sX10_power {n t : Int32} (hA : aI T Tc sq) (h : rR M y ad K dn T Tc D pw tr sq) (hQ : ∀ M1, rR M1 y ad K dn T Tc D (aPow dn pw tr n t).2.1 (aPow dn pw tr n t).2.2 sq → xag (rG y ad) M M1 → xI M1 y 0 = 0 → Q (some (.int (aPow dn pw tr n t).1)) M1) : xSp l g mX10_power 0 0 [va_rf (some y), .int n, .int t] M Q := by
  have hR0 := h.th (v := 0) hA
  obtain ⟨hS, hP, h3, -, -, -, -, -, h19, ht, hpw⟩ := id hR0
  unfold aPow at hQ
  refine eX10_power _ _ _ (bX10_power_0 _ _ _ ⟨hS.1, fun c => ?_, fun c => ?_⟩)
  · have hdn := (dn0 h3).mp c
    rw [if_neg (by rw [hdn]; decide)] at hQ
    refine sX10_in (a := -1) (b := 1000) ⟨_, rfl, fun c2 => ?_, fun c2 => sX10_in (a := 0) (b := 511) ⟨_, rfl, fun c3 => ⟨hS.1, ?_⟩, fun c3 => ?_⟩⟩
    · have hb : n < -1 ∨ 1000 < n := Classical.byContradiction (fun z => by
        rw [if_pos ⟨Int32.not_lt.mp (fun q => z (Or.inl q)), Int32.not_lt.mp (fun q => z (Or.inr q))⟩] at c2
        exact absurd c2 (by decide))
      rw [if_pos (by rcases hb with q | q; · exact Or.inl q
                     · exact Or.inr (Or.inl q))] at hQ
      exact th_out hA h hQ
    · have hn1 : ¬ n < -1 := fun z => by rw [if_neg (fun q => Int32.not_lt.mpr q.1 z)] at c2; exact c2 rfl
      have hn2 : ¬ 1000 < n := fun z => by rw [if_neg (fun q => Int32.not_lt.mpr q.2 z)] at c2; exact c2 rfl
      have ht1 : ¬ t < 0 := fun z => by rw [if_neg (fun q => Int32.not_lt.mpr q.1 z)] at c3; exact c3 rfl
      have ht2 : ¬ 511 < t := fun z => by rw [if_neg (fun q => Int32.not_lt.mpr q.2 z)] at c3; exact c3 rfl
      obtain ⟨j, hj31, hj⟩ := nI_of ht1
      subst hj
      have hj512 : j ≤ 511 := nnlt ht2 (a := 511) rfl rfl
      have ht3 : nI j < 512 := Classical.byContradiction (fun z => by
        have := nnlt z rfl (b := 512) rfl
        omega)
      rw [if_neg (fun z => by
        rcases z with z | z | z | z
        · exact hn1 z
        · exact hn2 z
        · exact ht1 z
        · exact z ht3), nI_clamp hj31] at hQ
      have hx : rX (fun a k => a = y ∧ (k = 18 ∨ k = 19)) (xsI M y 0 0) (xsI (xsI (xsI M y 0 0) y 18 n) y 19 (nI j)) := (rX_I ⟨rfl, Or.inl rfl⟩).trans (rX_I ⟨rfl, Or.inr rfl⟩)
      refine hQ _ (hR0.fy (S := fun k => k = 18 ∨ k = 19) hA hx ⟨by decide, by decide, by decide, by decide⟩ ?_ (fun _ => ?_) (fun _ => by rw [xI_sI, if_pos ⟨rfl, rfl⟩]) (by show j < 512; omega) (fun k hk => ?_)) ?_ ?_
      · rw [(hx.2 _ _ (fun z => absurd z.2 (by decide))).1]; exact h3
      · rw [xI_sI, if_neg (fun q => absurd q.2 (by decide)), xI_sI, if_pos ⟨rfl, rfl⟩]
        by_cases e : n = -1
        · rw [if_pos e, e]; rfl
        · rw [if_neg e]
          have hn0 : ¬ n < 0 := fun z => by
            have h1 := Int32.not_lt.mp hn1
            rw [Int32.le_iff_toInt_le] at h1
            rw [Int32.lt_iff_toInt_lt] at z
            apply e
            apply Int32.toInt_inj.mp
            have e1 : (-1 : Int32).toInt = -1 := by decide
            have e0 : (0 : Int32).toInt = 0 := by decide
            omega
          obtain ⟨i, hi31, hi⟩ := nI_of hn0
          subst hi
          rw [nI_clamp hi31]; rfl
      · by_cases e : n = -1
        · rw [if_pos e] at hk; cases hk
        · rw [if_neg e] at hk
          have hn0 : ¬ n < 0 := fun z => by
            have h1 := Int32.not_lt.mp hn1
            rw [Int32.le_iff_toInt_le] at h1
            rw [Int32.lt_iff_toInt_lt] at z
            apply e
            apply Int32.toInt_inj.mp
            have e1 : (-1 : Int32).toInt = -1 := by decide
            have e0 : (0 : Int32).toInt = 0 := by decide
            omega
          obtain ⟨i, hi31, hi⟩ := nI_of hn0
          subst hi
          rw [nI_clamp hi31] at hk
          cases hk
          exact nnlt hn2 (a := 1000) rfl rfl
      · exact ((rX_I (P := fun a _ => a = y) rfl).trans (hx.mono (fun a k z => z.1))).xa (fun a k z => Or.inl z)
      · rw [(hx.2 _ _ (fun z => absurd z.2 (by decide))).1, xI_sI, if_pos ⟨rfl, rfl⟩]
    · have hb : t < 0 ∨ 511 < t := Classical.byContradiction (fun z => by
        rw [if_pos ⟨Int32.not_lt.mp (fun q => z (Or.inl q)), Int32.not_lt.mp (fun q => z (Or.inr q))⟩] at c3
        exact absurd c3 (by decide))
      have hb2 : t < 0 ∨ ¬ t < 512 := by
        rcases hb with q | q
        · exact Or.inl q
        · by_cases q0 : t < 0
          · exact Or.inl q0
          · obtain ⟨j, hj31, hj⟩ := nI_of q0
            subst hj
            have h1 := nlt q (a := 511) rfl rfl
            exact Or.inr (fun z => by have := nlt z rfl (b := 512) rfl; omega)
      rw [if_pos (Or.inr (Or.inr hb2))] at hQ
      exact th_out hA h hQ
  · rw [if_pos (dn1 h3 c)] at hQ
    exact th_out hA h hQ
theorem sX10_octet {p i : Nat} (hp : p < 256) (hi : i < 512) (hA : aI T Tc sq) (h : rR M y ad K dn T Tc D pw tr sq) (hQ : ∀ M1, rR M1 y ad K dn T Tc D pw tr sq → xag (rG y ad) M M1 → xI M1 y 0 = 0 → Q (some (.int (nI (D (512 * p + i))))) M1) : xSp l g mX10_octet 0 0 [va_rf (some y), .int (nI p), .int (nI i)] M Q := by
  have hR0 := h.th (v := 0) hA
  obtain ⟨hS, hP, h3, -, -, -, ⟨hD, -⟩, -⟩ := id hR0
  have i1 : (0 : Int32) ≤ nI p ∧ nI p ≤ 255 := ⟨nn_ge (fun z => nneg z rfl), Int32.not_lt.mp (fun z => by have := nlt z (a := 255) rfl rfl; omega)⟩
  have i2 : (0 : Int32) ≤ nI i ∧ nI i ≤ 511 := ⟨nn_ge (fun z => nneg z rfl), Int32.not_lt.mp (fun z => by have := nlt z (a := 511) rfl rfl; omega)⟩
  refine eX10_octet _ _ _ (bX10_octet_0 _ _ _ (sX10_in (a := 0) (b := 255) ⟨_, rfl, fun c => ?_, fun _ => sX10_in (a := 0) (b := 511) ⟨_, rfl, fun c => ?_, fun _ => ⟨hS.1, fun _ => ⟨ad 17, (hS.2.1 17 (by decide)).1, 512 * p + i, ?_, ?_⟩, fun c => ?_⟩⟩⟩))
  · rw [if_pos i1] at c; exact absurd c (by decide)
  · rw [if_pos i2] at c; exact absurd c (by decide)
  · rw [show (512 : Int32) = nI 512 from rfl, nI_mul, nI_add]; exact hS.ai (j := 17) (by decide) (by show _ < 131072; omega)
  · rw [hD _ (by omega)]; exact th_out hA h hQ
  · rw [xI_sI, if_pos ⟨rfl, rfl⟩] at c; exact absurd (by decide) c
end RHT
