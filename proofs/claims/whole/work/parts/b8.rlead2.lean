/-! The reference's lead and childFrom, where the tree is not whole yet. -/
section RLW
variable {l : Launch} {g : xG} {M M0 M1 : xM} {Q : Option Value → xM → Prop} {y n : Nat} {ad : Nat → Nat} {T A : TT}
theorem rlead2 (hS : rS M y ad) (hW : tWF T) (hU : ∀ a, tU T a = true → xI M (ad 5) a = pI (tP T a)) (hX : ∀ a p, tU T a = true → tP T a = some p → xI M (ad 8) p = nI (tX T p).length) (hr : xI M y 14 = nI (tO T)) {x1 : Int32} {L : Nat} (hQ : Q (some (.int (nI L))) M) : ∀ (f a s : Nat), tU T a = true → tL T a ≤ f → s + tL T a = L → xWp l g mX10_lead 0 0 4 [(1, va_rf (some y)), (1, .int x1), (1, .int (nI s)), (1, .int (nI a))] [] (0, 0) M Q := by
  intro f
  induction f with
  | zero =>
    intro a s ha hf hL
    have hro : a = tO T := by
      apply Classical.byContradiction
      intro z
      obtain ⟨p, hp, -⟩ := hW.2.2.1 a ha z
      have := (hW.2.2.2.1 a p ha hp).2.2
      omega
    have e : s = L := by omega
    refine bX10_lead_4 _ _ _ _ ⟨hS.1, fun _ => by rw [e]; exact hQ, fun c => absurd ((root_iff hW ha hr).mpr hro) c⟩
  | succ f ih =>
    intro a s ha hf hL
    refine bX10_lead_4 _ _ _ _ ⟨hS.1, fun c => ?_, fun c => ?_⟩
    · have hro := (root_iff hW ha hr).mp c
      have : tL T a = 0 := by rw [hro]; exact hW.1.2.2
      have e : s = L := by omega
      rw [e]; exact hQ
    · have hro : a ≠ tO T := fun z => c ((root_iff hW ha hr).mpr z)
      obtain ⟨p, hp, hpc⟩ := hW.2.2.1 a ha hro
      obtain ⟨p1, p2, p3⟩ := hW.2.2.2.1 a p ha hp
      have ha220 := (hW.2.1 a ha).1
      have hp220 := (hW.2.1 p p1).1
      have hP := hU a ha
      rw [hp] at hP
      have hWd := hX a p ha hp
      have hP : xI M (ad 5) a = nI p := hP
      refine ⟨ad 5, (hS.2.1 5 (by decide)).1, a, hS.ai (j := 5) (by decide) (by show a < 440; omega), ad 8, (hS.2.1 8 (by decide)).1, p, ?_, a, hS.ai (j := 5) (by decide) (by show a < 440; omega), ?_⟩
      · rw [hP]; exact hS.ai (j := 8) (by decide) (by show p < 440; omega)
      · rw [hP, hWd]
        rw [show (1 : Int32) = nI 1 from rfl, nI_add, nI_add]
        exact ih p (s + (1 + (tX T p).length)) p1 (by omega) (by omega)
/-- the best child so far -/
def cfR (A : TT) (n k : Nat) (x3 : Int32) : Prop := (x3 = -1 ∧ ∀ c, c < k → tU A c = true → tP A c ≠ some n) ∨ ∃ c, c < k ∧ x3 = nI c ∧ tU A c = true ∧ tP A c = some n
theorem cf_raw (hS : rS M y ad) (hT : rT M ad 0 A) (hn : n < 220) (hb : ∀ c, tU A c = true → tB A c < 256) (hp : ∀ c p, tU A c = true → tP A c = some p → p < 220) (hQ : ∀ x3, cfR A n 220 x3 → Q (some (.int x3)) M) :
    ∀ (d k : Nat) (x3 : Int32), 220 = k + d → cfR A n k x3 → xWp l g mX10_childFrom 0 0 5 [(1, va_rf (some y)), (1, .int (nI n)), (1, .int (nI 0)), (1, .int x3), (1, .int (nI k))] [] (0, 0) M Q := by
  intro d
  induction d with
  | zero =>
    intro k x3 hd hc
    have hk : k = 220 := by omega
    subst hk
    exact bX10_childFrom_5 _ _ _ _ _ ⟨fun _ => hQ x3 hc, fun z => absurd (Int32.le_refl _) z⟩
  | succ d ih =>
    intro k x3 hd hc
    have aj : ∀ j ∈ RL9, rn j = 440 → xai M (ad j) (rk j) (nI k) k := fun j hj hr => hS.ai hj (by rw [hr]; omega)
    have eU := hT.u (n := k) (by omega)
    have old : (tU A k = true → tP A k ≠ some n) → cfR A n (k + 1) x3 := fun h => by
      rcases hc with ⟨h1, h2⟩ | ⟨c, h1, h2⟩
      · refine Or.inl ⟨h1, fun c hc => ?_⟩
        by_cases e : c = k
        · rw [e]; exact h
        · exact h2 c (by omega)
      · exact Or.inr ⟨c, by omega, h2⟩
    have old2 : x3 ≠ -1 → cfR A n (k + 1) x3 := fun h => by
      rcases hc with ⟨h1, h2⟩ | ⟨c, h1, h2⟩
      · exact absurd h1 h
      · exact Or.inr ⟨c, by omega, h2⟩
    refine bX10_childFrom_5 _ _ _ _ _ ⟨fun z => ?_, fun _ => ⟨hS.1, ad 4, (hS.2.1 4 (by decide)).1, k, aj 4 (by decide) rfl, fun z => ?_, fun z => ?_⟩⟩
    · exfalso
      have := nle z (a := 220) rfl rfl
      omega
    · rw [eU] at z
      have hu := z01.mp z
      rw [nI_1]
      exact ih (k + 1) x3 (by omega) (old (fun q => by rw [hu] at q; cases q))
    · rw [eU] at z
      have hu := bnf (fun q => z (z01.mpr q))
      obtain ⟨c1, c2, -⟩ := rC0.mp ((hT k (by omega)).2 hu)
      have hbk := hb k hu
      refine ⟨ad 5, (hS.2.1 5 (by decide)).1, k, aj 5 (by decide) rfl, fun z2 => ?_, fun z2 => ⟨ad 6, (hS.2.1 6 (by decide)).1, k, aj 6 (by decide) rfl, fun z3 => ?_, fun z3 => ⟨fun z4 => ?_, fun z4 => ⟨k, aj 6 (by decide) rfl, ?_⟩⟩⟩⟩
      · rw [c1] at z2
        rw [nI_1]
        exact ih (k + 1) x3 (by omega) (old (fun _ q => z2 ((pI_eq (fun p hpp => hp k p hu hpp) hn).mpr q)))
      · exfalso
        rw [c2] at z3
        have := nlt z3 rfl rfl
        omega
      · rw [c1] at z2
        rw [nI_1]
        have hpk := (pI_eq (fun p hpp => hp k p hu hpp) hn).mp z2
        exact ih (k + 1) (nI k) (by omega) (Or.inr ⟨k, by omega, rfl, hu, hpk⟩)
      · rw [c1] at z2
        have hpk := (pI_eq (fun p hpp => hp k p hu hpp) hn).mp z2
        rcases hc with ⟨h1, h2⟩ | ⟨c, h1, h2, h3, h4⟩
        · exact absurd h1 z4
        · refine ⟨c, by rw [h2]; exact hS.ai (j := 6) (by decide) (by show c < 440; omega), fun _ => ?_, fun _ => ?_⟩
          · rw [nI_1]
            exact ih (k + 1) x3 (by omega) (Or.inr ⟨c, by omega, h2, h3, h4⟩)
          · rw [nI_1]
            exact ih (k + 1) (nI k) (by omega) (Or.inr ⟨k, by omega, rfl, hu, hpk⟩)
/-- the next node, where there is a child -/
theorem next_raw (hS : rS M y ad) (hT : rT M ad 0 A) (hn : n < 220) (hb : ∀ c, tU A c = true → tB A c < 256) (hp : ∀ c p, tU A c = true → tP A c = some p → p < 220) (hex : ∃ c, c < 220 ∧ tU A c = true ∧ tP A c = some n) (hQ : ∀ c, c < 220 → tU A c = true → tP A c = some n → Q (some (.int (nI c))) M) : xSp l g mX10_next 0 0 [va_rf (some y), .int (nI n)] M Q := by
  refine eX10_next _ _ (bX10_next_0 _ _ ⟨hS.1, eX10_childFrom _ _ _ (bX10_childFrom_0 _ _ _ (cf_raw hS hT hn hb hp (fun x3 hc => ⟨_, rfl, ?_⟩) 220 0 (-1) (by omega) (Or.inl ⟨rfl, fun c hc => by omega⟩)))⟩)
  rcases hc with ⟨h1, h2⟩ | ⟨c, h1, h2, h3, h4⟩
  · obtain ⟨c, e1, e2, e3⟩ := hex
    exact absurd e3 (h2 c e1 e2)
  · rw [h2]
    refine bX10_next_9 _ _ _ _ ⟨fun _ => hQ c h1 h3 h4, fun z => ?_⟩
    exfalso
    have := (pI_m1 (o := some c) (fun x hx => by injection hx with hx; omega)).mp z
    cases this
end RLW
