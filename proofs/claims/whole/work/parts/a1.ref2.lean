/-! The reference's ways through the tree. -/
theorem tS_tK {T : TT} (hW : tWF T) {p n : Nat} (hp : tU T p = true) (hn : n ∈ tC T p) : tS T n = tK T p (tB T n + 1) := by
  obtain ⟨l1, l2, hl⟩ := List.append_of_mem hn
  rw [tS_child hW hp hl]
  have hsort := hW.2.2.2.2.2 p hp
  rw [hl, List.pairwise_append, List.pairwise_cons] at hsort
  unfold tK
  rw [hl, List.find?_append, List.find?_eq_none.mpr (fun c hc => by
    have := hsort.2.2 c hc n List.mem_cons_self
    simp; omega), Option.none_or, List.find?_cons_of_neg (by simp)]
  cases l2 with
  | nil => rfl
  | cons c r =>
    have := hsort.2.1.1 c List.mem_cons_self
    rw [List.find?_cons_of_pos (by simp; omega)]; rfl
theorem tK_0 (T : TT) (n : Nat) : tK T n 0 = (tC T n).head? := by
  unfold tK
  cases tC T n with
  | nil => rfl
  | cons c r => rw [List.find?_cons_of_pos (by simp)]; rfl
section RW
variable {l : Launch} {g : xG} {M : xM} {Q : Option Value → xM → Prop} {y : Nat} {ad : Nat → Nat} {T : TT} {o n b : Nat}
theorem tK_lt (hW : tWF T) (hn : tU T n = true) : ∀ p, tK T n b = some p → p < 220 := fun p hp => (hW.2.1 p (hW.2.2.2.2.1 n p hn (tK_mem hp).1).1).1
theorem sX10_child (hS : rS M y ad) (hT : rT M ad 0 T) (hW : tWF T) (hn : tU T n = true) (hb : b < 256) (hQ : Q (some (.int (pI (tKb T n b)))) M) : xSp l g mX10_child 0 0 [va_rf (some y), .int (nI n), .int (nI b)] M Q := by
  refine eX10_child _ _ _ (bX10_child_0 _ _ _ ⟨hS.1, sX10_childFrom hS hT hW hn (by omega) ⟨_, rfl, fun c => ?_, fun c => ⟨hS.1, ad 6, (hS.2.1 6 (by decide)).1, ?_⟩⟩⟩)
  · have e := (pI_m1 (tK_lt hW hn)).mp c
    have : tKb T n b = none := by unfold tKb; rw [e]
    rw [this] at hQ; exact hQ
  · obtain ⟨k, hk⟩ : ∃ k, tK T n b = some k := by
      cases h : tK T n b with
      | none => rw [h] at c; exact absurd rfl c
      | some k => exact ⟨k, rfl⟩
    have hku := (hW.2.2.2.2.1 n k hn (tK_mem hk).1).1
    have hk220 := (hW.2.1 k hku).1
    have hkB := (hW.2.1 k hku).2.1
    obtain ⟨-, hB, -⟩ := (hT k hk220).2 hku
    rw [Nat.zero_add] at hB
    have e : tKb T n b = if tB T k = b then some k else none := by unfold tKb; rw [hk]
    rw [hk]
    refine ⟨k, hS.ai (j := 6) (by decide) (by show k < 440; omega), fun c2 => ?_, fun c2 => ?_⟩
    · rw [hB] at c2
      rw [e, if_neg (fun z => c2 (by rw [z]))] at hQ
      exact hQ
    · rw [hB] at c2
      rw [e, if_pos (nI_inj (by omega) (by omega) c2)] at hQ
      exact hQ
theorem root_iff (hW : tWF T) (hn : tU T n = true) (hr : xI M y 14 = nI (tO T)) : nI n = xI M y 14 ↔ n = tO T := by
  rw [hr]
  exact ⟨fun h => nI_inj (by have := (hW.2.1 n hn).1; omega) (by have := (hW.2.1 _ hW.1.1).1; omega) h, fun h => by rw [h]⟩
theorem tH_lt (hW : tWF T) : ∀ (f n : Nat), tU T n = true → ∀ p, tH T f n = some p → p < 220
  | 0, n, hn, p, hp => (hW.2.1 p (tS_used hW hn hp)).1
  | f + 1, n, hn, p, hp => by
    unfold tH at hp
    cases hs : tS T n with
    | some s => rw [hs] at hp; cases hp; exact (hW.2.1 _ (tS_used hW hn hs)).1
    | none =>
      rw [hs] at hp
      cases hq : tP T n with
      | none => rw [hq] at hp; cases hp
      | some q => rw [hq] at hp; exact tH_lt hW f q (hW.2.2.2.1 n q hn hq).1 p hp
theorem next_loop (hS : rS M y ad) (hT : rT M ad 0 T) (hW : tWF T) (hr : xI M y 14 = nI (tO T)) {x1 : Int32} : ∀ (f a : Nat), tU T a = true → tL T a ≤ f → Q (some (.int (pI (tH T 13 a)))) M → xWp l g mX10_next 0 0 9 [(1, va_rf (some y)), (1, .int x1), (1, .int (-1)), (1, .int (nI a))] [] (0, 0) M Q := by
  intro f
  induction f with
  | zero =>
    intro a ha hf hQ
    have hro : a = tO T := by
      apply Classical.byContradiction
      intro z
      obtain ⟨p, hp, -⟩ := hW.2.2.1 a ha z
      have := (hW.2.2.2.1 a p ha hp).2.2
      omega
    have e : tH T 13 a = none := by rw [hro]; exact tH_root 13 hW.1.2.1
    rw [e] at hQ
    exact bX10_next_9 _ _ _ _ ⟨fun c => absurd rfl c, fun _ => ⟨hS.1, fun _ => hQ, fun c => absurd ((root_iff hW ha hr).mpr hro) c⟩⟩
  | succ f ih =>
    intro a ha hf hQ
    refine bX10_next_9 _ _ _ _ ⟨fun c => absurd rfl c, fun _ => ⟨hS.1, fun c => ?_, fun c => ?_⟩⟩
    · have hro := (root_iff hW ha hr).mp c
      have e : tH T 13 a = none := by rw [hro]; exact tH_root 13 hW.1.2.1
      rw [e] at hQ; exact hQ
    · have hro : a ≠ tO T := fun z => c ((root_iff hW ha hr).mpr z)
      obtain ⟨p, hp, hpc⟩ := hW.2.2.1 a ha hro
      obtain ⟨p1, p2, p3⟩ := hW.2.2.2.1 a p ha hp
      have ha220 := (hW.2.1 a ha).1
      have haB := (hW.2.1 a ha).2.1
      obtain ⟨hP, hB, -⟩ := (hT a ha220).2 ha
      rw [Nat.zero_add] at hP hB
      rw [hp] at hP
      have hst := tH_step hW ha
      rw [hp] at hst
      refine ⟨ad 5, (hS.2.1 5 (by decide)).1, a, hS.ai (j := 5) (by decide) (by show a < 440; omega), ad 6, (hS.2.1 6 (by decide)).1, a, hS.ai (j := 6) (by decide) (by show a < 440; omega), ?_⟩
      rw [hP, hB, nI_1]
      refine sX10_childFrom (n := p) hS hT hW p1 (by omega) ⟨_, rfl, hS.1, ad 5, (hS.2.1 5 (by decide)).1, a, hS.ai (j := 5) (by decide) (by show a < 440; omega), ?_⟩
      rw [hP]
      rw [← tS_tK hW p1 p2]
      cases hs : tS T a with
      | some s =>
        rw [hs] at hst
        rw [hst] at hQ
        have hsu := tS_used hW ha hs
        have hs220 := (hW.2.1 s hsu).1
        refine bX10_next_9 _ _ _ _ ⟨fun _ => hQ, fun c2 => ?_⟩
        have := (pI_m1 (o := some s) (fun q hq => by cases hq; exact hs220)).mp c2
        cases this
      | none =>
        rw [hs] at hst
        rw [hst] at hQ
        exact ih p p1 (by omega) hQ
theorem sX10_next (hS : rS M y ad) (hT : rT M ad 0 T) (hW : tWF T) (hr : xI M y 14 = nI (tO T)) (hn : tU T n = true) (hQ : Q (some (.int (pI (tN T n)))) M) : xSp l g mX10_next 0 0 [va_rf (some y), .int (nI n)] M Q := by
  refine eX10_next _ _ (bX10_next_0 _ _ ⟨hS.1, sX10_childFrom (b := 0) hS hT hW hn (by omega) ⟨_, rfl, ?_⟩⟩)
  rw [tK_0]
  unfold tN at hQ
  cases hc : (tC T n).head? with
  | some c =>
    rw [hc] at hQ
    have hcu := (hW.2.2.2.2.1 n c hn (List.mem_of_head? hc)).1
    have hc220 := (hW.2.1 c hcu).1
    refine bX10_next_9 _ _ _ _ ⟨fun _ => hQ, fun c2 => ?_⟩
    have := (pI_m1 (o := some c) (fun q hq => by cases hq; exact hc220)).mp c2
    cases this
  | none =>
    rw [hc] at hQ
    exact next_loop hS hT hW hr (tL T n) n hn (Nat.le_refl _) hQ
theorem rlead_loop (hS : rS M y ad) (hT : rT M ad 0 T) (hW : tWF T) (hr : xI M y 14 = nI (tO T)) {x1 : Int32} {L : Nat} (hQ : Q (some (.int (nI L))) M) : ∀ (f a s : Nat), tU T a = true → tL T a ≤ f → s + tL T a = L → xWp l g mX10_lead 0 0 4 [(1, va_rf (some y)), (1, .int x1), (1, .int (nI s)), (1, .int (nI a))] [] (0, 0) M Q := by
  intro f
  induction f with
  | zero =>
    intro a s ha hf hL
    have hro : a = tO T := by
      apply Classical.byContradiction
      intro z
      obtain ⟨p, hp, -⟩ := hW.2.2.1 a ha z
      have := (hW.2.2.2.1 a p ha hp).2.2
      omega
    have e : s = L := by omega
    refine bX10_lead_4 _ _ _ _ ⟨hS.1, fun _ => by rw [e]; exact hQ, fun c => absurd ((root_iff hW ha hr).mpr hro) c⟩
  | succ f ih =>
    intro a s ha hf hL
    refine bX10_lead_4 _ _ _ _ ⟨hS.1, fun c => ?_, fun c => ?_⟩
    · have hro := (root_iff hW ha hr).mp c
      have : tL T a = 0 := by rw [hro]; exact hW.1.2.2
      have e : s = L := by omega
      rw [e]; exact hQ
    · have hro : a ≠ tO T := fun z => c ((root_iff hW ha hr).mpr z)
      obtain ⟨p, hp, hpc⟩ := hW.2.2.1 a ha hro
      obtain ⟨p1, p2, p3⟩ := hW.2.2.2.1 a p ha hp
      have ha220 := (hW.2.1 a ha).1
      have hp220 := (hW.2.1 p p1).1
      obtain ⟨hP, -⟩ := (hT a ha220).2 ha
      obtain ⟨-, -, hWd, -⟩ := (hT p hp220).2 p1
      rw [Nat.zero_add] at hP hWd
      rw [hp] at hP
      refine ⟨ad 5, (hS.2.1 5 (by decide)).1, a, hS.ai (j := 5) (by decide) (by show a < 440; omega), ad 8, (hS.2.1 8 (by decide)).1, p, ?_, a, hS.ai (j := 5) (by decide) (by show a < 440; omega), ?_⟩
      · rw [hP]; exact hS.ai (j := 8) (by decide) (by show p < 440; omega)
      · rw [hP, hWd]
        rw [show (1 : Int32) = nI 1 from rfl, nI_add, nI_add]
        exact ih p (s + (1 + (tX T p).length)) p1 (by omega) (by omega)
theorem sX10_lead (hS : rS M y ad) (hT : rT M ad 0 T) (hW : tWF T) (hr : xI M y 14 = nI (tO T)) (hn : tU T n = true) (hQ : Q (some (.int (nI (tL T n)))) M) : xSp l g mX10_lead 0 0 [va_rf (some y), .int (nI n)] M Q :=
  eX10_lead _ _ (bX10_lead_0 _ _ (rlead_loop hS hT hW hr hQ (tL T n) n 0 hn (Nat.le_refl _) (Nat.zero_add _)))
end RW
