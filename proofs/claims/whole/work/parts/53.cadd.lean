/-! A new leaf in the class's cells. -/
section CS2
variable {φ ψ : Nat → Nat} {T : TT} {M : xM}
/-- a node's cell that is in no tree yet -/
def cNew (M : xM) (ψ : Nat → Nat) (q b : Nat) (p : List Nat) (v : Option Int64) : Prop :=
  (xat M q 1 ∧ xR M q 0 = some (ψ q) ∧ xat M (ψ q) 9 ∧ xN M (ψ q) = 12) ∧ (xI M q 1 = nI p.length ∧ ∀ i, i < p.length → xI M (ψ q) i = nI (p.getD i 0)) ∧
  (xI M q 2 = 1 ∧ xI M q 3 = (if v.isSome = true then 1 else 0) ∧ xJ M q 4 = v.getD 0 ∧ xI M q 5 = 0 ∧ xI M q 6 = nI b ∧ xI M q 7 = 0 ∧ xI M q 8 = 0) ∧ xR M q 10 = none
theorem add_c (hW : tWF T) (hi : cInj φ T) (h : cNc M φ ψ T) {s c b q : Nat} {p : List Nat} {v : Int64} (hs : tU T s = true) (hc : tU T c = false) (hq : ∀ n, tU T n = true → φ n ≠ q) (hn : cNew M ψ q b p (some v)) {M1 : xM}
    (hg : gainP M M1 (φ s) q (((tC T s).takeWhile (fun x => decide (tB T x < b))).map φ) (((tC T s).dropWhile (fun x => decide (tB T x < b))).map φ) (tC T s).length (tF T s)) : cNc M1 (va_up φ c q) ψ (tAdd T s c b p v) := by
  obtain ⟨⟨g1, g2, g3, g4⟩, gI, gR⟩ := hg
  have hsc : s ≠ c := fun z => by rw [z, hc] at hs; cases hs
  have huc : ∀ x, tU T x = true → x ≠ c := fun x hx z => by rw [z, hc] at hx; cases hx
  have hφ : ∀ x, tU T x = true → va_up φ c q x = φ x := fun x hx => va_up_ne _ _ (huc x hx)
  have hmapφ : ∀ (l : List Nat), (∀ x ∈ l, tU T x = true) → l.map (va_up φ c q) = l.map φ := fun l hl => List.map_congr_left (fun x hx => hφ x (hl x hx))
  have hCu : ∀ n, tU T n = true → ∀ x ∈ tC T n, tU T x = true := fun n hn2 x hx => (hW.2.2.2.2.1 n x hn2 hx).1
  have hks := (h.1 s hs).1.1.1.2
  have hsq : φ s ≠ q := hq s hs
  have hsplit : (tC T s).takeWhile (fun x => decide (tB T x < b)) ++ (tC T s).dropWhile (fun x => decide (tB T x < b)) = tC T s := List.takeWhile_append_dropWhile
  have hnd := tC_nodup hW hs
  -- the new chain of s
  have hchain : chS M1 (xR M1 (φ s) 10) (((tC T s).takeWhile (fun x => decide (tB T x < b))).map φ ++ q :: ((tC T s).dropWhile (fun x => decide (tB T x < b))).map φ) := by
    have hold := (h.1 s hs).2
    rw [← hsplit, List.map_append] at hold
    have htw : ∀ x ∈ (tC T s).takeWhile (fun x => decide (tB T x < b)), x ∈ tC T s := fun x hx => (List.takeWhile_sublist _).subset hx
    have hdw : ∀ x ∈ (tC T s).dropWhile (fun x => decide (tB T x < b)), x ∈ tC T s := fun x hx => (List.dropWhile_sublist _).subset hx
    have hnd1 : (((tC T s).takeWhile (fun x => decide (tB T x < b))).map φ).Nodup := by
      refine List.pairwise_map.mpr ((hnd.sublist (List.takeWhile_sublist _)).imp_of_mem (fun {x y} hx hy hne e => hne (hi x y (hCu s hs x (htw x hx)) (hCu s hs y (htw y hy)) e)))
    have hdisj : ∀ y ∈ (tC T s).dropWhile (fun x => decide (tB T x < b)), (((tC T s).takeWhile (fun x => decide (tB T x < b))).map φ).getLast? ≠ some (φ y) := fun y hy e => by
      obtain ⟨z, hz, e2⟩ := List.mem_map.mp (List.mem_of_getLast? e)
      have e3 := hi z y (hCu s hs z (htw z hz)) (hCu s hs y (hdw y hy)) e2
      rw [← hsplit] at hnd
      exact (List.nodup_append.mp hnd).2.2 z hz y hy e3
    have hr1 : xR M1 q 11 = (((tC T s).dropWhile (fun x => decide (tB T x < b))).map φ).head? := by
      rw [gR, if_neg (fun w => hsq w.2.1.symm), if_neg (fun w => ?_), if_pos ⟨rfl, rfl⟩]
      obtain ⟨z, hz, e2⟩ := List.mem_map.mp (List.mem_of_getLast? w.1)
      exact hq z (hCu s hs z (htw z hz)) e2
    have htail : chS M1 (some q) (q :: ((tC T s).dropWhile (fun x => decide (tB T x < b))).map φ) := by
      refine ⟨rfl, ?_⟩
      rw [hr1]
      have h2 := chS_app hold
      rw [← chS_head h2]
      refine chS_fr h2 (fun a ha => ?_)
      obtain ⟨y, hy, rfl⟩ := List.mem_map.mp ha
      have hyq := hq y (hCu s hs y (hdw y hy))
      rw [gR, if_neg (fun w => absurd w.2.2 (by decide)), if_neg (fun w => hdisj y hy w.1), if_neg (fun w => hyq w.1), if_neg (fun w => hyq w.1)]
    have := chS_relink htail _ _ hold hnd1 (fun x hx => ?_)
    · have he : xR M1 (φ s) 10 = if (((tC T s).takeWhile (fun x => decide (tB T x < b))).map φ).getLast? = none then some q else xR M (φ s) 10 := by
        rw [gR]
        by_cases hz : (((tC T s).takeWhile (fun x => decide (tB T x < b))).map φ).getLast? = none
        · rw [if_pos ⟨hz, rfl, rfl⟩, if_pos hz]
        · rw [if_neg (fun w => hz w.1), if_neg (fun w => absurd w.2 (by decide)), if_neg (fun w => hsq w.1), if_neg (fun w => hsq w.1), if_neg hz]
      rw [he]; exact this
    · obtain ⟨y, hy, rfl⟩ := List.mem_map.mp hx
      have hyq := hq y (hCu s hs y (htw y hy))
      rw [gR, if_neg (fun w => absurd w.2.2 (by decide))]
      by_cases hz : (((tC T s).takeWhile (fun x => decide (tB T x < b))).map φ).getLast? = some (φ y)
      · rw [if_pos ⟨hz, rfl⟩, if_pos hz]
      · rw [if_neg (fun w => hz w.1), if_neg (fun w => hyq w.1), if_neg (fun w => hyq w.1), if_neg hz]
  refine ⟨fun x hx => ?_, ?_⟩
  · by_cases hxc : x = c
    · subst hxc
      obtain ⟨⟨n1, n2, n3, n4⟩, ⟨n5, n6⟩, ⟨k2, k3, k4, k5, k6, k7, k8⟩, n10⟩ := hn
      have hqs : q ≠ φ s := Ne.symm hsq
      have hψs : ψ q ≠ φ s := ne_of_kind n3.2 hks (by decide)
      have hqI : ∀ j, xI M1 q j = xI M q j := fun j => by rw [gI, if_neg (fun w => hqs w.1), if_neg (fun w => hqs w.1)]
      have e0 : va_up φ x q x = q := va_up_self _ _ _
      have eX : tX (tAdd T s x b p v) x = p := va_up_self _ _ _
      have eV : tV (tAdd T s x b p v) x = some v := va_up_self _ _ _
      have eF : tF (tAdd T s x b p v) x = 1 := by show va_up (va_up (tF T) x 1) s _ x = 1; rw [va_up_ne _ _ (Ne.symm hsc), va_up_self]
      have eC : tC (tAdd T s x b p v) x = [] := by show va_up (va_up (tC T) x []) s _ x = []; rw [va_up_ne _ _ (Ne.symm hsc), va_up_self]
      have eB : tB (tAdd T s x b p v) x = b := va_up_self _ _ _
      have eG : tG (tAdd T s x b p v) x = 0 := va_up_self _ _ _
      have eR : tR (tAdd T s x b p v) x = false := va_up_self _ _ _
      have eP : tP (tAdd T s x b p v) x = some s := va_up_self _ _ _
      have eR9 : xR M1 q 9 = some (φ s) := by
        rw [gR, if_neg (fun w => hqs w.2.1), if_neg (fun w => absurd w.2 (by decide)), if_neg (fun w => absurd w.2 (by decide)), if_pos ⟨rfl, rfl⟩]
      have eR10 : xR M1 q 10 = none := by
        rw [gR, if_neg (fun w => hqs w.2.1), if_neg (fun w => absurd w.2 (by decide)), if_neg (fun w => absurd w.2 (by decide)), if_neg (fun w => absurd w.2 (by decide))]; exact n10
      have eR0 : xR M1 q 0 = some (ψ q) := by
        rw [gR, if_neg (fun w => hqs w.2.1), if_neg (fun w => absurd w.2 (by decide)), if_neg (fun w => absurd w.2 (by decide)), if_neg (fun w => absurd w.2 (by decide))]; exact n2
      refine ⟨?_, ?_⟩
      · unfold cB
        rw [e0, eX, eV, eF, eC, eB, eG, eR, eP]
        refine ⟨⟨⟨by rw [g1]; exact n1.1, by rw [g2]; exact n1.2⟩, eR0, ⟨by rw [g1]; exact n3.1, by rw [g2]; exact n3.2⟩, by rw [g3]; exact n4⟩, ⟨by rw [hqI]; exact n5, fun i hi2 => by rw [gI, if_neg (fun w => hψs w.1), if_neg (fun w => hψs w.1)]; exact n6 i hi2⟩, ⟨by rw [hqI]; exact k2, by rw [hqI]; exact k3, by rw [g4]; exact k4, by rw [hqI]; exact k5, by rw [hqI]; exact k6, by rw [hqI]; exact k7, by rw [hqI]; exact k8⟩, ?_⟩
        rw [eR9, Option.map_some, hφ s hs]
      · rw [e0, eC, eR10]; rfl
    · have hxu : tU T x = true := by
        have : tU (tAdd T s c b p v) x = if x = c then true else tU T x := rfl
        rw [this, if_neg hxc] at hx; exact hx
      obtain ⟨⟨⟨b1, b1b, b1c, b1d⟩, ⟨b2, b2b⟩, ⟨i2, i3, i4, i5, i6, i7, i8⟩, b4⟩, b5⟩ := h.1 x hxu
      have hxq := hq x hxu
      have hps : ψ (φ x) ≠ φ s := ne_of_kind b1c.2 hks (by decide)
      have e0 := hφ x hxu
      have hF : ∀ j, j ≠ 2 → j ≠ 5 → xI M1 (φ x) j = xI M (φ x) j := fun j h2 h5 => by rw [gI, if_neg (fun w => h2 w.2), if_neg (fun w => h5 w.2)]
      have eX : tX (tAdd T s c b p v) x = tX T x := va_up_ne _ _ hxc
      have eV : tV (tAdd T s c b p v) x = tV T x := va_up_ne _ _ hxc
      have eB : tB (tAdd T s c b p v) x = tB T x := va_up_ne _ _ hxc
      have eG : tG (tAdd T s c b p v) x = tG T x := va_up_ne _ _ hxc
      have eR : tR (tAdd T s c b p v) x = tR T x := va_up_ne _ _ hxc
      have eP : tP (tAdd T s c b p v) x = tP T x := va_up_ne _ _ hxc
      have eC : tC (tAdd T s c b p v) x = if x = s then lIns (tB T) b c (tC T s) else tC T x := by
        show (if x = s then _ else if x = c then _ else _) = _
        rw [if_neg hxc]
      have eF : tF (tAdd T s c b p v) x = if x = s then fGrow (tF T s) ((tC T s).length + 1) else tF T x := by
        show (if x = s then _ else if x = c then _ else _) = _
        rw [if_neg hxc]
      have eR9 : ∀ j, j ≠ 10 → j ≠ 11 → xR M1 (φ x) j = xR M (φ x) j := fun j h10 h11 => by
        rw [gR, if_neg (fun w => h10 w.2.2), if_neg (fun w => h11 w.2), if_neg (fun w => hxq w.1), if_neg (fun w => hxq w.1)]
      refine ⟨?_, ?_⟩
      · unfold cB
        rw [e0, eX, eV, eB, eG, eR, eP]
        refine ⟨⟨⟨by rw [g1]; exact b1.1, by rw [g2]; exact b1.2⟩, by rw [eR9 0 (by decide) (by decide)]; exact b1b, ⟨by rw [g1]; exact b1c.1, by rw [g2]; exact b1c.2⟩, by rw [g3]; exact b1d⟩, ⟨by rw [hF 1 (by decide) (by decide)]; exact b2, fun i hi2 => by rw [gI, if_neg (fun w => hps w.1), if_neg (fun w => hps w.1)]; exact b2b i hi2⟩, ⟨?_, by rw [hF 3 (by decide) (by decide)]; exact i3, by rw [g4]; exact i4, ?_, by rw [hF 6 (by decide) (by decide)]; exact i6, by rw [hF 7 (by decide) (by decide)]; exact i7, by rw [hF 8 (by decide) (by decide)]; exact i8⟩, ?_⟩
        · rw [gI, eF]
          by_cases hxs : x = s
          · subst hxs; rw [if_pos ⟨rfl, rfl⟩, if_pos rfl]
          · rw [if_neg (fun w => hxs (hi x s hxu hs w.1)), if_neg (fun w => absurd w.2 (by decide)), if_neg hxs]; exact i2
        · rw [gI, eC, if_neg (fun w => absurd w.2 (by decide))]
          by_cases hxs : x = s
          · subst hxs; rw [if_pos ⟨rfl, rfl⟩, if_pos rfl, lIns_len]
          · rw [if_neg (fun w => hxs (hi x s hxu hs w.1)), if_neg hxs]; exact i5
        · rw [eR9 9 (by decide) (by decide), b4]
          cases hp : tP T x with
          | none => rfl
          | some y => rw [Option.map_some, Option.map_some, hφ y (hW.2.2.2.1 x y hxu hp).1]
      · rw [e0, eC]
        by_cases hxs : x = s
        · subst hxs
          rw [if_pos rfl]
          have : (lIns (tB T) b c (tC T x)).map (va_up φ c q) = ((tC T x).takeWhile (fun x => decide (tB T x < b))).map φ ++ q :: ((tC T x).dropWhile (fun x => decide (tB T x < b))).map φ := by
            unfold lIns
            rw [List.map_append, List.map_cons, va_up_self, hmapφ _ (fun y hy => hCu x hs y ((List.takeWhile_sublist _).subset hy)), hmapφ _ (fun y hy => hCu x hs y ((List.dropWhile_sublist _).subset hy))]
          rw [this]; exact hchain
        · rw [if_neg hxs, hmapφ _ (hCu x hxu)]
          have e10 : xR M1 (φ x) 10 = xR M (φ x) 10 := by
            rw [gR, if_neg (fun w => hxs (hi x s hxu hs w.2.1)), if_neg (fun w => absurd w.2 (by decide)), if_neg (fun w => hxq w.1), if_neg (fun w => hxq w.1)]
          rw [e10]
          refine chS_fr b5 (fun a ha => ?_)
          obtain ⟨y, hy, rfl⟩ := List.mem_map.mp ha
          have hyu := hCu x hxu y hy
          rw [gR, if_neg (fun w => absurd w.2.2 (by decide)), if_neg (fun w => ?_), if_neg (fun w => hq y hyu w.1), if_neg (fun w => hq y hyu w.1)]
          obtain ⟨z, hz, e2⟩ := List.mem_map.mp (List.mem_of_getLast? w.1)
          have hzs := (List.takeWhile_sublist _).subset hz
          have e3 := hi z y (hCu s hs z hzs) hyu e2
          have k1 := (hW.2.2.2.2.1 s z hs hzs).2
          have k2 := (hW.2.2.2.2.1 x y hxu hy).2
          rw [e3, k2] at k1
          exact hxs (Option.some.inj k1)
  · show xR M1 (va_up φ c q (tO T)) 11 = none
    have ho := hW.1.1
    rw [hφ _ ho, gR, if_neg (fun w => absurd w.2.2 (by decide)), if_neg (fun w => ?_), if_neg (fun w => hq _ ho w.1), if_neg (fun w => hq _ ho w.1)]
    · exact h.2
    · obtain ⟨z, hz, e2⟩ := List.mem_map.mp (List.mem_of_getLast? w.1)
      have hzs := (List.takeWhile_sublist _).subset hz
      have e3 := hi z _ (hCu s hs z hzs) ho e2
      have k1 := (hW.2.2.2.2.1 s z hs hzs).2
      rw [e3, hW.1.2.1] at k1
      cases k1
end CS2
