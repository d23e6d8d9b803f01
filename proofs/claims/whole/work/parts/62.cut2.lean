/-! Cutting in two, in the cells; insertAbove. -/
theorem lRep_map (f : Nat → Nat) (s a : Nat) (l : List Nat) : (lRep s a l).map f = l.map (fun x => if x = s then f a else f x) := by
  unfold lRep
  rw [List.map_map]
  refine List.map_congr_left (fun x _ => ?_)
  show f (if x = s then a else x) = _
  split <;> rfl
section CU2
variable {l : Launch} {g : xG} {M : xM} {Q : Option Value → xM → Prop} {φ ψ : Nat → Nat} {T : TT} {t nd ky : Nat} {KK sp : List Nat}
theorem cut_c (hW : tWF T) (hi : cInj φ T) (h : cNc M φ ψ T) {s m a q : Nat} (hs : tU T s = true) (ha : tU T a = false) (ha220 : a < 220) (hm : m < (tX T s).length) (hq : ∀ n, tU T n = true → φ n ≠ q) (hqψ : ∀ n, tU T n = true → ψ (φ n) ≠ ψ q) (hψ : ∀ x, tU T x = true → x ≠ s → ψ (φ x) ≠ ψ (φ s)) (hn : cNew M ψ q 0 ((tX T s).take m) none) {M1 M4 : xM} (hy : yieldP M M1 (φ s) q (tW φ T s))
    (hS : xL M4 = xL M ∧ xK M4 = xK M ∧ xN M4 = xN M ∧ xJ M4 = xJ M) (hI : ∀ x j, x ≠ ψ (φ s) → xI M4 x j = if x = q ∧ j = 2 then 1 else if x = q ∧ j = 5 then 1 else if x = φ s ∧ j = 1 then nI ((tX T s).drop (m + 1)).length else if x = φ s ∧ j = 6 then nI ((tX T s).getD m 0) else if x = q ∧ j = 6 then xI M (φ s) 6 else xI M x j)
    (hψI : ∀ i, i < ((tX T s).drop (m + 1)).length → xI M4 (ψ (φ s)) i = nI (((tX T s).drop (m + 1)).getD i 0)) (hR : ∀ x j, xat M x 1 → xR M4 x j = if x = q ∧ j = 10 then some (φ s) else if x = φ s ∧ j = 11 then none else if x = φ s ∧ j = 9 then some q else xR M1 x j) : cNc M4 (va_up φ a q) ψ (tCut T s m a) := by
  obtain ⟨⟨m1, m2, m3, m4⟩, ⟨m5, m6⟩, ⟨e2, e3, e4, e5, e6, e7, e8⟩, m10⟩ := id hn
  have hoc : ∀ p, tP T s = some p → q ≠ φ p ∧ ∀ y ∈ tC T p, φ y ≠ q := fun p hp => by
    have p1 := (hW.2.2.2.1 s p hs hp).1
    exact ⟨Ne.symm (hq p p1), fun y hy2 => hq y (hW.2.2.2.2.1 p y p1 hy2).1⟩
  have hsq : φ s ≠ q := hq s hs
  obtain ⟨y1, y2, y3, y4, y5⟩ := yield_T hW hi h hs (Ne.symm hsq) hoc hy
  obtain ⟨s1, s2, s3, s4⟩ := hS
  have hua : ∀ x, tU T x = true → x ≠ a := fun x hx z => by rw [z, ha] at hx; cases hx
  have hsa : s ≠ a := hua s hs
  have hφ : ∀ x, tU T x = true → va_up φ a q x = φ x := fun x hx => va_up_ne _ _ (hua x hx)
  have hmapφ : ∀ (l : List Nat), (∀ x ∈ l, tU T x = true) → l.map (va_up φ a q) = l.map φ := fun l hl => List.map_congr_left (fun x hx => hφ x (hl x hx))
  have hCu : ∀ n, tU T n = true → ∀ x ∈ tC T n, tU T x = true := fun n hn2 x hx => (hW.2.2.2.2.1 n x hn2 hx).1
  have hpar : ∀ p, tP T s = some p → tU T p = true ∧ p ≠ s := fun p hp => by
    obtain ⟨p1, p2, p3⟩ := hW.2.2.2.1 s p hs hp
    exact ⟨p1, fun z => by rw [z] at p3; omega⟩
  have hsb := (h.1 s hs).1
  have hqat : xat M q 1 := m1
  have hqs2 : q ≠ ψ (φ s) := ne_of_kind m1.2 hsb.1.2.2.1.2 (by decide)
  have hat : ∀ x c, xat M x c → xat M4 x c := fun x c z => ⟨by rw [s1]; exact z.1, by rw [s2]; exact z.2⟩
  -- the fields 10 and 11 of the nodes that were there
  have h10 : ∀ x, tU T x = true → tP T s ≠ some x → xR M4 (φ x) 10 = xR M (φ x) 10 := fun x hx hne => by
    rw [hR _ _ (h.1 x hx).1.1.1, if_neg (fun z => hq x hx z.1), if_neg (fun z => absurd z.2 (by decide)), if_neg (fun z => absurd z.2 (by decide))]
    exact y3 _ (hq x hx) (fun p hp z => hne (by rw [hi x p hx (hpar p hp).1 z]; exact hp))
  have h11 : ∀ x y, tU T x = true → tP T s ≠ some x → y ∈ tC T x → xR M4 (φ y) 11 = xR M (φ y) 11 := fun x y hx hne hy2 => by
    have hyu := hCu x hx y hy2
    have hyp := (hW.2.2.2.2.1 x y hx hy2).2
    have hys : y ≠ s := fun z => hne (by rw [← z]; exact hyp)
    rw [hR _ _ (h.1 y hyu).1.1.1, if_neg (fun z => absurd z.2 (by decide)), if_neg (fun z => hys (hi y s hyu hs z.1)), if_neg (fun z => absurd z.2 (by decide))]
    refine y4 _ (hq y hyu) (fun p hp z => ?_)
    obtain ⟨w, hw, e⟩ := List.mem_map.mp z
    have e2 := hi w y (hCu p (hpar p hp).1 w hw) hyu e
    have hwp := (hW.2.2.2.2.1 p w (hpar p hp).1 hw).2
    rw [e2, hyp] at hwp
    exact hne (by rw [hp, Option.some.inj hwp])
  refine ⟨fun x hx => ?_, ?_⟩
  · by_cases hxa : x = a
    · subst hxa
      have e0 : va_up φ x q x = q := va_up_self _ _ _
      have eX : tX (tCut T s m x) x = (tX T s).take m := by show va_up (va_up (tX T) x _) s _ x = _; rw [va_up_ne _ _ (Ne.symm hsa), va_up_self]
      have eV : tV (tCut T s m x) x = none := va_up_self _ _ _
      have eF : tF (tCut T s m x) x = 1 := va_up_self _ _ _
      have eC : tC (tCut T s m x) x = [s] := by show (if x = x then [s] else _) = _; rw [if_pos rfl]
      have eB : tB (tCut T s m x) x = tB T s := by show va_up (va_up (tB T) x _) s _ x = _; rw [va_up_ne _ _ (Ne.symm hsa), va_up_self]
      have eG : tG (tCut T s m x) x = 0 := va_up_self _ _ _
      have eR : tR (tCut T s m x) x = false := va_up_self _ _ _
      have eP : tP (tCut T s m x) x = tP T s := by show va_up (va_up (tP T) x _) s _ x = _; rw [va_up_ne _ _ (Ne.symm hsa), va_up_self]
      have hF : ∀ j, j ≠ 2 → j ≠ 5 → j ≠ 6 → xI M4 q j = xI M q j := fun j h2 h5 h6 => by
        rw [hI _ _ hqs2, if_neg (fun z => h2 z.2), if_neg (fun z => h5 z.2), if_neg (fun z => hsq z.1.symm), if_neg (fun z => hsq z.1.symm), if_neg (fun z => h6 z.2)]
      have hqR : ∀ j, j ≠ 10 → xR M4 q j = xR M1 q j := fun j h10 => by
        rw [hR _ _ hqat, if_neg (fun z => h10 z.2), if_neg (fun z => hsq z.1.symm), if_neg (fun z => hsq z.1.symm)]
      refine ⟨?_, ?_⟩
      · unfold cB
        rw [e0, eX, eV, eF, eC, eB, eG, eR, eP]
        refine ⟨⟨hat _ _ m1, by rw [hqR 0 (by decide), y2]; exact m2, hat _ _ m3, by rw [s3]; exact m4⟩, ⟨by rw [hF 1 (by decide) (by decide) (by decide)]; exact m5, fun i hi2 => ?_⟩, ⟨?_, by rw [hF 3 (by decide) (by decide) (by decide)]; exact e3, by rw [s4]; exact e4, ?_, ?_, by rw [hF 7 (by decide) (by decide) (by decide)]; exact e7, by rw [hF 8 (by decide) (by decide) (by decide)]; exact e8⟩, ?_⟩
        · have hne1 : ψ q ≠ q := ne_of_kind m3.2 m1.2 (by decide)
          have hne2 : ψ q ≠ φ s := ne_of_kind m3.2 hsb.1.1.2 (by decide)
          rw [hI _ _ (Ne.symm (hqψ s hs)), if_neg (fun z => hne1 z.1), if_neg (fun z => hne1 z.1), if_neg (fun z => hne2 z.1), if_neg (fun z => hne2 z.1), if_neg (fun z => hne1 z.1)]
          exact m6 i hi2
        · rw [hI _ _ hqs2, if_pos ⟨rfl, rfl⟩]; rfl
        · rw [hI _ _ hqs2, if_neg (fun z => absurd z.2 (by decide)), if_pos ⟨rfl, rfl⟩]; rfl
        · rw [hI _ _ hqs2, if_neg (fun z => absurd z.2 (by decide)), if_neg (fun z => absurd z.2 (by decide)), if_neg (fun z => hsq z.1.symm), if_neg (fun z => hsq z.1.symm), if_pos ⟨rfl, rfl⟩]; exact hsb.2.2.1.2.2.2.2.1
        · rw [hqR 9 (by decide), y2, if_neg (by decide), if_pos rfl, hsb.2.2.2]
          cases hp : tP T s with
          | none => rfl
          | some p => rw [Option.map_some, Option.map_some, hφ p (hpar p hp).1]
      · rw [e0, eC, List.map_cons, List.map_nil, hφ s hs]
        refine ⟨by rw [hR _ _ hqat, if_pos ⟨rfl, rfl⟩], ?_⟩
        show xR M4 (φ s) 11 = none
        rw [hR _ _ hsb.1.1, if_neg (fun z => hsq z.1), if_pos ⟨rfl, rfl⟩]
    · have hxu : tU T x = true := by
        have : tU (tCut T s m a) x = if x = a then true else tU T x := rfl
        rw [this, if_neg hxa] at hx; exact hx
      obtain ⟨⟨⟨b1, b1b, b1c, b1d⟩, ⟨b2, b2b⟩, ⟨i2, i3, i4, i5, i6, i7, i8⟩, b4⟩, b5⟩ := h.1 x hxu
      have hxq := hq x hxu
      have e0 := hφ x hxu
      have hxs2 : φ x ≠ ψ (φ s) := ne_of_kind b1.2 hsb.1.2.2.1.2 (by decide)
      have eV : tV (tCut T s m a) x = tV T x := va_up_ne _ _ hxa
      have eF : tF (tCut T s m a) x = tF T x := va_up_ne _ _ hxa
      have eG : tG (tCut T s m a) x = tG T x := va_up_ne _ _ hxa
      have eR : tR (tCut T s m a) x = tR T x := va_up_ne _ _ hxa
      have eC : tC (tCut T s m a) x = if tP T s = some x then lRep s a (tC T x) else tC T x := by
        show (if x = a then [s] else _) = _
        rw [if_neg hxa]
      have eCl : (tC (tCut T s m a) x).length = (tC T x).length := by
        rw [eC]; split
        · exact lRep_len _ _ _
        · rfl
      have hR0 : ∀ j, j ≠ 9 → j ≠ 10 → j ≠ 11 → xR M4 (φ x) j = xR M (φ x) j := fun j h9 h10 h11 => by
        rw [hR _ _ b1, if_neg (fun z => hxq z.1), if_neg (fun z => h11 z.2), if_neg (fun z => h9 z.2)]; exact y1 _ _ hxq h10 h11
      have hFx : ∀ j, j ≠ 1 → j ≠ 6 → xI M4 (φ x) j = xI M (φ x) j := fun j h1 h6 => by
        rw [hI _ _ hxs2, if_neg (fun z => hxq z.1), if_neg (fun z => hxq z.1), if_neg (fun z => h1 z.2), if_neg (fun z => h6 z.2), if_neg (fun z => hxq z.1)]
      refine ⟨?_, ?_⟩
      · by_cases hxs : x = s
        · subst hxs
          have eX : tX (tCut T x m a) x = (tX T x).drop (m + 1) := va_up_self _ _ _
          have eB : tB (tCut T x m a) x = (tX T x).getD m 0 := va_up_self _ _ _
          have eP : tP (tCut T x m a) x = some a := va_up_self _ _ _
          unfold cB
          rw [e0, eX, eV, eF, eCl, eB, eG, eR, eP]
          refine ⟨⟨hat _ _ b1, by rw [hR0 0 (by decide) (by decide) (by decide)]; exact b1b, hat _ _ b1c, by rw [s3]; exact b1d⟩, ⟨?_, hψI⟩, ⟨by rw [hFx 2 (by decide) (by decide)]; exact i2, by rw [hFx 3 (by decide) (by decide)]; exact i3, by rw [s4]; exact i4, by rw [hFx 5 (by decide) (by decide)]; exact i5, ?_, by rw [hFx 7 (by decide) (by decide)]; exact i7, by rw [hFx 8 (by decide) (by decide)]; exact i8⟩, ?_⟩
          · rw [hI _ _ hxs2, if_neg (fun z => hxq z.1), if_neg (fun z => hxq z.1), if_pos ⟨rfl, rfl⟩]
          · rw [hI _ _ hxs2, if_neg (fun z => hxq z.1), if_neg (fun z => hxq z.1), if_neg (fun z => absurd z.2 (by decide)), if_pos ⟨rfl, rfl⟩]
          · rw [hR _ _ b1, if_neg (fun z => hxq z.1), if_neg (fun z => absurd z.2 (by decide)), if_pos ⟨rfl, rfl⟩, Option.map_some, va_up_self]
        · have eX : tX (tCut T s m a) x = tX T x := by show va_up (va_up (tX T) a _) s _ x = _; rw [va_up_ne _ _ hxs, va_up_ne _ _ hxa]
          have eB : tB (tCut T s m a) x = tB T x := by show va_up (va_up (tB T) a _) s _ x = _; rw [va_up_ne _ _ hxs, va_up_ne _ _ hxa]
          have eP : tP (tCut T s m a) x = tP T x := by show va_up (va_up (tP T) a _) s _ x = _; rw [va_up_ne _ _ hxs, va_up_ne _ _ hxa]
          have hne : φ x ≠ φ s := fun z => hxs (hi x s hxu hs z)
          have hFx2 : ∀ j, xI M4 (φ x) j = xI M (φ x) j := fun j => by
            rw [hI _ _ hxs2, if_neg (fun z => hxq z.1), if_neg (fun z => hxq z.1), if_neg (fun z => hne z.1), if_neg (fun z => hne z.1), if_neg (fun z => hxq z.1)]
          have hψx : ∀ j, xI M4 (ψ (φ x)) j = xI M (ψ (φ x)) j := fun j => by
            have n1 : ψ (φ x) ≠ q := ne_of_kind b1c.2 m1.2 (by decide)
            have n2 : ψ (φ x) ≠ φ s := ne_of_kind b1c.2 hsb.1.1.2 (by decide)
            rw [hI _ _ (hψ x hxu hxs), if_neg (fun z => n1 z.1), if_neg (fun z => n1 z.1), if_neg (fun z => n2 z.1), if_neg (fun z => n2 z.1), if_neg (fun z => n1 z.1)]
          unfold cB
          rw [e0, eX, eV, eF, eCl, eB, eG, eR, eP]
          refine ⟨⟨hat _ _ b1, by rw [hR0 0 (by decide) (by decide) (by decide)]; exact b1b, hat _ _ b1c, by rw [s3]; exact b1d⟩, ⟨by rw [hFx2]; exact b2, fun i hi2 => by rw [hψx]; exact b2b i hi2⟩, ⟨by rw [hFx2]; exact i2, by rw [hFx2]; exact i3, by rw [s4]; exact i4, by rw [hFx2]; exact i5, by rw [hFx2]; exact i6, by rw [hFx2]; exact i7, by rw [hFx2]; exact i8⟩, ?_⟩
          rw [hR _ _ b1, if_neg (fun z => hxq z.1), if_neg (fun z => absurd z.2 (by decide)), if_neg (fun z => hne z.1), y1 _ _ hxq (by decide) (by decide), b4]
          cases hp : tP T x with
          | none => rfl
          | some y => rw [Option.map_some, Option.map_some, hφ y (hW.2.2.2.1 x y hxu hp).1]
      · rw [e0, eC]
        by_cases hxp : tP T s = some x
        · rw [if_pos hxp]
          have h5 := y5 x hxp
          rw [lRep_map] at h5 ⊢
          rw [va_up_self] at h5 ⊢
          have eL : (tC T x).map (fun y => if y = s then q else va_up φ a q y) = (tC T x).map (fun y => if y = s then q else va_up φ (220 + s) q y) := List.map_congr_left (fun y hy2 => by
            have hyu := hCu x hxu y hy2
            have := (hW.2.1 y hyu).1
            rw [hφ y hyu, va_up_ne _ _ (by omega)])
          rw [eL]
          have e10 : xR M4 (φ x) 10 = xR M1 (φ x) 10 := by
            rw [hR _ _ b1, if_neg (fun z => hxq z.1), if_neg (fun z => absurd z.2 (by decide)), if_neg (fun z => absurd z.2 (by decide))]
          rw [e10]
          refine chS_fr h5 (fun z hz => ?_)
          obtain ⟨y, hy2, rfl⟩ := List.mem_map.mp hz
          have hyu := hCu x hxu y hy2
          by_cases hys : y = s
          · rw [if_pos hys, hR _ _ hqat, if_neg (fun z => absurd z.2 (by decide)), if_neg (fun z => hsq z.1.symm), if_neg (fun z => absurd z.2 (by decide))]
          · have hy220 : va_up φ (220 + s) q y = φ y := va_up_ne _ _ (by have := (hW.2.1 y hyu).1; omega)
            rw [if_neg hys, hy220, hR _ _ (h.1 y hyu).1.1.1, if_neg (fun z => absurd z.2 (by decide)), if_neg (fun z => hys (hi y s hyu hs z.1)), if_neg (fun z => absurd z.2 (by decide))]
        · rw [if_neg hxp, hmapφ _ (hCu x hxu), h10 x hxu hxp]
          exact chS_fr b5 (fun z hz => by
            obtain ⟨y, hy2, rfl⟩ := List.mem_map.mp hz
            exact h11 x y hxu hxp hy2)
  · have eO : tO (tCut T s m a) = if s = tO T then a else tO T := rfl
    rw [eO]
    by_cases hso : s = tO T
    · rw [if_pos hso, va_up_self, hR _ _ hqat, if_neg (fun z => absurd z.2 (by decide)), if_neg (fun z => hsq z.1.symm), if_neg (fun z => absurd z.2 (by decide)), y2, if_pos rfl, hso]
      exact h.2
    · have ho := hW.1.1
      rw [if_neg hso, hφ _ ho, hR _ _ (h.1 _ ho).1.1.1, if_neg (fun z => absurd z.2 (by decide)), if_neg (fun z => hso (hi _ _ ho hs z.1).symm), if_neg (fun z => absurd z.2 (by decide))]
      rw [y4 _ (hq _ ho) (fun p hp z => ?_)]
      · exact h.2
      · obtain ⟨w, hw, e⟩ := List.mem_map.mp z
        have e2 := hi w _ (hCu p (hpar p hp).1 w hw) ho e
        have hwp := (hW.2.2.2.2.1 p w (hpar p hp).1 hw).2
        rw [e2, hW.1.2.1] at hwp
        cases hwp
end CU2
