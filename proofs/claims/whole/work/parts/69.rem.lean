/-! Remove, in the cells. -/
theorem yieldP_R {M0 M M1 : xM} {a o : Nat} {w : Option (Nat × List Nat)} (hy : yieldP M M1 a o w) (hR : xR M = xR M0) : ∃ M2, yieldP M0 M2 a o w ∧ xR M2 = xR M1 := by
  refine ⟨(xL M0, xK M0, xN M0, (fun x j => if x = o ∧ j = 6 then xI M0 a 6 else xI M0 x j), xJ M0, xR M1), ⟨⟨rfl, rfl, rfl, rfl⟩, fun x j => rfl, fun x j => ?_⟩, rfl⟩
  show xR M1 x j = _
  rw [hy.2.2 x j, hR]
section RM
variable {l : Launch} {g : xG} {M : xM} {Q : Option Value → xM → Prop} {φ ψ : Nat → Nat} {T : TT} {t nd ky : Nat} {KK sp : List Nat}
theorem del_c (hW : tWF T) (hi : cInj φ T) (h : cNc M φ ψ T) {n p : Nat} {l1 l2 : List Nat} (hn : tU T n = true) (hp : tP T n = some p) (hl : tC T p = l1 ++ n :: l2) {M1 : xM}
    (hg : loseP M M1 (φ p) (l1.map φ) (l2.map φ) ((tC T p).length - 1) (tF T p)) : cNc M1 φ ψ (tDel T n p) := by
  obtain ⟨⟨s1, s2, s3, s4⟩, hI, hR⟩ := hg
  obtain ⟨p1, p2, p3⟩ := hW.2.2.2.1 n p hn hp
  have hpn : p ≠ n := fun z => by rw [z] at p3; omega
  have hd := tC_nodup hW p1
  rw [hl] at hd
  have hd2 := List.nodup_append.mp hd
  have hCu : ∀ n, tU T n = true → ∀ x ∈ tC T n, tU T x = true := fun n hn2 x hx => (hW.2.2.2.2.1 n x hn2 hx).1
  have hlu : ∀ x ∈ l1, tU T x = true ∧ tP T x = some p := fun x hx => hW.2.2.2.2.1 p x p1 (by rw [hl]; exact List.mem_append_left _ hx)
  have hlast : ∀ x, tU T x = true → (l1.map φ).getLast? = some (φ x) → x ∈ l1 := fun x hx z => by
    obtain ⟨w, hw, e⟩ := List.mem_map.mp (List.mem_of_getLast? z)
    rw [← hi w x (hlu w hw).1 hx e]; exact hw
  have hR0 : ∀ x j, j ≠ 10 → j ≠ 11 → xR M1 x j = xR M x j := fun x j a b => by rw [hR, if_neg (fun z => a z.2.2), if_neg (fun z => b z.2)]
  have hR11 : ∀ x, tU T x = true → x ∉ l1 → xR M1 (φ x) 11 = xR M (φ x) 11 := fun x hx hxl => by
    rw [hR, if_neg (fun z => absurd z.2.2 (by decide)), if_neg (fun z => hxl (hlast x hx z.1))]
  have hCp : tC (tDel T n p) p = l1 ++ l2 := by
    show va_up (tC T) p _ p = _
    rw [va_up_self, hl, filt_split hd]
  have hlen : (l1 ++ l2).length = (tC T p).length - 1 := by rw [hl]; simp
  refine ⟨fun x hx => ?_, ?_⟩
  · have hx1 : va_up (tU T) n false x = true := hx
    have hxn : x ≠ n := fun z => by rw [z, va_up_self] at hx1; cases hx1
    have hxu := used_ne hx1 hxn
    obtain ⟨⟨⟨b1, b1b, b1c, b1d⟩, ⟨b2, b2b⟩, ⟨i2, i3, i4, i5, i6, i7, i8⟩, b4⟩, b5⟩ := h.1 x hxu
    have hψp : ψ (φ x) ≠ φ p := ne_of_kind b1c.2 (h.1 p p1).1.1.1.2 (by decide)
    have hI0 : ∀ j, j ≠ 2 → j ≠ 5 → xI M1 (φ x) j = xI M (φ x) j := fun j a b => by rw [hI, if_neg (fun z => a z.2), if_neg (fun z => b z.2)]
    refine ⟨⟨⟨⟨by rw [s1]; exact b1.1, by rw [s2]; exact b1.2⟩, by rw [hR0 _ _ (by decide) (by decide)]; exact b1b, ⟨by rw [s1]; exact b1c.1, by rw [s2]; exact b1c.2⟩, by rw [s3]; exact b1d⟩, ⟨by rw [hI0 _ (by decide) (by decide)]; exact b2, fun i hi2 => by rw [hI, if_neg (fun z => hψp z.1), if_neg (fun z => hψp z.1)]; exact b2b i hi2⟩, ⟨?_, by rw [hI0 _ (by decide) (by decide)]; exact i3, by rw [s4]; exact i4, ?_, by rw [hI0 _ (by decide) (by decide)]; exact i6, by rw [hI0 _ (by decide) (by decide)]; exact i7, by rw [hI0 _ (by decide) (by decide)]; exact i8⟩, by rw [hR0 _ _ (by decide) (by decide)]; exact b4⟩, ?_⟩
    · show xI M1 (φ x) 2 = nI (va_up (tF T) p (fShrink (tF T p) ((tC T p).length - 1)) x)
      by_cases hxp : x = p
      · rw [hxp, va_up_self, hI, if_pos ⟨rfl, rfl⟩]
      · rw [va_up_ne _ _ hxp, hI, if_neg (fun z => hxp (hi x p hxu p1 z.1)), if_neg (fun z => absurd z.2 (by decide))]; exact i2
    · by_cases hxp : x = p
      · rw [hxp, hCp, hI, if_neg (fun z => absurd z.2 (by decide)), if_pos ⟨rfl, rfl⟩, hlen]
      · have e : tC (tDel T n p) x = tC T x := va_up_ne _ _ hxp
        rw [e, hI, if_neg (fun z => absurd z.2 (by decide)), if_neg (fun z => hxp (hi x p hxu p1 z.1))]; exact i5
    · by_cases hxp : x = p
      · subst hxp
        rw [hCp, List.map_append]
        have hch : chS M (xR M (φ x) 10) (l1.map φ ++ φ n :: l2.map φ) := by
          have := b5
          rw [hl, List.map_append, List.map_cons] at this
          exact this
        have htl := (chS_app hch).2
        have hhd := chS_head htl
        have htail : chS M1 (l2.map φ).head? (l2.map φ) := by
          rw [hhd] at htl
          refine chS_fr htl (fun a ha => ?_)
          obtain ⟨y, hy, rfl⟩ := List.mem_map.mp ha
          exact hR11 y (hCu x hxu y (by rw [hl]; exact List.mem_append_right _ (List.mem_cons_of_mem _ hy))) (fun z => hd2.2.2 y z y (List.mem_cons_of_mem _ hy) rfl)
        have hnd1 : (l1.map φ).Nodup := List.pairwise_map.mpr (hd2.1.imp_of_mem (fun {a b} ha hb hne e => hne (hi a b (hlu a ha).1 (hlu b hb).1 e)))
        have := chS_relink htail (l1.map φ) (xR M (φ x) 10) hch hnd1 (fun a ha => by
          rw [hR, if_neg (fun z => absurd z.2.2 (by decide))]
          by_cases hz : (l1.map φ).getLast? = some a
          · rw [if_pos ⟨hz, rfl⟩, if_pos hz]
          · rw [if_neg (fun z => hz z.1), if_neg hz])
        have he : xR M1 (φ x) 10 = if (l1.map φ).getLast? = none then (l2.map φ).head? else xR M (φ x) 10 := by
          rw [hR]
          by_cases hz : (l1.map φ).getLast? = none
          · rw [if_pos ⟨hz, rfl, rfl⟩, if_pos hz]
          · rw [if_neg (fun z => hz z.1), if_neg (fun z => absurd z.2 (by decide)), if_neg hz]
        rw [he]; exact this
      · have e : tC (tDel T n p) x = tC T x := va_up_ne _ _ hxp
        rw [e]
        have he : xR M1 (φ x) 10 = xR M (φ x) 10 := by
          rw [hR, if_neg (fun z => hxp (hi x p hxu p1 z.2.1)), if_neg (fun z => absurd z.2 (by decide))]
        rw [he]
        refine chS_fr b5 (fun a ha => ?_)
        obtain ⟨y, hy, rfl⟩ := List.mem_map.mp ha
        have hyy := hW.2.2.2.2.1 x y hxu hy
        exact hR11 y hyy.1 (fun z => by have := (hlu y z).2; rw [hyy.2] at this; exact hxp (Option.some.inj this))
  · show xR M1 (φ (tO T)) 11 = none
    rw [hR11 _ hW.1.1 (fun z => by have := (hlu _ z).2; rw [hW.1.2.1] at this; cases this)]
    exact h.2
theorem jn_c (hW : tWF T) (hi : cInj φ T) (h : cNc M φ ψ T) {u c : Nat} (hu : tU T u = true) (hc : tC T u = [c]) (hψ : ∀ x, tU T x = true → x ≠ c → ψ (φ x) ≠ ψ (φ c)) {M1 M4 : xM} (hy : yieldP M M1 (φ u) (φ c) (tW φ T u))
    (hS : xL M4 = xL M ∧ xK M4 = xK M ∧ xN M4 = xN M ∧ xJ M4 = xJ M) (hI : ∀ x j, x ≠ ψ (φ c) → xI M4 x j = if x = φ c ∧ j = 1 then nI (tX T u ++ tB T c :: tX T c).length else if x = φ c ∧ j = 6 then xI M (φ u) 6 else xI M x j)
    (hψI : ∀ i, i < (tX T u ++ tB T c :: tX T c).length → xI M4 (ψ (φ c)) i = nI ((tX T u ++ tB T c :: tX T c).getD i 0)) (hR : xR M4 = xR M1) : cNc M4 φ ψ (tJn T u c) := by
  obtain ⟨s1, s2, s3, s4⟩ := hS
  have hcm : c ∈ tC T u := by rw [hc]; exact List.mem_cons_self
  obtain ⟨hcu, hcp⟩ := hW.2.2.2.2.1 u c hu hcm
  have hcl := (hW.2.2.2.1 c u hcu hcp).2.2
  have huc : u ≠ c := fun z => by rw [z] at hcl; omega
  have hpar : ∀ p, tP T u = some p → tU T p = true ∧ p ≠ c ∧ p ≠ u ∧ c ∉ tC T p := fun p hp => by
    obtain ⟨p1, p2, p3⟩ := hW.2.2.2.1 u p hu hp
    have hpu : p ≠ u := fun z => by rw [z] at p3; omega
    refine ⟨p1, fun z => by rw [z] at p3; omega, hpu, fun z => ?_⟩
    have := (hW.2.2.2.2.1 p c p1 z).2
    rw [hcp] at this
    exact hpu (Option.some.inj this).symm
  have hφ : ∀ x, tU T x = true → x ≠ c → φ x ≠ φ c := fun x hx hne z => hne (hi x c hx hcu z)
  have hCu : ∀ n, tU T n = true → ∀ x ∈ tC T n, tU T x = true := fun n hn2 x hx => (hW.2.2.2.2.1 n x hn2 hx).1
  obtain ⟨y1, y2, y3, y4, y5⟩ := yield_T hW hi h hu (Ne.symm (hφ u hu huc)) (fun p hp => ⟨Ne.symm (hφ p (hpar p hp).1 (hpar p hp).2.1), fun y hy2 => hφ y (hCu p (hpar p hp).1 y hy2) (fun z => (hpar p hp).2.2.2 (z ▸ hy2))⟩) hy
  have hcb := (h.1 c hcu).1
  have hub := (h.1 u hu).1
  have hat : ∀ x k, xat M x k → xat M4 x k := fun x k z => ⟨by rw [s1]; exact z.1, by rw [s2]; exact z.2⟩
  -- the next of a child of x, when u is not below x
  have h11 : ∀ x y, tU T x = true → x ≠ u → tP T u ≠ some x → y ∈ tC T x → xR M4 (φ y) 11 = xR M (φ y) 11 := fun x y hx hxu hne hy2 => by
    obtain ⟨hyu, hyp⟩ := hW.2.2.2.2.1 x y hx hy2
    rw [hR]
    refine y4 _ (hφ y hyu (fun z => by rw [z, hcp] at hyp; exact hxu (Option.some.inj hyp).symm)) (fun p hp z => ?_)
    obtain ⟨w, hw, e⟩ := List.mem_map.mp z
    have e2 := hi w y (hCu p (hpar p hp).1 w hw) hyu e
    have hwp := (hW.2.2.2.2.1 p w (hpar p hp).1 hw).2
    rw [e2, hyp] at hwp
    exact hne (by rw [hp, Option.some.inj hwp])
  refine ⟨fun x hx => ?_, ?_⟩
  · have hx1 : va_up (tU T) u false x = true := hx
    have hxu : x ≠ u := fun z => by rw [z, va_up_self] at hx1; cases hx1
    have hxt := used_ne hx1 hxu
    obtain ⟨⟨⟨b1, b1b, b1c, b1d⟩, ⟨b2, b2b⟩, ⟨i2, i3, i4, i5, i6, i7, i8⟩, b4⟩, b5⟩ := h.1 x hxt
    have hxψ : φ x ≠ ψ (φ c) := ne_of_kind b1.2 hcb.1.2.2.1.2 (by decide)
    have eC : tC (tJn T u c) x = if tP T u = some x then lRep u c (tC T x) else tC T x := rfl
    have eCl : (tC (tJn T u c) x).length = (tC T x).length := by
      rw [eC]; split
      · exact lRep_len _ _ _
      · rfl
    have eV : tV (tJn T u c) x = tV T x := rfl
    have eF : tF (tJn T u c) x = tF T x := rfl
    have eG : tG (tJn T u c) x = tG T x := rfl
    have eR : tR (tJn T u c) x = tR T x := rfl
    have hI0 : ∀ j, j ≠ 1 → j ≠ 6 → xI M4 (φ x) j = xI M (φ x) j := fun j a b => by
      rw [hI _ _ hxψ, if_neg (fun z => a z.2), if_neg (fun z => b z.2)]
    by_cases hxc : x = c
    · subst hxc
      have eX : tX (tJn T u x) x = tX T u ++ tB T x :: tX T x := va_up_self _ _ _
      have eB : tB (tJn T u x) x = tB T u := va_up_self _ _ _
      have eP : tP (tJn T u x) x = tP T u := va_up_self _ _ _
      have eN : tP T u ≠ some x := fun z => (hpar x z).2.1 rfl
      refine ⟨?_, ?_⟩
      · unfold cB
        rw [eX, eV, eF, eCl, eB, eG, eR, eP]
        refine ⟨⟨hat _ _ b1, ?_, hat _ _ b1c, by rw [s3]; exact b1d⟩, ⟨?_, hψI⟩, ⟨by rw [hI0 2 (by decide) (by decide)]; exact i2, by rw [hI0 3 (by decide) (by decide)]; exact i3, by rw [s4]; exact i4, by rw [hI0 5 (by decide) (by decide)]; exact i5, ?_, by rw [hI0 7 (by decide) (by decide)]; exact i7, by rw [hI0 8 (by decide) (by decide)]; exact i8⟩, ?_⟩
        · rw [hR, y2, if_neg (by decide), if_neg (by decide)]; exact b1b
        · rw [hI _ _ hxψ, if_pos ⟨rfl, rfl⟩]
        · rw [hI _ _ hxψ, if_neg (fun z => absurd z.2 (by decide)), if_pos ⟨rfl, rfl⟩]; exact hub.2.2.1.2.2.2.2.1
        · rw [hR, y2, if_neg (by decide), if_pos rfl]; exact hub.2.2.2
      · rw [eC, if_neg eN, hR, y2, if_neg (by decide), if_neg (by decide)]
        refine chS_fr b5 (fun a ha => ?_)
        obtain ⟨y, hy2, rfl⟩ := List.mem_map.mp ha
        exact h11 x y hxt hxu eN hy2
    · have hne := hφ x hxt hxc
      have eX : tX (tJn T u c) x = tX T x := va_up_ne _ _ hxc
      have eB : tB (tJn T u c) x = tB T x := va_up_ne _ _ hxc
      have eP : tP (tJn T u c) x = tP T x := va_up_ne _ _ hxc
      have hI1 : ∀ j, xI M4 (φ x) j = xI M (φ x) j := fun j => by
        rw [hI _ _ hxψ, if_neg (fun z => hne z.1), if_neg (fun z => hne z.1)]
      refine ⟨?_, ?_⟩
      · unfold cB
        rw [eX, eV, eF, eCl, eB, eG, eR, eP]
        refine ⟨⟨hat _ _ b1, by rw [hR, y1 _ _ hne (by decide) (by decide)]; exact b1b, hat _ _ b1c, by rw [s3]; exact b1d⟩, ⟨by rw [hI1]; exact b2, fun i hi2 => ?_⟩, ⟨by rw [hI1]; exact i2, by rw [hI1]; exact i3, by rw [s4]; exact i4, by rw [hI1]; exact i5, by rw [hI1]; exact i6, by rw [hI1]; exact i7, by rw [hI1]; exact i8⟩, by rw [hR, y1 _ _ hne (by decide) (by decide)]; exact b4⟩
        have hn2 : ψ (φ x) ≠ φ c := ne_of_kind b1c.2 hcb.1.1.2 (by decide)
        rw [hI _ _ (hψ x hxt hxc), if_neg (fun z => hn2 z.1), if_neg (fun z => hn2 z.1)]
        exact b2b i hi2
      · by_cases hpx : tP T u = some x
        · rw [eC, if_pos hpx, hR]
          have := y5 x hpx
          have e : (lRep u c (tC T x)).map φ = (lRep u (220 + u) (tC T x)).map (va_up φ (220 + u) (φ c)) := by
            rw [lRep_map, lRep_map]
            refine List.map_congr_left (fun y hy2 => ?_)
            have hy3 : y ≠ 220 + u := fun z => by have := (hW.2.1 y (hCu x hxt y hy2)).1; omega
            rw [va_up_self, va_up_ne _ _ hy3]
          rw [e]
          exact chS_fr this (fun a _ => by rw [hR])
        · rw [eC, if_neg hpx, hR, y3 _ hne (fun p hp z => hpx (by rw [hi x p hxt (hpar p hp).1 z]; exact hp))]
          refine chS_fr b5 (fun a ha => ?_)
          obtain ⟨y, hy2, rfl⟩ := List.mem_map.mp ha
          exact h11 x y hxt hxu hpx hy2
  · show xR M4 (φ (if u = tO T then c else tO T)) 11 = none
    by_cases huo : u = tO T
    · rw [if_pos huo, hR, y2, if_pos rfl, huo]; exact h.2
    · rw [if_neg huo, hR]
      have hoc : tO T ≠ c := fun z => by rw [← z, hW.1.2.1] at hcp; cases hcp
      rw [y4 _ (hφ _ hW.1.1 hoc) (fun p hp z => ?_)]
      · exact h.2
      · obtain ⟨w, hw, e⟩ := List.mem_map.mp z
        have e2 := hi w _ (hCu p (hpar p hp).1 w hw) hW.1.1 e
        have := (hW.2.2.2.2.1 p w (hpar p hp).1 hw).2
        rw [e2, hW.1.2.1] at this; cases this
end RM
