/-! loadNode. -/
section LN3
variable {l : Launch} {g : xG} {M : xM} {Q : Option Value → xM → Prop} {ψ : Nat → Nat} {t r a F nd ky L : Nat} {v : Option Int64} {X KK sp : List Nat} {s d db w rb w2 rb2 ta tr : Nat} {D : Nat → Nat} {pw : Option Nat} {tk : Nat → Bool} {f : Nat → Nat} {par : Bool}
theorem own_keep {M1 : xM} (h : tl0 M t KK ψ r sp nd ky) (ha : a ∈ KK) (hs : sto M s d db w rb w2 rb2 ta D pw tr tk) (hr : rwR M w rb f) (hx : xag (fun x => x = t ∨ x = a ∨ x = ψ a) M M1) : sto M1 s d db w rb w2 rb2 ta D pw tr tk ∧ rwR M1 w rb f := by
  have hG : xag (RG t KK ψ) M M1 := hx.mono (fun x z => by
    rcases z with z | z | z
    · rw [z]; exact RGt
    · rw [z]; exact RGk ha
    · rw [z]; exact RGp ha)
  obtain ⟨⟨a1, a2, a3, a4, a5⟩, b, ⟨f1, c1⟩, ⟨f2, c2⟩, ⟨e1, e2, e3⟩, g1⟩ := id hs
  exact ⟨hs.ag hG (tl_RG h a1 (by decide) (by decide) (by decide)) (tl_RG h b.1.1 (by decide) (by decide) (by decide)) (tl_RG h b.1.2.2.1 (by decide) (by decide) (by decide)) (tl_RG h c1.1.2.2.1 (by decide) (by decide) (by decide)) (tl_RG h c2.1.2.2.1 (by decide) (by decide) (by decide)) (tl_RG h e1 (by decide) (by decide) (by decide)), hr.ag hG (tl_RG h hr.1.2.2.1 (by decide) (by decide) (by decide))⟩
theorem own_RL {M1 : xM} (hx : xag (fun x => x = t ∨ x = a ∨ x = ψ a) M M1) : xag (RLd t a (ψ a) sp ta rb rb2) M M1 := hx.mono (fun x z => by
  rcases z with z | z | z
  · exact Or.inl z
  · exact Or.inr (Or.inl z)
  · exact Or.inr (Or.inr (Or.inl z)))
theorem pgX_take {i : Nat} (hi : i < f 10) : (pgX f).take (i + 1) = (pgX f).take i ++ [f (11 + i)] ∧ ((pgX f).take i).length = i := by
  have hl : (pgX f).length = f 10 := by unfold pgX; rw [List.length_map, List.length_range]
  have hg : (pgX f)[i]? = some (f (11 + i)) := by
    unfold pgX
    rw [List.getElem?_map, List.getElem?_range hi]; rfl
  exact ⟨by rw [List.take_add_one, hg]; rfl, by rw [List.length_take]; omega⟩
theorem pgX_lt (hf : ∀ i, f i < 256) (k : Nat) : ∀ b ∈ (pgX f).take k, b < 256 := fun b hb => by
  obtain ⟨i, _, e⟩ := List.mem_map.mp (List.mem_of_mem_take hb)
  rw [← e]; exact hf _
theorem loadPfx {M0 : xM} (hF : 1 ≤ f 0 ∧ f 0 ≤ 4) (h23 : f 23 ≤ fRoom (f 0)) (hL : L + f 10 ≤ 12) (hf : ∀ i, f i < 256) (hky : ky < 2 ^ 30)
    (hfail : ¬ okP f L nd tk par → ∀ M1 tk1, sto M1 s d db w rb w2 rb2 ta D pw tr tk1 → xag (RLd t a (ψ a) sp ta rb rb2) M0 M1 → xR M1 t 2 = some r → Q (some (.int 0)) M1)
    (hok : okP f L nd tk par → ∀ M1 qs sp1 nd1 tk1, qs.map (fun q => q.2) = pgC f → acc nd tk none (pgC f) = some tk1 → hgS M1 t KK ψ r a (f 0) (pgV f) (pgX f) qs sp1 nd1 (if (pgV f).isSome = true then ky + 1 else ky) → sto M1 s d db w rb w2 rb2 ta D pw tr tk1 → xag (RLd t a (ψ a) sp ta rb rb2) M0 M1 → aFc M0 M1 a → hgO sp nd qs sp1 nd1 → Q (some (.int 1)) M1) :
    ∀ (dd i : Nat) (M1 : xM), f 10 = i + dd → hgS M1 t KK ψ r a (f 0) none ((pgX f).take i) [] sp nd ky → sto M1 s d db w rb w2 rb2 ta D pw tr tk → rwR M1 w rb f → (xR M1 a 9 = none ↔ par = false) → xag (RLd t a (ψ a) sp ta rb rb2) M0 M1 → aFc M0 M1 a → xWp l g mX6_loadNode 0 0 86 [(1, va_rf (some s)), (1, va_rf (some a)), (1, va_rf (some t)), (1, .int (nI (fRoom (f 0)))), (1, .int (nI (f 10))), (1, .int (nI i))] [] (0, 0) M1 Q
  | 0, i, M1, hd, h, hs, hr, hpar, hx, hfc => by
    have hi : i = f 10 := by omega
    subst hi
    have hXl : (pgX f).length = f 10 := by unfold pgX; rw [List.length_map, List.length_range]
    rw [List.take_of_length_le (by omega)] at h
    have hta : t ≠ a := ne_of_kind h.1.1.1.2 h.2.1.1.1.2 (by decide)
    have hpt : ψ a ≠ t := ne_of_kind h.2.1.1.2.2.1.2 h.1.1.1.2 (by decide)
    have hpa : ψ a ≠ a := ne_of_kind h.2.1.1.2.2.1.2 h.2.1.1.1.2 (by decide)
    refine bX6_loadNode_86 _ _ _ _ _ _ ⟨fun _ => ⟨hs.1.1, w, hs.1.2.2.1, hr.1.1, ?_⟩, fun c => absurd (Int32.le_refl _) c⟩
    rw [hs.1.2.2.1]
    have hf1 := hf 1
    refine sX5_at (i := 1) hr (by omega) ⟨_, rfl, fun c => ⟨a, rfl, h.2.1.1.1, ?_⟩, fun c => ⟨hs.1.1, w, hs.1.2.2.1, hr.1.1, ?_⟩⟩
    · have k1 : f 1 ≠ 1 := nne c rfl (b := 1) rfl
      have eV : pgV f = none := by unfold pgV; rw [if_neg k1]
      rw [eV] at hok
      rw [if_neg (show ¬ (none : Option Int64).isSome = true from by decide)] at hok
      exact loadHang hF h23 hL hf (by rw [eV]; exact h) hs hr hpar hx hfc hfail (by rw [eV]; exact hok)
    · have k1 : f 1 = 1 := neq c rfl (b := 1) rfl
      have eV : pgV f = some (lNm f 2 8) := by unfold pgV; rw [if_pos k1]
      rw [eV] at hok
      rw [if_pos (show (some (lNm f 2 8)).isSome = true from rfl)] at hok
      rw [hs.1.2.2.1]
      refine sX5_longAt (i := 2) hr (by omega) ⟨_, rfl, a, rfl, h.2.1.1.1, sX3_setValue h.2.1.1.1 ⟨rfl, t, rfl, h.1.1.1, h.2.1.1.1, ?_⟩⟩
      have e4 : xI (xsJ (xsI M1 a 3 1) a 4 (lNm f 2 8)) t 4 = nI ky := by rw [xI_sJ, xI_sI, if_neg (fun z => hta z.1)]; exact h.1.1.2.2.2
      rw [e4, nI_1]
      have hx2 : xag (fun x => x = t ∨ x = a ∨ x = ψ a) M1 (xsI (xsJ (xsI M1 a 3 1) a 4 (lNm f 2 8)) t 4 (nI (ky + 1))) := (xag_I (P := fun x => x = t ∨ x = a ∨ x = ψ a) _ (Or.inr (Or.inl rfl))).trans ((xag_J (P := fun x => x = t ∨ x = a ∨ x = ψ a) _ (Or.inr (Or.inl rfl))).trans (xag_I (P := fun x => x = t ∨ x = a ∨ x = ψ a) _ (Or.inl rfl)))
      have gI : ∀ x j, xI (xsI (xsJ (xsI M1 a 3 1) a 4 (lNm f 2 8)) t 4 (nI (ky + 1))) x j = if x = t ∧ j = 4 then nI (ky + 1) else if x = a ∧ j = 3 then 1 else xI M1 x j := fun x j => by rw [xI_sI, xI_sJ, xI_sI]
      have gR : ∀ x j, xR (xsI (xsJ (xsI M1 a 3 1) a 4 (lNm f 2 8)) t 4 (nI (ky + 1))) x j = xR M1 x j := fun x j => rfl
      have gJ : xJ (xsI (xsJ (xsI M1 a 3 1) a 4 (lNm f 2 8)) t 4 (nI (ky + 1))) a 4 = lNm f 2 8 := by rw [xJ_sI, xJ_sJ, if_pos ⟨rfl, rfl⟩]
      generalize xsI (xsJ (xsI M1 a 3 1) a 4 (lNm f 2 8)) t 4 (nI (ky + 1)) = M2 at *
      obtain ⟨⟨n1, n2, n3, n4⟩, ⟨m1, m2⟩, ⟨i2, i3, i4, i5⟩, ch, hch, x12, x256⟩ := id h.2.1
      have h2 : hgS M2 t KK ψ r a (f 0) (some (lNm f 2 8)) (pgX f) [] sp nd (ky + 1) := by
        refine h.own hx2 ⟨gR _ _, gR _ _, by rw [gI, if_neg (fun z => absurd z.2 (by decide)), if_neg (fun z => hta z.1)], by rw [gI, if_pos ⟨rfl, rfl⟩]⟩ ⟨by rw [gI, if_neg (fun z => absurd z.2 (by decide)), if_neg (fun z => absurd z.2 (by decide))]; exact m1, fun i hi => by rw [gI, if_neg (fun z => hpt z.1), if_neg (fun z => hpa z.1)]; exact m2 i hi, by rw [gI, if_neg (fun z => absurd z.2 (by decide)), if_neg (fun z => absurd z.2 (by decide))]; exact i2, by rw [gI, if_neg (fun z => absurd z.2 (by decide)), if_pos ⟨rfl, rfl⟩]; rfl, gJ, by rw [gI, if_neg (fun z => absurd z.2 (by decide)), if_neg (fun z => absurd z.2 (by decide))], gR _ _⟩ ⟨x12, x256⟩
      obtain ⟨s2, r2⟩ := own_keep h.1 h.2.2.2.2.1 hs hr hx2
      have fc2 : aFc M1 M2 a := ⟨fun j j1 j2 => by rw [gI, if_neg (fun z => hta z.1.symm), if_neg (fun z => by omega)], gR _ _, gR _ _⟩
      exact loadHang hF h23 hL hf (by rw [eV]; exact h2) s2 r2 (by rw [gR]; exact hpar) (hx.trans (own_RL hx2)) (hfc.trans fc2) hfail (by rw [eV]; exact hok)
  | dd + 1, i, M1, hd, h, hs, hr, hpar, hx, hfc => by
    have hta : t ≠ a := ne_of_kind h.1.1.1.2 h.2.1.1.1.2 (by decide)
    have hpt : ψ a ≠ t := ne_of_kind h.2.1.1.2.2.1.2 h.1.1.1.2 (by decide)
    have hpa : ψ a ≠ a := ne_of_kind h.2.1.1.2.2.1.2 h.2.1.1.1.2 (by decide)
    obtain ⟨et, el⟩ := pgX_take (f := f) (i := i) (by omega)
    refine bX6_loadNode_86 _ _ _ _ _ _ ⟨fun c => ?_, fun _ => ⟨hs.1.1, w, hs.1.2.2.1, hr.1.1, ?_⟩⟩
    · exfalso
      have h10 := hf 10
      have := nle c rfl rfl
      omega
    rw [hs.1.2.2.1, show (11 : Int32) = nI 11 from rfl, nI_add]
    refine sX5_at hr (by omega) ⟨_, rfl, a, rfl, h.2.1.1.1, ?_⟩
    obtain ⟨⟨n1, n2, n3, n4⟩, ⟨m1, m2⟩, ⟨i2, i3, i4, i5⟩, ch, hch, x12, x256⟩ := id h.2.1
    rw [el] at m1
    refine sX3_appendToPrefix (k := i) n1 n2 n3 n4 m1 (by omega) ⟨rfl, ?_⟩
    rw [nI_1]
    have hx2 : xag (fun x => x = t ∨ x = a ∨ x = ψ a) M1 (xsI (xsI M1 (ψ a) i (nI (f (11 + i)))) a 1 (nI (i + 1))) := (xag_I (P := fun x => x = t ∨ x = a ∨ x = ψ a) _ (Or.inr (Or.inr rfl))).trans (xag_I (P := fun x => x = t ∨ x = a ∨ x = ψ a) _ (Or.inr (Or.inl rfl)))
    have gI : ∀ x j, xI (xsI (xsI M1 (ψ a) i (nI (f (11 + i)))) a 1 (nI (i + 1))) x j = if x = a ∧ j = 1 then nI (i + 1) else if x = ψ a ∧ j = i then nI (f (11 + i)) else xI M1 x j := fun x j => by rw [xI_sI, xI_sI]
    have gR : ∀ x j, xR (xsI (xsI M1 (ψ a) i (nI (f (11 + i)))) a 1 (nI (i + 1))) x j = xR M1 x j := fun x j => rfl
    have gJ : ∀ x j, xJ (xsI (xsI M1 (ψ a) i (nI (f (11 + i)))) a 1 (nI (i + 1))) x j = xJ M1 x j := fun x j => rfl
    generalize xsI (xsI M1 (ψ a) i (nI (f (11 + i)))) a 1 (nI (i + 1)) = M2 at *
    have hIa : ∀ j, j ≠ 1 → xI M2 a j = xI M1 a j := fun j hj => by rw [gI, if_neg (fun z => hj z.2), if_neg (fun z => hpa z.1.symm)]
    have hIt : ∀ j, xI M2 t j = xI M1 t j := fun j => by rw [gI, if_neg (fun z => hta z.1), if_neg (fun z => hpt z.1.symm)]
    have el2 : ((pgX f).take (i + 1)).length = i + 1 := by rw [et, List.length_append, el]; rfl
    have h2 : hgS M2 t KK ψ r a (f 0) none ((pgX f).take (i + 1)) [] sp nd ky := by
      refine h.own hx2 ⟨gR _ _, gR _ _, hIt 3, by rw [hIt]; exact h.1.1.2.2.2⟩ ⟨by rw [gI, if_pos ⟨rfl, rfl⟩, el2], fun j hj => ?_, by rw [hIa 2 (by decide)]; exact i2, by rw [hIa 3 (by decide)]; exact i3, by rw [gJ]; exact i4, hIa 5 (by decide), gR _ _⟩ ⟨by rw [el2]; omega, pgX_lt hf _⟩
      rw [el2] at hj
      rw [gI, if_neg (fun z => hpa z.1), et, getD_app, el]
      by_cases hji : j = i
      · rw [if_pos ⟨rfl, hji⟩, if_neg (by omega), hji, Nat.sub_self]; rfl
      · rw [if_neg (fun z => hji z.2), if_pos (by omega)]
        exact m2 j (by rw [el]; omega)
    obtain ⟨s2, r2⟩ := own_keep h.1 h.2.2.2.2.1 hs hr hx2
    have fc2 : aFc M1 M2 a := ⟨fun j j1 j2 => hIa j (by omega), gR _ _, gR _ _⟩
    exact loadPfx hF h23 hL hf hky hfail hok dd (i + 1) M2 (by omega) h2 s2 r2 (by rw [gR]; exact hpar) (hx.trans (own_RL hx2)) (hfc.trans fc2)
theorem sX6_loadNode {pg : Nat} (hpg256 : pg < 256) (hL100 : L ≤ 100) (hky : ky < 2 ^ 30) (h : hgS M t KK ψ r a 1 none [] [] sp nd ky) (hs : sto M s d db w rb w2 rb2 ta D pw tr tk) (hpg : xI M a 7 = nI pg) (hpar : xR M a 9 = none ↔ par = false)
    (hlead : ∀ M1, (∀ x, xat M x 1 → xat M1 x 1 ∧ xI M1 x 1 = xI M x 1 ∧ xR M1 x 9 = xR M x 9) → ∀ {Q1 : Option Value → xM → Prop}, Q1 (some (.int (nI L))) M1 → xSp l g mX3_lead 0 0 [va_rf (some a)] M1 Q1)
    (hfail : ¬ okP (fun i => D (512 * pg + i)) L nd tk par → ∀ M1 tk1, sto M1 s d db w rb w2 rb2 ta D pw tr tk1 → xag (RLd t a (ψ a) sp ta rb rb2) M M1 → xR M1 t 2 = some r → Q (some (.int 0)) M1)
    (hok : okP (fun i => D (512 * pg + i)) L nd tk par → ∀ M1 qs sp1 nd1 tk1, qs.map (fun q => q.2) = pgC (fun i => D (512 * pg + i)) → acc nd tk none (pgC (fun i => D (512 * pg + i))) = some tk1 → hgS M1 t KK ψ r a (D (512 * pg)) (pgV (fun i => D (512 * pg + i))) (pgX (fun i => D (512 * pg + i))) qs sp1 nd1 (if (pgV (fun i => D (512 * pg + i))).isSome = true then ky + 1 else ky) → sto M1 s d db w rb w2 rb2 ta D pw tr tk1 → xag (RLd t a (ψ a) sp ta rb rb2) M M1 → aFc M M1 a → hgO sp nd qs sp1 nd1 → Q (some (.int 1)) M1) : xSp l g mX6_loadNode 0 0 [va_rf (some s), va_rf (some a), va_rf (some t)] M Q := by
  have hf : ∀ i, (fun i => D (512 * pg + i)) i < 256 := fun i => hs.2.1.2.2.1 _
  have e00 : D (512 * pg) = (fun i => D (512 * pg + i)) 0 := rfl
  rw [e00] at hok
  obtain ⟨f0, hf0⟩ := hs.2.2.1
  refine eX6_loadNode _ _ _ (bX6_loadNode_0 _ _ _ ⟨hs.1.1, a, rfl, h.2.1.1.1, d, hs.1.2.1, hs.2.1.1.1, ?_⟩)
  rw [hs.1.2.1, hpg, hs.1.2.2.1]
  refine sX0_read hs.2.1 hf0 hpg256 (fun M1 r1 x1 => ⟨rfl, ?_⟩)
  generalize (fun i => D (512 * pg + i)) = f at *
  have s1 := hs.rw1 x1 r1
  have hnorb : ∀ x, RG t KK ψ x → ¬ x = rb := fun x hx2 z => tl_RG h.1 hf0.1.2.2.1 (by decide) (by decide) (by decide) (z ▸ hx2)
  have h1 := h.ag x1 hnorb
  have haK := h.2.2.2.2.1
  refine ⟨s1.1.1, w, s1.1.2.2.1, r1.1.1, ?_⟩
  rw [s1.1.2.2.1]
  have h0 := hf 0
  have h10 := hf 10
  have h23 := hf 23
  refine sX5_at (i := 0) r1 (by omega) ⟨_, rfl, h1.2.1.1.1, ?_⟩
  have hta : t ≠ a := ne_of_kind h1.1.1.1.2 h1.2.1.1.1.2 (by decide)
  have hpa : ψ a ≠ a := ne_of_kind h1.2.1.1.2.2.1.2 h1.2.1.1.1.2 (by decide)
  have hx2 : xag (fun x => x = t ∨ x = a ∨ x = ψ a) M1 (xsI M1 a 2 (nI (f 0))) := xag_I _ (Or.inr (Or.inl rfl))
  have gI : ∀ x j, xI (xsI M1 a 2 (nI (f 0))) x j = if x = a ∧ j = 2 then nI (f 0) else xI M1 x j := fun x j => xI_sI ..
  have gR : ∀ x j, xR (xsI M1 a 2 (nI (f 0))) x j = xR M1 x j := fun x j => rfl
  have gJ : ∀ x j, xJ (xsI M1 a 2 (nI (f 0))) x j = xJ M1 x j := fun x j => rfl
  generalize xsI M1 a 2 (nI (f 0)) = M2 at *
  have hIa : ∀ j, j ≠ 2 → xI M2 a j = xI M1 a j := fun j hj => by rw [gI, if_neg (fun z => hj z.2)]
  have e2 : xI M2 a 2 = nI (f 0) := by rw [gI, if_pos ⟨rfl, rfl⟩]
  obtain ⟨⟨n1, n2, n3, n4⟩, ⟨m1, m2⟩, ⟨i2, i3, i4, i5⟩, ch, hch, x12, x256⟩ := id h1.2.1
  have h2 : hgS M2 t KK ψ r a (f 0) none [] [] sp nd ky := by
    refine h1.own hx2 ⟨gR _ _, gR _ _, by rw [gI, if_neg (fun z => hta z.1)], by rw [gI, if_neg (fun z => hta z.1)]; exact h1.1.1.2.2.2⟩ ⟨by rw [hIa 1 (by decide)]; exact m1, fun j hj => absurd hj (by simp), e2, by rw [hIa 3 (by decide)]; exact i3, by rw [gJ]; exact i4, hIa 5 (by decide), gR _ _⟩ ⟨x12, x256⟩
  obtain ⟨s2, r2⟩ := own_keep h1.1 haK s1 r1 hx2
  have hxm : xag (RLd t a (ψ a) sp ta rb rb2) M M2 := (x1.mono (fun x z => Or.inr (Or.inr (Or.inr (Or.inr (Or.inr (Or.inl z))))))).trans (own_RL hx2)
  have fc2 : aFc M M2 a := (aFc.ag x1 (hnorb a (RGk haK))).trans ⟨fun j j1 j2 => hIa j (by omega), gR _ _, gR _ _⟩
  have hfl : ¬ okP f L nd tk par → Q (some (.int 0)) M2 := fun z => hfail z M2 tk s2 hxm h2.1.1.2.1
  rw [e2]
  refine sX1_most h0 ⟨_, rfl, s2.1.1, w, s2.1.2.2.1, r2.1.1, ?_⟩
  rw [s2.1.2.2.1]
  refine sX5_at (i := 10) r2 (by omega) ⟨_, rfl, h2.2.1.1.1, ?_⟩
  rw [e2]
  refine sX1_is h0 ⟨_, rfl, fun c => ?_, fun c => ⟨s2.1.1, w, s2.1.2.2.1, r2.1.1, ?_⟩⟩
  · exact hfl (fun ok => by rw [if_pos ok.1] at c; exact absurd c (by decide))
  have hF : 1 ≤ f 0 ∧ f 0 ≤ 4 := Classical.byContradiction (fun z => c (by rw [if_neg z]))
  rw [if_pos hF, s2.1.2.2.1]
  have hroom := fRoom_le (f 0)
  refine sX5_at (i := 23) r2 (by omega) ⟨_, rfl, fun c => ?_, fun c => ⟨h2.2.1.1.1, ?_⟩⟩
  · have k := nlt c rfl rfl
    exact hfl (fun ok => by have := ok.2.1; omega)
  have k23 := nnlt c rfl rfl
  refine hlead M2 (fun x hx => ?_) ⟨_, rfl, fun c => ?_, fun c => ?_⟩
  · have hxr : ¬ x = rb := ne_of_kind hx.2 hf0.1.2.2.1.2 (by decide)
    exact ⟨hx2.at.mpr (x1.at.mpr hx), by rw [gI, if_neg (fun z => absurd z.2 (by decide)), (x1.2 x hxr).1], by rw [gR, (x1.2 x hxr).2.2]⟩
  · rw [nI_add] at c
    have k12 := nle c rfl (b := 12) rfl
    have hpar2 : xR M2 a 9 = none ↔ par = false := by rw [gR, (x1.2 a (hnorb a (RGk haK))).2.2]; exact hpar
    exact loadPfx hF k23 k12 hf hky hfail hok (f 10) 0 M2 (by omega) h2 s2 r2 hpar2 hxm fc2
  · rw [nI_add] at c
    have k12 := nnle c rfl (b := 12) rfl
    exact hfl (fun ok => by have := ok.2.2.1; omega)
end LN3
