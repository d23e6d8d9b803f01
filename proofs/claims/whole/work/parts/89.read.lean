/-! READING A NODE. -/
theorem sX1_most {F : Nat} {l : Launch} {g : xG} {M : xM} {Q : Option Value → xM → Prop} (hF : F < 256) (hQ : Q (some (.int (nI (if 1 ≤ F ∧ F ≤ 4 then fRoom F else 0)))) M) : xSp l g mX1_mostChildren 0 0 [.int (nI F)] M Q := by
  by_cases h : 1 ≤ F ∧ F ≤ 4
  · rw [if_pos h] at hQ; exact sX1_mostChildren h.1 h.2 hQ
  · rw [if_neg h] at hQ
    refine eX1_mostChildren _ (bX1_mostChildren_0 _ ⟨fun _ => hQ, fun c => ⟨fun _ => hQ, fun c2 => ?_⟩⟩)
    exfalso
    have k1 := nnlt c rfl (b := 1) rfl
    have k2 := nnle c2 (a := 5) rfl rfl
    omega
theorem sX1_is {F : Nat} {l : Launch} {g : xG} {M : xM} {Q : Option Value → xM → Prop} (hF : F < 256) (hQ : Q (some (.int (if 1 ≤ F ∧ F ≤ 4 then 1 else 0))) M) : xSp l g mX1_is 0 0 [.int (nI F)] M Q := by
  refine eX1_is _ (bX1_is_0 _ ⟨fun c => ?_, fun c => ⟨fun c2 => ?_, fun c2 => ?_⟩⟩)
  · have k := nlt c rfl (b := 1) rfl
    rw [if_neg (by omega)] at hQ; exact hQ
  · have k := nlt c2 (a := 4) rfl rfl
    rw [if_neg (by omega)] at hQ; exact hQ
  · have k1 := nnlt c rfl (b := 1) rfl
    have k2 := nnlt c2 (a := 4) rfl rfl
    rw [if_pos (by omega)] at hQ; exact hQ
/-- a page is right for a node -/
def okP (f : Nat → Nat) (L nd : Nat) (tk : Nat → Bool) (par : Bool) : Prop :=
  (1 ≤ f 0 ∧ f 0 ≤ 4) ∧ f 23 ≤ fRoom (f 0) ∧ L + f 10 ≤ 12 ∧ (∃ tk1, acc nd tk none (pgC f) = some tk1) ∧ pgV f ≠ some (-9223372036854775808) ∧
  ((pgV f).isSome = true ∨ 2 ≤ (pgC f).length ∨ (par = false ∧ pgC f = [] ∧ f 10 = 0 ∧ f 0 = 1)) ∧ ∀ i, i < 512 → f i = ndF (f 0) (pgV f) (pgX f) (pgC f) i
/-- what changes while a node is read -/
def RLd (t a pa : Nat) (sp0 : List Nat) (ta rb rb2 x : Nat) : Prop := x = t ∨ x = a ∨ x = pa ∨ x ∈ sp0 ∨ x = ta ∨ x = rb ∨ x = rb2
section LN
variable {l : Launch} {g : xG} {M : xM} {Q : Option Value → xM → Prop} {ψ : Nat → Nat} {t r a F nd ky : Nat} {v : Option Int64} {X KK sp sp0 : List Nat} {qs : List (Nat × Nat × Nat)} {s d db w rb w2 rb2 ta tr : Nat} {D : Nat → Nat} {pw : Option Nat} {tk : Nat → Bool} {f : Nat → Nat}
theorem tl0.ag {P : Nat → Prop} {M1 : xM} (h : tl0 M t KK ψ r sp nd ky) (hx : xag P M M1) (hp : ∀ x, RG t KK ψ x → ¬ P x) : tl0 M1 t KK ψ r sp nd ky := by
  obtain ⟨⟨t1, t2, t3, t4⟩, ⟨c1, c2, c3, c4⟩, k1, k2⟩ := h
  obtain ⟨p1, p2, p3⟩ := hx.2 t (hp t RGt)
  refine ⟨⟨hx.at.mpr t1, by rw [p3]; exact t2, by rw [p1]; exact t3, by rw [p1]; exact t4⟩, ⟨?_, c2, c3, c4⟩, fun x hx2 => ?_, k2⟩
  · rw [p3]; exact chS_fr c1 (fun x hx2 => (hx.2 x (hp x (RGk (c3 x hx2)))).2.2 11)
  · obtain ⟨d1, d2, d3, d4⟩ := k1 x hx2
    exact ⟨hx.at.mpr d1, by rw [hx.1.2.2.2]; exact d2, hx.at.mpr d3, by rw [hx.1.2.2.1]; exact d4⟩
theorem hgS.ag {P : Nat → Prop} {M1 : xM} (h : hgS M t KK ψ r a F v X qs sp nd ky) (hx : xag P M M1) (hp : ∀ x, RG t KK ψ x → ¬ P x) : hgS M1 t KK ψ r a F v X qs sp nd ky := by
  obtain ⟨h1, hn, hq, hnd, haK, hasp⟩ := h
  refine ⟨h1.ag hx hp, hn.ag hx (hp a (RGk haK)) (hp _ (RGp haK)) (fun c hc => hp _ (RGk (hq c hc).1)), fun c hc => ?_, hnd, haK, hasp⟩
  obtain ⟨f1, f2, f3, f4⟩ := hq c hc
  obtain ⟨r1, r2, r3⟩ := hx.2 c.1 (hp _ (RGk f1))
  refine ⟨f1, f2, f3, ?_⟩
  simpa only [qN, r1, r2, r3] using f4
/-- changes of the node's own cells, before it has children -/
theorem hgS.own {M1 : xM} {F1 ky1 : Nat} {v1 : Option Int64} {X1 : List Nat} (h : hgS M t KK ψ r a F v X [] sp nd ky) (hx : xag (fun x => x = t ∨ x = a ∨ x = ψ a) M M1) (ht : xR M1 t 1 = xR M t 1 ∧ xR M1 t 2 = xR M t 2 ∧ xI M1 t 3 = xI M t 3 ∧ xI M1 t 4 = nI ky1)
    (ha : xI M1 a 1 = nI X1.length ∧ (∀ i, i < X1.length → xI M1 (ψ a) i = nI (X1.getD i 0)) ∧ xI M1 a 2 = nI F1 ∧ xI M1 a 3 = (if v1.isSome = true then 1 else 0) ∧ xJ M1 a 4 = v1.getD 0 ∧ xI M1 a 5 = xI M a 5 ∧ xR M1 a 10 = xR M a 10) (hX : X1.length ≤ 12 ∧ ∀ b ∈ X1, b < 256) : hgS M1 t KK ψ r a F1 v1 X1 [] sp nd ky1 := by
  obtain ⟨⟨⟨t1, t2, t3, t4⟩, ⟨c1, c2, c3, c4⟩, k1, k2⟩, hn, hq, hnd, haK, hasp⟩ := h
  obtain ⟨⟨n1, n2, n3, n4⟩, ⟨m1, m2⟩, ⟨i2, i3, i4, i5⟩, ch, hch, x12, x256⟩ := hn
  obtain ⟨u1, u2, u3, u4⟩ := ht
  obtain ⟨w1, w2, w3, w4, w5, w6, w7⟩ := ha
  have hD : ∀ x ∈ KK, xat M1 x 1 ∧ xR M1 x 0 = some (ψ x) ∧ xat M1 (ψ x) 9 ∧ xN M1 (ψ x) = 12 := fun x hx2 => by
    obtain ⟨d1, d2, d3, d4⟩ := k1 x hx2
    exact ⟨hx.at.mpr d1, by rw [hx.1.2.2.2]; exact d2, hx.at.mpr d3, by rw [hx.1.2.2.1]; exact d4⟩
  refine ⟨⟨⟨hx.at.mpr t1, by rw [u2]; exact t2, by rw [u3]; exact t3, u4⟩, ⟨?_, c2, c3, c4⟩, hD, k2⟩, ⟨⟨hx.at.mpr n1, by rw [hx.1.2.2.2]; exact n2, hx.at.mpr n3, by rw [hx.1.2.2.1]; exact n4⟩, ⟨w1, w2⟩, ⟨w3, w4, w5, by rw [w6]; exact i5⟩, ?_, fun q hq2 => (by cases hq2), hX.1, hX.2⟩, fun q hq2 => (by cases hq2), hnd, haK, hasp⟩
  · rw [u1]
    refine chS_fr c1 (fun x hx2 => (hx.2 x (fun z => ?_)).2.2 11)
    rcases z with z | z | z
    · exact ne_of_kind (k1 x (c3 x hx2)).1.2 t1.2 (by decide) z
    · exact hasp (z ▸ hx2)
    · exact ne_of_kind (k1 x (c3 x hx2)).1.2 n3.2 (by decide) z
  · show xR M1 a 10 = none
    rw [w7]; exact ch
theorem sX6_hangListed {A0 : Option (Nat → Bool)} (hF1 : 1 ≤ f 0) (hF3 : f 0 < 3) (h23 : f 23 ≤ fRoom (f 0)) (hf : ∀ i, f i < 256) (h : hgS M t KK ψ r a (f 0) v X [] sp nd ky) (hs : sto M s d db w rb w2 rb2 ta D pw tr tk) (hr : rwR M w rb f) (hA : A0 = acc nd tk none (pgL f))
    (hfail : A0 = none → ∀ M1 tk1, sto M1 s d db w rb w2 rb2 ta D pw tr tk1 → rwR M1 w rb f → xag (RH t a sp ta) M M1 → xR M1 t 2 = some r → Q (some (.int 0)) M1)
    (hok : ∀ M1 qs1 sp1 nd1 tk1, qs1.map (fun q => q.2) = pgL f → A0 = some tk1 → hgS M1 t KK ψ r a (f 0) v X qs1 sp1 nd1 ky → sto M1 s d db w rb w2 rb2 ta D pw tr tk1 → rwR M1 w rb f → xag (RH t a sp ta) M M1 → aK M M1 a → hgO sp nd qs1 sp1 nd1 → Q (some (.int 1)) M1) : xSp l g mX6_hangListed 0 0 [va_rf (some s), va_rf (some a), va_rf (some t), .int (nI (fRoom (f 0)))] M Q := by
  refine eX6_hangListed _ _ _ _ (bX6_hangListed_0 _ _ _ _ ⟨hs.1.1, w, hs.1.2.2.1, hr.1.1, ?_⟩)
  rw [hs.1.2.2.1]
  refine sX5_at (i := 23) hr (by omega) ⟨_, rfl, ?_⟩
  exact listed_loop hF1 hF3 h23 hf h.1.2.1.2.2.1 hfail hok (pgL f) M [] sp nd tk _ _ rfl h hs hr xag.rf aK.rf ⟨fun c hc => (by cases hc), fun x hx => hx, rfl⟩ hA
theorem sX6_hangMapped {A0 : Option (Nat → Bool)} (hF3 : 3 ≤ f 0) (hF4 : f 0 ≤ 4) (hf : ∀ i, f i < 256) (h : hgS M t KK ψ r a (f 0) v X [] sp nd ky) (hs : sto M s d db w rb w2 rb2 ta D pw tr tk) (hr : rwR M w rb f) (hA : A0 = acc nd tk none (pgMg f 256 0 0))
    (hfail : A0 = none → ∀ M1 tk1, sto M1 s d db w rb w2 rb2 ta D pw tr tk1 → rwR M1 w rb f → xag (RH t a sp ta) M M1 → xR M1 t 2 = some r → Q (some (.int 0)) M1)
    (hok : ∀ M1 qs1 sp1 nd1 tk1, qs1.map (fun q => q.2) = pgMg f 256 0 0 → A0 = some tk1 → hgS M1 t KK ψ r a (f 0) v X qs1 sp1 nd1 ky → sto M1 s d db w rb w2 rb2 ta D pw tr tk1 → rwR M1 w rb f → xag (RH t a sp ta) M M1 → aK M M1 a → hgO sp nd qs1 sp1 nd1 → Q (some (.int 1)) M1) : xSp l g mX6_hangMapped 0 0 [va_rf (some s), va_rf (some a), va_rf (some t)] M Q :=
  eX6_hangMapped _ _ _ (bX6_hangMapped_0 _ _ _ (mapped_loop hF3 hF4 hf h.1.2.1.2.2.1 hfail hok 256 0 M [] sp nd tk _ _ _ rfl rfl (fun c hc => by cases hc) h (by simp) hs hr xag.rf aK.rf ⟨fun c hc => (by cases hc), fun x hx => hx, rfl⟩ hA))
theorem sX3_hasReason (hn : nL M a (ψ a) F v X qs) (h256 : qs.length ≤ 256) (hF : F < 256) {par : Bool} (hpar : xR M a 9 = none ↔ par = false) (hQ : ∀ b : Int32, (b = 0 ∧ ¬ (v.isSome = true ∨ 2 ≤ qs.length ∨ (par = false ∧ qs = [] ∧ X = [] ∧ F = 1))) ∨ (b = 1 ∧ (v.isSome = true ∨ 2 ≤ qs.length ∨ (par = false ∧ qs = [] ∧ X = [] ∧ F = 1))) → Q (some (.int b)) M) : xSp l g mX3_hasReason 0 0 [va_rf (some a)] M Q := by
  obtain ⟨⟨n1, n2, n3, n4⟩, ⟨m1, m2⟩, ⟨i2, i3, i4, i5⟩, ch, hch, x12, x256⟩ := hn
  refine eX3_hasReason _ (bX3_hasReason_0 _ ⟨n1, fun c => hQ 1 (Or.inr ⟨rfl, Or.inl (bnf (fun z => c (i3.trans (z01.mpr z))))⟩), fun c => ⟨fun c2 => ?_, fun c2 => hQ 1 (Or.inr ⟨rfl, Or.inr (Or.inl (nnlt c2 i5 (b := 2) rfl))⟩)⟩⟩)
  have hv : v.isSome = false := z01.mp (i3.symm.trans c)
  have hl : qs.length < 2 := nlt c2 i5 (b := 2) rfl
  have hno : ¬ (par = false ∧ qs = [] ∧ X = [] ∧ F = 1) → Q (some (.int 0)) M := fun z => hQ 0 (Or.inl ⟨rfl, fun w => by
    rcases w with w | w | w
    · rw [hv] at w; cases w
    · omega
    · exact z w⟩)
  refine ⟨fun c3 => hno (fun z => c3 (hpar.mpr z.1)), fun c3 => ⟨fun c4 => hno (fun z => c4 (by rw [i5, z.2.1]; rfl)), fun c4 => ⟨fun c5 => hno (fun z => c5 (by rw [m1, z.2.2.1]; rfl)), fun c5 => ⟨fun c6 => hno (fun z => c6 (by rw [i2, z.2.2.2]; rfl)), fun c6 => ?_⟩⟩⟩⟩
  have k4 : qs = [] := List.length_eq_zero_iff.mp (neq c4 i5 (b := 0) rfl)
  have k5 : X = [] := List.length_eq_zero_iff.mp (neq c5 m1 (b := 0) rfl)
  have k6 : F = 1 := neq c6 i2 (b := 1) rfl
  exact hQ 1 (Or.inr ⟨rfl, Or.inr (Or.inr ⟨hpar.mp c3, k4, k5, k6⟩)⟩)
end LN
