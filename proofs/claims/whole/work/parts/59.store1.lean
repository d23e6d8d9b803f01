/-! storeHere, storeFirst, storeByChild. -/
theorem lg0 {a b : Int64} : lg_cmp a b = 0 ↔ a = b := by
  unfold lg_cmp
  constructor
  · intro h
    by_cases h1 : a > b
    · rw [if_pos h1] at h; exact absurd h (by decide)
    · rw [if_neg h1] at h
      by_cases h2 : a = b
      · exact h2
      · rw [if_neg h2] at h; exact absurd h (by decide)
  · intro h
    subst h
    rw [if_neg (Int64.lt_irrefl), if_pos rfl]
theorem RGt {t : Nat} {KK : List Nat} {ψ : Nat → Nat} : RG t KK ψ t := Or.inl rfl
theorem RGk {t a : Nat} {KK : List Nat} {ψ : Nat → Nat} (h : a ∈ KK) : RG t KK ψ a := Or.inr (Or.inl h)
theorem RGp {t a : Nat} {KK : List Nat} {ψ : Nat → Nat} (h : a ∈ KK) : RG t KK ψ (ψ a) := Or.inr (Or.inr ⟨a, h, rfl⟩)
section ST1
variable {l : Launch} {g : xG} {M : xM} {Q : Option Value → xM → Prop} {φ ψ : Nat → Nat} {T : TT} {t nd ky : Nat} {KK sp : List Nat}
theorem cTr.wt (h : cTr M t KK φ ψ T sp nd ky) : xat M t 5 := h.1.1
theorem cTr.ag (hW : tWF T) (h : cTr M t KK φ ψ T sp nd ky) {P : Nat → Prop} {M1 : xM} (hx : xag P M M1) (hp : ∀ a, P a → ¬ RG t KK ψ a) : cTr M1 t KK φ ψ T sp nd ky := by
  obtain ⟨⟨h1, h2, h3, h4⟩, ⟨n1, n2, n3⟩, ⟨c1, c2, c3, c4⟩, k1, k2⟩ := id h
  obtain ⟨f1, -, f3⟩ := hx.2 t (fun z => hp t z RGt)
  refine ⟨⟨hx.at.mpr h1, by rw [f3]; exact h2, by rw [f1]; exact h3, by rw [f1]; exact h4⟩, ⟨cNc_ag hW n1 hx (fun n hn => ⟨fun z => hp _ z (RGk (n3 n hn)), fun z => hp _ z (RGp (n3 n hn))⟩), n2, n3⟩, ⟨?_, c2, c3, c4⟩, fun a ha => ?_, k2⟩
  · rw [f3]
    exact chS_fr c1 (fun a ha => (hx.2 a (fun z => hp _ z (RGk (c3 a ha).1))).2.2 11)
  · obtain ⟨b1, b2, b3, b4⟩ := k1 a ha
    exact ⟨hx.at.mpr b1, by rw [(hx.2 a (fun z => hp _ z (RGk ha))).2.2 0]; exact b2, hx.at.mpr b3, by rw [hx.1.2.2.1]; exact b4⟩
/-- a change of the tree object's own fields -/
theorem cTr.ob (hW : tWF T) (h : cTr M t KK φ ψ T sp nd ky) {M1 : xM} (hx : xag (fun a => a = t) M M1) {ky1 : Nat} (h1 : xR M1 t 1 = xR M t 1) (h2 : xR M1 t 2 = xR M t 2) (h3 : xI M1 t 3 = xI M t 3) (h4 : xI M1 t 4 = nI ky1) : cTr M1 t KK φ ψ T sp nd ky1 := by
  obtain ⟨⟨g1, g2, g3, g4⟩, ⟨n1, n2, n3⟩, ⟨c1, c2, c3, c4⟩, k1, k2⟩ := id h
  have hne : ∀ a ∈ KK, a ≠ t ∧ ψ a ≠ t := fun a ha => ⟨ne_of_kind (k1 a ha).1.2 g1.2 (by decide), ne_of_kind (k1 a ha).2.2.1.2 g1.2 (by decide)⟩
  refine ⟨⟨hx.at.mpr g1, by rw [h2]; exact g2, by rw [h3]; exact g3, h4⟩, ⟨cNc_ag hW n1 hx (fun n hn => hne _ (n3 n hn)), n2, n3⟩, ⟨?_, c2, c3, c4⟩, fun a ha => ?_, k2⟩
  · rw [h1]
    exact chS_fr c1 (fun a ha => (hx.2 a (hne a (c3 a ha).1).1).2.2 11)
  · obtain ⟨b1, b2, b3, b4⟩ := k1 a ha
    exact ⟨hx.at.mpr b1, by rw [(hx.2 a (hne a ha).1).2.2 0]; exact b2, hx.at.mpr b3, by rw [hx.1.2.2.1]; exact b4⟩
theorem sk3_ag (s : Option Nat) (m u : Int32) : xag (fun a => a = t) M (sk3 M t s m u) := (xag_R (P := fun a => a = t) M rfl).trans ((xag_I (P := fun a => a = t) _ rfl).trans (xag_I (P := fun a => a = t) _ rfl))
theorem cTr.sk (hW : tWF T) (h : cTr M t KK φ ψ T sp nd ky) (s : Option Nat) (m u : Int32) : cTr (sk3 M t s m u) t KK φ ψ T sp nd ky :=
  h.ob hW (sk3_ag s m u) (by simp [sk3, xR_sI, xR_sR]) (by simp [sk3, xR_sI, xR_sR]) (by simp [sk3, xI_sI, xI_sR]) (by simp [sk3, xI_sI, xI_sR]; exact h.1.2.2.2)
/-- changes at nodes of the tree alone, whose shape stays -/
theorem cTr.no (hW : tWF T) (h : cTr M t KK φ ψ T sp nd ky) {M1 : xM} {T1 : TT} (hx : xag (fun a => ∃ n, tU T n = true ∧ (a = φ n ∨ a = ψ (φ n))) M M1) (hR : ∀ a, xR M1 a 0 = xR M a 0) (hc : cNc M1 φ ψ T1) (hU : tU T1 = tU T) (hO : tO T1 = tO T) : cTr M1 t KK φ ψ T1 sp nd ky ∧ xag (RG t KK ψ) M M1 := by
  obtain ⟨⟨g1, g2, g3, g4⟩, ⟨n1, n2, n3⟩, ⟨c1, c2, c3, c4⟩, k1, k2⟩ := id h
  have hx2 : xag (RG t KK ψ) M M1 := hx.mono (fun a z => by
    obtain ⟨n, z1, z2 | z2⟩ := z
    · rw [z2]; exact RGk (n3 n z1)
    · rw [z2]; exact RGp (n3 n z1))
  have ht : ¬ ∃ n, tU T n = true ∧ (t = φ n ∨ t = ψ (φ n)) := fun z => by
    obtain ⟨n, z1, z2 | z2⟩ := z
    · exact ne_of_kind g1.2 (k1 _ (n3 n z1)).1.2 (by decide) z2
    · exact ne_of_kind g1.2 (k1 _ (n3 n z1)).2.2.1.2 (by decide) z2
  obtain ⟨f1, -, f3⟩ := hx.2 t ht
  refine ⟨cTr_up h hx2 (fun a _ => hR a) (by rw [f3, hO]; exact g2) (by rw [f1]; exact g3) (by rw [f1]; exact g4) hc (by unfold cInj; rw [hU]; exact n2) (by rw [hU]; exact n3) ?_ c2 (by rw [hU]; exact c3) c4, hx2⟩
  rw [f3]
  refine chS_fr c1 (fun a ha => (hx.2 a (fun z => ?_)).2.2 11)
  obtain ⟨n, z1, z2 | z2⟩ := z
  · exact (c3 a ha).2 n z1 z2.symm
  · exact ne_of_kind (k1 a (c3 a ha).1).1.2 (k1 _ (n3 n z1)).2.2.1.2 (by decide) z2
/-- the path to a node is freshened -/
theorem cTr.fr (hW : tWF T) (h : cTr M t KK φ ψ T sp nd ky) {n : Nat} (hn : tU T n = true) : cTr (frs M ((tA T 12 n).map φ)) t KK φ ψ (tFr T n) sp nd ky ∧ xag (RG t KK ψ) M (frs M ((tA T 12 n).map φ)) := by
  refine h.no hW ((frs_ag _ M).mono (fun a z => ?_)) (fun a => by rw [(frs_same _ M).2.2.2.2]) (fr_c hW h.2.1.2.1 h.2.1.1 hn) rfl rfl
  obtain ⟨y, hy, e⟩ := List.mem_map.mp z
  exact ⟨y, tA_used hW 12 n hn y hy, Or.inl e.symm⟩
/-- a value is set -/
theorem cTr.sv (hW : tWF T) (h : cTr M t KK φ ψ T sp nd ky) {n : Nat} (hn : tU T n = true) (v : Option Int64) : cTr (xsJ (xsI M (φ n) 3 (if v.isSome = true then 1 else 0)) (φ n) 4 (v.getD 0)) t KK φ ψ (tSv T n v) sp nd ky ∧ xag (RG t KK ψ) M (xsJ (xsI M (φ n) 3 (if v.isSome = true then 1 else 0)) (φ n) 4 (v.getD 0)) :=
  h.no hW ((xag_I M ⟨n, hn, Or.inl rfl⟩).trans (xag_J _ ⟨n, hn, Or.inl rfl⟩)) (fun _ => rfl) (sv_c h.2.1.2.1 h.2.1.1 hn v) rfl rfl
/-- the counter of keys -/
theorem cTr.ks (hW : tWF T) (h : cTr M t KK φ ψ T sp nd ky) (ky1 : Nat) : cTr (xsI M t 4 (nI ky1)) t KK φ ψ T sp nd ky1 :=
  h.ob hW (xag_I M rfl) rfl rfl (by simp [xI_sI]) (by simp [xI_sI])
theorem cTr.ns (hW : tWF T) (h : cTr M t KK φ ψ T sp nd ky) : cNs M φ ψ T := h.2.1.1.s hW
theorem sX8_storeHere {s : Nat} {v : Int64} (hW : tWF T) (h : cTr M t KK φ ψ T sp nd ky) (hs : tU T s = true) (h5 : xR M t 5 = some (φ s))
    (hQ : ∀ M1, cTr M1 t KK φ ψ (if tV T s = some v then T else tFr (tSv T s (some v)) s) sp nd (if (tV T s).isSome = true then ky else ky + 1) → xag (RG t KK ψ) M M1 → Q (some (.int (if (tV T s).isSome = true then 0 else 1))) M1) : xSp l g mX8_storeHere 0 0 [va_rf (some t), .long v] M Q := by
  have hs1 := (h.2.1.1.1 s hs).1
  have h1 := hs1.1.1
  have hV := hs1.2.2.1.2.1
  have hJ := hs1.2.2.1.2.2.1
  obtain ⟨q1, q2⟩ := h.sv hW hs (some v)
  have hW2 := tSv_wf hW s (some v)
  obtain ⟨q3, q4⟩ := q1.fr hW2 (n := s) hs
  have hpn := (q1.ns hW2).pN
  have h5b : ∀ M1, xag (fun a => ∃ n, tU T n = true ∧ (a = φ n ∨ a = ψ (φ n))) M M1 → xR M1 t 5 = some (φ s) := fun M1 hx => by
    rw [(hx.2 t (fun z => ?_)).2.2 5]; · exact h5
    obtain ⟨n, z1, z2 | z2⟩ := z
    · exact ne_of_kind h.1.1.2 (h.2.1.1.1 n z1).1.1.1.2 (by decide) z2
    · exact ne_of_kind h.1.1.2 (h.2.1.1.1 n z1).1.1.2.2.1.2 (by decide) z2
  refine eX8_storeHere _ _ (bX8_storeHere_0 _ _ ⟨h.1.1, φ s, h5, h1, fun c => ?_, fun c => ⟨fun c2 => ?_, fun c2 => ?_⟩⟩)
  · have c1 : (tV T s).isSome = false := z01.mp (hV.symm.trans c)
    have hne : tV T s ≠ some v := fun z => by rw [z] at c1; cases c1
    rw [h5]
    refine sX3_setValue h1 ⟨rfl, h.1.1, φ s, h5, h1, ?_⟩
    show xSp l g mX3_freshen 0 0 [va_rf (xR M t 5)] _ _
    rw [h5]
    refine sX3_freshen hW2 hpn hs ⟨rfl, fun _ => ⟨q3.1.1, ?_⟩, fun c3 => absurd c c3⟩
    have e4 := q3.1.2.2.2
    have := hQ _ (by rw [if_neg hne, c1]; exact q3.ks (tFr_wf hW2 s) (ky + 1)) ((q2.trans q4).trans (xag_I _ RGt))
    rw [c1] at this
    rw [e4, nI_1]
    exact this
  · have c1 : (tV T s).isSome = true := bnf (fun z => c (hV.trans (z01.mpr z)))
    have hne : tV T s ≠ some v := fun z => c2 (lg0.mpr (by rw [hJ, z]; rfl))
    rw [h5]
    refine sX3_setValue h1 ⟨rfl, h.1.1, φ s, h5, h1, ?_⟩
    show xSp l g mX3_freshen 0 0 [va_rf (xR M t 5)] _ _
    rw [h5]
    refine sX3_freshen hW2 hpn hs ⟨rfl, fun c3 => absurd c3 c, fun _ => ?_⟩
    have := hQ _ (by rw [if_neg hne, c1]; exact q3) (q2.trans q4)
    rw [c1] at this
    exact this
  · have c1 : (tV T s).isSome = true := bnf (fun z => c (hV.trans (z01.mpr z)))
    have he : tV T s = some v := by
      have := lg0.mp c2
      rw [hJ] at this
      cases hv : tV T s with
      | none => rw [hv] at c1; cases c1
      | some w => rw [hv] at this; exact congrArg some this
    have := hQ M (by rw [if_pos he, c1]; exact h) xag.rf
    rw [c1] at this
    exact this
end ST1
