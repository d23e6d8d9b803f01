/-! load, the whole. -/
noncomputable def lo2 (D : Nat → Nat) (q mn : Nat) : Nat × TT := if 0 < mn then (match ldTree D q with | some T => (mn, T) | none => (0, tNil)) else (0, tNil)
theorem i_max {a b : Nat} (ha : a < 2 ^ 31) (hb : b < 2 ^ 31) : (if nI a < nI b then nI b else nI a) = nI (Nat.max a b) := by
  by_cases h : nI a < nI b
  · have := nlt h rfl rfl
    rw [if_pos h]; congr 1; exact (Nat.max_eq_right (by omega)).symm
  · have := nnlt h rfl rfl
    rw [if_neg h]; congr 1; exact (Nat.max_eq_left (by omega)).symm
theorem i_min {a b : Nat} (ha : a < 2 ^ 31) (hb : b < 2 ^ 31) : (if nI b < nI a then nI b else nI a) = nI (Nat.min a b) := by
  by_cases h : nI b < nI a
  · have := nlt h rfl rfl
    rw [if_pos h]; congr 1; exact (Nat.min_eq_right (by omega)).symm
  · have := nnlt h rfl rfl
    rw [if_neg h]; congr 1; exact (Nat.min_eq_left (by omega)).symm
section LO3
variable {l : Launch} {g : xG} {M : xM} {Q : Option Value → xM → Prop} {ψ : Nat → Nat} {t st rt : Nat} {KK : List Nat} {s d db w rb w2 rb2 ta tr : Nat} {D : Nat → Nat} {pw : Option Nat} {tk : Nat → Bool}
theorem sto_cl {M1 : xM} (hk : cKK M t st KK ψ) (hs : sto M s d db w rb w2 rb2 ta D pw tr tk) (hx : xag (RG t KK ψ) M M1) : sto M1 s d db w rb w2 rb2 ta D pw tr tk := by
  have hno := cKK_RS hk hs
  have hsG : ¬ RG t KK ψ s := fun z => by
    rcases z with z | z | ⟨b, hb, z⟩
    · exact ne_of_kind hs.1.1.2 hk.1.2 (by decide) z
    · exact ne_of_kind hs.1.1.2 (hk.2.2.1 _ z).1.2 (by decide) rfl
    · exact ne_of_kind hs.1.1.2 (hk.2.2.1 _ hb).2.2.1.2 (by decide) z
  exact hs.ag hx hsG (hno d (Or.inl rfl)).1 (hno db (Or.inr (Or.inl rfl))).1 (hno rb (Or.inr (Or.inr (Or.inl rfl)))).1 (hno rb2 (Or.inr (Or.inr (Or.inr (Or.inl rfl))))).1 (hno ta (Or.inr (Or.inr (Or.inr (Or.inr rfl))))).1
theorem clearEnd {M0 : xM} (hk : cKK M t st KK ψ) (hr : xR M t 2 = some rt) (hrK : rt ∈ KK) (hs : sto M s d db w rb w2 rb2 ta D pw tr tk) (hx : xag (fun x => RG t KK ψ x ∨ RS d db rb rb2 ta x) M0 M) (hQ : ∀ M1 φ1 sp1 tk1, cTr M1 t KK φ1 ψ tNil sp1 (tCnt tNil) (tKy tNil) → sto M1 s d db w rb w2 rb2 ta D pw tr tk1 → xag (fun x => RG t KK ψ x ∨ RS d db rb rb2 ta x) M0 M1 → Q (some (.int 0)) M1) :
    xSp l g mX8_clear 0 0 [va_rf (some t)] M (fun ρ3 M2 => ρ3 = none ∧ (Q (some (.int 0)) M2)) :=
  sX8_clear hk hr hrK (fun M1 c1 x1 => ⟨rfl, hQ M1 _ _ tk (by rw [tNil_cnt.1, tNil_cnt.2]; exact c1) (sto_cl hk hs x1) (hx.trans (x1.mono (fun x z => Or.inl z)))⟩)
theorem load48 {M0 : xM} {a b q : Nat} (ha : a ≤ 1000000000) (hb : b ≤ 1000000000) (hq : q < 2) (hq2 : 0 < Nat.min a b → 2 ≤ D (512 * q + 9)) (hk : cKK M t st KK ψ) (hr : xR M t 2 = some rt) (hrK : rt ∈ KK) (hs : sto M s d db w rb w2 rb2 ta D pw tr tk) (hx : xag (fun x => RG t KK ψ x ∨ RS d db rb rb2 ta x) M0 M) {x4 : Int32} (h4 : 1 - x4 = nI q)
    (hQ : ∀ M1 φ1 sp1 tk1, cTr M1 t KK φ1 ψ (lo2 D q (Nat.min a b)).2 sp1 (tCnt (lo2 D q (Nat.min a b)).2) (tKy (lo2 D q (Nat.min a b)).2) → sto M1 s d db w rb w2 rb2 ta D pw tr tk1 → xag (fun x => RG t KK ψ x ∨ RS d db rb rb2 ta x) M0 M1 → Q (some (.int (nI (lo2 D q (Nat.min a b)).1))) M1) : xWp l g mX6_load 0 0 48 [(1, va_rf (some s)), (1, va_rf (some t)), (1, .int (nI a)), (1, .int (nI b)), (1, .int x4)] [] (0, 0) M Q := by
  have hmin := i_min (a := a) (b := b) (by omega) (by omega)
  have hml : Nat.min a b ≤ 1000000000 := Nat.le_trans (Nat.min_le_left a b) ha
  unfold lo2 at hQ
  refine bX6_load_48 _ _ _ _ _ ⟨fun c => ⟨t, rfl, hk.1, ?_⟩, fun c => ⟨hs.1.1, ?_⟩⟩
  · rw [hmin] at c
    have k := nle c rfl (b := 0) rfl
    rw [if_neg (by omega)] at hQ
    exact clearEnd hk hr hrK hs hx hQ
  · rw [hmin] at c
    have k := nnle c rfl (b := 0) rfl
    rw [if_pos k] at hQ
    rw [h4]
    refine sX6_loadBy hq hk hr hrK hs (hq2 k) (fun hn M1 tk1 s1 x1 t1 => ⟨_, rfl, fun _ => ⟨t, rfl, (hk.gs hs x1).1, ?_⟩, fun c2 => absurd rfl c2⟩) (fun T hT M1 φ1 sp1 tk1 c1 s1 x1 => ⟨_, rfl, fun c2 => absurd c2 (by decide), fun _ => ?_⟩)
    · rw [hn] at hQ
      exact clearEnd (hk.gs hs x1) t1 hrK s1 (hx.trans x1) hQ
    · rw [hT] at hQ
      rw [hmin]
      exact hQ M1 φ1 sp1 tk1 c1 s1 (hx.trans x1)
theorem tLoad_eq (D : Nat → Nat) {q0 q1 : Nat} (hq : (hdN D 1 < hdN D 0 ∧ q0 = 0 ∧ q1 = 1) ∨ (¬ hdN D 1 < hdN D 0 ∧ q0 = 1 ∧ q1 = 0)) : tLoad D = if 0 < Nat.max (hdN D 0) (hdN D 1) then (match ldTree D q0 with | some T => (Nat.max (hdN D 0) (hdN D 1), T) | none => lo2 D q1 (Nat.min (hdN D 0) (hdN D 1))) else lo2 D q1 (Nat.min (hdN D 0) (hdN D 1)) := by
  unfold tLoad
  by_cases hm : 0 < Nat.max (hdN D 0) (hdN D 1)
  · rw [if_pos hm, if_pos hm]
    rcases hq with ⟨h, e0, e1⟩ | ⟨h, e0, e1⟩
    · rw [if_pos h, if_pos h, e0, e1]; rfl
    · rw [if_neg h, if_neg h, e0, e1]; rfl
  · rw [if_neg hm, if_neg hm]
    have h0 : Nat.min (hdN D 0) (hdN D 1) = 0 := by
      have h1 := Nat.le_max_left (hdN D 0) (hdN D 1)
      have h2 := Nat.min_le_left (hdN D 0) (hdN D 1)
      have h3 : (hdN D 0) ≤ Nat.max (hdN D 0) (hdN D 1) := h1
      have h4 : Nat.min (hdN D 0) (hdN D 1) ≤ hdN D 0 := h2
      omega
    unfold lo2
    rw [h0, if_neg (by omega)]
theorem sX6_load (hk : cKK M t st KK ψ) (hr : xR M t 2 = some rt) (hrK : rt ∈ KK) (hs : sto M s d db w rb w2 rb2 ta D pw tr tk)
    (hQ : ∀ M1 φ1 sp1 tk1, cTr M1 t KK φ1 ψ (tLoad D).2 sp1 (tCnt (tLoad D).2) (tKy (tLoad D).2) → sto M1 s d db w rb w2 rb2 ta D pw tr tk1 → xag (fun x => RG t KK ψ x ∨ RS d db rb rb2 ta x) M M1 → Q (some (.int (nI (tLoad D).1))) M1) : xSp l g mX6_load 0 0 [va_rf (some s), va_rf (some t)] M Q := by
  have la : hdN D 0 ≤ 1000000000 := hdN_le
  have lb : hdN D 1 ≤ 1000000000 := hdN_le
  have hmax := i_max (a := hdN D 0) (b := hdN D 1) (by omega) (by omega)
  have h9 : ∀ q, 0 < hdN D q → 2 ≤ D (512 * q + 9) := fun q hq => (hdN_pos hq).2.2.2.1
  have hm0 : 0 < Nat.min (hdN D 0) (hdN D 1) → 0 < hdN D 0 ∧ 0 < hdN D 1 := fun h => by
    have h1 : Nat.min (hdN D 0) (hdN D 1) ≤ hdN D 0 := Nat.min_le_left _ _
    have h2 : Nat.min (hdN D 0) (hdN D 1) ≤ hdN D 1 := Nat.min_le_right _ _
    omega
  refine eX6_load _ _ (bX6_load_0 _ _ ⟨hs.1.1, sX6_rightSequence (p := 0) (by omega) hs (fun M1 s1 x1 => ⟨_, rfl, s1.1.1, sX6_rightSequence (p := 1) (by omega) s1 (fun M2 s2 x2 => ⟨_, rfl, ?_⟩)⟩)⟩)
  have hx2 : xag (fun x => RG t KK ψ x ∨ RS d db rb rb2 ta x) M M2 := (x1.trans x2).mono (fun x z => Or.inr z)
  have hk2 := hk.gs hs hx2
  have hno := cKK_RS hk hs
  have hr2 : xR M2 t 2 = some rt := by
    rw [((x1.trans x2).2 t (fun z => (hno t z).1 RGt)).2.2]; exact hr
  generalize hea : hdN D 0 = a at *
  generalize heb : hdN D 1 = b at *
  refine ⟨fun c => ?_, fun c => ?_⟩
  · have kab := nle c rfl rfl
    have eT := tLoad_eq D (q0 := 1) (q1 := 0) (Or.inr ⟨by rw [hea, heb]; omega, rfl, rfl⟩)
    rw [hea, heb] at eT
    rw [eT] at hQ
    refine ⟨fun c2 => ?_, fun c2 => ⟨s2.1.1, ?_⟩⟩
    · rw [hmax] at c2
      have k0 := nle c2 rfl (b := 0) rfl (by have : Nat.max a b ≤ 1000000000 := Nat.max_le.mpr ⟨la, lb⟩; omega)
      rw [if_neg (by omega)] at hQ
      exact load48 la lb (by omega) (fun h => h9 0 (by rw [hea]; exact (hm0 h).1)) hk2 hr2 hrK s2 hx2 (by decide) hQ
    · rw [hmax] at c2
      have k0 := nnle c2 rfl (b := 0) rfl (by have : Nat.max a b ≤ 1000000000 := Nat.max_le.mpr ⟨la, lb⟩; omega)
      rw [if_pos k0] at hQ
      have hb0 : 0 < b := by
        have : Nat.max a b ≤ b := Nat.max_le.mpr ⟨kab, Nat.le_refl _⟩
        omega
      refine sX6_loadBy (p := 1) (by omega) hk2 hr2 hrK s2 (h9 1 (by rw [heb]; exact hb0)) (fun hn M3 tk3 s3 x3 t3 => ⟨_, rfl, fun _ => ?_, fun c3 => absurd rfl c3⟩) (fun T hT M3 φ3 sp3 tk3 c3 s3 x3 => ⟨_, rfl, fun c4 => absurd c4 (by decide), fun _ => ?_⟩)
      · rw [hn] at hQ
        exact load48 la lb (by omega) (fun h => h9 0 (by rw [hea]; exact (hm0 h).1)) (hk2.gs s2 x3) t3 hrK s3 (hx2.trans x3) (by decide) hQ
      · rw [hT] at hQ
        rw [hmax]
        exact hQ M3 φ3 sp3 tk3 c3 s3 (hx2.trans x3)
  · have kab := nnle c rfl rfl
    have eT := tLoad_eq D (q0 := 0) (q1 := 1) (Or.inl ⟨by rw [hea, heb]; omega, rfl, rfl⟩)
    rw [hea, heb] at eT
    rw [eT] at hQ
    refine ⟨fun c2 => ?_, fun c2 => ⟨s2.1.1, ?_⟩⟩
    · rw [hmax] at c2
      have k0 := nle c2 rfl (b := 0) rfl (by have : Nat.max a b ≤ 1000000000 := Nat.max_le.mpr ⟨la, lb⟩; omega)
      rw [if_neg (by omega)] at hQ
      exact load48 la lb (by omega) (fun h => h9 1 (by rw [heb]; exact (hm0 h).2)) hk2 hr2 hrK s2 hx2 (by decide) hQ
    · rw [hmax] at c2
      have k0 := nnle c2 rfl (b := 0) rfl (by have : Nat.max a b ≤ 1000000000 := Nat.max_le.mpr ⟨la, lb⟩; omega)
      rw [if_pos k0] at hQ
      refine sX6_loadBy (p := 0) (by omega) hk2 hr2 hrK s2 (h9 0 (by rw [hea]; omega)) (fun hn M3 tk3 s3 x3 t3 => ⟨_, rfl, fun _ => ?_, fun c3 => absurd rfl c3⟩) (fun T hT M3 φ3 sp3 tk3 c3 s3 x3 => ⟨_, rfl, fun c4 => absurd c4 (by decide), fun _ => ?_⟩)
      · rw [hn] at hQ
        exact load48 la lb (by omega) (fun h => h9 1 (by rw [heb]; exact (hm0 h).2)) (hk2.gs s2 x3) t3 hrK s3 (hx2.trans x3) (by decide) hQ
      · rw [hT] at hQ
        rw [hmax]
        exact hQ M3 φ3 sp3 tk3 c3 s3 (hx2.trans x3)
theorem tLoad_ok (hD : ∀ k, D k < 256) : tWF (tLoad D).2 ∧ tInv (tLoad D).2 ∧ (∀ x, tU (tLoad D).2 x = true → tR (tLoad D).2 x = false) ∧ (tLoad D).1 ≤ 1000000000 := by
  have la : hdN D 0 ≤ 1000000000 := hdN_le
  have lb : hdN D 1 ≤ 1000000000 := hdN_le
  have h9 : ∀ q, 0 < hdN D q → 2 ≤ D (512 * q + 9) := fun q hq => (hdN_pos hq).2.2.2.1
  have hnil : tWF tNil ∧ tInv tNil ∧ (∀ x, tU tNil x = true → tR tNil x = false) := ⟨tNil_wf, tNil_inv, fun x _ => rfl⟩
  have hM : Nat.max (hdN D 0) (hdN D 1) ≤ 1000000000 := Nat.max_le.mpr ⟨la, lb⟩
  have hm1 : Nat.min (hdN D 0) (hdN D 1) ≤ hdN D 0 := Nat.min_le_left _ _
  have hm2 : Nat.min (hdN D 0) (hdN D 1) ≤ hdN D 1 := Nat.min_le_right _ _
  have hlo : ∀ q, (0 < Nat.min (hdN D 0) (hdN D 1) → 2 ≤ D (512 * q + 9)) → tWF (lo2 D q (Nat.min (hdN D 0) (hdN D 1))).2 ∧ tInv (lo2 D q (Nat.min (hdN D 0) (hdN D 1))).2 ∧ (∀ x, tU (lo2 D q (Nat.min (hdN D 0) (hdN D 1))).2 x = true → tR (lo2 D q (Nat.min (hdN D 0) (hdN D 1))).2 x = false) ∧ (lo2 D q (Nat.min (hdN D 0) (hdN D 1))).1 ≤ 1000000000 := fun q hq => by
    unfold lo2
    by_cases h : 0 < Nat.min (hdN D 0) (hdN D 1)
    · rw [if_pos h]
      cases hT : ldTree D q with
      | none => exact ⟨hnil.1, hnil.2.1, hnil.2.2, by show (0 : Nat) ≤ _; omega⟩
      | some T =>
        obtain ⟨a1, a2, a3⟩ := ldTree_ok hD (hq h) hT
        exact ⟨a1, a2, a3, by show Nat.min (hdN D 0) (hdN D 1) ≤ _; omega⟩
    · rw [if_neg h]; exact ⟨hnil.1, hnil.2.1, hnil.2.2, by show (0 : Nat) ≤ _; omega⟩
  have go : ∀ q0 q1, ((hdN D 1 < hdN D 0 ∧ q0 = 0 ∧ q1 = 1) ∨ (¬ hdN D 1 < hdN D 0 ∧ q0 = 1 ∧ q1 = 0)) → (0 < Nat.max (hdN D 0) (hdN D 1) → 2 ≤ D (512 * q0 + 9)) → (0 < Nat.min (hdN D 0) (hdN D 1) → 2 ≤ D (512 * q1 + 9)) → tWF (tLoad D).2 ∧ tInv (tLoad D).2 ∧ (∀ x, tU (tLoad D).2 x = true → tR (tLoad D).2 x = false) ∧ (tLoad D).1 ≤ 1000000000 := fun q0 q1 hq h0 h1 => by
    rw [tLoad_eq D hq]
    by_cases h : 0 < Nat.max (hdN D 0) (hdN D 1)
    · rw [if_pos h]
      cases hT : ldTree D q0 with
      | none => exact hlo q1 h1
      | some T =>
        obtain ⟨a1, a2, a3⟩ := ldTree_ok hD (h0 h) hT
        exact ⟨a1, a2, a3, hM⟩
    · rw [if_neg h]; exact hlo q1 h1
  by_cases hc : hdN D 1 < hdN D 0
  · exact go 0 1 (Or.inl ⟨hc, rfl, rfl⟩) (fun _ => h9 0 (by omega)) (fun h => h9 1 (by omega))
  · refine go 1 0 (Or.inr ⟨hc, rfl, rfl⟩) (fun h => h9 1 ?_) (fun h => h9 0 (by omega))
    have : Nat.max (hdN D 0) (hdN D 1) ≤ hdN D 1 := Nat.max_le.mpr ⟨by omega, Nat.le_refl _⟩
    omega
end LO3
