/-! load. -/
theorem lglt {a b : Int64} : lg_cmp a b < 0 ↔ a < b := by
  unfold lg_cmp
  constructor
  · intro h
    by_cases h1 : a > b
    · rw [if_pos h1] at h; exact absurd h (by decide)
    · rw [if_neg h1] at h
      by_cases h2 : a = b
      · rw [if_pos h2] at h; exact absurd h (by decide)
      · have h3 : ¬ b < a := h1
        rcases Int64.lt_or_lt_of_ne h2 with h4 | h4
        · exact h4
        · exact absurd h4 h3
  · intro h
    have h1 : ¬ a > b := fun z => Int64.lt_irrefl (Int64.lt_trans h z)
    have h2 : ¬ a = b := fun z => by rw [z] at h; exact Int64.lt_irrefl h
    rw [if_neg h1, if_neg h2]; decide
theorem lggt {a b : Int64} : 0 < lg_cmp a b ↔ b < a := by
  unfold lg_cmp
  constructor
  · intro h
    by_cases h1 : a > b
    · exact h1
    · rw [if_neg h1] at h
      by_cases h2 : a = b
      · rw [if_pos h2] at h; exact absurd h (by decide)
      · rw [if_neg h2] at h; exact absurd h (by decide)
  · intro h
    rw [if_pos (show a > b from h)]; decide
theorem sq_nat {x : Int64} (h1 : ¬ x < 1) (h2 : ¬ 1000000000 < x) : x.toInt32 = nI x.toNatClampNeg ∧ 1 ≤ x.toNatClampNeg ∧ x.toNatClampNeg ≤ 1000000000 ∧ x = Int64.ofNat x.toNatClampNeg := by
  have k1 : (1 : Int64).toInt ≤ x.toInt := Int.not_lt.mp (fun z => h1 (Int64.lt_iff_toInt_lt.mpr z))
  have k2 : x.toInt ≤ (1000000000 : Int64).toInt := Int.not_lt.mp (fun z => h2 (Int64.lt_iff_toInt_lt.mpr z))
  rw [show (1 : Int64).toInt = 1 by decide] at k1
  rw [show (1000000000 : Int64).toInt = 1000000000 by decide] at k2
  have e : x.toNatClampNeg = x.toInt.toNat := rfl
  have e2 : x = Int64.ofNat x.toNatClampNeg := by
    apply Int64.toInt_inj.mp
    rw [Int64.toInt_ofNat_of_lt (by rw [e]; omega), e]
    omega
  refine ⟨?_, by rw [e]; omega, by rw [e]; omega, e2⟩
  apply Int32.toInt_inj.mp
  have h3 : (nI x.toNatClampNeg).toInt = x.toNatClampNeg := Int32.toInt_ofNat_of_lt (by rw [e]; omega)
  rw [h3, Int64.toInt_toInt32, e]
  have hb : x.toInt.bmod (2 ^ 32) = x.toInt := by
    rw [Int.bmod_def]
    split <;> omega
  omega
section LO2
variable {l : Launch} {g : xG} {M : xM} {Q : Option Value → xM → Prop} {φ ψ : Nat → Nat} {T : TT} {t st rt nd ky n p : Nat} {KK sp : List Nat} {s d db w rb w2 rb2 ta tr : Nat} {D : Nat → Nat} {pw : Option Nat} {tk : Nat → Bool} {f : Nat → Nat}
theorem hdN_le : hdN D p ≤ 1000000000 := by
  unfold hdN
  by_cases h : hdOk (pgF D p) p
  · rw [if_pos h]; exact (sq_nat h.1 h.2.1).2.2.1
  · rw [if_neg h]; omega
theorem hdN_pos (h : 0 < hdN D p) : hdOk (pgF D p) p := by
  apply Classical.byContradiction
  intro z
  unfold hdN at h
  rw [if_neg z] at h
  omega
theorem sX6_rightSequence (hp : p < 2) (hs : sto M s d db w rb w2 rb2 ta D pw tr tk) (hQ : ∀ M1, sto M1 s d db w rb w2 rb2 ta D pw tr tk → xag (RS d db rb rb2 ta) M M1 → Q (some (.int (nI (hdN D p)))) M1) : xSp l g mX6_rightSequence 0 0 [va_rf (some s), .int (nI p)] M Q := by
  obtain ⟨f0, hf0⟩ := hs.2.2.1
  obtain ⟨f2, hf2⟩ := hs.2.2.2.1
  have hrb2 : rb ≠ rb2 := hs.2.2.2.2.2.1
  refine eX6_rightSequence _ _ (bX6_rightSequence_0 _ _ ⟨hs.1.1, d, hs.1.2.1, hs.2.1.1.1, ?_⟩)
  rw [hs.1.2.1, hs.1.2.2.1]
  refine sX0_read hs.2.1 hf0 (by omega) (fun M1 r1 x1 => ⟨rfl, ?_⟩)
  have e0 : (fun i => D (512 * p + i)) = pgF D p := rfl
  rw [e0] at r1
  have s1 := hs.rw1 x1 r1
  have hx1 : xag (RS d db rb rb2 ta) M M1 := x1.mono (fun x z => Or.inr (Or.inr (Or.inl z)))
  have r2 : rwR M1 w2 rb2 f2 := hf2.ag x1 (Ne.symm hrb2)
  refine ⟨s1.1.1, ?_⟩
  rw [s1.1.2.2.1]
  have hzero : ∀ M2, sto M2 s d db w rb w2 rb2 ta D pw tr tk → xag (RS d db rb rb2 ta) M M2 → ¬ hdOk (pgF D p) p → Q (some (.int 0)) M2 := fun M2 s2 x2 hn => by
    have := hQ M2 s2 x2
    unfold hdN at this
    rw [if_neg hn] at this
    exact this
  refine sX2_sequence r1 ⟨_, rfl, fun c => hzero M1 s1 hx1 (fun ok => ok.1 (lglt.mp c)), fun c => ⟨fun c2 => hzero M1 s1 hx1 (fun ok => ok.2.1 (lggt.mp c2)), fun c2 => ⟨fun c3 => ⟨s1.1.1, ?_⟩, fun c3 => hzero M1 s1 hx1 (fun ok => c3 (lg0.mpr ok.2.2.1))⟩⟩⟩
  have g1 : ¬ lNm (pgF D p) 1 8 < 1 := fun z => c (lglt.mpr z)
  have g2 : ¬ 1000000000 < lNm (pgF D p) 1 8 := fun z => c2 (lggt.mpr z)
  have g3 := lg0.mp c3
  rw [s1.1.2.2.1, s1.1.2.2.2.1]
  have b9 := r1.2.2 9
  have b10 := r1.2.2 10
  have b11 := r1.2.2 11
  refine sX2_rootPage r1 ⟨_, rfl, s1.1.1, ?_⟩
  rw [s1.1.2.2.1]
  refine sX2_keys r1 ⟨_, rfl, ?_⟩
  refine sX2_fill r2 b9 (by omega) (fun M3 r3 x3 => ⟨rfl, ?_⟩)
  have s3 := s1.rw2 x3 r3
  have r13 : rwR M3 w rb (pgF D p) := r1.ag x3 hrb2
  have hx3 : xag (RS d db rb rb2 ta) M M3 := hx1.trans (x3.mono (fun x z => Or.inr (Or.inr (Or.inr (Or.inl z)))))
  refine ⟨s3.1.1, ?_⟩
  rw [s3.1.2.2.1]
  refine sX2_rootPage r13 ⟨_, rfl, fun c4 => ?_, fun c4 => ⟨s3.1.1, w, s3.1.2.2.1, r13.1.1, ?_⟩⟩
  · have k := nlt c4 rfl (b := 2) rfl
    exact hzero M3 s3 hx3 (fun ok => by have := ok.2.2.2.1; omega)
  · have k := nnlt c4 rfl (b := 2) rfl
    rw [s3.1.2.2.1, s3.1.2.2.2.1]
    refine sX5_same r13 r3 (fun hall => ⟨_, rfl, fun c5 => absurd c5 (by decide), fun _ => ?_⟩) (fun i hi hne => ⟨_, rfl, fun _ => ?_, fun c5 => absurd rfl c5⟩)
    · have ok : hdOk (pgF D p) p := ⟨g1, g2, g3, k, hall⟩
      have := hQ M3 s3 hx3
      unfold hdN at this
      rw [if_pos ok] at this
      rw [(sq_nat g1 g2).1]
      exact this
    · exact hzero M3 s3 hx3 (fun ok => hne (ok.2.2.2.2 i hi))
theorem cKK_RS (hk : cKK M t st KK ψ) (hs : sto M s d db w rb w2 rb2 ta D pw tr tk) : ∀ x, RS d db rb rb2 ta x → ¬ RG t KK ψ x ∧ x ≠ st := fun x z => by
  obtain ⟨⟨a1, a2, a3, a4, a5⟩, b, ⟨f1, c1⟩, ⟨f2, c2⟩, ⟨e1, e2, e3⟩, g1⟩ := hs
  obtain ⟨t1, ⟨b1, b2, -⟩, k1, k2⟩ := hk
  have hG : ∀ {y k : Nat}, xat M y k → k ≠ 5 → k ≠ 1 → k ≠ 9 → k ≠ 12 → ¬ RG t KK ψ y ∧ y ≠ st := fun {y k} hy h5 h1 h9 h12 => ⟨fun z => by
    rcases z with z | z | ⟨b, hb, z⟩
    · exact ne_of_kind hy.2 t1.2 h5 z
    · exact ne_of_kind hy.2 (k1 _ z).1.2 h1 rfl
    · exact ne_of_kind hy.2 (k1 _ hb).2.2.1.2 h9 z, ne_of_kind hy.2 b2.2 h12⟩
  rcases z with z | z | z | z | z
  · rw [z]; exact hG b.1.1 (by decide) (by decide) (by decide) (by decide)
  · rw [z]; exact hG b.1.2.2.1 (by decide) (by decide) (by decide) (by decide)
  · rw [z]; exact hG c1.1.2.2.1 (by decide) (by decide) (by decide) (by decide)
  · rw [z]; exact hG c2.1.2.2.1 (by decide) (by decide) (by decide) (by decide)
  · rw [z]; exact hG e1 (by decide) (by decide) (by decide) (by decide)
theorem cKK.gs {M1 : xM} (hk : cKK M t st KK ψ) (hs : sto M s d db w rb w2 rb2 ta D pw tr tk) (hx : xag (fun x => RG t KK ψ x ∨ RS d db rb rb2 ta x) M M1) : cKK M1 t st KK ψ :=
  hk.ag hx (fun z => z.elim hk.no (fun y => (cKK_RS hk hs st y).2 rfl))
theorem sX6_loadBy (hp : p < 2) (hk : cKK M t st KK ψ) (hr : xR M t 2 = some rt) (hrK : rt ∈ KK) (hs : sto M s d db w rb w2 rb2 ta D pw tr tk) (h2 : 2 ≤ D (512 * p + 9))
    (hfail : ldTree D p = none → ∀ M1 tk1, sto M1 s d db w rb w2 rb2 ta D pw tr tk1 → xag (fun x => RG t KK ψ x ∨ RS d db rb rb2 ta x) M M1 → xR M1 t 2 = some rt → Q (some (.int 0)) M1)
    (hok : ∀ T, ldTree D p = some T → ∀ M1 φ1 sp1 tk1, cTr M1 t KK φ1 ψ T sp1 (tCnt T) (tKy T) → sto M1 s d db w rb w2 rb2 ta D pw tr tk1 → xag (fun x => RG t KK ψ x ∨ RS d db rb rb2 ta x) M M1 → Q (some (.int 1)) M1) : xSp l g mX6_loadBy 0 0 [va_rf (some s), .int (nI p), va_rf (some t)] M Q := by
  obtain ⟨f0, hf0⟩ := hs.2.2.1
  have hD := hs.2.1.2.2.1
  have hno := cKK_RS hk hs
  refine eX6_loadBy _ _ _ (bX6_loadBy_0 _ _ _ ⟨hs.1.1, d, hs.1.2.1, hs.2.1.1.1, ?_⟩)
  rw [hs.1.2.1, hs.1.2.2.1]
  refine sX0_read hs.2.1 hf0 (by omega) (fun M1 r1 x1 => ⟨rfl, ?_⟩)
  have e0 : (fun i => D (512 * p + i)) = pgF D p := rfl
  rw [e0] at r1
  have s1 := hs.rw1 x1 r1
  have hrbG : ¬ RG t KK ψ rb := (hno rb (Or.inr (Or.inr (Or.inl rfl)))).1
  have hk1 := hk.ag x1 (fun z => (hno rb (Or.inr (Or.inr (Or.inl rfl)))).2 z.symm)
  have htrb : ¬ t = rb := fun z => hrbG (by rw [← z]; exact RGt)
  have hr1 : xR M1 t 2 = some rt := by rw [(x1.2 t htrb).2.2]; exact hr
  refine ⟨s1.1.1, ?_⟩
  rw [s1.1.2.2.1]
  refine sX2_keys r1 ⟨_, rfl, t, rfl, hk1.1, sX8_clear hk1 hr1 hrK (fun M2 c2 x2 => ⟨rfl, ?_⟩)⟩
  have s2 : sto M2 s d db w rb w2 rb2 ta D pw tr tk := by
    obtain ⟨⟨a1, a2, a3, a4, a5⟩, b, ⟨f1, c1⟩, ⟨f2, c2⟩, ⟨e1, e2, e3⟩, g1⟩ := id s1
    have hsG : ¬ RG t KK ψ s := fun z => by
      rcases z with z | z | ⟨b, hb, z⟩
      · exact ne_of_kind a1.2 hk1.1.2 (by decide) z
      · exact ne_of_kind a1.2 (hk1.2.2.1 _ z).1.2 (by decide) rfl
      · exact ne_of_kind a1.2 (hk1.2.2.1 _ hb).2.2.1.2 (by decide) z
    exact s1.ag x2 hsG (hno d (Or.inl rfl)).1 (hno db (Or.inr (Or.inl rfl))).1 hrbG (hno rb2 (Or.inr (Or.inr (Or.inr (Or.inl rfl))))).1 (hno ta (Or.inr (Or.inr (Or.inr (Or.inr rfl))))).1
  have r2 : rwR M2 w rb (pgF D p) := r1.ag x2 hrbG
  refine ⟨s2.1.1, sX6_freeAllPages s2 (fun M3 s3 x3 => ⟨rfl, ?_⟩)⟩
  have htaG := (hno ta (Or.inr (Or.inr (Or.inr (Or.inr rfl))))).1
  have c3 := c2.ag tNil_wf x3 (fun a z => by rw [z]; exact htaG)
  have r3 : rwR M3 w rb (pgF D p) := r2.ag x3 (ne_of_kind r2.1.2.2.1.2 s2.2.2.2.2.1.1.2 (by decide))
  refine ⟨c3.1.1, s3.1.1, ?_⟩
  rw [s3.1.2.2.1]
  have hrt3 : xR M3 t 2 = some rt := c3.1.2.1
  have b9 : D (512 * p + 9) < 256 := hD _
  have b10 : D (512 * p + 10) < 256 := hD _
  have b11 : D (512 * p + 11) < 256 := hD _
  refine sX2_rootPage r3 ⟨_, rfl, rt, hrt3, (c3.2.2.2.1 rt hrK).1, c3.1.1, rt, hrt3, (c3.2.2.2.1 rt hrK).1, s3.1.1, ?_⟩
  obtain ⟨c4, x4⟩ := c3.gs tNil_wf (n := 0) rfl (D (512 * p + 9))
  have s4 := s3.rg c3 x4
  have e7 : xI (xsI M3 rt 7 (nI (pgF D p 9))) rt 7 = nI (D (512 * p + 9)) := by rw [xI_sI, if_pos ⟨rfl, rfl⟩]; rfl
  rw [e7]
  refine sX6_takePage s4 b9 (fun M5 s5 x5 => ⟨_, rfl, ?_⟩)
  rw [if_pos ⟨h2, rfl⟩] at s5
  obtain ⟨hI0, hcn, hkn⟩ := ld0_I h2 b9
  have c5 := c4.ag hI0.1 x5 (fun a z => by rw [z]; exact htaG)
  have hxA : xag (fun x => RG t KK ψ x ∨ RS d db rb rb2 ta x) M M5 := (x1.mono (fun x z => Or.inr (Or.inr (Or.inr (Or.inl z))))).trans ((x2.mono (fun x z => Or.inl z)).trans ((x3.mono (fun x z => Or.inr (Or.inr (Or.inr (Or.inr (Or.inr z)))))).trans ((x4.mono (fun x z => Or.inl z)).trans (x5.mono (fun x z => Or.inr (Or.inr (Or.inr (Or.inr (Or.inr z)))))))))
  refine ⟨c5.1.1, ?_⟩
  rw [c5.1.2.1]
  have hc0 : cTr M5 t KK (fun _ => rt) ψ (tGs tNil 0 (D (512 * p + 9))) (KK.filter (fun a => decide (a ≠ rt))).reverse (tCnt (tGs tNil 0 (D (512 * p + 9)))) (tKy (tGs tNil 0 (D (512 * p + 9)))) := by rw [hcn, hkn]; exact c5
  refine loadBy_loop (M0 := M) (keys := D (512 * p + 10) * 256 + D (512 * p + 11)) (res := ldAll D 200 (tGs tNil 0 (D (512 * p + 9))) (va_up (fun _ => false) (D (512 * p + 9)) true) 0) (by omega) (fun hn M6 tk6 s6 x6 t6 => ?_) (fun T hT M6 φ6 sp6 tk6 hI6 c6 hrt6 s6 x6 => ⟨fun hkk => ?_, fun hkk => ?_⟩) 200 _ [] [] 0 (fun _ => rt) M5 _ _ hI0 (by simp) hc0 rfl s5 hxA rfl
  · exact hfail (by unfold ldTree; rw [hn]) M6 tk6 s6 x6 t6
  · exact hok T (by unfold ldTree; rw [hT]; exact if_pos hkk) M6 φ6 sp6 tk6 c6 s6 x6
  · exact hfail (by unfold ldTree; rw [hT]; exact if_neg hkk) M6 tk6 s6 x6 (by rw [c6.1.2.1, hrt6])
end LO2
