/-! The reference's readTree. -/
section RTT
variable {l : Launch} {g : xG} {M M0 M1 : xM} {Q : Option Value → xM → Prop} {y : Nat} {ad : Nat → Nat} {D : Nat → Nat}
theorem rt_loop {x1 : Int32} {jj : Int64} {w3 : Value} (hS0 : rS M0 y ad) (hD0 : rDk M0 ad D) :
    ∀ (k : Nat) (T : TT) (l1 r : List Nat) (n : Nat) (tk : Nat → Bool) (M1 : xM), ldI T l1 (n :: r) → 200 ≤ l1.length + k → rX (rRd ad) M0 M1 → xI M1 y 14 = nI (tO T) → rT M1 ad 0 (tRl T (n :: r)) → rK M1 ad tk →
    (ldAll D k T tk n = none → ∀ M2, rX (rRd ad) M0 M2 → Q (some (.int 0)) M2) →
    (∀ T', ldAll D k T tk n = some T' → ∀ M2, rX (rRd ad) M0 M2 → rT M2 ad 0 T' → tO T' = tO T → xWp l g mX10_readTree 0 0 83 [(1, va_rf (some y)), (1, .int x1), (2, .long jj), (0, w3), (1, .int (-1))] [] (0, 0) M2 Q) →
    xWp l g mX10_readTree 0 0 83 [(1, va_rf (some y)), (1, .int x1), (2, .long jj), (0, w3), (1, .int (nI n))] [] (0, 0) M1 Q := by
  intro k
  induction k with
  | zero =>
    intro T l1 r n tk M1 hI hk
    exfalso
    have h1 := tEs_len hI.1
    rw [hI.2.1, List.length_append, List.length_cons] at h1
    have h2 := hI.2.2.2.1
    unfold tCnt at h2
    omega
  | succ k ih =>
    intro T l1 r n tk M1 hI hk hx hr hT hK hno hyes
    obtain ⟨hW, hl, hun, h200, hRG⟩ := id hI
    obtain ⟨hn, hN⟩ := tEs_at hW hl
    have hu := hun n List.mem_cons_self
    have hS1 := hx.sS hS0
    have hD1 : rDk M1 ad D := ⟨fun k hk => by rw [(hx.2 _ _ (rRd_a hS0 (by decide) (by decide))).1]; exact hD0.1 k hk, hD0.2⟩
    have hf : ∀ i, pgF D (tG T n) i < 256 := fun i => hD0.2 _
    have hn220 := (hW.2.1 n hn).1
    have hr220 := (hW.2.1 _ hW.1.1).1
    have hrt : n = tO T ↔ (tP T n).isSome = false := by
      constructor
      · intro z; rw [z, hW.1.2.1]; rfl
      · intro z
        apply Classical.byContradiction
        intro w
        obtain ⟨p, hp, -⟩ := hW.2.2.1 n hn w
        rw [hp] at z; cases z
    have hokP := okP_iff hf (L := tL T n) (nd := tCnt T) (tk := tk) hrt
    have eN : ¬ okL (pgF D (tG T n)) (tL T n) (tCnt T) tk (tP T n).isSome → ldAll D (k + 1) T tk n = none := fun h => by
      unfold ldAll
      rw [if_neg h]
    have hnd := tEs_nodup hW
    rw [hl] at hnd
    have hnr : n ∉ r := (List.nodup_cons.mp (List.nodup_append.mp hnd).2.1).1
    refine bX10_readTree_83 _ _ _ _ _ ⟨fun z => ?_, fun _ => ⟨hS1.1, ?_⟩⟩
    · exfalso
      have := (pI_m1 (o := some n) (fun x hx => by injection hx with hx; omega)).mp z
      cases this
    refine sX10_readNode (T := tRl T (n :: r)) (r := tO T) hS1 hD1 hu.2.2.2.2.2.2 hn220 hn hT hK h200 (x12 hW) hr hr220 (fun z M2 hx2 => ⟨_, rfl, fun q => absurd rfl q, fun _ => hno (eN (fun q => z (hokP.mp q.1).1)) M2 (hx.trans hx2)⟩) (fun cs tk1 M2 ok e1 e2 hx2 hT2 hK2 => ⟨_, rfl, fun _ => ⟨(hx2.sS hS1).1, ?_⟩, fun q => absurd q (by decide)⟩)
    have ok : okR (pgF D (tG T n)) (tCnt T) tk (n = tO T) := ok
    have e1 : rdL (pgF D (tG T n)) (rCl (pgF D (tG T n) 0)) 0 0 = some cs := e1
    have e2 : acc (tCnt T) tk none cs = some tk1 := e2
    have hT2 : rT M2 ad 0 (adCs (rdT (tRl T (n :: r)) n (pgF D (tG T n))) n cs) := hT2
    have ecs := rdL_pgC ok.1.2.1 ok.2.1.2.2 e1
    subst ecs
    generalize hfe : pgF D (tG T n) = f at *
    have hS2 := hx2.sS hS1
    have hx02 := hx.trans hx2
    have hc200 := acc_len2 e2 h200
    have hcA : tCnt (rdT (tRl T (n :: r)) n f) + (pgC f).length ≤ 220 := by show tCnt T + _ ≤ 220; omega
    obtain ⟨i1, i2, i3⟩ := adCs_f (pgC f) (rdT (tRl T (n :: r)) n f) n hcA
    have eU : tU (rdT (tRl T (n :: r)) n f) = tU T := rfl
    rw [eU] at i1 i2 i3
    obtain ⟨j1, j2, j3⟩ := frI_ok (pgC f).length (tU T) (by unfold tCnt at hc200; omega)
    have hag0 : agT T n (tRl T (n :: r)) := fun x hx => ⟨hx, rfl, fun _ => rfl⟩
    have hag : agT T n (adCs (rdT (tRl T (n :: r)) n f) n (pgC f)) := agT_rd hag0 (fun _ => rfl) (by show tCnt T + _ ≤ 220; omega)
    obtain ⟨q1, q2⟩ := agT_lead hW hu.1 hT2 hag
    have hr2 : xI M2 y 14 = nI (tO T) := by rw [(hx2.2 _ _ (rRd_y hS1)).1]; exact hr
    have nf : ∀ x, tU T x = true → x ∉ frI (tU T) (pgC f).length := fun x hx z => by rw [(j3 x z).1] at hx; cases hx
    have xn : tX (adCs (rdT (tRl T (n :: r)) n f) n (pgC f)) n = pgX f := by
      rw [(i3 n (nf n hn)).2.2.1]; exact va_up_self _ _ _
    have un := (hag n hn).1
    obtain ⟨-, -, d3, -⟩ := rC0.mp ((hT2 n hn220).2 un)
    rw [xn, pgX_len] at d3
    have l10 := hf 10
    have hLn : tL T n ≤ 12 := (tX_le hW hn).2
    refine eX10_lead _ _ (bX10_lead_0 _ _ (rlead2 hS2 hW q1 q2 hr2 (L := tL T n) ?_ (tL T n) n 0 hn (Nat.le_refl _) (Nat.zero_add _)))
    refine ⟨_, rfl, hS2.1, ad 8, (hS2.2.1 8 (by decide)).1, n, hS2.ai (j := 8) (by decide) (by show n < 440; omega), ?_⟩
    rw [d3, nI_add]
    refine ⟨fun z => ?_, fun z => ?_⟩
    · have h12 : tL T n + f 10 ≤ 12 := nle z rfl (b := 12) rfl
      have okp := hokP.mpr ⟨ok, h12⟩
      by_cases hdp : pgC f ≠ [] → tL T n + f 10 + 1 ≤ 12
      · have okl : okL f (tL T n) (tCnt T) tk (tP T n).isSome := ⟨okp, hdp⟩
        obtain ⟨hI2, hcn, hkn⟩ := ld1_I hI hf okl
        have hB := rd_ld hT2 hn hnr (by omega)
        have hl2 : tEs (ld1 T n f) = l1 ++ n :: (frI (tU T) (pgC f).length ++ r) := by rw [hI2.2.1]; simp
        have hWB : tWF (tRl (ld1 T n f) (frI (tU T) (pgC f).length ++ r)) := tWF_same hI2.1 rfl rfl rfl rfl rfl rfl rfl
        have hlB : tEs (tRl (ld1 T n f) (frI (tU T) (pgC f).length ++ r)) = l1 ++ n :: (frI (tU T) (pgC f).length ++ r) := (tEs_congr (T := ld1 T n f) rfl rfl).trans hl2
        have hN2 := (tEs_at hI2.1 hl2).2
        obtain ⟨hnB, hNB⟩ := tEs_at hWB hlB
        refine sX10_next hS2 hB hWB hr2 hnB ⟨_, rfl, ?_⟩
        rw [hNB]
        have eA : ldAll D (k + 1) T tk n = (match (frI (tU T) (pgC f).length ++ r).head? with | none => some (ld1 T n f) | some m => ldAll D k (ld1 T n f) ((acc (tCnt T) tk none (pgC f)).getD tk) m) := by
          conv => lhs; unfold ldAll
          rw [hfe, if_pos okl, hN2]
          cases (frI (tU T) (pgC f).length ++ r).head? <;> rfl
        rw [eA] at hno hyes
        cases hrest : frI (tU T) (pgC f).length ++ r with
        | nil =>
          rw [hrest] at hno hyes hB hI2
          refine hyes (ld1 T n f) rfl M2 hx02 (rT_congr hB (fun x _ => rfl) (fun x hx => ⟨rfl, rfl, rfl, rfl, rfl, rfl, ?_⟩)) rfl
          rw [(hI2.2.2.2.2 x hx).1]; rfl
        | cons m rest =>
          rw [hrest] at hno hyes hB hI2
          rw [e2] at hno hyes
          show xWp l g mX10_readTree 0 0 83 [(1, va_rf (some y)), (1, .int x1), (2, .long jj), (0, w3), (1, .int (nI m))] [] (0, 0) M2 Q
          exact ih (ld1 T n f) (l1 ++ [n]) rest m tk1 M2 hI2 (by rw [List.length_append, List.length_singleton]; omega) hx02 hr2 hB hK2 hno hyes
      · have hne : pgC f ≠ [] := fun q => hdp (fun w => absurd q w)
        have h13 : f 10 + tL T n = 12 := by
          apply Classical.byContradiction
          intro w
          exact hdp (fun _ => by omega)
        have hnone := eN (fun q => hdp q.2)
        have hcm : ∀ x ∈ frI (tU T) (pgC f).length, cAt (frI (tU T) (pgC f).length) (pgC f) x ∈ pgC f := fun x hx => by
          have := List.mem_map_of_mem (f := cAt (frI (tU T) (pgC f).length) (pgC f)) hx
          rw [map_cAt _ _ j2 j1.symm] at this; exact this
        have hcnA : tCnt (adCs (rdT (tRl T (n :: r)) n f) n (pgC f)) = tCnt T + (pgC f).length := adCs_cnt hcA
        have f12 : ∀ m, tU (rdT (tRl T (n :: r)) n f) m = true → (tX (rdT (tRl T (n :: r)) n f) m).length ≤ 12 := fun m hm => by
          by_cases e : m = n
          · have : tX (rdT (tRl T (n :: r)) n f) m = pgX f := by rw [e]; exact va_up_self _ _ _
            rw [this, pgX_len]; omega
          · have : tX (rdT (tRl T (n :: r)) n f) m = tX T m := va_up_ne _ _ e
            rw [this]; exact (tX_le hW hm).1
        have uA : ∀ x, tU (adCs (rdT (tRl T (n :: r)) n f) n (pgC f)) x = true → x ∉ frI (tU T) (pgC f).length → tU T x = true := fun x hx hxc => by
          rw [i1, decide_eq_false hxc, Bool.false_or] at hx
          exact hx
        refine next_raw hS2 hT2 hn220 (fun c hc => ?_) (fun c p hc hp => ?_) ?_ (fun c h1 h2 h3 => ⟨_, rfl, ?_⟩)
        · by_cases hcc : c ∈ frI (tU T) (pgC f).length
          · rw [(i2 c hcc).2.1]; exact (pgC_lt hf _ (hcm c hcc)).1
          · rw [(i3 c hcc).2.1]; exact (hW.2.1 c (uA c hc hcc)).2.1
        · by_cases hcc : c ∈ frI (tU T) (pgC f).length
          · rw [(i2 c hcc).1] at hp
            injection hp with hp
            omega
          · rw [(i3 c hcc).1] at hp
            exact (hW.2.1 p (hW.2.2.2.1 c p (uA c hc hcc) hp).1).1
        · cases hcl : frI (tU T) (pgC f).length with
          | nil =>
            rw [hcl] at j1
            exact absurd (List.length_eq_zero_iff.mp j1.symm) hne
          | cons c rest =>
            have hcc : c ∈ frI (tU T) (pgC f).length := by rw [hcl]; exact List.mem_cons_self
            exact ⟨c, (j3 c hcc).2, by rw [i1, decide_eq_true hcc, Bool.true_or], (i2 c hcc).1⟩
        · have hcc : c ∈ frI (tU T) (pgC f).length := by
            apply Classical.byContradiction
            intro w
            rw [(i3 c w).1] at h3
            have := (hW.2.2.2.1 c n (uA c h2 w) h3).2.1
            rw [hu.1] at this
            cases this
          refine rt_deep (A := adCs (rdT (tRl T (n :: r)) n f) n (pgC f)) (tk := tk1) hS2 ⟨fun k hk => by rw [(hx02.2 _ _ (rRd_a hS0 (by decide) (by decide))).1]; exact hD0.1 k hk, hD0.2⟩ hW hu.1 hn hT2 hag h1 (j3 c hcc).1 h2 h3 (by rw [xn, pgX_len]; exact h13) (by rw [(i2 c hcc).2.2.2.2.2.1]; exact (pgC_lt hf _ (hcm c hcc)).2) hK2 (by rw [hcnA]; omega) (adCs_12 _ _ _ f12) hr2 (fun M3 hx3 => hno hnone M3 (hx02.trans hx3))
    · have h13 : 12 < tL T n + f 10 := nnle z rfl (b := 12) rfl
      exact hno (eN (fun q => by have := q.1.2.2.1; omega)) M2 hx02
end RTT
