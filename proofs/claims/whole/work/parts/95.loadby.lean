/-! loadBy. -/
theorem nI_or {a b : Nat} (ha : a < 256) (hb : b < 256) : (nI a <<< (8 &&& 31 : Int32)) ||| nI b = nI (a * 256 + b) := by
  rw [pk_shlN (8 &&& 31 : Int32) 8 (by decide) (by omega)]
  have h : a * 2 ^ 8 ||| b = a * 256 + b := by
    have := Nat.shiftLeft_add_eq_or_of_lt (i := 8) (b := b) (by omega) a
    rw [Nat.shiftLeft_eq] at this
    rw [← this]
  rw [← h]
  apply Int32.toBitVec_inj.mp
  apply BitVec.eq_of_toNat_eq
  show (BitVec.ofNat 32 (a * 2 ^ 8) ||| BitVec.ofNat 32 b).toNat = (BitVec.ofNat 32 (a * 2 ^ 8 ||| b)).toNat
  rw [BitVec.toNat_or, BitVec.toNat_ofNat, BitVec.toNat_ofNat, BitVec.toNat_ofNat, Nat.mod_eq_of_lt (by omega : a * 2 ^ 8 < 2 ^ 32), Nat.mod_eq_of_lt (by omega : b < 2 ^ 32), Nat.mod_eq_of_lt (by rw [h]; omega)]
section LB
variable {l : Launch} {g : xG} {M : xM} {Q : Option Value → xM → Prop} {φ ψ : Nat → Nat} {T : TT} {t st rt nd ky n : Nat} {KK sp : List Nat} {s d db w rb w2 rb2 ta tr : Nat} {D : Nat → Nat} {pw : Option Nat} {tk : Nat → Bool} {f : Nat → Nat}
theorem lead_loop0 (hW : tWF T) (hc : ∀ p, tU T p = true → xat M (φ p) 1 ∧ xI M (φ p) 1 = nI (tX T p).length ∧ xR M (φ p) 9 = (tP T p).map φ) (a0 : Nat) : ∀ (f p s : Nat), tU T p = true → tL T p ≤ f → Q (some (.int (nI (s + (tL T p + (tX T p).length + 1))))) M → xWp l g mX3_lead 0 0 7 [(1, va_rf (some a0)), (1, .int (nI s)), (1, va_rf (some (φ p)))] [] (0, 0) M Q
  | f, p, s, hp, hf, hQ => by
    obtain ⟨h1, h5, h9⟩ := hc p hp
    refine bX3_lead_7 _ _ _ ⟨fun c => (by cases c), fun _ => ⟨φ p, rfl, h1, ?_⟩⟩
    rw [h5, h9, nI_1, nI_add]
    cases hq : tP T p with
    | none =>
      have hr : p = tO T := by
        apply Classical.byContradiction
        intro hne
        obtain ⟨q, hq2, -⟩ := hW.2.2.1 p hp hne
        rw [hq] at hq2; cases hq2
      refine bX3_lead_7 _ _ _ ⟨fun _ => ?_, fun c => absurd rfl c⟩
      rw [hr, hW.1.2.2] at hQ
      rw [hr]
      simpa using hQ
    | some q =>
      obtain ⟨k1, k2, k3⟩ := hW.2.2.2.1 p q hp hq
      match f, hf with
      | 0, hf => omega
      | f + 1, hf =>
        refine lead_loop0 hW hc a0 f q _ k1 (by omega) ?_
        rw [k3] at hQ
        rw [show s + ((tX T p).length + 1) + (tL T q + (tX T q).length + 1) = s + (tL T q + (tX T q).length + 1 + (tX T p).length + 1) by omega]
        exact hQ
theorem sX3_lead0 (hW : tWF T) (hc : ∀ p, tU T p = true → xat M (φ p) 1 ∧ xI M (φ p) 1 = nI (tX T p).length ∧ xR M (φ p) 9 = (tP T p).map φ) (hn : tU T n = true) (hQ : Q (some (.int (nI (tL T n)))) M) : xSp l g mX3_lead 0 0 [va_rf (some (φ n))] M Q := by
  obtain ⟨h1, -, h9⟩ := hc n hn
  refine eX3_lead _ (bX3_lead_0 _ ⟨h1, ?_⟩)
  rw [h9]
  cases hq : tP T n with
  | none =>
    have hr : n = tO T := by
      apply Classical.byContradiction
      intro hne
      obtain ⟨q, hq2, -⟩ := hW.2.2.1 n hn hne
      rw [hq] at hq2; cases hq2
    refine bX3_lead_7 _ _ _ ⟨fun _ => ?_, fun c => absurd rfl c⟩
    rw [hr, hW.1.2.2] at hQ
    exact hQ
  | some q =>
    obtain ⟨k1, k2, k3⟩ := hW.2.2.2.1 n q hn hq
    refine lead_loop0 hW hc _ 12 q 0 k1 (tX_le hW k1).2 ?_
    rw [Nat.zero_add, ← k3]
    exact hQ
theorem sX2_keys (hr : rwR M w rb f) (hQ : Q (some (.int (nI (f 10 * 256 + f 11)))) M) : xSp l g mX2_keys 0 0 [va_rf (some w)] M Q := by
  refine eX2_keys _ (bX2_keys_0 _ ⟨w, rfl, hr.1.1, sX5_at (i := 10) hr (by omega) ⟨_, rfl, hr.1.1, sX5_at (i := 11) hr (by omega) ⟨_, rfl, ?_⟩⟩⟩)
  rw [nI_or (hr.2.2 10) (hr.2.2 11)]; exact hQ
theorem sX2_rootPage (hr : rwR M w rb f) (hQ : Q (some (.int (nI (f 9)))) M) : xSp l g mX2_rootPage 0 0 [va_rf (some w)] M Q :=
  eX2_rootPage _ (bX2_rootPage_0 _ ⟨w, rfl, hr.1.1, sX5_at (i := 9) hr (by omega) ⟨_, rfl, hQ⟩⟩)
theorem sX2_sequence (hr : rwR M w rb f) (hQ : Q (some (.long (lNm f 1 8))) M) : xSp l g mX2_sequence 0 0 [va_rf (some w)] M Q :=
  eX2_sequence _ (bX2_sequence_0 _ ⟨w, rfl, hr.1.1, sX5_longAt (i := 1) hr (by omega) ⟨_, rfl, hQ⟩⟩)
theorem RLd_G {a : Nat} {sp0 : List Nat} (ha : a ∈ KK) (h0 : ∀ x ∈ sp0, x ∈ KK) {x : Nat} (h : RLd t a (ψ a) sp0 ta rb rb2 x) : RG t KK ψ x ∨ RS d db rb rb2 ta x := by
  rcases h with h | h | h | h | h | h | h
  · rw [h]; exact Or.inl RGt
  · rw [h]; exact Or.inl (RGk ha)
  · rw [h]; exact Or.inl (RGp ha)
  · exact Or.inl (RGk (h0 x h))
  · exact Or.inr (Or.inr (Or.inr (Or.inr (Or.inr h))))
  · exact Or.inr (Or.inr (Or.inr (Or.inl h)))
  · exact Or.inr (Or.inr (Or.inr (Or.inr (Or.inl h))))
/-- a node that waits, as the cells have it -/
theorem unR_hg (h : cTr M t KK φ ψ T sp nd ky) (hn : tU T n = true) (hu : unR T n) (hr : φ (tO T) = rt) : hgS M t KK ψ rt (φ n) 1 none [] [] sp nd ky := by
  obtain ⟨⟨a1, a2, a3, a4⟩, ⟨n1, n2, n3⟩, ⟨c1, c2, c3, c4⟩, k1, k2⟩ := h
  obtain ⟨⟨⟨b1, b1b, b1c, b1d⟩, ⟨b2, b2b⟩, ⟨i2, i3, i4, i5, i6, i7, i8⟩, b4⟩, b5⟩ := n1.1 n hn
  obtain ⟨u1, u2, u3, u4, u5, u6⟩ := hu
  rw [u1] at i5 b5
  rw [u2] at b2
  rw [u3] at i3 i4
  rw [u4] at i2
  exact ⟨⟨⟨a1, by rw [← hr]; exact a2, a3, a4⟩, ⟨c1, c2, fun a ha => (c3 a ha).1, c4⟩, k1, k2⟩, ⟨⟨b1, b1b, b1c, b1d⟩, ⟨b2, fun i hi => absurd hi (by simp)⟩, ⟨i2, i3, i4, i5⟩, b5, fun q hq => (by cases hq), by simp, fun b hb => (by cases hb)⟩, fun q hq => (by cases hq), List.nodup_nil, n3 n hn, fun z => (c3 _ z).2 n hn rfl⟩
theorem loadBy_loop {M0 : xM} {x1 : Int32} {keys : Nat} {res : Option TT} (hkeys : keys < 65536)
    (hfail : res = none → ∀ M1 tk1, sto M1 s d db w rb w2 rb2 ta D pw tr tk1 → xag (fun x => RG t KK ψ x ∨ RS d db rb rb2 ta x) M0 M1 → xR M1 t 2 = some rt → Q (some (.int 0)) M1)
    (hend : ∀ T, res = some T → ∀ M1 φ1 sp1 tk1, ldI T (tEs T) [] → cTr M1 t KK φ1 ψ T sp1 (tCnt T) (tKy T) → φ1 (tO T) = rt → sto M1 s d db w rb w2 rb2 ta D pw tr tk1 → xag (fun x => RG t KK ψ x ∨ RS d db rb rb2 ta x) M0 M1 → (tKy T = keys → Q (some (.int 1)) M1) ∧ (tKy T ≠ keys → Q (some (.int 0)) M1)) :
    ∀ (k : Nat) (T : TT) (l1 r : List Nat) (n : Nat) (φ : Nat → Nat) (M1 : xM) (sp : List Nat) (tk : Nat → Bool), ldI T l1 (n :: r) → 200 = l1.length + k → cTr M1 t KK φ ψ T sp (tCnt T) (tKy T) → φ (tO T) = rt → sto M1 s d db w rb w2 rb2 ta D pw tr tk → xag (fun x => RG t KK ψ x ∨ RS d db rb rb2 ta x) M0 M1 → res = ldAll D k T tk n → xWp l g mX6_loadBy 0 0 60 [(1, va_rf (some s)), (1, .int x1), (1, va_rf (some t)), (1, .int (nI keys)), (1, va_rf (some (φ n)))] [] (0, 0) M1 Q := by
  intro k
  induction k with
  | zero =>
    intro T l1 r n φ M1 sp tk hI hk
    exfalso
    obtain ⟨hW, hl, hun, h200, hR⟩ := hI
    have hlen := tEs_len hW
    have hcnt : tCnt T = (l1 ++ n :: r).length := by rw [← hl]; exact hlen.symm
    rw [List.length_append, List.length_cons] at hcnt
    omega
  | succ k ih =>
    intro T l1 r n φ M1 sp tk hI hk ht hrt hs hx hres
    obtain ⟨hW, hl, hun, h200, hR⟩ := id hI
    obtain ⟨hn, hN⟩ := tEs_at hW hl
    have hu := hun n List.mem_cons_self
    have hb := (ht.2.1.1.1 n hn).1
    have hky : tKy T ≤ 220 := by
      have := List.countP_le_length (p := fun n => tU T n && (tV T n).isSome) (l := List.range 220)
      rw [List.length_range] at this
      exact this
    have hf : ∀ i, pgF D (tG T n) i < 256 := fun i => hs.2.1.2.2.1 _
    have h3 := unR_hg ht hn hu hrt
    have hwk : ∀ M2, (∀ x, xat M1 x 1 → xat M2 x 1 ∧ xI M2 x 1 = xI M1 x 1 ∧ xR M2 x 9 = xR M1 x 9) → ∀ p, tU T p = true → xat M2 (φ p) 1 ∧ xI M2 (φ p) 1 = nI (tX T p).length ∧ xR M2 (φ p) 9 = (tP T p).map φ := fun M2 h p hp => by
      have hbp := (ht.2.1.1.1 p hp).1
      obtain ⟨g1, g2, g3⟩ := h _ hbp.1.1
      exact ⟨g1, by rw [g2]; exact hbp.2.1.1, by rw [g3]; exact hbp.2.2.2⟩
    have hka : xK M1 ta = 11 := hs.2.2.2.2.1.1.2
    have hkb : xK M1 rb = 8 := by obtain ⟨_, c1⟩ := hs.2.2.1; exact c1.1.2.2.1.2
    have hkc : xK M1 rb2 = 8 := by obtain ⟨_, c1⟩ := hs.2.2.2.1; exact c1.1.2.2.1.2
    have hsub : ∀ x ∈ sp, x ∈ KK := fun x hx2 => (ht.2.2.1.2.2.1 x hx2).1
    have hxL : ∀ M2, xag (RLd t (φ n) (ψ (φ n)) sp ta rb rb2) M1 M2 → xag (fun x => RG t KK ψ x ∨ RS d db rb rb2 ta x) M0 M2 := fun M2 x2 => hx.trans (x2.mono (fun x z => RLd_G (ht.2.1.2.2 n hn) hsub z))
    refine bX6_loadBy_60 _ _ _ _ _ ⟨fun z => (by cases z), fun _ => ⟨hs.1.1, ?_⟩⟩
    refine sX6_loadNode (par := (tP T n).isSome) (L := tL T n) hu.2.2.2.2.2.2 (by have := (tX_le hW hn).2; omega) (by omega) h3 hs hb.2.2.1.2.2.2.2.2.1 ?_ (fun M2 h2 => fun q => sX3_lead0 hW (hwk M2 h2) hn q) (fun hnok M2 tk2 s2 x2 t2 => ⟨_, rfl, fun c => absurd rfl c, fun _ => ?_⟩) (fun ok M2 qs sp1 nd1 tk1 hqs hA h4 s2 x2 hfc hO => ⟨_, rfl, fun _ => ?_, fun c => absurd c (by decide)⟩)
    · rw [hb.2.2.2]
      cases tP T n <;> simp
    · refine hfail ?_ M2 tk2 s2 (hxL M2 x2) t2
      rw [hres]
      exact if_neg (fun z => hnok z.1)
    · by_cases hleg : pgC (pgF D (tG T n)) ≠ [] → tL T n + pgF D (tG T n) 10 + 1 ≤ 12
      · have hokL : okL (pgF D (tG T n)) (tL T n) (tCnt T) tk (tP T n).isSome := ⟨ok, hleg⟩
        obtain ⟨hH, hc200⟩ := ld1_H hW h200 hn hu hf hokL
        obtain ⟨hI2, hcn, hkn⟩ := ld1_I hI hf hokL
        have hql : qs.length = (pgC (pgF D (tG T n))).length := by
          have : (qs.map (fun q => q.2)).length = (pgC (pgF D (tG T n))).length := by rw [hqs]; rfl
          rw [List.length_map] at this; exact this
        have t2 := ld_c hW ht hH h4 x2 hka hkb hkc hfc hO hqs hrt.symm
        have end1 : nd1 = tCnt (ld1 T n (pgF D (tG T n))) := by rw [hcn, hO.2.2, hql]
        have eky : (if (pgV (pgF D (tG T n))).isSome = true then tKy T + 1 else tKy T) = tKy (ld1 T n (pgF D (tG T n))) := by
          rw [hkn]; split <;> rfl
        have t3 : cTr M2 t KK (phL φ (frI (tU T) (pgC (pgF D (tG T n))).length) qs) ψ (ld1 T n (pgF D (tG T n))) sp1 (tCnt (ld1 T n (pgF D (tG T n)))) (tKy (ld1 T n (pgF D (tG T n)))) := by
          rw [← end1, ← eky]; exact t2
        have hW2 := hI2.1
        have hids := hH.2.2.1.2.1
        have hnc : n ∉ frI (tU T) (pgC (pgF D (tG T n))).length := fun z => by have := (hids n z).1; rw [hn] at this; cases this
        have hoc : tO T ∉ frI (tU T) (pgC (pgF D (tG T n))).length := fun z => by have := (hids _ z).1; rw [hW.1.1] at this; cases this
        have hφn : phL φ (frI (tU T) (pgC (pgF D (tG T n))).length) qs n = φ n := if_neg hnc
        have hrt2 : phL φ (frI (tU T) (pgC (pgF D (tG T n))).length) qs (tO (ld1 T n (pgF D (tG T n)))) = rt := (if_neg hoc).trans hrt
        have hn2 : tU (ld1 T n (pgF D (tG T n))) n = true := tLd_u.mpr (Or.inr hn)
        have hl2 : tEs (ld1 T n (pgF D (tG T n))) = l1 ++ n :: (frI (tU T) (pgC (pgF D (tG T n))).length ++ r) := by rw [hI2.2.1]; simp
        have hN2 := (tEs_at hW2 hl2).2
        have hA2 : acc (tCnt T) tk none (pgC (pgF D (tG T n))) = some tk1 := hA
        have hres2 : res = match tN (ld1 T n (pgF D (tG T n))) n with
          | none => some (ld1 T n (pgF D (tG T n)))
          | some m => ldAll D k (ld1 T n (pgF D (tG T n))) tk1 m := by
          rw [hres]
          refine (if_pos hokL).trans ?_
          rw [hA2]
          rfl
        refine ⟨φ n, rfl, h4.2.1.1.1, ?_⟩
        have fol := sX3_following (l := l) (g := g) (Q := fun ρ12 M11 => ∃ v10 : Option Nat, ρ12 = some (va_rf v10) ∧ xWp l g mX6_loadBy 0 0 60 [(1, va_rf (some s)), (1, .int x1), (1, va_rf (some t)), (1, .int (nI keys)), (1, va_rf v10)] [] (0, 0) M11 Q) hW2 (t3.ns hW2) hn2 ⟨_, rfl, ?_⟩
        · rw [hφn] at fol; exact fol
        · rw [hN2]
          rw [hN2] at hres2
          cases hrest : frI (tU T) (pgC (pgF D (tG T n))).length ++ r with
          | nil =>
            rw [hrest] at hres2
            have hI3 : ldI (ld1 T n (pgF D (tG T n))) (tEs (ld1 T n (pgF D (tG T n)))) [] := ⟨hW2, (List.append_nil _).symm, fun x hx5 => (by cases hx5), hI2.2.2.2⟩
            have hky2 : tKy (ld1 T n (pgF D (tG T n))) ≤ 220 := by
              have := List.countP_le_length (p := fun x => tU (ld1 T n (pgF D (tG T n))) x && (tV (ld1 T n (pgF D (tG T n))) x).isSome) (l := List.range 220)
              rw [List.length_range] at this
              exact this
            obtain ⟨q1, q2⟩ := hend _ hres2 M2 _ sp1 tk1 hI3 t3 hrt2 s2 (hxL M2 x2)
            exact bX6_loadBy_60 _ _ _ _ _ ⟨fun _ => ⟨t, rfl, t3.1.1, fun c => q2 (nne c t3.1.2.2.2 rfl), fun c => q1 (neq c t3.1.2.2.2 rfl)⟩, fun z => absurd rfl z⟩
          | cons m rest =>
            rw [hrest] at hres2 hI2
            exact ih (ld1 T n (pgF D (tG T n))) (l1 ++ [n]) rest m _ M2 sp1 tk1 hI2 (by rw [List.length_append, List.length_singleton]; omega) t3 hrt2 s2 (hxL M2 x2) hres2
      · have hpc : pgC (pgF D (tG T n)) ≠ [] := fun z => hleg (fun y => absurd z y)
        have hdeep : ¬ tL T n + pgF D (tG T n) 10 + 1 ≤ 12 := fun z => hleg (fun _ => z)
        have hrn : res = none := by
          rw [hres]
          exact if_neg (fun z => hdeep (z.2 hpc))
        have hXl : (pgX (pgF D (tG T n))).length = pgF D (tG T n) 10 := by unfold pgX; rw [List.length_map, List.length_range]
        have h12 : tL T n + pgF D (tG T n) 10 ≤ 12 := ok.2.2.1
        -- the first child
        obtain ⟨c, qr, hqc⟩ : ∃ c qr, qs = c :: qr := by
          cases qs with
          | nil => exact absurd hqs.symm hpc
          | cons c qr => exact ⟨c, qr, rfl⟩
        have hcm : c ∈ qs := by rw [hqc]; exact List.mem_cons_self
        obtain ⟨f1, f2, f3, g1, g2, g3, g4, g5, g6, g7, g8⟩ := h4.2.2.1 c hcm
        obtain ⟨e1, e2, e3, e4, e5⟩ := h4.2.1.2.2.2.2.1 c hcm
        have e10 : xR M2 (φ n) 10 = some c.1 := by
          have := h4.2.1.2.2.2.1
          rw [hqc] at this
          exact this.1
        refine ⟨φ n, rfl, h4.2.1.1.1, ?_⟩
        refine eX3_following _ (bX3_following_0 _ ⟨h4.2.1.1.1, fun z => ?_, fun _ => ?_⟩)
        · rw [e10] at z; cases z
        rw [e10]
        refine ⟨_, rfl, ?_⟩
        obtain ⟨T1, hT1⟩ : ∃ T1, T1 = tLd T n (pgF D (tG T n) 0) (pgV (pgF D (tG T n))) (pgX (pgF D (tG T n))) [] [] := ⟨_, rfl⟩
        have hH1 : ldH T n (pgX (pgF D (tG T n))) [] [] := ⟨⟨hn, hu.1⟩, ⟨by rw [hXl]; exact h12, fun b hb2 => by
          obtain ⟨i, _, e⟩ := List.mem_map.mp hb2
          rw [← e]; exact hf _⟩, ⟨List.nodup_nil, fun c hc => (by cases hc), rfl⟩, ⟨List.Pairwise.nil, fun c hc => (by cases hc)⟩, fun z => absurd rfl z⟩
        have hW1 : tWF T1 := by rw [hT1]; exact tLd_wf hW hH1
        have hu1 : ∀ p, tU T1 p = true → tU T p = true := fun p hp => by
          rw [hT1] at hp
          rcases tLd_u.mp hp with z | z
          · cases z
          · exact z
        have hX1 : ∀ p, tX T1 p = if p = n then pgX (pgF D (tG T n)) else tX T p := fun p => by
          rw [hT1]
          show (if p = n then _ else if p ∈ ([] : List Nat) then [] else tX T p) = _
          rw [if_neg (show ¬ p ∈ ([] : List Nat) from by simp)]
        have hP1 : ∀ p, tP T1 p = tP T p := fun p => by
          rw [hT1]
          show (if p ∈ ([] : List Nat) then some n else tP T p) = tP T p
          rw [if_neg (show ¬ p ∈ ([] : List Nat) from by simp)]
        have hL1 : tL T1 n = tL T n := by
          rw [hT1]
          show (if n ∈ ([] : List Nat) then tL T n + (pgX (pgF D (tG T n))).length + 1 else tL T n) = tL T n
          rw [if_neg (show ¬ n ∈ ([] : List Nat) from by simp)]
        have hn1 : tU T1 n = true := by rw [hT1]; exact tLd_u.mpr (Or.inr hn)
        have hold : ∀ p, tU T p = true → p ≠ n → ¬ RLd t (φ n) (ψ (φ n)) sp ta rb rb2 (φ p) := fun p hp hpn z => by
          have hk := ht.2.2.2.1 _ (ht.2.1.2.2 p hp)
          have hkn := ht.2.2.2.1 _ (ht.2.1.2.2 n hn)
          rcases z with z | z | z | z | z | z | z
          · exact ne_of_kind hk.1.2 ht.1.1.2 (by decide) z
          · exact hpn (ht.2.1.2.1 p n hp hn z)
          · exact ne_of_kind hk.1.2 hkn.2.2.1.2 (by decide) z
          · exact (ht.2.2.1.2.2.1 _ z).2 p hp rfl
          · exact ne_of_kind hk.1.2 hka (by decide) z
          · exact ne_of_kind hk.1.2 hkb (by decide) z
          · exact ne_of_kind hk.1.2 hkc (by decide) z
        have hwk1 : ∀ p, tU T1 p = true → xat M2 (φ p) 1 ∧ xI M2 (φ p) 1 = nI (tX T1 p).length ∧ xR M2 (φ p) 9 = (tP T1 p).map φ := fun p hp => by
          have hpT := hu1 p hp
          have hbp := (ht.2.1.1.1 p hpT).1
          rw [hX1, hP1]
          by_cases hpn : p = n
          · rw [if_pos hpn, hpn]
            exact ⟨h4.2.1.1.1, h4.2.1.2.1.1, by rw [hfc.2.1]; exact hb.2.2.2⟩
          · rw [if_neg hpn]
            obtain ⟨p1, p2, p3⟩ := x2.2 _ (hold p hpT hpn)
            exact ⟨x2.at.mpr hbp.1.1, by rw [p1]; exact hbp.2.1.1, by rw [p3]; exact hbp.2.2.2⟩
        have hcK := h4.1.2.2.1 c.1 f1
        have h5 : hgS M2 t KK ψ rt c.1 1 none [] [] sp1 nd1 (if (pgV (pgF D (tG T n))).isSome = true then tKy T + 1 else tKy T) := ⟨h4.1, ⟨hcK, ⟨g1, fun i hi => absurd hi (by simp)⟩, ⟨g2, g3, g4, g5⟩, g8, fun q hq => (by cases hq), by simp, fun b hb2 => (by cases hb2)⟩, fun q hq => (by cases hq), List.nodup_nil, f1, f2⟩
        have hsp1 : ∀ x ∈ sp1, x ∈ KK := h4.1.2.1.2.2.1
        have hxL2 : ∀ M3, xag (RLd t c.1 (ψ c.1) sp1 ta rb rb2) M2 M3 → xag (fun x => RG t KK ψ x ∨ RS d db rb rb2 ta x) M0 M3 := fun M3 x3 => (hxL M2 x2).trans (x3.mono (fun x z => RLd_G f1 hsp1 z))
        refine bX6_loadBy_60 _ _ _ _ _ ⟨fun z => (by cases z), fun _ => ⟨s2.1.1, ?_⟩⟩
        refine sX6_loadNode (par := true) (L := tL T n + pgF D (tG T n) 10 + 1) e5 (by omega) (by split <;> omega) h5 s2 e3 ?_ (fun M3 h6 => fun {Q1} q => ?_) (fun hnok M3 tk3 s3 x3 t3 => ⟨_, rfl, fun c => absurd rfl c, fun _ => ?_⟩) (fun ok3 => ?_)
        · rw [g7]; simp
        · obtain ⟨k1, k2, k3⟩ := h6 c.1 e1
          refine eX3_lead _ (bX3_lead_0 _ ⟨k1, ?_⟩)
          rw [k3, g7]
          refine lead_loop0 (T := T1) hW1 (fun p hp => ?_) c.1 12 n 0 hn1 (tX_le hW1 hn1).2 ?_
          · obtain ⟨y1, y2, y3⟩ := hwk1 p hp
            obtain ⟨z1, z2, z3⟩ := h6 _ y1
            exact ⟨z1, by rw [z2]; exact y2, by rw [z3]; exact y3⟩
          · rw [Nat.zero_add, hL1, hX1, if_pos rfl, hXl]
            exact q
        · exact hfail hrn M3 tk3 s3 (hxL2 M3 x3) t3
        · exfalso
          have := ok3.2.2.1
          omega
end LB
