/-! join, detach, drop. -/
section RM2
variable {l : Launch} {g : xG} {M : xM} {Q : Option Value → xM → Prop} {φ ψ : Nat → Nat} {T : TT} {t nd ky : Nat} {KK sp : List Nat}
theorem sX8_putInPlace0 {M0 : xM} (hW : tWF T) (hi : cInj φ T) (h : cNc M0 φ ψ T) (hM : xL M = xL M0 ∧ xK M = xK M0 ∧ xN M = xN M0 ∧ xJ M = xJ M0 ∧ xR M = xR M0) (h6 : ∀ x, xat M0 x 1 → xI M x 6 = xI M0 x 6) {s o : Nat} (ht : xat M0 t 5) (hr : xR M0 t 2 = some (φ (tO T))) (hs : tU T s = true) (hoa : xat M0 o 1) (hos : o ≠ φ s) (hoc : ∀ p, tP T s = some p → o ≠ φ p ∧ ∀ y ∈ tC T p, φ y ≠ o)
    (hQ : ∀ M1, yieldP M M1 (φ s) o (tW φ T s) → Q none (if s = tO T then xsR M1 t 2 (some o) else M1)) : xSp l g mX8_putInPlace 0 0 [va_rf (some t), va_rf (some (φ s)), va_rf (some o)] M Q := by
  have hb := (h.1 s hs).1
  have hto : t ≠ o := ne_of_kind ht.2 hoa.2 (by decide)
  have hat : ∀ x k, xat M0 x k → xat M x k := fun x k z => ⟨by rw [hM.1]; exact z.1, by rw [hM.2.1]; exact z.2⟩
  have hR := hM.2.2.2.2
  have key : ∀ M1, yieldP M M1 (φ s) o (tW φ T s) → none = (none : Option Value) ∧ (xat M1 t 5 ∧ ((¬ some (φ s) = (xR M1 t 2) → (Q none M1)) ∧ (some (φ s) = (xR M1 t 2) → (Q none (xsR M1 t 2 (some o)))))) := fun M1 hy => by
    obtain ⟨M2, hy2, e2⟩ := yieldP_R hy hR
    have h2 : xR M1 t 2 = some (φ (tO T)) := by rw [← e2, (yield_T hW hi h hs hos hoc hy2).1 t 2 hto (by decide) (by decide)]; exact hr
    have hq := hQ M1 hy
    refine ⟨rfl, ⟨by rw [hy.1.1]; exact (hat _ _ ht).1, by rw [hy.1.2.1]; exact (hat _ _ ht).2⟩, fun c => ?_, fun c => ?_⟩
    · rw [if_neg (fun z => c (by rw [h2, z]))] at hq; exact hq
    · have : s = tO T := hi s _ hs hW.1.1 (by rw [h2] at c; exact Option.some.inj c)
      rw [if_pos this] at hq; exact hq
  refine eX8_putInPlace _ _ _ (bX8_putInPlace_0 _ _ _ ⟨φ s, rfl, hat _ _ hb.1.1, ?_⟩)
  cases hp : tP T s with
  | none =>
    have ew : tW φ T s = none := by simp [tW, hp]
    exact sX3_yieldTo0 (Ne.symm hos) (hat _ _ hb.1.1) (hat _ _ hoa) (by rw [hR, hb.2.2.2, hp]; rfl) (fun M1 hy => key M1 (by rw [ew]; exact hy))
  | some p =>
    obtain ⟨p1, p2, p3⟩ := hW.2.2.2.1 s p hs hp
    obtain ⟨o1, o2⟩ := hoc p hp
    have ebf : tBf T s = (tC T p).takeWhile (fun x => decide (x ≠ s)) := by simp [tBf, hp]
    have ew : tW φ T s = some (φ p, (tBf T s).map φ) := by simp [tW, hp]
    obtain ⟨l2, hl⟩ := tw_split p2
    rw [← ebf] at hl
    have hCu : ∀ y ∈ tC T p, tU T y = true := fun y hy2 => (hW.2.2.2.2.1 p y p1 hy2).1
    have hmap : (tC T p).map φ = (tBf T s).map φ ++ φ s :: l2.map φ := by
      conv => lhs; rw [hl]
      rw [List.map_append, List.map_cons]
    have e6 : ∀ x, tU T x = true → xI M (φ x) 6 = nI (tB T x) := fun x hx => by
      rw [h6 _ (h.1 x hx).1.1.1]; exact (h.1 x hx).1.2.2.1.2.2.2.2.1
    have e6x : ∀ x, tU T x = true → (xI M (φ x) 6).toNatClampNeg = tB T x := fun x hx => by
      have hxb := (hW.2.1 x hx).2.1
      rw [e6 x hx]; exact nI_clamp (by omega)
    refine sX3_yieldTo (p := φ p) (fun a => (xI M a 6).toNatClampNeg) (s1 := (tBf T s).map φ) (s2 := l2.map φ) (Ne.symm hos) (fun z => ?_) o1 (hat _ _ hb.1.1) (hat _ _ hoa) (hat _ _ (h.1 p p1).1.1.1) (by rw [hR, hb.2.2.2, hp]; rfl) (by rw [← hmap, hR]; exact chS_fr (h.1 p p1).2 (fun a _ => by rw [hR])) (fun x hx => ?_) (fun x hx => ?_) (fun M1 hy => key M1 (by rw [ew]; exact hy))
    · rw [← hmap] at z
      obtain ⟨y, hy2, e⟩ := List.mem_map.mp z
      exact o2 y hy2 e
    · rw [← hmap] at hx
      obtain ⟨y, hy, rfl⟩ := List.mem_map.mp hx
      have hyb := (hW.2.1 y (hCu y hy)).2.1
      exact ⟨hat _ _ (h.1 y (hCu y hy)).1.1.1, by rw [e6x y (hCu y hy)]; exact e6 y (hCu y hy), by rw [e6x y (hCu y hy)]; exact hyb⟩
    · obtain ⟨y, hy, rfl⟩ := List.mem_map.mp hx
      have hym : y ∈ tC T p := by rw [hl]; exact List.mem_append_left _ hy
      show (xI M (φ y) 6).toNatClampNeg < (xI M (φ s) 6).toNatClampNeg
      rw [e6x y (hCu y hym), e6x s hs]
      have hsort := hW.2.2.2.2.2 p p1
      rw [hl, List.pairwise_append] at hsort
      exact hsort.2.2 y hy s List.mem_cons_self
/-- a node goes back to the spare ones -/
theorem rel_c {T1 : TT} (hW1 : tWF T1) (h : cTr M t KK φ ψ T sp (nd + 1) ky) {n : Nat} (hn : tU T n = true) {M2 : xM} (hx : xag (fun a => a = t ∨ ∃ x, tU T x = true ∧ (a = φ x ∨ a = ψ (φ x))) M M2)
    (ht1 : xR M2 t 1 = xR M t 1) (ht4 : xI M2 t 4 = xI M t 4) (ht2 : xR M2 t 2 = some (φ (tO T1))) (h0 : ∀ a ∈ KK, xR M2 a 0 = xR M a 0) (hc : cNc M2 φ ψ T1) (hU : ∀ x, tU T1 x = true → tU T x = true ∧ x ≠ n) :
    cTr (rlM M2 t (φ n) nd) t KK φ ψ T1 (φ n :: sp) nd ky ∧ xag (RG t KK ψ) M (rlM M2 t (φ n) nd) := by
  obtain ⟨⟨a1, a2, a3, a4⟩, ⟨n1, n2, n3⟩, ⟨c1, c2, c3, c4⟩, k1, k2⟩ := id h
  have hnK := n3 n hn
  have hna := (k1 _ hnK).1
  have htn : t ≠ φ n := ne_of_kind a1.2 hna.2 (by decide)
  have hsp : ∀ a ∈ sp, a ≠ φ n := fun a ha z => (c3 a ha).2 n hn z.symm
  have hspt : ∀ a ∈ sp, a ≠ t := fun a ha => ne_of_kind (k1 a (c3 a ha).1).1.2 a1.2 (by decide)
  have hx1 : xag (fun a => a = t ∨ a = φ n) M2 (rlM M2 t (φ n) nd) := (xag_R (P := fun a => a = t ∨ a = φ n) M2 (Or.inr rfl)).trans ((xag_R (P := fun a => a = t ∨ a = φ n) _ (Or.inl rfl)).trans (xag_I (P := fun a => a = t ∨ a = φ n) _ (Or.inl rfl)))
  have hxG : xag (RG t KK ψ) M (rlM M2 t (φ n) nd) := (hx.mono (fun a z => by
    rcases z with z | ⟨x, hx2, z | z⟩
    · rw [z]; exact RGt
    · rw [z]; exact RGk (n3 x hx2)
    · rw [z]; exact RGp (n3 x hx2))).trans (hx1.mono (fun a z => by
    rcases z with z | z
    · rw [z]; exact RGt
    · rw [z]; exact RGk hnK))
  have hi1 : cInj φ T1 := fun a b ha hb e => n2 a b (hU a ha).1 (hU b hb).1 e
  have hR : ∀ x j, xR (rlM M2 t (φ n) nd) x j = if x = t ∧ j = 1 then some (φ n) else if x = φ n ∧ j = 11 then xR M2 t 1 else xR M2 x j := fun x j => by
    simp only [rlM, xR_sI, xR_sR]
  refine ⟨cTr_up h hxG (fun a ha => ?_) ?_ ?_ ?_ ?_ hi1 (fun x hx2 => n3 x (hU x hx2).1) ?_ ?_ ?_ ?_, hxG⟩
  · rw [hR, if_neg (fun z => absurd z.2 (by decide)), if_neg (fun z => absurd z.2 (by decide))]; exact h0 a ha
  · rw [hR, if_neg (fun z => absurd z.2 (by decide)), if_neg (fun z => absurd z.2 (by decide))]; exact ht2
  · simp only [rlM, xI_sI, and_self, if_true]
  · simp only [rlM]
    rw [xI_sI, if_neg (fun z => absurd z.2 (by decide)), xI_sR, xI_sR, ht4]; exact a4
  · refine cNc_ag hW1 hc hx1 (fun x hx2 => ?_)
    have hb := (hc.1 x hx2).1.1
    have ht : xat M2 t 5 := hx.at.mpr a1
    have hn2 : xat M2 (φ n) 1 := hx.at.mpr hna
    exact ⟨fun z => z.elim (ne_of_kind hb.1.2 ht.2 (by decide)) (fun e => (hU x hx2).2 (n2 x n (hU x hx2).1 hn e)), fun z => z.elim (ne_of_kind hb.2.2.1.2 ht.2 (by decide)) (ne_of_kind hb.2.2.1.2 hn2.2 (by decide))⟩
  · refine ⟨by rw [hR, if_pos ⟨rfl, rfl⟩], ?_⟩
    have e : xR (rlM M2 t (φ n) nd) (φ n) 11 = xR M t 1 := by rw [hR, if_neg (fun z => absurd z.2 (by decide)), if_pos ⟨rfl, rfl⟩, ht1]
    rw [e]
    refine chS_fr c1 (fun a ha => ?_)
    rw [hR, if_neg (fun z => absurd z.2 (by decide)), if_neg (fun z => hsp a ha z.1)]
    refine (hx.2 a (fun z => ?_)).2.2 11
    rcases z with z | ⟨x, hx2, z | z⟩
    · exact hspt a ha z
    · exact (c3 a ha).2 x hx2 z.symm
    · exact ne_of_kind (k1 a (c3 a ha).1).1.2 (k1 _ (n3 x hx2)).2.2.1.2 (by decide) z
  · exact List.nodup_cons.mpr ⟨fun z => hsp _ z rfl, c2⟩
  · intro a ha
    rcases List.mem_cons.mp ha with rfl | ha
    · exact ⟨hnK, fun x hx2 e => (hU x hx2).2 (n2 x n (hU x hx2).1 hn e)⟩
    · exact ⟨(c3 a ha).1, fun x hx2 => (c3 a ha).2 x (hU x hx2).1⟩
  · rw [List.length_cons]; omega
theorem sX8_join {u : Nat} (hW : tWF T) (h : cTr M t KK φ ψ T sp (nd + 1) ky) (hu : tU T u = true)
    (hQ0 : tJoin T u = T → Q none M) (hQ1 : ∀ c, tC T u = [c] → tV T u = none → ∀ M1, cTr M1 t KK φ ψ (tFr (tJn T u c) c) (φ u :: sp) nd ky → xag (RG t KK ψ) M M1 → Q none M1) : xSp l g mX8_join 0 0 [va_rf (some t), va_rf (some (φ u))] M Q := by
  obtain ⟨⟨a1, a2, a3, a4⟩, ⟨n1, n2, n3⟩, ⟨c1, c2, c3, c4⟩, k1, k2⟩ := id h
  obtain ⟨⟨⟨b1, b1b, b1c, b1d⟩, ⟨b2, b2b⟩, ⟨i2, i3, i4, i5, i6, i7, i8⟩, b4⟩, b5⟩ := n1.1 u hu
  have hcl := tC_len hW hu
  refine eX8_join _ _ (bX8_join_0 _ _ ⟨φ u, rfl, b1, fun d1 => ?_, fun d1 => ⟨fun d2 => ?_, fun d2 => ⟨fun d3 => ?_, fun d3 => ?_⟩⟩⟩)
  · exact hQ0 (tJoin_val (bnf (fun z => d1 (i3.trans (z01.mpr z)))))
  · exact hQ0 (tJoin_len (nne d2 i5 (b := 1) rfl))
  · have hv : tV T u = none := by
      have := z01.mp (i3.symm.trans d1)
      cases hvv : tV T u with
      | none => rfl
      | some x => rw [hvv] at this; cases this
    obtain ⟨c, hc⟩ := List.length_eq_one_iff.mp (neq d2 i5 (b := 1) rfl)
    have hcm : c ∈ tC T u := by rw [hc]; exact List.mem_cons_self
    obtain ⟨hcu, hcp⟩ := hW.2.2.2.2.1 u c hu hcm
    have hcl := (hW.2.2.2.1 c u hcu hcp).2.2
    have huc : u ≠ c := fun z => by rw [z] at hcl; omega
    have hφuc : φ u ≠ φ c := fun z => huc (n2 u c hu hcu z)
    have e10 : xR M (φ u) 10 = some (φ c) := by rw [chS_head b5, hc]; rfl
    have hcb := (n1.1 c hcu).1
    have h12 := (hW.2.1 c hcu).2.2.2
    have hψuc : ψ (φ u) ≠ ψ (φ c) := fun z => hφuc (k2 _ (n3 u hu) _ (n3 c hcu) z)
    have hWj := tJn_wf hW hu hc
    rw [e10]
    refine ⟨φ c, rfl, hcb.1.1, ?_⟩
    refine sX3_takePrefixOfParent (p := tX T c) (q := tX T u) (b := tB T c) (by omega) (Ne.symm hφuc) hψuc hcb.1.1 hcb.1.2.1 hcb.1.2.2.1 hcb.1.2.2.2 hcb.2.1.1 hcb.2.1.2 hcb.2.2.1.2.2.2.2.1 b1 b1b b1c b1d b2 b2b (fun M1 hp => ⟨rfl, ?_⟩)
    have hx1 := pfx_ag hp
    have hpar : ∀ p, tP T u = some p → tU T p = true ∧ p ≠ c ∧ p ≠ u ∧ c ∉ tC T p := fun p hp => by
      obtain ⟨p1, p2, p3⟩ := hW.2.2.2.1 u p hu hp
      have hpu : p ≠ u := fun z => by rw [z] at p3; omega
      refine ⟨p1, fun z => by rw [z] at p3; omega, hpu, fun z => ?_⟩
      have := (hW.2.2.2.2.1 p c p1 z).2
      rw [hcp] at this
      exact hpu (Option.some.inj this).symm
    have hoc : ∀ p, tP T u = some p → φ c ≠ φ p ∧ ∀ y ∈ tC T p, φ y ≠ φ c := fun p hp => ⟨fun z => (hpar p hp).2.1 (n2 c p hcu (hpar p hp).1 z).symm, fun y hy2 z => (hpar p hp).2.2.2 (by rw [← n2 y c (hW.2.2.2.2.1 p y (hpar p hp).1 hy2).1 hcu z]; exact hy2)⟩
    have htc : t ≠ φ c := ne_of_kind a1.2 hcb.1.1.2 (by decide)
    have htψ : t ≠ ψ (φ c) := ne_of_kind a1.2 hcb.1.2.2.1.2 (by decide)
    refine ⟨hx1.at.mpr a1, sX8_putInPlace0 hW n2 n1 hp.1 (fun x hx => hp.2.1 x 6 (ne_of_kind hx.2 hcb.1.2.2.1.2 (by decide)) (fun z => absurd z.2 (by decide))) a1 a2 hu hcb.1.1 (Ne.symm hφuc) hoc (fun M2 hy => ⟨rfl, ?_⟩)⟩
    obtain ⟨M3, hy3, e3⟩ := yieldP_R hy hp.1.2.2.2.2
    obtain ⟨y1, y2, y3, y4, y5⟩ := yield_T hW n2 n1 hu (Ne.symm hφuc) hoc hy3
    rw [e3] at y1
    have hcj : cNc M2 φ ψ (tJn T u c) := by
      refine jn_c hW n2 n1 hu hc (fun x hx hxc z => hxc (n2 x c hx hcu (k2 _ (n3 x hx) _ (n3 c hcu) z))) hy3 ⟨by rw [hy.1.1, hp.1.1], by rw [hy.1.2.1, hp.1.2.1], by rw [hy.1.2.2.1, hp.1.2.2.1], by rw [hy.1.2.2.2, hp.1.2.2.2.1]⟩ (fun x j hx => ?_) (fun i hi => ?_) e3.symm
      · rw [hy.2.1]
        have hu1 : xI M1 (φ u) 6 = xI M (φ u) 6 := hp.2.1 _ _ (ne_of_kind b1.2 hcb.1.2.2.1.2 (by decide)) (fun z => absurd z.2 (by decide))
        by_cases hz : x = φ c ∧ j = 6
        · rw [if_pos hz, if_neg (fun w => absurd (w.2.symm.trans hz.2) (by decide)), if_pos hz, hu1]
        · rw [if_neg hz, if_neg hz]
          by_cases hz1 : x = φ c ∧ j = 1
          · rw [if_pos hz1, hz1.1, hz1.2]; exact hp.2.2.1
          · rw [if_neg hz1]; exact hp.2.1 x j hx hz1
      · rw [hy.2.1, if_neg (fun z => ne_of_kind hcb.1.2.2.1.2 hcb.1.1.2 (by decide) z.1)]; exact hp.2.2.2 i hi
    have hx2 := yield_ag hW hu hy
    have hx12 : xag (fun a => a = t ∨ ∃ x, tU T x = true ∧ (a = φ x ∨ a = ψ (φ x))) M M2 := (hx1.mono (fun a z => Or.inr ⟨c, hcu, z⟩)).trans (hx2.mono (fun a z => by
      rcases z with ⟨x, hx, z⟩ | z
      · exact Or.inr ⟨x, hx, Or.inl z⟩
      · exact Or.inr ⟨c, hcu, Or.inl z⟩))
    have ht2I : ∀ j, xI M2 t j = xI M t j := fun j => by
      rw [hy.2.1, if_neg (fun z => htc z.1)]; exact hp.2.1 _ _ htψ (fun z => htc z.1)
    have ht2R : ∀ j, j ≠ 10 → j ≠ 11 → xR M2 t j = xR M t j := fun j d1 d2 => y1 t j htc d1 d2
    -- the root
    have hM4 : ∃ M4 : xM, (if u = tO T then xsR M2 t 2 (some (φ c)) else M2) = M4 ∧ xag (fun a => a = t) M2 M4 ∧ xR M4 t 1 = xR M2 t 1 ∧ (∀ j, xI M4 t j = xI M2 t j) ∧ xR M4 t 2 = some (φ (tO (tJn T u c))) ∧ (∀ x, xR M4 x 0 = xR M2 x 0) := by
      have eO : tO (tJn T u c) = if u = tO T then c else tO T := rfl
      rw [eO]
      by_cases hso : u = tO T
      · rw [if_pos hso, if_pos hso]
        exact ⟨_, rfl, xag_R _ rfl, by rw [xR_sR, if_neg (fun z => absurd z.2 (by decide))], fun j => rfl, by rw [xR_sR, if_pos ⟨rfl, rfl⟩], fun x => by rw [xR_sR, if_neg (fun z => absurd z.2 (by decide))]⟩
      · rw [if_neg hso, if_neg hso]
        exact ⟨_, rfl, xag.rf, rfl, fun j => rfl, by rw [ht2R 2 (by decide) (by decide)]; exact a2, fun x => rfl⟩
    obtain ⟨M4, e4, hx4, r1, rI, r2, r0⟩ := hM4
    rw [e4]
    have hcj4 : cNc M4 φ ψ (tJn T u c) := cNc_ag hWj hcj hx4 (fun x hx => by
      have hb := (hcj.1 x hx).1.1
      have ht : xat M2 t 5 := hx12.at.mpr a1
      exact ⟨ne_of_kind hb.1.2 ht.2 (by decide), ne_of_kind hb.2.2.1.2 ht.2 (by decide)⟩)
    have hx14 := hx12.trans (hx4.mono (fun a z => Or.inl z))
    have hR0 : ∀ a ∈ KK, xR M4 a 0 = xR M a 0 := fun a ha => by
      rw [r0]
      by_cases hac : a = φ c
      · rw [hac, ← e3, y2, if_neg (by decide), if_neg (by decide)]
      · exact y1 a 0 hac (by decide) (by decide)
    obtain ⟨w1, w2⟩ := rel_c (nd := nd) hWj h hu hx14 (by rw [r1, ht2R 1 (by decide) (by decide)]) (by rw [rI, ht2I]) r2 hR0 hcj4 (fun x hx => by
      have hx5 : va_up (tU T) u false x = true := hx
      have hxu : x ≠ u := fun z => by rw [z, va_up_self] at hx5; cases hx5
      exact ⟨used_ne hx5 hxu, hxu⟩)
    refine ⟨hx14.at.mpr a1, sX8_release (nd := nd) (hx14.at.mpr a1) (by rw [rI, ht2I]; exact a3) (hx14.at.mpr b1) ⟨rfl, φ c, rfl, ?_, ?_⟩⟩
    · exact (w1.2.2.2.1 _ (n3 c hcu)).1
    have hcu2 : tU (tJn T u c) c = true := by
      show va_up (tU T) u false c = true
      rw [va_up_ne _ _ (Ne.symm huc)]; exact hcu
    obtain ⟨w3, w4⟩ := w1.fr hWj hcu2
    exact sX3_freshen hWj (w1.ns hWj).pN hcu2 ⟨rfl, hQ1 c hc hv _ w3 (w2.trans w4)⟩
  · exfalso
    obtain ⟨c, hc⟩ := List.length_eq_one_iff.mp (neq d2 i5 (b := 1) rfl)
    rw [chS_head b5, hc] at d3; cases d3
theorem lose_ag {M1 : xM} {a k f : Nat} {s1 s2 : List Nat} (h : loseP M M1 a s1 s2 k f) : xag (fun x => x = a ∨ x ∈ s1) M M1 := by
  obtain ⟨⟨e1, e2, e3, e4⟩, eI, eR⟩ := h
  exact ⟨⟨e1, e2, e3, fun x => by rw [eR, if_neg (fun z => absurd z.2.2 (by decide)), if_neg (fun z => absurd z.2 (by decide))]⟩, fun x hx => ⟨fun j => by rw [eI, if_neg (fun z => hx (Or.inl z.1)), if_neg (fun z => hx (Or.inl z.1))], fun j => by rw [e4], fun j => by rw [eR, if_neg (fun z => hx (Or.inl z.2.1)), if_neg (fun z => hx (Or.inr (List.mem_of_getLast? z.1)))]⟩⟩
theorem sX8_detach {n p : Nat} (hW : tWF T) (h : cTr M t KK φ ψ T sp (nd + 2) ky) (hn : tU T n = true) (hp : tP T n = some p) (hc : tC T n = []) (hF1 : 1 ≤ tF T p) (hF4 : tF T p ≤ 4)
    (hQ0 : tJoin (tDel T n p) p = tDel T n p → ∀ M1, cTr M1 t KK φ ψ (tDel T n p) (φ n :: sp) (nd + 1) ky → xag (RG t KK ψ) M M1 → Q none M1)
    (hQ1 : ∀ c, tC (tDel T n p) p = [c] → tV T p = none → ∀ M1, cTr M1 t KK φ ψ (tFr (tJn (tDel T n p) p c) c) (φ p :: φ n :: sp) nd ky → xag (RG t KK ψ) M M1 → Q none M1) : xSp l g mX8_detach 0 0 [va_rf (some t), va_rf (some (φ n)), va_rf (some (φ p))] M Q := by
  obtain ⟨⟨a1, a2, a3, a4⟩, ⟨n1, n2, n3⟩, ⟨c1, c2, c3, c4⟩, k1, k2⟩ := id h
  obtain ⟨p1, p2, p3⟩ := hW.2.2.2.1 n p hn hp
  have hpn : p ≠ n := fun z => by rw [z] at p3; omega
  obtain ⟨l1, l2, hl⟩ := List.append_of_mem p2
  have hpb := n1.1 p p1
  have hcl := tC_len hW p1
  have hCu : ∀ y ∈ tC T p, tU T y = true := fun y hy2 => (hW.2.2.2.2.1 p y p1 hy2).1
  have hmap : (tC T p).map φ = l1.map φ ++ φ n :: l2.map φ := by rw [hl, List.map_append, List.map_cons]
  have hlen : (tC T p).length = ((tC T p).length - 1) + 1 := by rw [hl]; simp; omega
  have e6x : ∀ x, tU T x = true → (xI M (φ x) 6).toNatClampNeg = tB T x := fun x hx => by
    have := (n1.1 x hx).1.2.2.1.2.2.2.2.1
    have hxb := (hW.2.1 x hx).2.1
    rw [this]; exact nI_clamp (by omega)
  have hWd := tDel_wf hW hn hp hc
  refine eX8_detach _ _ _ (bX8_detach_0 _ _ _ ⟨φ p, rfl, hpb.1.1.1, ?_⟩)
  refine sX3_lose (k := (tC T p).length - 1) (f := tF T p) (fun a => (xI M a 6).toNatClampNeg) (s1 := l1.map φ) (s2 := l2.map φ) hpb.1.1.1 rfl (by rw [← hmap]; exact hpb.2) (fun x hx => ?_) (fun x hx => ?_) (by rw [← hlen]; exact hpb.1.2.2.1.2.2.2.1) (by omega) hpb.1.2.2.1.1 hF1 hF4 (fun M1 hg => ⟨rfl, ?_⟩)
  · rw [← hmap] at hx
    obtain ⟨y, hy, rfl⟩ := List.mem_map.mp hx
    have hy5 := (n1.1 y (hCu y hy)).1
    have hyb := (hW.2.1 y (hCu y hy)).2.1
    exact ⟨hy5.1.1, by rw [e6x y (hCu y hy)]; exact hy5.2.2.1.2.2.2.2.1, by rw [e6x y (hCu y hy)]; exact hyb⟩
  · obtain ⟨y, hy, rfl⟩ := List.mem_map.mp hx
    have hym : y ∈ tC T p := by rw [hl]; exact List.mem_append_left _ hy
    show (xI M (φ y) 6).toNatClampNeg < (xI M (φ n) 6).toNatClampNeg
    rw [e6x y (hCu y hym), e6x n hn]
    have hsort := hW.2.2.2.2.2 p p1
    rw [hl, List.pairwise_append] at hsort
    exact hsort.2.2 y hy n List.mem_cons_self
  · have hcd := del_c hW n2 n1 hn hp hl hg
    have hx1 := lose_ag hg
    have hx12 : xag (fun a => a = t ∨ ∃ x, tU T x = true ∧ (a = φ x ∨ a = ψ (φ x))) M M1 := hx1.mono (fun a z => by
      rcases z with z | z
      · exact Or.inr ⟨p, p1, Or.inl z⟩
      · obtain ⟨y, hy, rfl⟩ := List.mem_map.mp z
        exact Or.inr ⟨y, hCu y (by rw [hl]; exact List.mem_append_left _ hy), Or.inl rfl⟩)
    have ht : ¬ (t = φ p ∨ t ∈ l1.map φ) := fun z => by
      rcases z with z | z
      · exact ne_of_kind a1.2 hpb.1.1.1.2 (by decide) z
      · obtain ⟨y, hy, e⟩ := List.mem_map.mp z
        exact ne_of_kind a1.2 (n1.1 y (hCu y (by rw [hl]; exact List.mem_append_left _ hy))).1.1.1.2 (by decide) e.symm
    obtain ⟨f1, f2, f3⟩ := hx1.2 t ht
    obtain ⟨w1, w2⟩ := rel_c (nd := nd + 1) hWd h hn hx12 (f3 1) (f1 4) (by rw [f3]; exact a2) (fun a ha => by
      rw [hg.2.2, if_neg (fun z => absurd z.2.2 (by decide)), if_neg (fun z => absurd z.2 (by decide))]) hcd (fun x hx => by
      have hx5 : va_up (tU T) n false x = true := hx
      have hxu : x ≠ n := fun z => by rw [z, va_up_self] at hx5; cases hx5
      exact ⟨used_ne hx5 hxu, hxu⟩)
    have hpu : tU (tDel T n p) p = true := by
      show va_up (tU T) n false p = true
      rw [va_up_ne _ _ hpn]; exact p1
    refine ⟨hx1.at.mpr a1, sX8_release (nd := nd + 1) (hx1.at.mpr a1) (by rw [f1]; exact a3) (hx1.at.mpr (n1.1 n hn).1.1.1) ⟨rfl, w1.1.1, ?_⟩⟩
    exact sX8_join hWd w1 hpu (fun z => ⟨rfl, hQ0 z _ w1 w2⟩) (fun c hc2 hv M2 r1 r2 => ⟨rfl, hQ1 c hc2 hv M2 r1 (w2.trans r2)⟩)
end RM2
