/-! insertAbove. -/
/-- the cells of a tree's nodes and of one more -/
def RN (t : Nat) (φ ψ : Nat → Nat) (T : TT) (q a : Nat) : Prop := a = t ∨ (∃ n, tU T n = true ∧ (a = φ n ∨ a = ψ (φ n))) ∨ a = q ∨ a = ψ q
section IN
variable {l : Launch} {g : xG} {M : xM} {Q : Option Value → xM → Prop} {φ ψ : Nat → Nat} {T : TT} {t nd ky : Nat} {KK sp : List Nat}
theorem yield_ag (hW : tWF T) {s o : Nat} {M1 : xM} (hs : tU T s = true) (hy : yieldP M M1 (φ s) o (tW φ T s)) : xag (fun a => (∃ n, tU T n = true ∧ a = φ n) ∨ a = o) M M1 := by
  cases hp : tP T s with
  | none =>
    have ew : tW φ T s = none := by simp [tW, hp]
    rw [ew] at hy
    obtain ⟨⟨e1, e2, e3, e4⟩, eI, eR⟩ := hy
    simp only at eR
    exact ⟨⟨e1, e2, e3, fun x => by rw [eR, if_neg (fun z => absurd z.2 (by decide)), if_neg (fun z => absurd z.2 (by decide))]⟩, fun x hx => ⟨fun j => by rw [eI, if_neg (fun z => hx (Or.inr z.1))], fun j => by rw [e4], fun j => by rw [eR, if_neg (fun z => hx (Or.inr z.1)), if_neg (fun z => hx (Or.inr z.1))]⟩⟩
  | some p =>
    obtain ⟨p1, p2, p3⟩ := hW.2.2.2.1 s p hs hp
    have ebf : tBf T s = (tC T p).takeWhile (fun x => decide (x ≠ s)) := by simp [tBf, hp]
    have ew : tW φ T s = some (φ p, (tBf T s).map φ) := by simp [tW, hp]
    rw [ew] at hy
    obtain ⟨⟨e1, e2, e3, e4⟩, eI, eR⟩ := hy
    simp only at eR
    refine ⟨⟨e1, e2, e3, fun x => by rw [eR, if_neg (fun z => absurd z.2.2 (by decide)), if_neg (fun z => absurd z.2 (by decide)), if_neg (fun z => absurd z.2 (by decide)), if_neg (fun z => absurd z.2 (by decide))]⟩, fun x hx => ⟨fun j => by rw [eI, if_neg (fun z => hx (Or.inr z.1))], fun j => by rw [e4], fun j => ?_⟩⟩
    rw [eR, if_neg (fun z => hx (Or.inl ⟨p, p1, z.2.1⟩)), if_neg (fun z => ?_), if_neg (fun z => hx (Or.inr z.1)), if_neg (fun z => hx (Or.inr z.1))]
    obtain ⟨y, hy2, e⟩ := List.mem_map.mp (List.mem_of_getLast? z.1)
    rw [ebf] at hy2
    exact hx (Or.inl ⟨y, (hW.2.2.2.2.1 p y p1 ((List.takeWhile_sublist _).subset hy2)).1, e.symm⟩)
theorem ins_loop {s q m : Nat} (hW : tWF T) (h : cTr M t KK φ ψ T sp nd ky) (hs : tU T s = true) (hqn : ∀ n, tU T n = true → φ n ≠ q) (hqψ : ψ (φ s) ≠ ψ q) (hn : cNew M ψ q 0 [] none) (hm : m < (tX T s).length) (h6 : xI M t 6 = nI m)
    (hcont : ∀ M1, pfxP M M1 q (ψ q) ((tX T s).take m) → xWp l g mX8_insertAbove 0 0 2 [(1, va_rf (some t)), (1, va_rf (some (φ s))), (1, va_rf (some q)), (1, .int (nI m))] [] (0, 0) M1 Q) :
    ∀ (d k : Nat) (M1 : xM), m = k + d → pfxP M M1 q (ψ q) ((tX T s).take k) → xWp l g mX8_insertAbove 0 0 2 [(1, va_rf (some t)), (1, va_rf (some (φ s))), (1, va_rf (some q)), (1, .int (nI k))] [] (0, 0) M1 Q
  | 0, k, M1, hd, hp => by
    have e : k = m := by omega
    subst e
    exact hcont M1 hp
  | d + 1, k, M1, hd, hp => by
    have hx := pfx_ag hp
    have hb := (h.2.1.1.1 s hs).1
    have h12 := (tX_le hW hs).1
    obtain ⟨⟨m1, m2, m3, m4⟩, -⟩ := id hn
    obtain ⟨f1, -, f3⟩ := hx.2 (φ s) (fun z => z.elim (hqn s hs) (ne_of_kind hb.1.1.2 m3.2 (by decide)))
    obtain ⟨f4, -, -⟩ := hx.2 (ψ (φ s)) (fun z => z.elim (ne_of_kind hb.1.2.2.1.2 m1.2 (by decide)) hqψ)
    obtain ⟨g1, -, -⟩ := hx.2 t (fun z => z.elim (ne_of_kind h.1.1.2 m1.2 (by decide)) (ne_of_kind h.1.1.2 m3.2 (by decide)))
    have hlen : ((tX T s).take k).length = k := by rw [List.length_take]; omega
    have h6' : xI M1 t 6 = nI m := by rw [g1]; exact h6
    refine bX8_insertAbove_2 _ _ _ _ ⟨hx.at.mpr h.1.1, fun c => ?_, fun c => ⟨φ s, rfl, hx.at.mpr hb.1.1, ?_⟩⟩
    · have c1 := nle c h6' rfl
      omega
    · refine sX3_prefixAt0 (k := (tX T s).length) (hx.at.mpr hb.1.1) (by rw [f3]; exact hb.1.2.1) (hx.at.mpr hb.1.2.2.1) (by rw [hx.1.2.2.1]; exact hb.1.2.2.2) (by rw [f1]; exact hb.2.1.1) h12 (by omega) ⟨_, rfl, q, rfl, hx.at.mpr m1, ?_⟩
      rw [if_pos (by omega), f4, hb.2.1.2 k (by omega)]
      refine sX3_appendToPrefix (k := k) (hx.at.mpr m1) (by rw [hp.1.2.2.2.2]; exact m2) (hx.at.mpr m3) (by rw [hx.1.2.2.1]; exact m4) (by rw [hp.2.2.1, hlen]) (by omega) ⟨rfl, ?_⟩
      rw [nI_1]
      have hp2 := pfx_app (b := (tX T s).getD k 0) (ne_of_kind m1.2 m3.2 (by decide)) hp
      rw [take_snoc (by omega), hlen] at hp2
      exact ins_loop hW h hs hqn hqψ hn hm h6 hcont d (k + 1) _ (by omega) hp2
theorem fGrow11 : fGrow 1 1 = 1 := rfl
theorem sX8_insertAbove {s q m a : Nat} (hW : tWF T) (h : cTr M t KK φ ψ T sp nd ky) (hqK : q ∈ KK) (hqs : q ∉ sp) (hqn : ∀ n, tU T n = true → φ n ≠ q) (hn : cNew M ψ q 0 [] none) (hs : tU T s = true) (ha : tU T a = false) (ha220 : a < 220) (hm : m < (tX T s).length) (h6 : xI M t 6 = nI m)
    (hQ : ∀ M1, cTr M1 t KK (va_up φ a q) ψ (tFr (tCut T s m a) s) sp nd ky → xag (RN t φ ψ T q) M M1 → xI M1 t 7 = xI M t 7 → Q none M1) : xSp l g mX8_insertAbove 0 0 [va_rf (some t), va_rf (some (φ s)), va_rf (some q)] M Q := by
  obtain ⟨⟨h1, h2, h3, h4⟩, ⟨n1, n2, n3⟩, ⟨c1, c2, c3, c4⟩, k1, k2⟩ := id h
  obtain ⟨⟨m1, m2, m3, m4⟩, ⟨m5, m6⟩, ⟨e2, e3, e4, e5, e6, e7, e8⟩, m10⟩ := id hn
  have hsq : φ s ≠ q := hqn s hs
  have hψq : ∀ n, tU T n = true → ψ (φ n) ≠ ψ q := fun n hn2 z => hqn n hn2 (k2 _ (n3 n hn2) _ hqK z)
  have htq : t ≠ q := ne_of_kind h1.2 m1.2 (by decide)
  have htψ : t ≠ ψ q := ne_of_kind h1.2 m3.2 (by decide)
  have hqψ : q ≠ ψ q := ne_of_kind m1.2 m3.2 (by decide)
  have hb := (n1.1 s hs).1
  have h12 := (tX_le hW hs).1
  have hsψ : φ s ≠ ψ (φ s) := ne_of_kind hb.1.1.2 hb.1.2.2.1.2 (by decide)
  have hqψs : q ≠ ψ (φ s) := ne_of_kind m1.2 hb.1.2.2.1.2 (by decide)
  have hts : t ≠ φ s := ne_of_kind h1.2 hb.1.1.2 (by decide)
  have htψs : t ≠ ψ (φ s) := ne_of_kind h1.2 hb.1.2.2.1.2 (by decide)
  have hWc := tCut_wf hW hs ha ha220 hm
  refine eX8_insertAbove _ _ _ (bX8_insertAbove_0 _ _ _ (ins_loop hW h hs hqn (hψq s hs) hn hm h6 (fun M1 hp => ?_) m 0 M (by omega) ⟨⟨rfl, rfl, rfl, rfl, rfl⟩, fun _ _ _ _ => rfl, m5, fun i hi => absurd hi (by simp)⟩))
  have hx1 := pfx_ag hp
  have hc1 : cNc M1 φ ψ T := cNc_ag hW n1 hx1 (fun n hn5 => by
    have hb5 := (n1.1 n hn5).1.1
    exact ⟨fun z => z.elim (hqn n hn5) (ne_of_kind hb5.1.2 m3.2 (by decide)), fun z => z.elim (ne_of_kind hb5.2.2.1.2 m1.2 (by decide)) (hψq n hn5)⟩)
  obtain ⟨ft1, -, ft3⟩ := hx1.2 t (fun z => z.elim htq htψ)
  have hq1 : ∀ j, j ≠ 1 → xI M1 q j = xI M q j := fun j hj => hp.2.1 q j hqψ (fun z => hj z.2)
  have hn1 : cNew M1 ψ q 0 ((tX T s).take m) none := by
    refine ⟨⟨hx1.at.mpr m1, by rw [hp.1.2.2.2.2]; exact m2, hx1.at.mpr m3, by rw [hx1.1.2.2.1]; exact m4⟩, hp.2.2, ⟨?_, ?_, by rw [hp.1.2.2.2.1]; exact e4, ?_, ?_, ?_, ?_⟩, by rw [hp.1.2.2.2.2]; exact m10⟩
    · rw [hq1 2 (by decide)]; exact e2
    · rw [hq1 3 (by decide)]; exact e3
    · rw [hq1 5 (by decide)]; exact e5
    · rw [hq1 6 (by decide)]; exact e6
    · rw [hq1 7 (by decide)]; exact e7
    · rw [hq1 8 (by decide)]; exact e8
  have hoc : ∀ p, tP T s = some p → q ≠ φ p ∧ ∀ y ∈ tC T p, φ y ≠ q := fun p hp2 => by
    have p1 := (hW.2.2.2.1 s p hs hp2).1
    exact ⟨Ne.symm (hqn p p1), fun y hy2 => hqn y (hW.2.2.2.2.1 p y p1 hy2).1⟩
  refine bX8_insertAbove_2 _ _ _ _ ⟨hx1.at.mpr h1, fun _ => ?_, fun c => absurd ?_ c⟩
  · refine sX8_putInPlace hW n2 hc1 (hx1.at.mpr h1) (by rw [ft3]; exact h2) hs (hx1.at.mpr m1) (Ne.symm hsq) hoc (fun M2 hy => ⟨rfl, ?_⟩)
    obtain ⟨y1, y2, y3, y4, y5⟩ := yield_T hW n2 hc1 hs (Ne.symm hsq) hoc hy
    have hx2 := yield_ag hW hs hy
    -- the world behind putInPlace
    have hM3 : ∃ M3 : xM, (if s = tO T then xsR M2 t 2 (some q) else M2) = M3 ∧ (xL M3 = xL M2 ∧ xK M3 = xK M2 ∧ xN M3 = xN M2 ∧ xI M3 = xI M2 ∧ xJ M3 = xJ M2) ∧ (∀ x j, x ≠ t ∨ j ≠ 2 → xR M3 x j = xR M2 x j) ∧ xR M3 t 2 = some (va_up φ a q (tO (tCut T s m a))) := by
      have eO : tO (tCut T s m a) = if s = tO T then a else tO T := rfl
      by_cases hso : s = tO T
      · refine ⟨_, rfl, ?_⟩
        rw [if_pos hso]
        refine ⟨⟨rfl, rfl, rfl, rfl, rfl⟩, fun x j hxj => by rw [xR_sR, if_neg (fun z => hxj.elim (fun w => w z.1) (fun w => w z.2))], ?_⟩
        rw [xR_sR, if_pos ⟨rfl, rfl⟩, eO, if_pos hso, va_up_self]
      · refine ⟨_, rfl, ?_⟩
        rw [if_neg hso]
        refine ⟨⟨rfl, rfl, rfl, rfl, rfl⟩, fun x j _ => rfl, ?_⟩
        have hoa : tO T ≠ a := fun z => by have := hW.1.1; rw [z, ha] at this; cases this
        rw [y1 t 2 htq (by decide) (by decide), ft3, h2, eO, if_neg hso, va_up_ne _ _ hoa]
    obtain ⟨M3, eM3, ⟨r1, r2, r3, r4, r5⟩, rR, rT⟩ := hM3
    rw [eM3]
    have hxx : ∀ x c, xat M x c → xat M3 x c := fun x c z => ⟨by rw [r1, hx2.1.1, hx1.1.1]; exact z.1, by rw [r2, hx2.1.2.1, hx1.1.2.1]; exact z.2⟩
    have hN3 : xN M3 = xN M := by rw [r3, hx2.1.2.2.1, hx1.1.2.2.1]
    have hI3 : ∀ x j, xI M3 x j = if x = q ∧ j = 6 then xI M1 (φ s) 6 else xI M1 x j := fun x j => by rw [r4, hy.2.1]
    have h63 : xI M3 t 6 = nI m := by rw [hI3, if_neg (fun z => htq z.1), ft1]; exact h6
    refine ⟨hxx _ _ h1, φ s, rfl, hxx _ _ hb.1.1, ?_⟩
    rw [h63]
    have hb1 := (hc1.1 s hs).1
    have hs0 : xR M3 (φ s) 0 = some (ψ (φ s)) := by rw [rR _ _ (Or.inr (by decide)), y1 _ _ hsq (by decide) (by decide)]; exact hb1.1.2.1
    have hsI : ∀ j, xI M3 (φ s) j = xI M1 (φ s) j := fun j => by rw [hI3, if_neg (fun z => hsq z.1)]
    have hψI : ∀ j, xI M3 (ψ (φ s)) j = xI M1 (ψ (φ s)) j := fun j => by rw [hI3, if_neg (fun z => hqψs z.1.symm)]
    refine sX3_prefixAt0 (k := (tX T s).length) (hxx _ _ hb.1.1) hs0 (hxx _ _ hb.1.2.2.1) (by rw [hN3]; exact hb.1.2.2.2) (by rw [hsI]; exact hb1.2.1.1) h12 (by omega) ⟨_, rfl, hxx _ _ hb.1.1, hxx _ _ h1, ?_⟩
    rw [if_pos hm, hψI, hb1.2.1.2 m hm]
    have h64 : xI (xsI M3 (φ s) 6 (nI ((tX T s).getD m 0))) t 6 = nI m := by rw [xI_sI, if_neg (fun z => hts z.1)]; exact h63
    rw [h64, nI_1]
    refine sX3_dropFromPrefix (p := tX T s) (hxx _ _ hb.1.1) hs0 (hxx _ _ hb.1.2.2.1) (by rw [xN_sI, hN3]; exact hb.1.2.2.2) (by rw [xI_sI, if_neg (fun z => absurd z.2 (by decide)), hsI]; exact hb1.2.1.1) (fun i hi => by rw [xI_sI, if_neg (fun z => hsψ z.1.symm), hψI]; exact hb1.2.1.2 i hi) h12 (by omega) (fun M4 hp4 => ⟨rfl, q, rfl, ?_, ?_⟩)
    · exact ⟨by rw [hp4.1.1]; exact (hxx _ _ m1).1, by rw [hp4.1.2.1]; exact (hxx _ _ m1).2⟩
    obtain ⟨⟨t1, t2, t3, t4, t5⟩, tI, tl, tp⟩ := id hp4
    have hx4 : ∀ x c, xat M x c → xat M4 x c := fun x c z => ⟨by rw [t1]; exact (hxx x c z).1, by rw [t2]; exact (hxx x c z).2⟩
    have hI4 : ∀ x j, x ≠ ψ (φ s) → xI M4 x j = if x = φ s ∧ j = 1 then nI ((tX T s).drop (m + 1)).length else if x = φ s ∧ j = 6 then nI ((tX T s).getD m 0) else if x = q ∧ j = 6 then xI M1 (φ s) 6 else xI M1 x j := fun x j hxψ => by
      by_cases hz : x = φ s ∧ j = 1
      · rw [if_pos hz, hz.1, hz.2]; exact tl
      · rw [if_neg hz, tI x j hxψ hz, xI_sI, hI3]
    have hR4 : ∀ x j, xR M4 x j = xR M3 x j := fun x j => by rw [t5]; rfl
    have hq10 : xR M4 q 10 = none := by
      rw [hR4, rR _ _ (Or.inl (Ne.symm htq)), y2, if_neg (by decide), if_neg (by decide)]; exact hn1.2.2.2
    have hgd : (tX T s).getD m 0 < 256 := getD_lt (hW.2.1 s hs).2.2.1
    refine sX3_gain (b := (tX T s).getD m 0) (k := 0) (f := 1) (fun _ => 0) (s1 := []) (s2 := []) (Ne.symm hsq) (by simp) (hx4 _ _ m1) (hx4 _ _ hb.1.1) ?_ hgd (by rw [hq10]; rfl) (fun x hx => by simp at hx) (fun x hx => by simp at hx) (fun x hx => by simp at hx) ?_ (by omega) ?_ (by omega) (by omega) (fun M5 hg => ⟨rfl, ?_, ?_⟩)
    · rw [hI4 _ _ hsψ, if_neg (fun z => absurd z.2 (by decide)), if_pos ⟨rfl, rfl⟩]
    · rw [hI4 _ _ hqψs, if_neg (fun z => hsq z.1.symm), if_neg (fun z => hsq z.1.symm), if_neg (fun z => absurd z.2 (by decide))]; exact hn1.2.2.1.2.2.2.1
    · rw [hI4 _ _ hqψs, if_neg (fun z => hsq z.1.symm), if_neg (fun z => hsq z.1.symm), if_neg (fun z => absurd z.2 (by decide))]; exact hn1.2.2.1.1
    · obtain ⟨⟨u1, u2, u3, u4⟩, -⟩ := id hg
      exact ⟨by rw [u1]; exact (hx4 _ _ hb.1.1).1, by rw [u2]; exact (hx4 _ _ hb.1.1).2⟩
    obtain ⟨⟨u1, u2, u3, u4⟩, uI, uR⟩ := id hg
    have hRx5 : ∀ x j, x ≠ t ∨ j ≠ 2 → xR M5 x j = if x = q ∧ j = 10 then some (φ s) else if x = φ s ∧ j = 11 then none else if x = φ s ∧ j = 9 then some q else xR M2 x j := fun x j hxj => by
      rw [uR, hR4, rR x j hxj]
      simp
    have hR5 : ∀ x j, xat M1 x 1 → xR M5 x j = if x = q ∧ j = 10 then some (φ s) else if x = φ s ∧ j = 11 then none else if x = φ s ∧ j = 9 then some q else xR M2 x j := fun x j hx => hRx5 x j (Or.inl (ne_of_kind hx.2 (hx1.at.mpr h1).2 (by decide)))
    have hI5 : ∀ x j, x ≠ ψ (φ s) → xI M5 x j = if x = q ∧ j = 2 then 1 else if x = q ∧ j = 5 then 1 else if x = φ s ∧ j = 1 then nI ((tX T s).drop (m + 1)).length else if x = φ s ∧ j = 6 then nI ((tX T s).getD m 0) else if x = q ∧ j = 6 then xI M1 (φ s) 6 else xI M1 x j := fun x j hxψ => by
      rw [uI, hI4 x j hxψ]; rfl
    have hp5 : ∀ i, i < ((tX T s).drop (m + 1)).length → xI M5 (ψ (φ s)) i = nI (((tX T s).drop (m + 1)).getD i 0) := fun i hi => by
      rw [uI, if_neg (fun z => hqψs z.1.symm), if_neg (fun z => hqψs z.1.symm)]; exact tp i hi
    have hS5 : xL M5 = xL M1 ∧ xK M5 = xK M1 ∧ xN M5 = xN M1 ∧ xJ M5 = xJ M1 :=
      ⟨by rw [u1, t1]; exact r1.trans hx2.1.1, by rw [u2, t2]; exact r2.trans hx2.1.2.1, by rw [u3, t3]; exact r3.trans hx2.1.2.2.1, by rw [u4, t4]; exact r5.trans hy.1.2.2.2⟩
    have hc5 := cut_c hW n2 hc1 hs ha ha220 hm hqn hψq (h.ps hs) hn1 hy hS5 hI5 hp5 hR5
    have hsu : tU (tCut T s m a) s = true := by
      show va_up (tU T) a true s = true
      have hsa : s ≠ a := fun z => by rw [z, ha] at hs; cases hs
      rw [va_up_ne _ _ hsa]; exact hs
    have hu1 : ∀ x, tU (tCut T s m a) x = true → x = a ∨ (x ≠ a ∧ tU T x = true) := fun x hx => by
      by_cases hxa : x = a
      · exact Or.inl hxa
      · have : va_up (tU T) a true x = true := hx
        rw [va_up_ne _ _ hxa] at this
        exact Or.inr ⟨hxa, this⟩
    have hi5 : cInj (va_up φ a q) (tCut T s m a) := cInj_up n2 hqn hu1
    have hφs : va_up φ a q s = φ s := va_up_ne _ _ (fun z => by rw [z, ha] at hs; cases hs)
    have hfr := sX3_freshen (l := l) (g := g) (M := M5) (φ := va_up φ a q) (n := s) (Q := fun ρ M28 => ρ = none ∧ Q none M28) hWc (hc5.s hWc).pN hsu
    rw [hφs] at hfr
    refine hfr ⟨rfl, ?_⟩
    have hc6 := fr_c hWc hi5 hc5 hsu
    have hx6 := frs_ag ((tA (tCut T s m a) 12 s).map (va_up φ a q)) M5
    have hs6 := frs_same ((tA (tCut T s m a) 12 s).map (va_up φ a q)) M5
    have hpath : ∀ b, b ∈ (tA (tCut T s m a) 12 s).map (va_up φ a q) → b = q ∨ ∃ n, tU T n = true ∧ b = φ n := fun b hb2 => by
      obtain ⟨y, hy2, e⟩ := List.mem_map.mp hb2
      rcases hu1 y (tA_used hWc 12 s hsu y hy2) with rfl | ⟨w1, w2⟩
      · exact Or.inl (by rw [← e, va_up_self])
      · exact Or.inr ⟨y, w2, by rw [← e, va_up_ne _ _ w1]⟩
    -- all that changed
    have hx5 : xag (RN t φ ψ T q) M M5 := by
      refine ⟨⟨by rw [hS5.1, hx1.1.1], by rw [hS5.2.1, hx1.1.2.1], by rw [hS5.2.2.1, hx1.1.2.2.1], fun x => by rw [hRx5 x 0 (Or.inr (by decide)), if_neg (fun z => absurd z.2 (by decide)), if_neg (fun z => absurd z.2 (by decide)), if_neg (fun z => absurd z.2 (by decide)), hx2.1.2.2.2, hx1.1.2.2.2]⟩, fun x hx => ?_⟩
      have z1 : x ≠ t := fun z => hx (Or.inl z)
      have z2 : x ≠ q := fun z => hx (Or.inr (Or.inr (Or.inl z)))
      have z3 : x ≠ ψ q := fun z => hx (Or.inr (Or.inr (Or.inr z)))
      have z4 : x ≠ φ s := fun z => hx (Or.inr (Or.inl ⟨s, hs, Or.inl z⟩))
      have z5 : x ≠ ψ (φ s) := fun z => hx (Or.inr (Or.inl ⟨s, hs, Or.inr z⟩))
      have z6 : ¬ ((∃ n, tU T n = true ∧ x = φ n) ∨ x = q) := fun z => z.elim (fun ⟨n, w1, w2⟩ => hx (Or.inr (Or.inl ⟨n, w1, Or.inl w2⟩))) z2
      obtain ⟨v1, v2, v3⟩ := hx1.2 x (fun z => z.elim z2 z3)
      obtain ⟨v4, v5, v6⟩ := hx2.2 x z6
      refine ⟨fun j => ?_, fun j => ?_, fun j => ?_⟩
      · rw [hI5 x j z5, if_neg (fun z => z2 z.1), if_neg (fun z => z2 z.1), if_neg (fun z => z4 z.1), if_neg (fun z => z4 z.1), if_neg (fun z => z2 z.1)]; exact v1 j
      · rw [hS5.2.2.2]; exact v2 j
      · rw [hRx5 x j (Or.inl z1), if_neg (fun z => z2 z.1), if_neg (fun z => z4 z.1), if_neg (fun z => z4 z.1), v6 j]; exact v3 j
    have hx7 : xag (RN t φ ψ T q) M (frs M5 ((tA (tCut T s m a) 12 s).map (va_up φ a q))) := hx5.trans (hx6.mono (fun b z => (hpath b z).elim (fun w => Or.inr (Or.inr (Or.inl w))) (fun ⟨n, w1, w2⟩ => Or.inr (Or.inl ⟨n, w1, Or.inl w2⟩))))
    have htI : ∀ j, xI (frs M5 ((tA (tCut T s m a) 12 s).map (va_up φ a q))) t j = xI M t j := fun j => by
      have hno : t ∉ (tA (tCut T s m a) 12 s).map (va_up φ a q) := fun z => (hpath t z).elim htq (fun ⟨n, w1, w2⟩ => ne_of_kind h1.2 (n1.1 n w1).1.1.1.2 (by decide) w2)
      rw [frs_I, if_neg (fun z => hno z.1), if_neg (fun z => hno z.1), hI5 t j htψs, if_neg (fun z => htq z.1), if_neg (fun z => htq z.1), if_neg (fun z => hts z.1), if_neg (fun z => hts z.1), if_neg (fun z => htq z.1)]
      exact ft1 j
    have hx8 : xag (RG t KK ψ) M (frs M5 ((tA (tCut T s m a) 12 s).map (va_up φ a q))) := hx7.mono (fun b z => by
      rcases z with z | ⟨n, w1, w2 | w2⟩ | z | z
      · rw [z]; exact RGt
      · rw [w2]; exact RGk (n3 n w1)
      · rw [w2]; exact RGp (n3 n w1)
      · rw [z]; exact RGk hqK
      · rw [z]; exact RGp hqK)
    have htR : ∀ j, j ≠ 2 → j ≠ 10 → j ≠ 11 → xR (frs M5 ((tA (tCut T s m a) 12 s).map (va_up φ a q))) t j = xR M t j := fun j hj hj10 hj11 => by
      rw [hs6.2.2.2.2, hRx5 t j (Or.inr hj), if_neg (fun z => htq z.1), if_neg (fun z => hts z.1), if_neg (fun z => hts z.1), y1 t j htq hj10 hj11, ft3]
    refine hQ _ (cTr_up h hx8 (fun b hb2 => ?_) ?_ (by rw [htI]; exact h3) (by rw [htI]; exact h4) hc6 hi5 (fun n hn8 => ?_) ?_ c2 (fun b hb2 => ⟨(c3 b hb2).1, fun n hn8 => ?_⟩) c4) hx7 (htI 7)
    · have hbt : b ≠ t := ne_of_kind (k1 b hb2).1.2 h1.2 (by decide)
      rw [hs6.2.2.2.2, hRx5 b 0 (Or.inr (by decide)), if_neg (fun z => absurd z.2 (by decide)), if_neg (fun z => absurd z.2 (by decide)), if_neg (fun z => absurd z.2 (by decide))]
      by_cases hbq : b = q
      · rw [hbq, y2, if_neg (by decide), if_neg (by decide), hp.1.2.2.2.2]
      · rw [y1 b 0 hbq (by decide) (by decide), hp.1.2.2.2.2]
    · rw [hs6.2.2.2.2, uR, if_neg (fun z => absurd z.2.2 (by decide)), if_neg (fun z => absurd z.2 (by decide)), if_neg (fun z => absurd z.2 (by decide)), if_neg (fun z => absurd z.2 (by decide)), hR4]
      exact rT
    · rcases hu1 n hn8 with rfl | ⟨w1, w2⟩
      · rw [va_up_self]; exact hqK
      · rw [va_up_ne _ _ w1]; exact n3 n w2
    · rw [htR 1 (by decide) (by decide) (by decide)]
      refine chS_fr c1 (fun b hb2 => ?_)
      refine (hx7.2 b (fun z => ?_)).2.2 11
      rcases z with z | ⟨n, w1, w2 | w2⟩ | z | z
      · exact ne_of_kind (k1 b (c3 b hb2).1).1.2 h1.2 (by decide) z
      · exact (c3 b hb2).2 n w1 w2.symm
      · exact ne_of_kind (k1 b (c3 b hb2).1).1.2 (n1.1 n w1).1.1.2.2.1.2 (by decide) w2
      · exact hqs (z ▸ hb2)
      · exact ne_of_kind (k1 b (c3 b hb2).1).1.2 m3.2 (by decide) z
    · rcases hu1 n hn8 with rfl | ⟨w1, w2⟩
      · rw [va_up_self]; exact fun z => hqs (z ▸ hb2)
      · rw [va_up_ne _ _ w1]; exact (c3 b hb2).2 n w2
  · rw [ft1, h6]; exact Int32.le_refl _
end IN
