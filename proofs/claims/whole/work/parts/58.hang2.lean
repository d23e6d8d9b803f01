/-! hang, to its end: a leaf more in a tree of the class. -/
theorem srt_len {e : Nat → Nat} {N : Nat} : ∀ (s : List Nat) (lo : Nat), s.Pairwise (fun x y => e x < e y) → (∀ x ∈ s, lo ≤ e x ∧ e x < N) → lo ≤ N → s.length + lo ≤ N
  | [], lo, _, _, h => by simpa using h
  | x :: s, lo, hp, hx, h => by
    obtain ⟨p1, p2⟩ := List.pairwise_cons.mp hp
    obtain ⟨x1, x2⟩ := hx x List.mem_cons_self
    have := srt_len s (lo + 1) p2 (fun y hy => ⟨by have := p1 y hy; omega, (hx y (List.mem_cons_of_mem _ hy)).2⟩) (by omega)
    simp only [List.length_cons]; omega
theorem tC_len {T : TT} (hW : tWF T) {n : Nat} (hn : tU T n = true) : (tC T n).length ≤ 256 := by
  have := srt_len (e := tB T) (N := 256) (tC T n) 0 (hW.2.2.2.2.2 n hn) (fun x hx => ⟨Nat.zero_le _, (hW.2.1 x (hW.2.2.2.2.1 n x hn hx).1).2.1⟩) (by omega)
  omega
theorem cTr_up {M M1 : xM} {t : Nat} {KK : List Nat} {φ φ1 ψ : Nat → Nat} {T T1 : TT} {sp sp1 : List Nat} {nd ky nd1 ky1 : Nat} (h : cTr M t KK φ ψ T sp nd ky) (hx : xag (RG t KK ψ) M M1) (h0 : ∀ a ∈ KK, xR M1 a 0 = xR M a 0) (h2 : xR M1 t 2 = some (φ1 (tO T1))) (h3 : xI M1 t 3 = nI nd1) (h4 : xI M1 t 4 = nI ky1) (hc : cNc M1 φ1 ψ T1) (hi : cInj φ1 T1) (hk : ∀ n, tU T1 n = true → φ1 n ∈ KK) (hs : chS M1 (xR M1 t 1) sp1) (hd : sp1.Nodup) (hsp : ∀ a ∈ sp1, a ∈ KK ∧ ∀ n, tU T1 n = true → φ1 n ≠ a) (hl : sp1.length + nd1 = 200) : cTr M1 t KK φ1 ψ T1 sp1 nd1 ky1 := by
  obtain ⟨⟨a1, -⟩, -, -, k1, k2⟩ := h
  refine ⟨⟨hx.at.mpr a1, h2, h3, h4⟩, ⟨hc, hi, hk⟩, ⟨hs, hd, hsp, hl⟩, fun a ha => ?_, k2⟩
  obtain ⟨b1, b2, b3, b4⟩ := k1 a ha
  exact ⟨hx.at.mpr b1, by rw [h0 a ha]; exact b2, hx.at.mpr b3, by rw [hx.1.2.2.1]; exact b4⟩
theorem cInj_up {φ : Nat → Nat} {T T1 : TT} {c q : Nat} (hi : cInj φ T) (hq : ∀ n, tU T n = true → φ n ≠ q) (hu : ∀ x, tU T1 x = true → x = c ∨ (x ≠ c ∧ tU T x = true)) : cInj (va_up φ c q) T1 := by
  intro a b ha hb hab
  rcases hu a ha with rfl | ⟨h1, h2⟩ <;> rcases hu b hb with rfl | ⟨h3, h4⟩
  · rfl
  · rw [va_up_self, va_up_ne _ _ h3] at hab
    exact absurd hab.symm (hq b h4)
  · rw [va_up_self, va_up_ne _ _ h1] at hab
    exact absurd hab (hq a h2)
  · rw [va_up_ne _ _ h1, va_up_ne _ _ h3] at hab
    exact hi a b h2 h4 hab
section HG2
variable {l : Launch} {g : xG} {M : xM} {Q : Option Value → xM → Prop} {φ ψ : Nat → Nat} {T : TT} {t nd ky : Nat} {KK sp : List Nat}
theorem sX8_hang {q s c u tp tb : Nat} {key : List Nat} {v : Int64} (hW : tWF T) (h : cTr M t KK φ ψ T sp nd ky) (hqK : q ∈ KK) (hqs : q ∉ sp) (hqn : ∀ n, tU T n = true → φ n ≠ q) (hn : cNew M ψ q 0 [] none) (hs : tU T s = true) (hc : tU T c = false) (hc220 : c < 220) (hF1 : 1 ≤ tF T s) (hF4 : tF T s ≤ 4)
    (htp : tpR M tp tb key) (htb : ∀ a ∈ KK, ψ a ≠ tb) (h12 : key.length ≤ 12) (hu : u < key.length) (hu7 : xI M t 7 = nI u) (hlen : tL T s + (tX T s).length + 1 + (key.drop (u + 1)).length ≤ 12) (hnb : ∀ x ∈ tC T s, tB T x ≠ key.getD u 0)
    (hQ : ∀ M1, cTr M1 t KK (va_up φ c q) ψ (tFr (tAdd T s c (key.getD u 0) (key.drop (u + 1)) v) c) sp nd (ky + 1) → xag (RG t KK ψ) M M1 → Q none M1) : xSp l g mX8_hang 0 0 [va_rf (some t), va_rf (some q), va_rf (some (φ s)), va_rf (some tp), .long v] M Q := by
  obtain ⟨⟨h1, h2, h3, h4⟩, ⟨n1, n2, n3⟩, ⟨c1, c2, c3, c4⟩, k1, k2⟩ := id h
  have hb : key.getD u 0 < 256 := getD_lt htp.2.2.2.2
  have hpb : ∀ x ∈ key.drop (u + 1), x < 256 := fun x hx => htp.2.2.2.2 x (List.mem_of_mem_drop hx)
  have hWa : tWF (tAdd T s c (key.getD u 0) (key.drop (u + 1)) v) := tAdd_wf hW v hs hc hc220 hb hpb hlen hnb
  obtain ⟨⟨m1, m2, m3, m4⟩, ⟨m5, m6⟩, ⟨e2, e3, e4, e5, e6, e7, e8⟩, m10⟩ := id hn
  have htq : t ≠ q := ne_of_kind h1.2 m1.2 (by decide)
  have hqψ : q ≠ ψ q := ne_of_kind m1.2 m3.2 (by decide)
  have htψ : t ≠ ψ q := ne_of_kind h1.2 m3.2 (by decide)
  refine eX8_hang _ _ _ _ _ (bX8_hang_0 _ _ _ _ _ ⟨h1, tp, rfl, htp.1.1, ?_⟩)
  rw [hu7]
  refine tp_byteAt htp (by omega) ⟨_, rfl, q, rfl, m1, h1, ?_⟩
  rw [if_pos hu]
  have e7u : xI (xsI M q 6 (nI (key.getD u 0))) t 7 = nI u := by rw [xI_sI, if_neg (fun z => htq z.1)]; exact hu7
  rw [e7u, nI_1]
  have htp2 : tpR (xsI M q 6 (nI (key.getD u 0))) tp tb key := tpR_I htp m1.2 (by decide) (by decide)
  have hn2 : cNew (xsI M q 6 (nI (key.getD u 0))) ψ q (key.getD u 0) ((key.drop (u + 1)).take 0) none := by
    refine ⟨⟨m1, m2, m3, m4⟩, ⟨?_, fun i hi => absurd hi (by simp)⟩, ⟨?_, ?_, e4, ?_, ?_, ?_, ?_⟩, m10⟩
    · rw [xI_sI, if_neg (fun z => absurd z.2 (by decide))]; exact m5
    · rw [xI_sI, if_neg (fun z => absurd z.2 (by decide))]; exact e2
    · rw [xI_sI, if_neg (fun z => absurd z.2 (by decide))]; exact e3
    · rw [xI_sI, if_neg (fun z => absurd z.2 (by decide))]; exact e5
    · rw [xI_sI, if_pos ⟨rfl, rfl⟩]
    · rw [xI_sI, if_neg (fun z => absurd z.2 (by decide))]; exact e7
    · rw [xI_sI, if_neg (fun z => absurd z.2 (by decide))]; exact e8
  refine hang_loop (u := u) (b := key.getD u 0) (key := key) (xsI M q 6 (nI (key.getD u 0))) m1.2 htp2 (htb q hqK) h12 hu ?_ (key.length - (u + 1)) 0 _ (by omega) hn2 xag.rf rfl
  intro M3 hn3 hx3 hr3
  have hx03 : xag (fun a => a = q ∨ a = ψ q) M M3 := (xag_I M (Or.inl rfl)).trans hx3
  obtain ⟨⟨p1, p2, p3, p4⟩, ⟨p5, p6⟩, ⟨g2, g3, g4, g5, g6, g7, g8⟩, p10⟩ := id hn3
  have htp3 : tpR M3 tp tb key := by
    obtain ⟨⟨y1, y2, y3, y4⟩, y5, -⟩ := id htp
    obtain ⟨f1, f2, f3⟩ := hx03.2 tp (fun z => z.elim (ne_of_kind y1.2 m1.2 (by decide)) (ne_of_kind y1.2 m3.2 (by decide)))
    obtain ⟨f4, -, -⟩ := hx03.2 tb (fun z => z.elim (ne_of_kind y3.2 m1.2 (by decide)) (fun w => htb q hqK w.symm))
    exact tpR_fr htp hx03.1.1 hx03.1.2.1 hx03.1.2.2.1 (f1 1) (f3 0) f4
  have hsK : φ s ∈ KK := n3 s hs
  have hsq : φ s ≠ q := hqn s hs
  refine bX8_hang_20 _ _ _ _ _ _ _ ⟨tp, rfl, htp3.1.1, fun _ => ⟨q, rfl, p1, ?_⟩, fun c0 => absurd ?_ c0⟩
  · refine sX3_setValue p1 ⟨rfl, φ s, rfl, hx03.at.mpr (k1 (φ s) hsK).1, ?_⟩
    have hx4 : xag (fun a => a = q ∨ a = ψ q) M (xsJ (xsI M3 q 3 1) q 4 v) := hx03.trans ((xag_I M3 (Or.inl rfl)).trans (xag_J _ (Or.inl rfl)))
    have hn4 : cNew (xsJ (xsI M3 q 3 1) q 4 v) ψ q (key.getD u 0) (key.drop (u + 1)) (some v) := by
      refine ⟨⟨p1, p2, p3, p4⟩, ⟨?_, fun i hi => ?_⟩, ⟨?_, ?_, ?_, ?_, ?_, ?_, ?_⟩, p10⟩
      · rw [xI_sJ, xI_sI, if_neg (fun z => absurd z.2 (by decide))]; exact p5
      · rw [xI_sJ, xI_sI, if_neg (fun z => hqψ z.1.symm)]; exact p6 i hi
      · rw [xI_sJ, xI_sI, if_neg (fun z => absurd z.2 (by decide))]; exact g2
      · rw [xI_sJ, xI_sI, if_pos ⟨rfl, rfl⟩]; rfl
      · rw [xJ_sJ, if_pos ⟨rfl, rfl⟩]; rfl
      · rw [xI_sJ, xI_sI, if_neg (fun z => absurd z.2 (by decide))]; exact g5
      · rw [xI_sJ, xI_sI, if_neg (fun z => absurd z.2 (by decide))]; exact g6
      · rw [xI_sJ, xI_sI, if_neg (fun z => absurd z.2 (by decide))]; exact g7
      · rw [xI_sJ, xI_sI, if_neg (fun z => absurd z.2 (by decide))]; exact g8
    have hc4 : cNc (xsJ (xsI M3 q 3 1) q 4 v) φ ψ T := cNc_ag hW n1 hx4 (fun n hn5 => by
      have hb5 := (n1.1 n hn5).1.1
      exact ⟨fun z => z.elim (hqn n hn5) (ne_of_kind hb5.1.2 m3.2 (by decide)), fun z => z.elim (ne_of_kind hb5.2.2.1.2 m1.2 (by decide)) (fun w => hqn n hn5 (k2 _ (n3 n hn5) _ hqK w))⟩)
    generalize hM4 : xsJ (xsI M3 q 3 1) q 4 v = M4 at hx4 hn4 hc4 ⊢
    have hCu : ∀ x ∈ tC T s, tU T x = true := fun x hx => (hW.2.2.2.2.1 s x hs hx).1
    have hsplit : (tC T s).takeWhile (fun x => decide (tB T x < key.getD u 0)) ++ (tC T s).dropWhile (fun x => decide (tB T x < key.getD u 0)) = tC T s := List.takeWhile_append_dropWhile
    have htw : ∀ x ∈ (tC T s).takeWhile (fun x => decide (tB T x < key.getD u 0)), x ∈ tC T s := fun x hx => (List.takeWhile_sublist _).subset hx
    have hdw : ∀ x ∈ (tC T s).dropWhile (fun x => decide (tB T x < key.getD u 0)), x ∈ tC T s := fun x hx => (List.dropWhile_sublist _).subset hx
    have hlen256 : (tC T s).length < 256 := by
      have hs2 : tU (tAdd T s c (key.getD u 0) (key.drop (u + 1)) v) s = true := by
        show (if s = c then true else tU T s) = true
        by_cases hsc : s = c
        · rw [if_pos hsc]
        · rw [if_neg hsc]; exact hs
      have h5 := tC_len hWa hs2
      have h6 : tC (tAdd T s c (key.getD u 0) (key.drop (u + 1)) v) s = lIns (tB T) (key.getD u 0) c (tC T s) := va_up_self _ _ _
      rw [h6, lIns_len] at h5
      omega
    have e6x : ∀ x, tU T x = true → (xI M4 (φ x) 6).toNatClampNeg = tB T x := fun x hx => by
      have := (hc4.1 x hx).1.2.2.1.2.2.2.2.1
      have hxb := (hW.2.1 x hx).2.1
      rw [this]; exact nI_clamp (by omega)
    refine sX3_gain (b := key.getD u 0) (k := (tC T s).length) (f := tF T s) (fun a => (xI M4 a 6).toNatClampNeg) (s1 := ((tC T s).takeWhile (fun x => decide (tB T x < key.getD u 0))).map φ) (s2 := ((tC T s).dropWhile (fun x => decide (tB T x < key.getD u 0))).map φ) hsq (fun z => ?_) (hc4.1 s hs).1.1.1 hn4.1.1 hn4.2.2.1.2.2.2.2.1 hb ?_ (fun x hx => ?_) (fun x hx => ?_) (fun x hx => ?_) (hc4.1 s hs).1.2.2.1.2.2.2.1 hlen256 (hc4.1 s hs).1.2.2.1.1 hF1 hF4 (fun M5 hg => ⟨rfl, ?_⟩)
    · obtain ⟨y, hy, e⟩ := List.mem_map.mp z
      exact hqn y (hCu y (htw y hy)) e
    · rw [← List.map_append, hsplit]; exact (hc4.1 s hs).2
    · rw [← List.map_append, hsplit] at hx
      obtain ⟨y, hy, rfl⟩ := List.mem_map.mp hx
      have hy5 := (hc4.1 y (hCu y hy)).1
      have hyb := (hW.2.1 y (hCu y hy)).2.1
      exact ⟨hy5.1.1, by rw [e6x y (hCu y hy)]; exact hy5.2.2.1.2.2.2.2.1, by rw [e6x y (hCu y hy)]; exact hyb⟩
    · obtain ⟨y, hy, rfl⟩ := List.mem_map.mp hx
      show (xI M4 (φ y) 6).toNatClampNeg < _
      rw [e6x y (hCu y (htw y hy))]
      exact takeWhile_lt y hy
    · obtain ⟨y, hy, rfl⟩ := List.mem_map.mp hx
      show ¬ (xI M4 (φ y) 6).toNatClampNeg < _
      rw [e6x y (hCu y (hdw y hy))]
      have := dropWhile_ge (hW.2.2.2.2.2 s hs) y hy
      omega
    · have hc5 := add_c hW n2 hc4 hs hc hqn hn4 hg
      have hgag := gain_ag hg
      have hx5 : xag (fun a => (∃ n, tU T n = true ∧ a = φ n) ∨ a = q ∨ a = ψ q) M M5 := by
        refine (hx4.mono (fun a z => Or.inr z)).trans (hgag.mono (fun a z => ?_))
        rcases z with z | z | z
        · exact Or.inl ⟨s, hs, z⟩
        · exact Or.inr (Or.inl z)
        · obtain ⟨y, hy, e⟩ := List.mem_map.mp z
          exact Or.inl ⟨y, hCu y (htw y hy), e.symm⟩
      have hcu : tU (tAdd T s c (key.getD u 0) (key.drop (u + 1)) v) c = true := va_up_self _ _ _
      have hφc : va_up φ c q c = q := va_up_self _ _ _
      have hu1 : ∀ x, tU (tAdd T s c (key.getD u 0) (key.drop (u + 1)) v) x = true → x = c ∨ (x ≠ c ∧ tU T x = true) := fun x hx => by
        by_cases hxc : x = c
        · exact Or.inl hxc
        · have : va_up (tU T) c true x = true := hx
          rw [va_up_ne _ _ hxc] at this
          exact Or.inr ⟨hxc, this⟩
      have hi5 : cInj (va_up φ c q) (tAdd T s c (key.getD u 0) (key.drop (u + 1)) v) := cInj_up n2 hqn hu1
      refine ⟨hx5.at.mpr m1, ?_⟩
      have hfr := sX3_freshen (l := l) (g := g) (M := M5) (φ := va_up φ c q) (n := c) (Q := fun ρ M19 => ρ = none ∧ (xat M19 t 5 ∧ (Q none (xsI M19 t 4 ((xI M19 t 4) + 1))))) hWa (hc5.s hWa).pN hcu
      rw [hφc] at hfr
      refine hfr ⟨rfl, ?_⟩
      have hc6 := fr_c hWa hi5 hc5 hcu
      have hx6 := frs_ag ((tA (tAdd T s c (key.getD u 0) (key.drop (u + 1)) v) 12 c).map (va_up φ c q)) M5
      have hx7 : xag (fun a => (∃ n, tU T n = true ∧ a = φ n) ∨ a = q ∨ a = ψ q) M (frs M5 ((tA (tAdd T s c (key.getD u 0) (key.drop (u + 1)) v) 12 c).map (va_up φ c q))) := by
        refine hx5.trans (hx6.mono (fun a z => ?_))
        obtain ⟨y, hy, e⟩ := List.mem_map.mp z
        rcases hu1 y (tA_used hWa 12 c hcu y hy) with rfl | ⟨w1, w2⟩
        · exact Or.inr (Or.inl (by rw [← e, va_up_self]))
        · exact Or.inl ⟨y, w2, by rw [← e, va_up_ne _ _ w1]⟩
      have hR6 : ∀ a k, k ≠ 9 → k ≠ 10 → k ≠ 11 → xR (frs M5 ((tA (tAdd T s c (key.getD u 0) (key.drop (u + 1)) v) 12 c).map (va_up φ c q))) a k = xR M a k := fun a k w9 w10 w11 => by
        rw [(frs_same _ M5).2.2.2.2, hg.2.2, if_neg (fun z => w10 z.2.2), if_neg (fun z => w11 z.2), if_neg (fun z => w11 z.2), if_neg (fun z => w9 z.2), ← hM4]
        show xR M3 a k = xR M a k
        rw [hr3]; rfl
      generalize frs M5 ((tA (tAdd T s c (key.getD u 0) (key.drop (u + 1)) v) 12 c).map (va_up φ c q)) = M6 at hc6 hx6 hx7 hR6 ⊢
      have htM : ¬ ((∃ n, tU T n = true ∧ t = φ n) ∨ t = q ∨ t = ψ q) := fun z => by
        rcases z with ⟨n, z1, z2⟩ | z | z
        · exact ne_of_kind h1.2 (n1.1 n z1).1.1.1.2 (by decide) z2
        · exact htq z
        · exact htψ z
      obtain ⟨ft1, ft2, ft3⟩ := hx7.2 t htM
      refine ⟨hx7.at.mpr h1, ?_⟩
      rw [ft1 4, h4, nI_1]
      have hR : ∀ a, (∃ n, tU T n = true ∧ a = φ n) ∨ a = q ∨ a = ψ q → RG t KK ψ a := fun a z => by
        rcases z with ⟨n, z1, rfl⟩ | rfl | rfl
        · exact Or.inr (Or.inl (n3 n z1))
        · exact Or.inr (Or.inl hqK)
        · exact Or.inr (Or.inr ⟨q, hqK, rfl⟩)
      have hx8 : xag (RG t KK ψ) M (xsI M6 t 4 (nI (ky + 1))) := (hx7.mono hR).trans (xag_I M6 (Or.inl rfl))
      have hc8 : cNc (xsI M6 t 4 (nI (ky + 1))) (va_up φ c q) ψ (tFr (tAdd T s c (key.getD u 0) (key.drop (u + 1)) v) c) := cNc_ag (tFr_wf hWa c) hc6 (xag_I (P := fun a => a = t) M6 rfl) (fun n hn8 => by
        have hb8 := (hc6.1 n hn8).1.1
        have ht8 : xK M6 t = 5 := by rw [hx7.1.2.1]; exact h1.2
        exact ⟨ne_of_kind hb8.1.2 ht8 (by decide), ne_of_kind hb8.2.2.1.2 ht8 (by decide)⟩)
      refine hQ _ (cTr_up h hx8 (fun a ha => ?_) ?_ ?_ ?_ hc8 hi5 (fun n hn8 => ?_) ?_ c2 (fun a ha => ⟨(c3 a ha).1, fun n hn8 => ?_⟩) c4) hx8
      · show xR M6 a 0 = xR M a 0
        exact hR6 a 0 (by decide) (by decide) (by decide)
      · show xR M6 t 2 = some (va_up φ c q (tO T))
        have hoc : tO T ≠ c := fun z => by have := hW.1.1; rw [z, hc] at this; cases this
        rw [ft3 2, h2, va_up_ne _ _ hoc]
      · rw [xI_sI, if_neg (fun z => absurd z.2 (by decide)), ft1 3]; exact h3
      · rw [xI_sI, if_pos ⟨rfl, rfl⟩]
      · rcases hu1 n hn8 with rfl | ⟨w1, w2⟩
        · rw [va_up_self]; exact hqK
        · rw [va_up_ne _ _ w1]; exact n3 n w2
      · show chS (xsI M6 t 4 (nI (ky + 1))) (xR M6 t 1) sp
        rw [ft3 1]
        refine chS_fr c1 (fun a ha => ?_)
        show xR M6 a 11 = xR M a 11
        refine (hx7.2 a (fun z => ?_)).2.2 11
        rcases z with ⟨n, z1, z2⟩ | z | z
        · exact (c3 a ha).2 n z1 z2.symm
        · exact hqs (z ▸ ha)
        · exact ne_of_kind (k1 a (c3 a ha).1).1.2 m3.2 (by decide) z
      · rcases hu1 n hn8 with rfl | ⟨w1, w2⟩
        · rw [va_up_self]; exact fun z => hqs (z ▸ ha)
        · rw [va_up_ne _ _ w1]; exact (c3 a ha).2 n w2
  · rw [htp3.2.1]; exact Int32.le_refl _
end HG2
