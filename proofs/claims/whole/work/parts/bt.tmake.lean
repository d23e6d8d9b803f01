/-! A tree object is made. -/
section TMK
variable {l : Launch} {g : xG} {M0 M M1 : xM} {Q : Option Value → xM → Prop} {t st q p i : Nat} {ψ ψ1 φ : Nat → Nat} {L KK sp : List Nat} {T : TT} {nd ky : Nat}
/-- some of its nodes are there -/
def tMk (M0 M : xM) (t st : Nat) (L : List Nat) (ψ : Nat → Nat) : Prop :=
  (xat M t 5 ∧ xR M t 0 = some st ∧ xat M st 12 ∧ xN M st = 200) ∧ (L.Nodup ∧ ∀ i, i < L.length → xR M st i = L[i]?) ∧
  (∀ a ∈ L, xat M a 1 ∧ xR M a 0 = some (ψ a) ∧ xat M (ψ a) 9 ∧ xN M (ψ a) = 12) ∧ (∀ a ∈ L, ∀ b ∈ L, ψ a = ψ b → a = b) ∧
  (st ∉ xL M0 ∧ ∀ a ∈ L, a ∉ xL M0 ∧ ψ a ∉ xL M0) ∧ xgr (fun b => b = t) M0 M
theorem tMk.nx (h : tMk M0 M t st L ψ) (hq : q ∉ xL M) (g1 : xat M1 q 1) (g2 : xR M1 q 0 = some p) (g3 : xat M1 p 9) (g4 : xN M1 p = 12) (g5 : p ∉ xL (xnew M q 1 0)) (g6 : xgr (fun b => b = q) (xnew M q 1 0) M1) : tMk M0 (xsR M1 st L.length (some q)) t st (L ++ [q]) (va_up ψ q p) := by
  obtain ⟨⟨a1, a2, a3, a4⟩, ⟨b1, b2⟩, c, d, ⟨e1, e2⟩, f⟩ := h
  have G1 : xgr (fun b => b = st) M M1 := xgr_mk hq g6
  have Gf : xgr (fun _ => False) M M1 := xgr_mk hq g6
  have G : xgr (fun b => b = st) M (xsR M1 st L.length (some q)) := G1.trans (xgr_R rfl)
  have hts : t ≠ st := ne_of_kind a1.2 a3.2 (by decide)
  have has : ∀ a ∈ L, a ≠ st := fun a ha => ne_of_kind (c a ha).1.2 a3.2 (by decide)
  have haq : ∀ a ∈ L, a ≠ q := fun a ha z => hq (z ▸ (c a ha).1.1)
  have hap : ∀ a ∈ L, ψ a ≠ p := fun a ha z => nl_new g5 (z ▸ (c a ha).2.2.1.1)
  have hqs : q ≠ st := fun z => hq (z ▸ a3.1)
  refine ⟨⟨G.at a1, by rw [(G.v a1 hts).2.2]; exact a2, G.at a3, by rw [G.n a3]; exact a4⟩, ⟨?_, fun i hi => ?_⟩, fun a ha => ?_, fun a ha b hb he => ?_, ⟨e1, fun a ha => ?_⟩, ?_⟩
  · refine List.nodup_append.mpr ⟨b1, List.nodup_cons.mpr ⟨fun z => (by cases z), List.nodup_nil⟩, fun a ha b hb => ?_⟩
    rw [List.mem_singleton.mp hb]; exact haq a ha
  · rw [List.length_append, List.length_singleton] at hi
    by_cases hl : i = L.length
    · rw [hl, xR_sR, if_pos ⟨rfl, rfl⟩, List.getElem?_append_right (Nat.le_refl _), Nat.sub_self]; rfl
    · rw [xR_sR, if_neg (fun z => hl z.2), (Gf.v a3 id).2.2, List.getElem?_append_left (by omega)]
      exact b2 i (by omega)
  · rcases List.mem_append.mp ha with ha | ha
    · obtain ⟨c1, c2, c3, c4⟩ := c a ha
      rw [va_up_ne _ _ (haq a ha)]
      exact ⟨G.at c1, by rw [(G.v c1 (has a ha)).2.2]; exact c2, G.at c3, by rw [G.n c3]; exact c4⟩
    · rw [List.mem_singleton.mp ha, va_up_self]
      exact ⟨g1, by rw [xR_sR, if_neg (fun z => hqs z.1)]; exact g2, g3, g4⟩
  · rcases List.mem_append.mp ha with ha | ha
    · rw [va_up_ne _ _ (haq a ha)] at he
      rcases List.mem_append.mp hb with hb | hb
      · rw [va_up_ne _ _ (haq b hb)] at he
        exact d a ha b hb he
      · rw [List.mem_singleton.mp hb, va_up_self] at he
        exact absurd he (hap a ha)
    · rw [List.mem_singleton.mp ha, va_up_self] at he
      rcases List.mem_append.mp hb with hb | hb
      · rw [va_up_ne _ _ (haq b hb)] at he
        exact absurd he.symm (hap b hb)
      · rw [List.mem_singleton.mp ha, List.mem_singleton.mp hb]
  · rcases List.mem_append.mp ha with ha | ha
    · rw [va_up_ne _ _ (haq a ha)]; exact e2 a ha
    · rw [List.mem_singleton.mp ha, va_up_self]
      exact ⟨f.nl hq, f.nl (nl_new g5)⟩
  · have G3 : xgr (fun b => b = t ∨ b = st) M0 (xsR M1 st L.length (some q)) := (f.mono (fun b _ z => Or.inl z)).trans (G.mono (fun b _ z => Or.inr z))
    exact G3.mono (fun b hb z => z.elim id (fun z => absurd hb (by rw [z]; exact e1)))
theorem tMk.kk (h : tMk M0 M t st KK ψ) (hl : KK.length = 200) : cKK M t st KK ψ := by
  obtain ⟨⟨a1, a2, a3, a4⟩, ⟨b1, b2⟩, c, d, ⟨e1, e2⟩, f⟩ := h
  exact ⟨a1, ⟨a2, a3, a4, hl, b1, fun i hi => b2 i (by omega)⟩, c, d⟩
/-- what a tree's constructor leaves -/
def tDn (M0 M : xM) (t : Nat) : Prop := ∃ st KK ψ φ sp, cKK M t st KK ψ ∧ cTr M t KK φ ψ tNil sp (tCnt tNil) (tKy tNil) ∧ (st ∉ xL M0 ∧ ∀ a ∈ KK, a ∉ xL M0 ∧ ψ a ∉ xL M0) ∧ xgr (fun b => b = t) M0 M
theorem tree_loop (hQ : ∀ M1, tDn M0 M1 t → Q none M1) : ∀ (d i : Nat) (M : xM) (L : List Nat) (ψ : Nat → Nat) (c1 c2 : Nat), 200 = i + d → L.length = i → tMk M0 M t st L ψ → c1 = 1 + 2 * i → c2 = 200 + 25 * i → xWp l g mX8_init 401 5200 16 [(1, va_rf (some t)), (1, .int (nI i))] [] (c1, c2) M Q
  | 0, i, M, L, ψ, c1, c2, hd, hl, h, h1, h2 => by
    have hi : i = 200 := by omega
    have hk := h.kk (by omega)
    obtain ⟨⟨a1, a2, a3, a4⟩, -, -, -, e, f⟩ := id h
    refine bX8_init_16 _ _ ⟨a1, st, a2, a3, fun _ => ⟨0, ⟨a3, rfl, by omega, by omega⟩, by omega, ?_⟩, fun c => absurd (show nI (xN M st) ≤ nI i by rw [a4, hi]; exact Int32.le_refl _) c⟩
    have hL0 : 0 < L.length := by omega
    have hr : xR M st 0 = some L[0] := by rw [hk.2.1.2.2.2.2.2 0 (by omega), List.getElem?_eq_getElem hL0]
    rw [hr]
    have hx0 : xag (RG t L ψ) M (xsR M t 2 (some L[0])) := xag_R M RGt
    refine sX8_clear (r := L[0]) (hk.rg hx0) (by rw [xR_sR, if_pos ⟨rfl, rfl⟩]) (List.getElem_mem hL0) (fun M1 ht hx => ⟨rfl, by omega, hQ M1 ⟨st, L, ψ, (fun _ => L[0]), (L.filter (fun a => decide (a ≠ L[0]))).reverse, (hk.rg hx0).rg hx, ?_, e, ?_⟩⟩)
    · rw [tNil_cnt.1, tNil_cnt.2]; exact ht
    · have no : ∀ b ∈ xL M0, ¬ b = t → ¬ RG t L ψ b := fun b hb hn z => by
        rcases z with z | z | ⟨c, hc, z⟩
        · exact hn z
        · exact (e.2 b z).1 hb
        · exact (e.2 c hc).2 (z ▸ hb)
      exact xgr_ag2 (xgr_ag2 f hx0 no) hx no
  | d + 1, i, M, L, ψ, c1, c2, hd, hl, h, h1, h2 => by
    obtain ⟨⟨a1, a2, a3, a4⟩, -, -, -, e, f⟩ := id h
    refine bX8_init_16 _ _ ⟨a1, st, a2, a3, fun c => ?_, fun _ => ⟨by omega, fun q hq => ⟨1, 12, by omega, sX3_init xat_q (fun M1 p g1 g2 g3 g4 g5 g6 => ⟨rfl, st, a2, i, ?_, g1, ?_⟩)⟩⟩⟩
    · exfalso
      rw [a4] at c
      have := nle c rfl rfl
      omega
    · have G1 : xgr (fun _ => False) M M1 := xgr_mk hq g6
      exact ⟨G1.at a3, rfl, by rw [G1.n a3]; omega, by rw [G1.n a3]; omega⟩
    · have h3 := h.nx hq g1 g2 g3 g4 g5 g6
      rw [hl] at h3
      rw [nI_1]
      exact tree_loop hQ d (i + 1) _ _ _ _ _ (by omega) (by rw [List.length_append, List.length_singleton, hl]) h3 (by omega) (by omega)
theorem sX8_init (h : xat M t 5) (hQ : ∀ M1, tDn M M1 t → Q none M1) : xSp l g mX8_init 401 5200 [va_rf (some t)] M Q := by
  refine eX8_init _ (bX8_init_0 _ ⟨by omega, fun st hs => ⟨xat_old hs h, ?_⟩⟩)
  refine tree_loop (st := st) hQ 200 0 _ [] (fun _ => 0) _ _ (by omega) rfl ⟨⟨xat_old (kd := 12) (n := 200) hs h, by rw [xR_sR, if_pos ⟨rfl, rfl⟩], xat_q (M := M) (q := st) (kd := 12) (n := 200), by rw [xN_sR, xN_new, if_pos rfl]⟩, ⟨List.nodup_nil, fun i hi => absurd hi (Nat.not_lt_zero _)⟩, fun a ha => (by cases ha), fun a ha => (by cases ha), ⟨hs, fun a ha => (by cases ha)⟩, (xgr_new (P := fun b => b = t) hs).trans (xgr_R rfl)⟩ (by omega) (by omega)
theorem cKK_psi (h : cKK M t st KK ψ) (he : ∀ a ∈ KK, ψ1 a = ψ a) : cKK M t st KK ψ1 := by
  obtain ⟨a1, b, dd, e⟩ := h
  exact ⟨a1, b, fun a ha => by rw [he a ha]; exact dd a ha, fun a ha b hb z => e a ha b hb (by rw [he a ha, he b hb] at z; exact z)⟩
theorem cTr_psi (h : cTr M t KK φ ψ T sp nd ky) (he : ∀ a ∈ KK, ψ1 a = ψ a) : cTr M t KK φ ψ1 T sp nd ky := by
  obtain ⟨a, ⟨⟨b1, b2⟩, b3, b4⟩, c, d, e⟩ := h
  refine ⟨a, ⟨⟨fun n hn => ?_, b2⟩, b3, b4⟩, c, fun a ha => by rw [he a ha]; exact d a ha, fun a ha b hb z => e a ha b hb (by rw [he a ha, he b hb] at z; exact z)⟩
  have := b1 n hn
  unfold cB at this ⊢
  rw [he _ (b4 n hn)]
  exact this
end TMK
