/-! The reference's put: a value, a leaf. -/
/-- the cells of node n, from 0 on -/
def rD (M : xM) (ad : Nat → Nat) (T : TT) (n : Nat) : Prop :=
  xI M (ad 5) n = pI (tP T n) ∧ xI M (ad 6) n = nI (tB T n) ∧ xI M (ad 8) n = nI (tX T n).length ∧ (∀ i, i < (tX T n).length → xI M (ad 7) (12 * n + i) = nI ((tX T n).getD i 0)) ∧ xI M (ad 9) n = (if (tV T n).isSome = true then 1 else 0) ∧ xJ M (ad 10) n = (tV T n).getD 0 ∧ xI M (ad 11) n = nI (tF T n) ∧ xI M (ad 12) n = nI (tG T n) ∧ xI M (ad 13) n = (if tR T n = true then 1 else 0)
/-- a leaf before its parent's format is looked at -/
def tAd0 (T : TT) (s c b : Nat) (p : List Nat) (v : Int64) : TT :=
  (va_up (tU T) c true, va_up (tP T) c (some s), va_up (tB T) c b, va_up (tX T) c p, va_up (tV T) c (some v), va_up (tF T) c 1, va_up (tG T) c 0, va_up (tR T) c true, va_up (va_up (tC T) c []) s (lIns (tB T) b c (tC T s)), va_up (tL T) c (tL T s + (tX T s).length + 1), tO T)
/-- another format -/
def tFm (T : TT) (s f : Nat) : TT := (tU T, tP T, tB T, tX T, tV T, va_up (tF T) s f, tG T, tR T, tC T, tL T, tO T)
section RPU
variable {l : Launch} {g : xG} {M M0 M1 M2 : xM} {Q : Option Value → xM → Prop} {y : Nat} {ad : Nat → Nat} {T T1 Tc : TT} {o n b c s m w : Nat} {K W p : List Nat} {v : Int64} {P P1 : Nat → Nat → Prop}
theorem rC0 : rC M ad 0 T n ↔ rD M ad T n := by unfold rC rD; rw [Nat.zero_add]
theorem rT.d (hT : rT M ad 0 T) (hW : tWF T) (hn : tU T n = true) : rD M ad T n := rC0.mp ((hT n (hW.2.1 n hn).1).2 hn)
theorem rT.u (hT : rT M ad 0 T) (hn : n < 220) : xI M (ad 4) n = (if tU T n = true then 1 else 0) := by have := (hT n hn).1; rw [Nat.zero_add] at this; exact this
theorem x12 (hW : tWF T) : ∀ n, tU T n = true → (tX T n).length ≤ 12 := fun n hn => (tX_le hW hn).1
theorem rT_v1 (hS : rS M y ad) (hT : rT M ad 0 T) (hW : tWF T) (hn : tU T n = true) : rT (xsJ (xsI M (ad 9) n 1) (ad 10) n v) ad 0 (tSv T n (some v)) := by
  obtain ⟨c1, c2, c3, c4, c5, c6, c7, c8, c9⟩ := hT.d hW hn
  have e : ∀ j ∈ RL9, j ≠ 9 → ∀ k, xI (xsJ (xsI M (ad 9) n 1) (ad 10) n v) (ad j) k = xI M (ad j) k := fun j hj n1 k => by rw [xI_sJ, rsk hS hj (by decide) n1]
  refine rT_upd (c := n) hS hT ((rX_I (Or.inl ⟨9, by decide, rfl, rfl⟩)).trans (rX_J (Or.inl ⟨10, by decide, rfl, rfl⟩))) (x12 hW) ⟨by rw [e 4 (by decide) (by decide)]; exact hT.u (hW.2.1 n hn).1, fun _ => rC0.mpr ?_⟩ (fun m hm => ⟨rfl, rfl, rfl, rfl, va_up_ne _ _ hm, rfl, rfl, rfl⟩)
  have ev : tV (tSv T n (some v)) n = some v := va_up_self _ _ _
  refine ⟨by rw [e 5 (by decide) (by decide)]; exact c1, by rw [e 6 (by decide) (by decide)]; exact c2, by rw [e 8 (by decide) (by decide)]; exact c3, fun i hi => by rw [e 7 (by decide) (by decide)]; exact c4 i hi, ?_, ?_, by rw [e 11 (by decide) (by decide)]; exact c7, by rw [e 12 (by decide) (by decide)]; exact c8, by rw [e 13 (by decide) (by decide)]; exact c9⟩
  · rw [ev, xI_sJ, xI_sI, if_pos ⟨rfl, rfl⟩]; rfl
  · rw [ev, xJ_sJ, if_pos ⟨rfl, rfl⟩]; rfl
theorem rT_v2 (hS : rS M y ad) (hT : rT M ad 0 T) (hW : tWF T) (hn : tU T n = true) (hv : (tV T n).isSome = true) : rT (xsJ M (ad 10) n v) ad 0 (tSv T n (some v)) := by
  obtain ⟨c1, c2, c3, c4, c5, c6, c7, c8, c9⟩ := hT.d hW hn
  refine rT_upd (c := n) hS hT (rX_J (Or.inl ⟨10, by decide, rfl, rfl⟩)) (x12 hW) ⟨hT.u (hW.2.1 n hn).1, fun _ => rC0.mpr ?_⟩ (fun m hm => ⟨rfl, rfl, rfl, rfl, va_up_ne _ _ hm, rfl, rfl, rfl⟩)
  have ev : tV (tSv T n (some v)) n = some v := va_up_self _ _ _
  refine ⟨c1, c2, c3, c4, ?_, ?_, c7, c8, c9⟩
  · rw [ev, xI_sJ, c5, hv]; rfl
  · rw [ev, xJ_sJ, if_pos ⟨rfl, rfl⟩]; rfl
theorem rT_v0 (hS : rS M y ad) (hT : rT M ad 0 T) (hW : tWF T) (hn : tU T n = true) : rT (xsJ (xsI M (ad 9) n 0) (ad 10) n 0) ad 0 (tSv T n none) := by
  obtain ⟨c1, c2, c3, c4, c5, c6, c7, c8, c9⟩ := hT.d hW hn
  have e : ∀ j ∈ RL9, j ≠ 9 → ∀ k, xI (xsJ (xsI M (ad 9) n 0) (ad 10) n 0) (ad j) k = xI M (ad j) k := fun j hj n1 k => by rw [xI_sJ, rsk hS hj (by decide) n1]
  refine rT_upd (c := n) hS hT ((rX_I (Or.inl ⟨9, by decide, rfl, rfl⟩)).trans (rX_J (Or.inl ⟨10, by decide, rfl, rfl⟩))) (x12 hW) ⟨by rw [e 4 (by decide) (by decide)]; exact hT.u (hW.2.1 n hn).1, fun _ => rC0.mpr ?_⟩ (fun m hm => ⟨rfl, rfl, rfl, rfl, va_up_ne _ _ hm, rfl, rfl, rfl⟩)
  have ev : tV (tSv T n none) n = none := va_up_self _ _ _
  refine ⟨by rw [e 5 (by decide) (by decide)]; exact c1, by rw [e 6 (by decide) (by decide)]; exact c2, by rw [e 8 (by decide) (by decide)]; exact c3, fun i hi => by rw [e 7 (by decide) (by decide)]; exact c4 i hi, ?_, ?_, by rw [e 11 (by decide) (by decide)]; exact c7, by rw [e 12 (by decide) (by decide)]; exact c8, by rw [e 13 (by decide) (by decide)]; exact c9⟩
  · rw [ev, xI_sJ, xI_sI, if_pos ⟨rfl, rfl⟩]; rfl
  · rw [ev, xJ_sJ, if_pos ⟨rfl, rfl⟩]; rfl
theorem rT_fm {f : Nat} (hS : rS M y ad) (hT : rT M ad 0 T) (hW : tWF T) (hn : tU T n = true) : rT (xsI M (ad 11) n (nI f)) ad 0 (tFm T n f) := by
  obtain ⟨c1, c2, c3, c4, c5, c6, c7, c8, c9⟩ := hT.d hW hn
  have e : ∀ j ∈ RL9, j ≠ 11 → ∀ k, xI (xsI M (ad 11) n (nI f)) (ad j) k = xI M (ad j) k := fun j hj n1 k => rsk hS hj (by decide) n1
  refine rT_upd (c := n) hS hT (rX_I (Or.inl ⟨11, by decide, rfl, rfl⟩)) (x12 hW) ⟨by rw [e 4 (by decide) (by decide)]; exact hT.u (hW.2.1 n hn).1, fun _ => rC0.mpr ?_⟩ (fun m hm => ⟨rfl, rfl, rfl, rfl, rfl, va_up_ne _ _ hm, rfl, rfl⟩)
  refine ⟨by rw [e 5 (by decide) (by decide)]; exact c1, by rw [e 6 (by decide) (by decide)]; exact c2, by rw [e 8 (by decide) (by decide)]; exact c3, fun i hi => by rw [e 7 (by decide) (by decide)]; exact c4 i hi, by rw [e 9 (by decide) (by decide)]; exact c5, c6, ?_, by rw [e 12 (by decide) (by decide)]; exact c8, by rw [e 13 (by decide) (by decide)]; exact c9⟩
  rw [xI_sI, if_pos ⟨rfl, rfl⟩]
  show _ = nI (va_up (tF T) n f n)
  rw [va_up_self]
theorem tFm_self (T : TT) (s : Nat) : tFm T s (tF T s) = T := by
  unfold tFm
  have : va_up (tF T) s (tF T s) = tF T := by
    funext x
    by_cases h : x = s
    · rw [h, va_up_self]
    · rw [va_up_ne _ _ h]
  rw [this]; rfl
theorem rN_y (hS : rS M y ad) (k : Nat) : ¬ rN ad c y k := fun z => by
  rcases z with ⟨j, hj, z, -⟩ | ⟨z, -⟩
  · exact hS.ny (RA_RL j hj) z.symm
  · exact hS.ny (j := 7) (by decide) z.symm
theorem rN_1 (hS : rS M y ad) (k : Nat) : ¬ rN ad c (ad 1) k := fun z => by
  rcases z with ⟨j, hj, z, -⟩ | ⟨z, -⟩
  · exact hS.na (i := 1) (by decide) (RA_RL j hj) (fun q => by subst q; revert hj; decide) z
  · exact hS.na (i := 1) (j := 7) (by decide) (by decide) (by decide) z
theorem rX.pn (hx : rX (rN ad c) M M1) (hS : rS M y ad) (hP : rP M y ad K) : rP M1 y ad K :=
  ⟨by rw [(hx.2 _ _ (rN_y hS 2)).1]; exact hP.1, hP.2.1, fun i hi => by rw [(hx.2 _ _ (rN_1 hS i)).1]; exact hP.2.2.1 i hi, hP.2.2.2⟩
/-- the leaf in the arrays -/
theorem rT_add (hS : rS M y ad) (hT : rT M ad 0 T) (hW : tWF T) (h1 : rX (rN ad c) M M1) (hn : rNw M1 ad c (nI s) (nI b)) (h2 : rX (rXp ad c) M1 M2) (h8 : xI M2 (ad 8) c = nI p.length) (h7 : ∀ i, i < p.length → xI M2 (ad 7) (12 * c + i) = nI (p.getD i 0)) (hc : c < 220) :
    rX (rN ad c) M (xsJ (xsI M2 (ad 9) c 1) (ad 10) c v) ∧ rT (xsJ (xsI M2 (ad 9) c 1) (ad 10) c v) ad 0 (tAd0 T s c b p v) := by
  have hx : rX (rN ad c) M (xsJ (xsI M2 (ad 9) c 1) (ad 10) c v) := h1.trans ((h2.mono rXp_n).trans ((rX_I (Or.inl ⟨9, by decide, rfl, rfl⟩)).trans (rX_J (Or.inl ⟨10, by decide, rfl, rfl⟩))))
  obtain ⟨n4, n5, n6, n8, n9, n10, n11, n12, n13⟩ := hn
  have e : ∀ j ∈ RL9, j ≠ 9 → j ≠ 8 → j ≠ 7 → ∀ k, xI (xsJ (xsI M2 (ad 9) c 1) (ad 10) c v) (ad j) k = xI M1 (ad j) k := fun j hj n1 n2 n3 k => by
    rw [xI_sJ, rsk hS hj (by decide) n1]
    exact (h2.2 _ _ (fun z => by
      rcases z with z | z
      · exact hS.na hj (by decide) n2 z.1
      · exact hS.na hj (by decide) n3 z.1)).1
  refine ⟨hx, rT_upd (c := c) hS hT hx (x12 hW) ⟨?_, fun _ => rC0.mpr ?_⟩ (fun m hm => ⟨va_up_ne _ _ hm, va_up_ne _ _ hm, va_up_ne _ _ hm, va_up_ne _ _ hm, va_up_ne _ _ hm, va_up_ne _ _ hm, va_up_ne _ _ hm, va_up_ne _ _ hm⟩)⟩
  · rw [e 4 (by decide) (by decide) (by decide) (by decide), n4]
    show _ = if va_up (tU T) c true c = true then 1 else 0
    rw [va_up_self]; rfl
  · have eX : tX (tAd0 T s c b p v) c = p := va_up_self _ _ _
    have eV : tV (tAd0 T s c b p v) c = some v := va_up_self _ _ _
    have eP : tP (tAd0 T s c b p v) c = some s := va_up_self _ _ _
    have eB : tB (tAd0 T s c b p v) c = b := va_up_self _ _ _
    have eF : tF (tAd0 T s c b p v) c = 1 := va_up_self _ _ _
    have eG : tG (tAd0 T s c b p v) c = 0 := va_up_self _ _ _
    have eR : tR (tAd0 T s c b p v) c = true := va_up_self _ _ _
    refine ⟨?_, ?_, ?_, fun i hi => ?_, ?_, ?_, ?_, ?_, ?_⟩
    · rw [e 5 (by decide) (by decide) (by decide) (by decide), n5, eP]; rfl
    · rw [e 6 (by decide) (by decide) (by decide) (by decide), n6, eB]
    · rw [xI_sJ, rsk hS (i := 8) (by decide) (by decide) (by decide), h8, eX]
    · rw [eX] at hi ⊢
      rw [xI_sJ, rsk hS (i := 7) (by decide) (by decide) (by decide)]; exact h7 i hi
    · rw [eV, xI_sJ, xI_sI, if_pos ⟨rfl, rfl⟩]; rfl
    · rw [eV, xJ_sJ, if_pos ⟨rfl, rfl⟩]; rfl
    · rw [e 11 (by decide) (by decide) (by decide) (by decide), n11, eF]; rfl
    · rw [e 12 (by decide) (by decide) (by decide) (by decide), n12, eG]; rfl
    · rw [e 13 (by decide) (by decide) (by decide) (by decide), n13, eR]; rfl
theorem tA_self (T : TT) (f n : Nat) : n ∈ tA T f n := by cases f <;> simp [tA]
/-- marks that were there before do not matter on the way -/
theorem tFr_eq {S T : TT} {n : Nat} (h1 : tU S = tU T) (h2 : tP S = tP T) (h3 : tB S = tB T) (h4 : tX S = tX T) (h5 : tV S = tV T) (h6 : tF S = tF T) (h7 : ∀ x, x ∉ tA T 12 n → tG S x = tG T x ∧ tR S x = tR T x) (h8 : tC S = tC T) (h9 : tL S = tL T) (h10 : tO S = tO T) : tFr S n = tFr T n := by
  unfold tFr
  rw [tA_same h2, h1, h2, h3, h4, h5, h6, h8, h9, h10]
  have e1 : (fun x => if x ∈ tA T 12 n then 0 else tG S x) = (fun x => if x ∈ tA T 12 n then 0 else tG T x) := by
    funext x
    by_cases hx : x ∈ tA T 12 n
    · rw [if_pos hx, if_pos hx]
    · rw [if_neg hx, if_neg hx]; exact (h7 x hx).1
  have e2 : (fun x => if x ∈ tA T 12 n then true else tR S x) = (fun x => if x ∈ tA T 12 n then true else tR T x) := by
    funext x
    by_cases hx : x ∈ tA T 12 n
    · rw [if_pos hx, if_pos hx]
    · rw [if_neg hx, if_neg hx]; exact (h7 x hx).2
  rw [e1, e2]
theorem tFr_add (hs : s ≠ c) : tFr (tFm (tAd0 T s c b p v) s (fGrow (tF T s) ((tC T s).length + 1))) c = tFr (tAdd T s c b p v) c :=
  tFr_eq rfl rfl rfl rfl rfl rfl (fun x hx => ⟨rfl, by
    have hxc : x ≠ c := fun z => hx (by rw [z]; exact tA_self _ _ _)
    show va_up (tR T) c true x = va_up (tR T) c false x
    rw [va_up_ne _ _ hxc, va_up_ne _ _ hxc]⟩) rfl rfl rfl
theorem put_leaf {w2 w5 : Value} {x3 : Int32} (hW : tWF T) (hcnt : tCnt T < 220) (hs : tU T s = true) (hF : tF T s ≤ 4) (hC : (tC T s).length < 1000) (hw : w < K.length) (hK : K.length ≤ 12) (hwl : w = tL T s + (tX T s).length) (hnb : ∀ x ∈ tC T s, tB T x ≠ K.getD w 0) (hS : rS M y ad) (hT : rT M ad 0 T) (hP : rP M y ad K) (e20 : xI M y 20 = nI s) (e22 : xI M y 22 = nI w)
    (hQ : ∀ M1, rX (rLo y ad) M M1 → rT M1 ad 0 (tFr (tAdd T s (tFree T) (K.getD w 0) (K.drop (w + 1)) v) (tFree T)) → (∀ k, xI M1 y k = xI M y k) → Q (some (.int 1)) M1) : xWp l g mX10_put 0 0 206 [(1, va_rf (some y)), (2, .long v), (0, w2), (1, .int x3), (1, .int 1), (0, w5)] [] (0, 0) M Q := by
  obtain ⟨f1, f2⟩ := tFree_ok hcnt
  have hsc : s ≠ tFree T := fun z => by rw [z, f1] at hs; cases hs
  have hs220 := (hW.2.1 s hs).1
  have hWa : tWF (tAdd T s (tFree T) (K.getD w 0) (K.drop (w + 1)) v) := tAdd_wf hW v hs f1 f2 (getD_lt hP.2.2.2) (fun x hx => hP.2.2.2 x (List.mem_of_mem_drop hx)) (by rw [List.length_drop]; omega) hnb
  have hW0 : tWF (tAd0 T s (tFree T) (K.getD w 0) (K.drop (w + 1)) v) := tWF_same hWa rfl rfl rfl rfl rfl rfl rfl
  refine bX10_put_206 _ _ _ _ _ _ ⟨fun z => absurd z (by decide), fun _ => ⟨hS.1, ad 1, (hS.2.1 1 (by decide)).1, w, by rw [e22]; exact hS.ai (j := 1) (by decide) (by show w < 64; omega), ?_⟩⟩
  rw [e20, hP.2.2.1 w hw]
  refine sX10_newNode hS hT hcnt (fun M1 hx1 hn1 => ⟨_, rfl, (hx1.sS hS).1, ?_⟩)
  rw [(hx1.2 _ _ (rN_y hS 22)).1, e22, nI_1]
  have hS1 := hx1.sS hS
  refine sX10_setPrefix (K := K) hS1 (hx1.pn hS hP) f2 (by omega) (by omega) (fun M2 hx2 h8 h7 => ⟨rfl, (hx2.sS hS1).1, ?_⟩)
  have hS2 := hx2.sS hS1
  refine sX10_give hS2 f2 ⟨rfl, hS2.1, ?_⟩
  obtain ⟨hx3, hT3⟩ := rT_add (v := v) (p := K.drop (w + 1)) hS hT hW hx1 hn1 hx2 h8 h7 f2
  generalize hM3 : xsJ (xsI M2 (ad 9) (tFree T) 1) (ad 10) (tFree T) v = M3 at hx3 hT3 ⊢
  have hS3 := hx3.sS hS
  have y3 : ∀ k, xI M3 y k = xI M y k := fun k => (hx3.2 _ _ (rN_y hS k)).1
  have hs0 : tU (tAd0 T s (tFree T) (K.getD w 0) (K.drop (w + 1)) v) s = true := by
    show va_up (tU T) _ true s = true
    rw [va_up_ne _ _ hsc]; exact hs
  have hc0 : tU (tAd0 T s (tFree T) (K.getD w 0) (K.drop (w + 1)) v) (tFree T) = true := va_up_self _ _ _
  have hlen : (tC (tAd0 T s (tFree T) (K.getD w 0) (K.drop (w + 1)) v) s).length = (tC T s).length + 1 := by
    have e : tC (tAd0 T s (tFree T) (K.getD w 0) (K.drop (w + 1)) v) s = lIns (tB T) (K.getD w 0) (tFree T) (tC T s) := va_up_self _ _ _
    rw [e, lIns_len]
  have hF0 : tF (tAd0 T s (tFree T) (K.getD w 0) (K.drop (w + 1)) v) s = tF T s := va_up_ne _ _ hsc
  have h11 := (hT3.d hW0 hs0).2.2.2.2.2.2.1
  rw [hF0] at h11
  rw [y3 20, e20]
  refine sX10_children hS3 hT3 hW0 hs0 ⟨_, rfl, hS3.1, ad 11, (hS3.2.1 11 (by decide)).1, s, by rw [y3 20, e20]; exact hS3.ai (j := 11) (by decide) (by show s < 440; omega), ?_⟩
  rw [h11, hlen]
  refine sX10_room (by omega) ⟨_, rfl, fun c => ⟨hS3.1, ?_⟩, fun c => ⟨hS3.1, ad 11, (hS3.2.1 11 (by decide)).1, s, by rw [y3 20, e20]; exact hS3.ai (j := 11) (by decide) (by show s < 440; omega), s, by rw [y3 20, e20]; exact hS3.ai (j := 11) (by decide) (by show s < 440; omega), ?_⟩⟩
  · have hr : fRoom (tF T s) < 2 ^ 31 := by unfold fRoom; repeat (first | omega | split)
    have hle := nle c rfl rfl
    have e : fGrow (tF T s) ((tC T s).length + 1) = tF T s := by unfold fGrow; rw [if_neg (by omega)]
    refine sX10_freshen hW0 hS3 hT3 hc0 (fun M4 hx4 hT4 => ⟨rfl, hQ M4 ((hx3.mono (rN_lo f2)).trans (hx4.mono rFc_lo)) ?_ (fun k => (rFc_y hS3 hx4 k).trans (y3 k))⟩)
    rw [← tFr_add hsc, e, ← hF0, tFm_self]
    exact hT4
  · have hr : fRoom (tF T s) < 2 ^ 31 := by unfold fRoom; repeat (first | omega | split)
    have hle := nnle c rfl rfl
    have e : fGrow (tF T s) ((tC T s).length + 1) = tF T s + 1 := by unfold fGrow; rw [if_pos (by omega)]
    rw [h11, nI_1]
    have hT4 := rT_fm (f := tF T s + 1) hS3 hT3 hW0 hs0
    have hx4 : rX (rLo y ad) M3 (xsI M3 (ad 11) s (nI (tF T s + 1))) := rX_I (Or.inr (Or.inr (Or.inl ⟨11, by decide, rfl, hs220⟩)))
    have hS4 := hx4.sS hS3
    have y4 : ∀ k, xI (xsI M3 (ad 11) s (nI (tF T s + 1))) y k = xI M y k := fun k => by rw [xI_sI, if_neg (fun z => hS.ny (j := 11) (by decide) z.1.symm)]; exact y3 k
    refine sX10_freshen (T := tFm (tAd0 T s (tFree T) (K.getD w 0) (K.drop (w + 1)) v) s (tF T s + 1)) (tWF_same hW0 rfl rfl rfl rfl rfl rfl rfl) hS4 hT4 hc0 (fun M5 hx5 hT5 => ⟨rfl, hQ M5 ((hx3.mono (rN_lo f2)).trans (hx4.trans (hx5.mono rFc_lo))) ?_ (fun k => (rFc_y hS4 hx5 k).trans (y4 k))⟩)
    rw [← tFr_add hsc, e]
    exact hT5
end RPU
