/-! The reference's putTogether. -/
/-- the child took its parent's place, the parent still marked as used -/
def tJn0 (T : TT) (u c : Nat) : TT :=
  (tU T, va_up (tP T) c (tP T u), va_up (tB T) c (tB T u), va_up (tX T) c (tX T u ++ tB T c :: tX T c), tV T, tF T, tG T, tR T,
   (fun x => if tP T u = some x then lRep u c (tC T x) else tC T x), va_up (tL T) c (tL T u), if u = tO T then c else tO T)
section RPT
variable {l : Launch} {g : xG} {M M0 M1 M2 M3 M4 M5 : xM} {Q : Option Value → xM → Prop} {y : Nat} {ad : Nat → Nat} {T T1 Tc : TT} {o n b c s m w a u : Nat} {K W p : List Nat} {v : Int64} {P P1 : Nat → Nat → Prop}
theorem join_shift {X : List Nat} {x1 : Int32} (hS : rS M y ad) (hc : c < 220) (h12 : X.length + w + 1 ≤ 12) (hX : ∀ i, i < X.length → xI M (ad 7) (12 * c + i) = nI (X.getD i 0))
    (hcont : ∀ M1, rX (fun b k => b = ad 7 ∧ 12 * c ≤ k ∧ k < 12 * c + 12) M M1 → (∀ i, i < X.length → xI M1 (ad 7) (12 * c + (i + w + 1)) = nI (X.getD i 0)) → xWp l g mX10_putTogether 0 0 66 [(1, va_rf (some y)), (1, .int x1), (1, .int (nI c)), (1, .int (nI w)), (1, .int 0)] [] (0, 0) M1 Q) :
    ∀ (i : Nat) (M1 : xM), i ≤ X.length → rX (fun b k => b = ad 7 ∧ 12 * c ≤ k ∧ k < 12 * c + 12) M M1 → (∀ j, j < i → xI M1 (ad 7) (12 * c + j) = nI (X.getD j 0)) → (∀ j, i ≤ j → j < X.length → xI M1 (ad 7) (12 * c + (j + w + 1)) = nI (X.getD j 0)) → xWp l g mX10_putTogether 0 0 24 [(1, va_rf (some y)), (1, .int x1), (1, .int (nI c)), (1, .int (nI w)), (1, .int (nI i + (-1)))] [] (0, 0) M1 Q := by
  intro i
  induction i with
  | zero =>
    intro M1 hi hx h1 h2
    refine bX10_putTogether_24 _ _ _ _ _ ⟨fun _ => hcont M1 hx (fun j hj => h2 j (by omega) hj), fun c => absurd (by decide) c⟩
  | succ i ih =>
    intro M1 hi hx h1 h2
    have hS1 := hx.sS hS
    rw [nI_am]
    have e1 : (12 * nI c) + nI i = nI (12 * c + i) := by rw [show (12 : Int32) = nI 12 from rfl, nI_mul, nI_add]
    have e2 : ((12 * nI c) + nI i) + nI w + 1 = nI (12 * c + (i + w + 1)) := by rw [e1, nI_add, nI_1]; congr 1; omega
    refine bX10_putTogether_24 _ _ _ _ _ ⟨fun z => (nneg z rfl).elim, fun _ => ⟨hS1.1, ad 7, (hS1.2.1 7 (by decide)).1, 12 * c + i, by rw [e1]; exact hS1.ai (j := 7) (by decide) (by show _ < 5280; omega), 12 * c + (i + w + 1), by rw [e2]; exact hS1.ai (j := 7) (by decide) (by show _ < 5280; omega), ?_⟩⟩
    rw [h1 i (by omega)]
    refine ih _ (by omega) (hx.trans (rX_I ⟨rfl, by omega, by omega⟩)) (fun j hj => ?_) (fun j hj1 hj2 => ?_)
    · rw [xI_sI, if_neg (fun z => by omega)]; exact h1 j (by omega)
    · by_cases e : j = i
      · rw [xI_sI, if_pos ⟨rfl, by omega⟩, e]
      · rw [xI_sI, if_neg (fun z => by omega)]; exact h2 j (by omega) hj2
theorem join_pre {X U : List Nat} (hS : rS M y ad) (hc : c < 220) (hu : u < 220) (huc : u ≠ c) (hU : U.length = w) (h12 : X.length + w + 1 ≤ 12) (hXu : ∀ i, i < w → xI M (ad 7) (12 * u + i) = nI (U.getD i 0)) (hX : ∀ i, i < X.length → xI M (ad 7) (12 * c + (i + w + 1)) = nI (X.getD i 0))
    (hcont : ∀ M1, rX (fun b k => b = ad 7 ∧ 12 * c ≤ k ∧ k < 12 * c + 12) M M1 → (∀ i, i < w → xI M1 (ad 7) (12 * c + i) = nI (U.getD i 0)) → (∀ i, i < X.length → xI M1 (ad 7) (12 * c + (i + w + 1)) = nI (X.getD i 0)) → xWp l g mX10_putTogether 0 0 66 [(1, va_rf (some y)), (1, .int (nI u)), (1, .int (nI c)), (1, .int (nI w)), (1, .int (nI w))] [] (0, 0) M1 Q) :
    ∀ (d i : Nat) (M1 : xM), w = i + d → rX (fun b k => b = ad 7 ∧ 12 * c ≤ k ∧ k < 12 * c + 12) M M1 → (∀ j, j < i → xI M1 (ad 7) (12 * c + j) = nI (U.getD j 0)) → (∀ j, j < X.length → xI M1 (ad 7) (12 * c + (j + w + 1)) = nI (X.getD j 0)) → xWp l g mX10_putTogether 0 0 66 [(1, va_rf (some y)), (1, .int (nI u)), (1, .int (nI c)), (1, .int (nI w)), (1, .int (nI i))] [] (0, 0) M1 Q := by
  intro d
  induction d with
  | zero =>
    intro i M1 hd hx h1 h2
    have hi : i = w := by omega
    rw [hi]
    exact hcont M1 hx (fun j hj => h1 j (by omega)) h2
  | succ d ih =>
    intro i M1 hd hx h1 h2
    have hS1 := hx.sS hS
    have e1 : (12 * nI c) + nI i = nI (12 * c + i) := by rw [show (12 : Int32) = nI 12 from rfl, nI_mul, nI_add]
    have e2 : (12 * nI u) + nI i = nI (12 * u + i) := by rw [show (12 : Int32) = nI 12 from rfl, nI_mul, nI_add]
    refine bX10_putTogether_66 _ _ _ _ _ ⟨fun z => ?_, fun _ => ⟨hS1.1, ad 7, (hS1.2.1 7 (by decide)).1, 12 * u + i, by rw [e2]; exact hS1.ai (j := 7) (by decide) (by show _ < 5280; omega), 12 * c + i, by rw [e1]; exact hS1.ai (j := 7) (by decide) (by show _ < 5280; omega), ?_⟩⟩
    · exfalso
      have := nle z rfl rfl
      omega
    · rw [nI_1, (hx.2 _ _ (fun z => by omega)).1, hXu i (by omega)]
      refine ih (i + 1) _ (by omega) (hx.trans (rX_I ⟨rfl, by omega, by omega⟩)) (fun j hj => ?_) (fun j hj => ?_)
      · by_cases e : j = i
        · rw [xI_sI, if_pos ⟨rfl, by omega⟩, e]
        · rw [xI_sI, if_neg (fun z => by omega)]; exact h1 j (by omega)
      · rw [xI_sI, if_neg (fun z => by omega)]; exact h2 j hj
theorem rT_jn (hW : tWF T) (hu : tU T u = true) (hcu : tU T c = true) (hCc : tC T u = [c]) (huc : u ≠ c) (hS : rS M y ad) (hT : rT M ad 0 T) (hx3 : rX (fun b k => b = ad 7 ∧ 12 * c ≤ k ∧ k < 12 * c + 12) M M3)
    (h7a : ∀ i, i < (tX T u).length → xI M3 (ad 7) (12 * c + i) = nI ((tX T u).getD i 0)) (h7b : ∀ i, i < (tX T c).length → xI M3 (ad 7) (12 * c + (i + (tX T u).length + 1)) = nI ((tX T c).getD i 0))
    (h4 : M4 = xsI (xsI (xsI (xsI (xsI M3 (ad 7) (12 * c + (tX T u).length) (nI (tB T c))) (ad 8) c (nI ((tX T c).length + ((tX T u).length + 1)))) (ad 5) c (pI (tP T u))) (ad 6) c (nI (tB T u))) (ad 4) u 0) :
    rX (rLo y ad) M M4 ∧ rT M4 ad 0 (tJn T u c) ∧ ∀ k, xI M4 y k = xI M y k := by
  have hu220 := (hW.2.1 u hu).1
  have hc220 := (hW.2.1 c hcu).1
  have hWj := tJn_wf hW hu hCc
  have hcj : tU (tJn T u c) c = true := by
    show va_up (tU T) u false c = true
    rw [va_up_ne _ _ (Ne.symm huc)]; exact hcu
  have hXj : tX (tJn T u c) c = tX T u ++ tB T c :: tX T c := va_up_self _ _ _
  have hl12 := (tX_le hWj hcj).1
  rw [hXj, List.length_append, List.length_cons] at hl12
  generalize hM5 : xsI (xsI (xsI (xsI M3 (ad 7) (12 * c + (tX T u).length) (nI (tB T c))) (ad 8) c (nI ((tX T c).length + ((tX T u).length + 1)))) (ad 5) c (pI (tP T u))) (ad 6) c (nI (tB T u)) = M5 at h4
  have hx5 : rX (rN ad c) M M5 := by
    rw [← hM5]
    exact (hx3.mono (fun b k z => Or.inr z)).trans ((rX_I (Or.inr ⟨rfl, by omega, by omega⟩)).trans ((rX_I (Or.inl ⟨8, by decide, rfl, rfl⟩)).trans ((rX_I (Or.inl ⟨5, by decide, rfl, rfl⟩)).trans (rX_I (Or.inl ⟨6, by decide, rfl, rfl⟩)))))
  have e : ∀ j ∈ RL9, j ≠ 7 → j ≠ 8 → j ≠ 5 → j ≠ 6 → ∀ k, xI M5 (ad j) k = xI M (ad j) k ∧ xJ M5 (ad j) k = xJ M (ad j) k := fun j hj n7 n8 n5 n6 k => by
    obtain ⟨g1, g2⟩ := hx3.2 (ad j) k (fun z => hS.na hj (by decide) n7 z.1)
    rw [← hM5, rsk hS hj (by decide) n6, rsk hS hj (by decide) n5, rsk hS hj (by decide) n8, rsk hS hj (by decide) n7]
    exact ⟨g1, g2⟩
  have e7 : ∀ k, xI M5 (ad 7) k = if k = 12 * c + (tX T u).length then nI (tB T c) else xI M3 (ad 7) k := fun k => by
    rw [← hM5, rsk hS (i := 7) (j := 6) (by decide) (by decide) (by decide), rsk hS (i := 7) (j := 5) (by decide) (by decide) (by decide), rsk hS (i := 7) (j := 8) (by decide) (by decide) (by decide), xI_sI]
    by_cases hk : k = 12 * c + (tX T u).length
    · rw [if_pos ⟨rfl, hk⟩, if_pos hk]
    · rw [if_neg (fun z => hk z.2), if_neg hk]
  obtain ⟨c1, c2, c3, c4, c5, c6, c7, c8, c9⟩ := hT.d hW hcu
  have hT5 : rT M5 ad 0 (tJn0 T u c) := by
    refine rT_upd (c := c) hS hT hx5 (x12 hW) ⟨?_, fun _ => rC0.mpr ?_⟩ (fun n hn => ⟨rfl, va_up_ne _ _ hn, va_up_ne _ _ hn, va_up_ne _ _ hn, rfl, rfl, rfl, rfl⟩)
    · rw [(e 4 (by decide) (by decide) (by decide) (by decide) (by decide) _).1]; exact hT.u hc220
    · have eX : tX (tJn0 T u c) c = tX T u ++ tB T c :: tX T c := va_up_self _ _ _
      have eP : tP (tJn0 T u c) c = tP T u := va_up_self _ _ _
      have eB : tB (tJn0 T u c) c = tB T u := va_up_self _ _ _
      refine ⟨?_, ?_, ?_, fun i hi => ?_, ?_, ?_, ?_, ?_, ?_⟩
      · rw [eP, ← hM5, rsk hS (i := 5) (j := 6) (by decide) (by decide) (by decide), xI_sI, if_pos ⟨rfl, rfl⟩]
      · rw [eB, ← hM5, xI_sI, if_pos ⟨rfl, rfl⟩]
      · rw [eX, ← hM5, rsk hS (i := 8) (j := 6) (by decide) (by decide) (by decide), rsk hS (i := 8) (j := 5) (by decide) (by decide) (by decide), xI_sI, if_pos ⟨rfl, rfl⟩, List.length_append, List.length_cons]
        congr 1; omega
      · rw [eX] at hi ⊢
        rw [List.length_append, List.length_cons] at hi
        rw [e7, getD_app]
        by_cases h1 : i < (tX T u).length
        · rw [if_pos h1, if_neg (by omega)]; exact h7a i h1
        · rw [if_neg h1]
          by_cases h2 : i = (tX T u).length
          · rw [if_pos (by omega), h2, Nat.sub_self]; rfl
          · rw [if_neg (by omega)]
            have h3 := h7b (i - (tX T u).length - 1) (by omega)
            rw [show i - (tX T u).length - 1 + (tX T u).length + 1 = i by omega] at h3
            rw [h3]
            have : i - (tX T u).length = (i - (tX T u).length - 1) + 1 := by omega
            rw [this]; rfl
      · rw [(e 9 (by decide) (by decide) (by decide) (by decide) (by decide) _).1]; exact c5
      · rw [(e 10 (by decide) (by decide) (by decide) (by decide) (by decide) _).2]; exact c6
      · rw [(e 11 (by decide) (by decide) (by decide) (by decide) (by decide) _).1]; exact c7
      · rw [(e 12 (by decide) (by decide) (by decide) (by decide) (by decide) _).1]; exact c8
      · rw [(e 13 (by decide) (by decide) (by decide) (by decide) (by decide) _).1]; exact c9
  have hS5 := hx5.sS hS
  have hx4 : rX (rN ad u) M5 M4 := by rw [h4]; exact rX_I (Or.inl ⟨4, by decide, rfl, rfl⟩)
  refine ⟨(hx5.mono (rN_lo hc220)).trans (hx4.mono (rN_lo hu220)), ?_, fun k => ((hx4.2 _ _ (rN_y hS k)).1).trans ((hx5.2 _ _ (rN_y hS k)).1)⟩
  refine rT_upd (c := u) hS5 hT5 hx4 (fun n hn => ?_) ⟨?_, fun z => ?_⟩ (fun n hn => ⟨va_up_ne _ _ hn, rfl, rfl, rfl, rfl, rfl, rfl, rfl⟩)
  · by_cases hnc : n = c
    · rw [hnc]
      have eX : tX (tJn0 T u c) c = tX T u ++ tB T c :: tX T c := va_up_self _ _ _
      rw [eX, List.length_append, List.length_cons]; omega
    · have eX : tX (tJn0 T u c) n = tX T n := va_up_ne _ _ hnc
      rw [eX]; exact x12 hW n hn
  · rw [h4, xI_sI, if_pos ⟨rfl, rfl⟩]
    show _ = if va_up (tU T) u false u = true then 1 else 0
    rw [va_up_self]; rfl
  · have : tU (tJn T u c) u = false := va_up_self _ _ _
    rw [this] at z; cases z
end RPT
