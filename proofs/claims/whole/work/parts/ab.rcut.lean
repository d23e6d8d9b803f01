/-! The reference's cutInTwo. -/
/-- the cut, before the way is marked -/
def tCu0 (T : TT) (s m a : Nat) : TT :=
  (va_up (tU T) a true, va_up (va_up (tP T) a (tP T s)) s (some a), va_up (va_up (tB T) a (tB T s)) s ((tX T s).getD m 0), va_up (va_up (tX T) a ((tX T s).take m)) s ((tX T s).drop (m + 1)), va_up (tV T) a none, va_up (tF T) a 1, va_up (tG T) a 0, va_up (tR T) a true,
   (fun x => if x = a then [s] else if tP T s = some x then lRep s a (tC T x) else tC T x), va_up (va_up (tL T) a (tL T s)) s (tL T s + m + 1), if s = tO T then a else tO T)
/-- the node above alone -/
def tCu1 (T : TT) (s m a : Nat) : TT :=
  (va_up (tU T) a true, va_up (tP T) a (tP T s), va_up (tB T) a (tB T s), va_up (tX T) a ((tX T s).take m), va_up (tV T) a none, va_up (tF T) a 1, va_up (tG T) a 0, va_up (tR T) a true, tC T, tL T, tO T)
section RCU
variable {l : Launch} {g : xG} {M M0 M1 M2 : xM} {Q : Option Value → xM → Prop} {y : Nat} {ad : Nat → Nat} {T T1 Tc : TT} {o n b c s m w a : Nat} {K W p : List Nat} {v : Int64} {P P1 : Nat → Nat → Prop}
theorem cut_pre {X : List Nat} (hS : rS M y ad) (ha : a < 220) (hs : s < 220) (hsa : s ≠ a) (hm : m < 12) (e21 : xI M y 21 = nI m) (hX : ∀ i, i < m → xI M (ad 7) (12 * s + i) = nI (X.getD i 0))
    (hcont : ∀ M1, rX (rXp ad a) M M1 → (∀ i, i < m → xI M1 (ad 7) (12 * a + i) = nI (X.getD i 0)) → xI M1 (ad 8) a = xI M (ad 8) a → xWp l g mX10_cutInTwo 0 0 34 [(1, va_rf (some y)), (1, .int (nI s)), (1, .int (nI a)), (1, .int (nI m))] [] (0, 0) M1 Q) :
    ∀ (d i : Nat) (M1 : xM), m = i + d → rX (rXp ad a) M M1 → (∀ j, j < i → xI M1 (ad 7) (12 * a + j) = nI (X.getD j 0)) → xI M1 (ad 8) a = xI M (ad 8) a → xWp l g mX10_cutInTwo 0 0 34 [(1, va_rf (some y)), (1, .int (nI s)), (1, .int (nI a)), (1, .int (nI i))] [] (0, 0) M1 Q := by
  have ny : ∀ k, ¬ rXp ad a y k := fun k z => by
    rcases z with z | z
    · exact hS.ny (j := 8) (by decide) z.1.symm
    · exact hS.ny (j := 7) (by decide) z.1.symm
  have n7 : ∀ i, i < 12 → ¬ rXp ad a (ad 7) (12 * s + i) := fun k hk z => by
    rcases z with z | z
    · exact hS.na (i := 7) (j := 8) (by decide) (by decide) (by decide) z.1
    · omega
  intro d
  induction d with
  | zero =>
    intro i M1 hd hx h7 h8
    have hi : i = m := by omega
    rw [hi]
    exact hcont M1 hx (fun j hj => h7 j (by omega)) h8
  | succ d ih =>
    intro i M1 hd hx h7 h8
    have hS1 := hx.sS hS
    have g21 : xI M1 y 21 = nI m := by rw [(hx.2 _ _ (ny 21)).1]; exact e21
    have e1 : (12 * nI s) + nI i = nI (12 * s + i) := by rw [show (12 : Int32) = nI 12 from rfl, nI_mul, nI_add]
    have e2 : (12 * nI a) + nI i = nI (12 * a + i) := by rw [show (12 : Int32) = nI 12 from rfl, nI_mul, nI_add]
    refine bX10_cutInTwo_34 _ _ _ _ ⟨hS1.1, fun c => ?_, fun _ => ⟨ad 7, (hS1.2.1 7 (by decide)).1, 12 * s + i, by rw [e1]; exact hS1.ai (j := 7) (by decide) (by show _ < 5280; omega), 12 * a + i, by rw [e2]; exact hS1.ai (j := 7) (by decide) (by show _ < 5280; omega), ?_⟩⟩
    · exfalso
      have := nle c g21 rfl
      omega
    · rw [nI_1, (hx.2 _ _ (n7 i (by omega))).1, hX i (by omega)]
      refine ih (i + 1) _ (by omega) (hx.trans (rX_I (Or.inr ⟨rfl, by omega, by omega⟩))) (fun j hj => ?_) ?_
      · by_cases e : j = i
        · rw [xI_sI, if_pos ⟨rfl, by omega⟩, e]
        · rw [xI_sI, if_neg (fun z => by omega)]; exact h7 j (by omega)
      · rw [rsk hS (i := 8) (j := 7) (by decide) (by decide) (by decide)]; exact h8
theorem cut_post {X : List Nat} {x2 : Int32} (hS : rS M y ad) (hs : s < 220) (hm : m < X.length) (h12 : X.length ≤ 12) (e21 : xI M y 21 = nI m) (h8 : xI M (ad 8) s = nI (X.length - (m + 1))) (hX : ∀ i, i < X.length → xI M (ad 7) (12 * s + i) = nI (X.getD i 0))
    (hcont : ∀ M1, rX (fun b k => b = ad 7 ∧ 12 * s ≤ k ∧ k < 12 * s + 12) M M1 → (∀ i, i < X.length - (m + 1) → xI M1 (ad 7) (12 * s + i) = nI (X.getD (i + m + 1) 0)) → xWp l g mX10_cutInTwo 0 0 114 [(1, va_rf (some y)), (1, .int (nI s)), (1, .int x2), (1, .int (nI (X.length - (m + 1))))] [] (0, 0) M1 Q) :
    ∀ (d i : Nat) (M1 : xM), X.length - (m + 1) = i + d → rX (fun b k => b = ad 7 ∧ 12 * s ≤ k ∧ k < 12 * s + 12) M M1 → (∀ j, j < i → xI M1 (ad 7) (12 * s + j) = nI (X.getD (j + m + 1) 0)) → (∀ j, i ≤ j → j < X.length → xI M1 (ad 7) (12 * s + j) = nI (X.getD j 0)) → xWp l g mX10_cutInTwo 0 0 114 [(1, va_rf (some y)), (1, .int (nI s)), (1, .int x2), (1, .int (nI i))] [] (0, 0) M1 Q := by
  intro d
  induction d with
  | zero =>
    intro i M1 hd hx h7 h7b
    have hi : i = X.length - (m + 1) := by omega
    rw [hi]
    exact hcont M1 hx (fun j hj => h7 j (by omega))
  | succ d ih =>
    intro i M1 hd hx h7 h7b
    have hS1 := hx.sS hS
    have g21 : xI M1 y 21 = nI m := by rw [(hx.2 _ _ (fun z => hS.ny (j := 7) (by decide) z.1.symm)).1]; exact e21
    have g8 : xI M1 (ad 8) s = nI (X.length - (m + 1)) := by rw [(hx.2 _ _ (fun z => hS.na (i := 8) (j := 7) (by decide) (by decide) (by decide) z.1)).1]; exact h8
    have e1 : ((12 * nI s) + nI i) + xI M1 y 21 + 1 = nI (12 * s + (i + m + 1)) := by
      rw [g21, show (12 : Int32) = nI 12 from rfl, nI_mul, nI_add, nI_add, nI_1]
      congr 1; omega
    have e2 : (12 * nI s) + nI i = nI (12 * s + i) := by rw [show (12 : Int32) = nI 12 from rfl, nI_mul, nI_add]
    refine bX10_cutInTwo_114 _ _ _ _ ⟨hS1.1, ad 8, (hS1.2.1 8 (by decide)).1, s, hS1.ai (j := 8) (by decide) (by show s < 440; omega), fun c => ?_, fun _ => ⟨ad 7, (hS1.2.1 7 (by decide)).1, 12 * s + (i + m + 1), by rw [e1]; exact hS1.ai (j := 7) (by decide) (by show _ < 5280; omega), 12 * s + i, by rw [e2]; exact hS1.ai (j := 7) (by decide) (by show _ < 5280; omega), ?_⟩⟩
    · exfalso
      have := nle c g8 rfl
      omega
    · rw [nI_1, h7b (i + m + 1) (by omega) (by omega)]
      refine ih (i + 1) _ (by omega) (hx.trans (rX_I ⟨rfl, by omega, by omega⟩)) (fun j hj => ?_) (fun j hj1 hj2 => ?_)
      · by_cases e : j = i
        · rw [xI_sI, if_pos ⟨rfl, by omega⟩, e]
        · rw [xI_sI, if_neg (fun z => by omega)]; exact h7 j (by omega)
      · rw [xI_sI, if_neg (fun z => by omega)]; exact h7b j (by omega) hj2
theorem rT_cu1 (hS : rS M y ad) (hT : rT M ad 0 T) (hW : tWF T) (hm : m ≤ (tX T s).length) (h1 : rX (rN ad a) M M1) (hn : rNw M1 ad a (pI (tP T s)) (nI (tB T s))) (h2 : rX (rXp ad a) M1 M2) (h8 : xI M2 (ad 8) a = nI m) (h7 : ∀ i, i < m → xI M2 (ad 7) (12 * a + i) = nI ((tX T s).getD i 0)) :
    rX (rN ad a) M M2 ∧ rT M2 ad 0 (tCu1 T s m a) := by
  have hx : rX (rN ad a) M M2 := h1.trans (h2.mono rXp_n)
  obtain ⟨n4, n5, n6, n8, n9, n10, n11, n12, n13⟩ := hn
  have e : ∀ j ∈ RL9, j ≠ 8 → j ≠ 7 → ∀ k, xI M2 (ad j) k = xI M1 (ad j) k ∧ xJ M2 (ad j) k = xJ M1 (ad j) k := fun j hj n2 n3 k =>
    h2.2 _ _ (fun z => by
      rcases z with z | z
      · exact hS.na hj (by decide) n2 z.1
      · exact hS.na hj (by decide) n3 z.1)
  refine ⟨hx, rT_upd (c := a) hS hT hx (x12 hW) ⟨?_, fun _ => rC0.mpr ?_⟩ (fun m hm => ⟨va_up_ne _ _ hm, va_up_ne _ _ hm, va_up_ne _ _ hm, va_up_ne _ _ hm, va_up_ne _ _ hm, va_up_ne _ _ hm, va_up_ne _ _ hm, va_up_ne _ _ hm⟩)⟩
  · rw [(e 4 (by decide) (by decide) (by decide) _).1, n4]
    show _ = if va_up (tU T) a true a = true then 1 else 0
    rw [va_up_self]; rfl
  · have eX : tX (tCu1 T s m a) a = (tX T s).take m := va_up_self _ _ _
    have eV : tV (tCu1 T s m a) a = none := va_up_self _ _ _
    have eP : tP (tCu1 T s m a) a = tP T s := va_up_self _ _ _
    have eB : tB (tCu1 T s m a) a = tB T s := va_up_self _ _ _
    have eF : tF (tCu1 T s m a) a = 1 := va_up_self _ _ _
    have eG : tG (tCu1 T s m a) a = 0 := va_up_self _ _ _
    have eR : tR (tCu1 T s m a) a = true := va_up_self _ _ _
    have hl : ((tX T s).take m).length = m := by rw [List.length_take]; omega
    refine ⟨?_, ?_, ?_, fun i hi => ?_, ?_, ?_, ?_, ?_, ?_⟩
    · rw [(e 5 (by decide) (by decide) (by decide) _).1, n5, eP]
    · rw [(e 6 (by decide) (by decide) (by decide) _).1, n6, eB]
    · rw [h8, eX, hl]
    · rw [eX] at hi ⊢
      rw [hl] at hi
      rw [h7 i hi, List.getD_eq_getElem?_getD, List.getD_eq_getElem?_getD, List.getElem?_take_of_lt hi]
    · rw [eV, (e 9 (by decide) (by decide) (by decide) _).1, n9]; rfl
    · rw [eV, (e 10 (by decide) (by decide) (by decide) _).2, n10]; rfl
    · rw [(e 11 (by decide) (by decide) (by decide) _).1, n11, eF]; rfl
    · rw [(e 12 (by decide) (by decide) (by decide) _).1, n12, eG]; rfl
    · rw [(e 13 (by decide) (by decide) (by decide) _).1, n13, eR]; rfl
theorem tFr_cut : tFr (tCu0 T s m a) s = tFr (tCut T s m a) s :=
  tFr_eq rfl rfl rfl rfl rfl rfl (fun x hx => ⟨rfl, by
    have hxa : x ≠ a := fun z => hx (by
      have : tP (tCut T s m a) s = some a := va_up_self _ _ _
      rw [z]
      show a ∈ s :: (match tP (tCut T s m a) s with | none => [] | some p => tA (tCut T s m a) 11 p)
      rw [this]
      exact List.mem_cons_of_mem _ (tA_self _ _ _))
    show va_up (tR T) a true x = va_up (tR T) a false x
    rw [va_up_ne _ _ hxa, va_up_ne _ _ hxa]⟩) rfl rfl rfl
end RCU
