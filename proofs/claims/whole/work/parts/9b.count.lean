/-! count, node, power, commit, start. -/
def aCnt (dn : Bool) (T Tc : TT) (sq : Nat) (i : Int32) : Int32 :=
  if dn = true then -4 else if i = 0 then nI (tKy T) else if i = 1 then nI (tCnt T) else if i = 2 ∨ i = 3 ∨ i = 4 ∨ i = 5 then nI ((tEs T).countP (fun n => decide (tF T n = (i - 1).toNatClampNeg))) else if i = 6 then nI (tFn T) else if i = 7 then nI (254 - tOn Tc) else if i = 8 then nI sq else if i = 9 then nI (tG T (tO T)) else if i = 10 then nI (tDp T) else -1
def aNod (dn : Bool) (T : TT) (i j : Int32) : Int32 :=
  if dn = true then -4 else match (if i < 0 then none else (tEs T)[i.toNatClampNeg]?) with
    | none => -1
    | some n => if j = 0 then nI (tF T n) else if j = 1 then nI (tC T n).length else if j = 2 then nI (tX T n).length else if j = 3 then (if (tV T n).isSome = true then 1 else 0) else if j = 4 then nI (tG T n) else if j = 5 then nI (tL T n) else -1
section CO3
variable {l : Launch} {g : xG} {M : xM} {Q : Option Value → xM → Prop} {F : Nat → Prop} {x : Nat} {K : List Nat} {dn : Bool} {T Tc : TT} {D : Nat → Nat} {pw : Option Nat} {tr sq : Nat}
theorem sX9_count {i : Int32} (hA : aI T Tc sq) (h : cR F M x K dn T Tc D pw tr sq) (hQ : Q (some (.int (aCnt dn T Tc sq i))) M) : xSp l g mX9_count 0 0 [va_rf (some x), .int i] M Q := by
  obtain ⟨tp, tb, t, tc, s, d, db, w, rb, w2, rb2, ta, st, stc, KK, KKc, φ, φc, ψ, sp, spc, tk, h⟩ := h
  have h : cRp F M x K dn T Tc D pw tr sq tp tb t tc s d db w rb w2 rb2 ta st stc KK KKc φ φc ψ sp spc tk := h
  obtain ⟨⟨a1, a2, a3, a4, a5, a6, a7⟩, b, ⟨c1, c2⟩, ⟨e1, e2⟩, f, ⟨g1, g2, g3⟩, i'⟩ := id h
  have hd := dn0 a7
  have hW := hA.1.1
  have hF5 : ∀ n, tU T n = true → tF T n < 5 := fun n hn => by have := (hA.1.2.1 n hn).2.1; omega
  have hfmt : ∀ (k : Nat), i = nI (k + 1) → k < 100 → (i = 2 ∨ i = 3 ∨ i = 4 ∨ i = 5) → i ≠ 0 → i ≠ 1 → dn = false → xSp l g mX8_nodesOfFormat 0 0 [va_rf (xR M x 1), .int (i - 1)] M (fun ρ10 M9 => ∃ v8 : Int32, ρ10 = some (.int v8) ∧ (Q (some (.int v8)) M9)) := fun k hk h100 hor h0 h1 hdn => by
    have e : i - 1 = nI k := by rw [hk, nI_pred]
    rw [a3, e]
    refine sX8_nodesOfFormat hW hF5 (c2.ns hW) h100 c1.1 c2.1.2.1 ⟨_, rfl, ?_⟩
    unfold aCnt at hQ
    rw [if_neg (by rw [hdn]; decide), if_neg h0, if_neg h1, if_pos hor, e, nI_clamp (by omega)] at hQ
    exact hQ
  refine eX9_count _ _ (bX9_count_0 _ _ ⟨a1, fun c => ?_, fun c => ?_⟩)
  · have hdn := hd.mp c
    have hq : ∀ (y : Int32), aCnt dn T Tc sq i = y → Q (some (.int y)) M := fun y e => by rw [← e]; exact hQ
    have hdn2 : ¬ dn = true := by rw [hdn]; decide
    refine ⟨fun k => ⟨t, a3, c1.1, ?_⟩, fun k => ⟨t, a3, c1.1, ?_⟩, fun k => ⟨t, a3, c1.1, ?_⟩, fun k => ⟨t, a3, c1.1, ?_⟩, fun k => ⟨t, a3, c1.1, ?_⟩, fun k => ⟨t, a3, c1.1, ?_⟩, fun k => ⟨t, a3, c1.1, ?_⟩, fun k => ?_, fun k => ?_, fun k => ⟨t, a3, c1.1, φ (tO T), c2.1.2.1, (c2.2.1.1.1 _ hW.1.1).1.1.1, ?_⟩, fun k => ⟨t, a3, c1.1, ?_⟩, fun k => ?_⟩
    · rw [c2.1.2.2.2]
      exact hq _ (by unfold aCnt; rw [if_neg hdn2, if_pos k])
    · rw [c2.1.2.2.1]
      exact hq _ (by unfold aCnt; rw [if_neg hdn2, k]; rfl)
    · exact hfmt 1 k (by omega) (Or.inl k) (by rw [k]; decide) (by rw [k]; decide) hdn
    · exact hfmt 2 k (by omega) (Or.inr (Or.inl k)) (by rw [k]; decide) (by rw [k]; decide) hdn
    · exact hfmt 3 k (by omega) (Or.inr (Or.inr (Or.inl k))) (by rw [k]; decide) (by rw [k]; decide) hdn
    · exact hfmt 4 k (by omega) (Or.inr (Or.inr (Or.inr k))) (by rw [k]; decide) (by rw [k]; decide) hdn
    · rw [a3]
      exact sX8_freshNodes hW (c2.ns hW) c1.1 c2.1.2.1 ⟨_, rfl, hq _ (by unfold aCnt; rw [if_neg hdn2, k]; rfl)⟩
    · exact sX9_freePages hA h (fun h200 => ⟨_, rfl, hq _ (by unfold aCnt; rw [if_neg hdn2, k]; rfl)⟩)
    · rw [a6]
      exact hq _ (by unfold aCnt; rw [if_neg hdn2, k]; rfl)
    · rw [(c2.2.1.1.1 _ hW.1.1).1.2.2.1.2.2.2.2.2.1]
      exact hq _ (by unfold aCnt; rw [if_neg hdn2, k]; rfl)
    · rw [a3]
      exact sX8_depth hW (c2.ns hW) c1.1 c2.1.2.1 ⟨_, rfl, hq _ (by unfold aCnt; rw [if_neg hdn2, k]; rfl)⟩
    · refine hq _ ?_
      unfold aCnt
      rw [if_neg hdn2, if_neg (show ¬ i = 0 from k 0 (by omega)), if_neg (show ¬ i = 1 from k 1 (by omega)), if_neg (fun z => by
        rcases z with z | z | z | z
        · exact k 2 (by omega) z
        · exact k 3 (by omega) z
        · exact k 4 (by omega) z
        · exact k 5 (by omega) z), if_neg (show ¬ i = 6 from k 6 (by omega)), if_neg (show ¬ i = 7 from k 7 (by omega)), if_neg (show ¬ i = 8 from k 8 (by omega)), if_neg (show ¬ i = 9 from k 9 (by omega)), if_neg (show ¬ i = 10 from k 10 (by omega))]
  · have hdn : dn = true := bnf (fun z => c (hd.mpr z))
    unfold aCnt at hQ
    rw [if_pos hdn] at hQ
    exact hQ
theorem sX9_node {i j : Int32} (hA : aI T Tc sq) (h : cR F M x K dn T Tc D pw tr sq) (hQ : Q (some (.int (aNod dn T i j))) M) : xSp l g mX9_node 0 0 [va_rf (some x), .int i, .int j] M Q := by
  obtain ⟨tp, tb, t, tc, s, d, db, w, rb, w2, rb2, ta, st, stc, KK, KKc, φ, φc, ψ, sp, spc, tk, h⟩ := h
  have h : cRp F M x K dn T Tc D pw tr sq tp tb t tc s d db w rb w2 rb2 ta st stc KK KKc φ φc ψ sp spc tk := h
  obtain ⟨⟨a1, a2, a3, a4, a5, a6, a7⟩, b, ⟨c1, c2⟩, ⟨e1, e2⟩, f, ⟨g1, g2, g3⟩, i'⟩ := id h
  have hd := dn0 a7
  have hW := hA.1.1
  unfold aNod at hQ
  refine eX9_node _ _ _ (bX9_node_0 _ _ _ ⟨a1, fun c => ⟨t, a3, c1.1, ?_⟩, fun c => ?_⟩)
  · have hdn := hd.mp c
    rw [if_neg (by rw [hdn]; decide)] at hQ
    rw [a3]
    have go : xSp l g mX8_nodeNumber 0 0 [va_rf (some t), .int i] M (fun ρ4 M3 => ρ4 = some (va_rf ((if i < 0 then none else (tEs T)[i.toNatClampNeg]?).map φ)) ∧ M3 = M) := by
      by_cases hi : i < 0
      · rw [if_pos hi]
        exact sX8_nodeNumberN hi c1.1 ⟨rfl, rfl⟩
      · rw [if_neg hi]
        obtain ⟨k, hk31, hk⟩ := nI_of hi
        subst hk
        rw [nI_clamp hk31]
        exact sX8_nodeNumber hW (c2.ns hW) hk31 c1.1 c2.1.2.1 ⟨rfl, rfl⟩
    refine go.mono (fun ρ M3 hr => ?_)
    obtain ⟨e1', e2'⟩ := hr
    subst e2'
    refine ⟨_, e1', ?_⟩
    generalize hn : (if i < 0 then none else (tEs T)[i.toNatClampNeg]?) = o at *
    cases o with
    | none => exact ⟨fun z => absurd rfl z, fun _ => hQ⟩
    | some n =>
      have hnu : tU T n = true := by
        by_cases hi : i < 0
        · rw [if_pos hi] at hn; cases hn
        · rw [if_neg hi] at hn
          exact (tEs_mem hW).mp (List.mem_of_getElem? hn)
      have hb := (c2.2.1.1.1 n hnu).1
      refine ⟨fun _ => ⟨fun k => ⟨φ n, rfl, hb.1.1, ?_⟩, fun k => ⟨φ n, rfl, hb.1.1, ?_⟩, fun k => ⟨φ n, rfl, hb.1.1, ?_⟩, fun k => ⟨φ n, rfl, hb.1.1, fun y => ?_, fun y => ?_⟩, fun k => ⟨φ n, rfl, hb.1.1, ?_⟩, fun k => ⟨φ n, rfl, hb.1.1, ?_⟩, fun k => ?_⟩, fun z => by cases z⟩
      · rw [hb.2.2.1.1]; rw [k] at hQ; exact hQ
      · rw [hb.2.2.1.2.2.2.1]; rw [k] at hQ; exact hQ
      · rw [hb.2.1.1]; rw [k] at hQ; exact hQ
      · have hv := z01.mp (hb.2.2.1.2.1.symm.trans y)
        rw [k] at hQ
        have : Q (some (.int (if (tV T n).isSome = true then 1 else 0))) _ := hQ
        rw [hv] at this
        exact this
      · have hv := bnf (fun z => y (hb.2.2.1.2.1.trans (z01.mpr z)))
        rw [k] at hQ
        have : Q (some (.int (if (tV T n).isSome = true then 1 else 0))) _ := hQ
        rw [if_pos hv] at this
        exact this
      · rw [hb.2.2.1.2.2.2.2.2.1]; rw [k] at hQ; exact hQ
      · rw [k] at hQ
        exact sX3_lead hW (c2.ns hW) hnu ⟨_, rfl, hQ⟩
      · have : Q (some (.int (if j = 0 then nI (tF T n) else if j = 1 then nI (tC T n).length else if j = 2 then nI (tX T n).length else if j = 3 then (if (tV T n).isSome = true then 1 else 0) else if j = 4 then nI (tG T n) else if j = 5 then nI (tL T n) else -1))) _ := hQ
        rw [if_neg (show ¬ j = 0 from k 0 (by omega)), if_neg (show ¬ j = 1 from k 1 (by omega)), if_neg (show ¬ j = 2 from k 2 (by omega)), if_neg (show ¬ j = 3 from k 3 (by omega)), if_neg (show ¬ j = 4 from k 4 (by omega)), if_neg (show ¬ j = 5 from k 5 (by omega))] at this
        exact this
  · have hdn : dn = true := bnf (fun z => c (hd.mpr z))
    rw [if_pos hdn] at hQ
    exact hQ
end CO3
