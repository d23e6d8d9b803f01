/-! The class's public methods, more. -/
theorem cnt_all (T : TT) : tCnt T ≤ 220 ∧ tKy T ≤ 220 := by
  constructor
  · have := List.countP_le_length (p := tU T) (l := List.range 220)
    rw [List.length_range] at this
    exact this
  · have := List.countP_le_length (p := fun n => tU T n && (tV T n).isSome) (l := List.range 220)
    rw [List.length_range] at this
    exact this
def tFn (T : TT) : Nat := (tEs T).countP (tR T)
def tOn (T : TT) : Nat := (tEs T).countP (fun n => decide (tG T n ≠ 0))
def tDp (T : TT) : Nat := (tEs T).foldl (fun x n => Nat.max x (tLv T 12 n)) 0
section CO2
variable {l : Launch} {g : xG} {M : xM} {Q : Option Value → xM → Prop} {F : Nat → Prop} {x : Nat} {K : List Nat} {dn : Bool} {T Tc : TT} {D : Nat → Nat} {pw : Option Nat} {tr sq : Nat}
variable {tp tb t tc s d db w rb w2 rb2 ta st stc : Nat} {KK KKc : List Nat} {φ φc ψ : Nat → Nat} {sp spc : List Nat} {tk : Nat → Bool}
/-- the node with the i-th key -/
def tNk (T : TT) (i : Int32) : Option Nat := if i < 0 then none else ((tEs T).filter (fun n => (tV T n).isSome))[i.toNatClampNeg]?
def aNth (K : List Nat) (dn : Bool) (T : TT) (i : Int32) : Int32 × List Nat := if dn = true then (-4, K) else match tNk T i with | none => (-1, K) | some n => (nI (tKey T n).length, tKey T n)
theorem sX9_nth {i : Int32} (hA : aI T Tc sq) (h : cR F M x K dn T Tc D pw tr sq) (hQ : ∀ M1, cR F M1 x (aNth K dn T i).2 dn T Tc D pw tr sq → xag F M M1 → Q (some (.int (aNth K dn T i).1)) M1) : xSp l g mX9_nth 0 0 [va_rf (some x), .int i] M Q := by
  obtain ⟨tp, tb, t, tc, s, d, db, w, rb, w2, rb2, ta, st, stc, KK, KKc, φ, φc, ψ, sp, spc, tk, h⟩ := h
  have h : cRp F M x K dn T Tc D pw tr sq tp tb t tc s d db w rb w2 rb2 ta st stc KK KKc φ φc ψ sp spc tk := h
  obtain ⟨⟨a1, a2, a3, a4, a5, a6, a7⟩, b, ⟨c1, c2⟩, ⟨e1, e2⟩, f, ⟨g1, g2, g3⟩, i'⟩ := id h
  have hd := dn0 a7
  unfold aNth at hQ
  refine eX9_nth _ _ (bX9_nth_0 _ _ ⟨a1, fun c => ⟨t, a3, c1.1, ?_⟩, fun c => ?_⟩)
  · have hdn := hd.mp c
    rw [if_neg (by rw [hdn]; decide)] at hQ
    rw [a3]
    have go : xSp l g mX8_keyNumber 0 0 [va_rf (some t), .int i] M (fun ρ4 M3 => ρ4 = some (va_rf ((tNk T i).map φ)) ∧ M3 = M) := by
      unfold tNk
      by_cases hi : i < 0
      · rw [if_pos hi]
        exact sX8_keyNumberN hi c1.1 ⟨rfl, rfl⟩
      · rw [if_neg hi]
        obtain ⟨j, hj31, hj⟩ := nI_of hi
        subst hj
        rw [nI_clamp hj31]
        exact sX8_keyNumber hA.1.1 (c2.ns hA.1.1) hj31 c1.1 c2.1.2.1 ⟨rfl, rfl⟩
    refine go.mono (fun ρ M3 hr => ?_)
    obtain ⟨e1', e2'⟩ := hr
    subst e2'
    refine ⟨_, e1', ?_⟩
    cases hn : tNk T i with
    | none =>
      rw [hn] at hQ
      exact ⟨fun z => absurd rfl z, fun _ => hQ _ h.r xag.rf⟩
    | some n =>
      rw [hn] at hQ
      have hnu : tU T n = true := by
        unfold tNk at hn
        by_cases hi : i < 0
        · rw [if_pos hi] at hn; cases hn
        · rw [if_neg hi] at hn
          exact (tEs_mem hA.1.1).mp (List.mem_filter.mp (List.mem_of_getElem? hn)).1
      refine ⟨fun _ => ⟨a1, φ n, rfl, (c2.2.1.1.1 n hnu).1.1.1, ?_⟩, fun z => by cases z⟩
      rw [a2]
      refine sX3_spell hA.1.1 c2 hnu b.1 g2 (fun M1 r1 x1 => ⟨rfl, ?_⟩)
      obtain ⟨q1, q2⟩ := h.tape hA.1.1 hA.2.1.1 x1 r1
      refine ⟨q1.1.1, tp, q1.1.2.1, r1.1.1, ?_⟩
      rw [r1.2.1]
      exact hQ M1 q1.r q2
  · have hdn : dn = true := bnf (fun z => c (hd.mpr z))
    rw [if_pos hdn] at hQ
    exact hQ M h.r xag.rf
theorem sX9_back (hA : aI T Tc sq) (h : cR F M x K dn T Tc D pw tr sq) (hQ : ∀ M1, cR F M1 x K dn (if dn = true then T else Tc) Tc D pw tr sq → xag F M M1 → Q (some (.int (if dn = true then -4 else nI (tFn T)))) M1) : xSp l g mX9_back 0 0 [va_rf (some x)] M Q := by
  obtain ⟨tp, tb, t, tc, s, d, db, w, rb, w2, rb2, ta, st, stc, KK, KKc, φ, φc, ψ, sp, spc, tk, h⟩ := h
  have h : cRp F M x K dn T Tc D pw tr sq tp tb t tc s d db w rb w2 rb2 ta st stc KK KKc φ φc ψ sp spc tk := h
  obtain ⟨⟨a1, a2, a3, a4, a5, a6, a7⟩, b, ⟨c1, c2⟩, ⟨e1, e2⟩, f, ⟨g1, g2, g3⟩, i⟩ := id h
  have hd := dn0 a7
  refine eX9_back _ (bX9_back_0 _ ⟨a1, fun c => ⟨t, a3, c1.1, ?_⟩, fun c => ?_⟩)
  · have hdn := hd.mp c
    rw [if_neg (by rw [hdn]; decide), if_neg (by rw [hdn]; decide)] at hQ
    rw [a3]
    refine sX8_freshNodes hA.1.1 (c2.ns hA.1.1) c1.1 c2.1.2.1 ⟨_, rfl, a1, t, a3, c1.1, ?_⟩
    rw [a3, a4]
    refine sX8_become hA.2.1.1 hA.2.1.2.1.2.2 c1 c2.1.2.1 (c2.2.1.2.2 _ hA.1.1.1.1) e2 g1 (fun M1 τ sp1 r1 r2 x1 => ⟨rfl, ?_⟩)
    have hxG : xag (fun a => RG t KK ψ a ∨ RG tc KKc ψ a) M M1 := x1
    have hxx : ¬ (RG t KK ψ x ∨ RG tc KKc ψ x) := fun z => z.elim (RG_cKK c1 a1.2 (by decide) (by decide) (by decide)) (RG_cKK e1 a1.2 (by decide) (by decide) (by decide))
    obtain ⟨p1, -, p3⟩ := hxG.2 x hxx
    have h1 := tb_RG c1 b.1 g2
    have h2 := tb_RG e1 b.1 g3
    obtain ⟨q1, -, q3⟩ := hxG.2 tp (fun z => z.elim (h1 tp (Or.inl rfl)) (h2 tp (Or.inl rfl)))
    obtain ⟨u1, -, -⟩ := hxG.2 tb (fun z => z.elim (h1 tb (Or.inr rfl)) (h2 tb (Or.inr rfl)))
    have hk : ∀ {y k : Nat}, xat M y k → k ≠ 5 → k ≠ 1 → k ≠ 9 → ¬ (RG t KK ψ y ∨ RG tc KKc ψ y) := fun hy k5 k1 k9 z => z.elim (RG_cKK c1 hy.2 k5 k1 k9) (RG_cKK e1 hy.2 k5 k1 k9)
    obtain ⟨⟨s1, s2, s3, s4, s5⟩, u, ⟨f1, v1⟩, ⟨f2, v2⟩, ⟨w1, w2', w3⟩, y1⟩ := id f
    have hF : cRp F M1 x K dn Tc Tc D pw tr sq tp tb t tc s d db w rb w2 rb2 ta st stc KK KKc τ φc ψ sp1 spc tk :=
      ⟨⟨hxG.at.mpr a1, by rw [p3]; exact a2, by rw [p3]; exact a3, by rw [p3]; exact a4, by rw [p3]; exact a5, by rw [p1]; exact a6, by rw [p1]; exact a7⟩, tpR_fr b hxG.1.1 hxG.1.2.1 hxG.1.2.2.1 (q1 1) (q3 0) u1, ⟨c1.ag hxG (hk c1.2.1.2.1 (by decide) (by decide) (by decide)), r1⟩, ⟨e1.ag hxG (hk e1.2.1.2.1 (by decide) (by decide) (by decide)), r2⟩, f.ag hxG (hk s1 (by decide) (by decide) (by decide)) (hk u.1.1 (by decide) (by decide) (by decide)) (hk u.1.2.2.1 (by decide) (by decide) (by decide)) (hk v1.1.2.2.1 (by decide) (by decide) (by decide)) (hk v2.1.2.2.1 (by decide) (by decide) (by decide)) (hk w1 (by decide) (by decide) (by decide)), ⟨g1, g2, g3⟩, i⟩
    exact hQ M1 hF.r (hxG.mono (fun a z => i a (z.elim (fun e => Or.inr (Or.inr (Or.inr (Or.inl e)))) (fun e => Or.inr (Or.inr (Or.inr (Or.inr (Or.inl e))))))))
  · have hdn : dn = true := bnf (fun z => c (hd.mpr z))
    rw [if_pos hdn, if_pos hdn] at hQ
    exact hQ M h.r xag.rf
theorem sX9_freePages (hA : aI T Tc sq) (h : cRp F M x K dn T Tc D pw tr sq tp tb t tc s d db w rb w2 rb2 ta st stc KK KKc φ φc ψ sp spc tk) (hQ : tOn Tc ≤ 200 → Q (some (.int (nI (254 - tOn Tc)))) M) : xSp l g mX9_freePages 0 0 [va_rf (some x)] M Q := by
  obtain ⟨⟨a1, a2, a3, a4, a5, a6, a7⟩, b, ⟨c1, c2⟩, ⟨e1, e2⟩, f, ⟨g1, g2, g3⟩, i⟩ := id h
  have h200 : tOn Tc ≤ 200 := by
    have h1 : tOn Tc ≤ (tEs Tc).length := List.countP_le_length
    have h2 := tEs_len hA.2.1.1
    have h3 := hA.2.1.2.1.2.2
    unfold tCnt at h3
    omega
  refine eX9_freePages _ (bX9_freePages_0 _ ⟨a1, tc, a4, e1.1, ?_⟩)
  rw [a4]
  refine sX8_nodesOnPages hA.2.1.1 (fun n hn => (hA.2.1.2.1.1 n hn).2.2.1) (e2.ns hA.2.1.1) e1.1 e2.1.2.1 ⟨_, rfl, ?_⟩
  rw [show (254 : Int32) = nI 254 from rfl, pk_sub (show (tEs Tc).countP (fun n => decide (tG Tc n ≠ 0)) ≤ 254 from by have : tOn Tc = (tEs Tc).countP (fun n => decide (tG Tc n ≠ 0)) := rfl; omega)]
  exact hQ h200
end CO2
