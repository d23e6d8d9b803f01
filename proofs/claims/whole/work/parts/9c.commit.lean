/-! commit, start, power. -/
theorem svL_keep (tr : Nat) : ∀ (l : List Nat) (s : SvS), svK s.1 (svL tr l s).2.1
  | [], s => svK.rf s.1
  | n :: r, s => by
    unfold svL
    by_cases h1 : tR s.1 n = true
    · rw [if_pos h1]
      by_cases h2 : s.2.2.2 = some 0
      · rw [if_pos h2]; exact svK.rf s.1
      · rw [if_neg h2]
        have := svL_keep tr r (svN tr s n)
        exact this
    · rw [if_neg h1]; exact svL_keep tr r s
theorem svK_inv {T S : TT} (hk : svK T S) (h1 : tI1 S) (hI : tInv T) : tInv S := by
  obtain ⟨k1, k2, k3, k4, k5, k6, k7, k8, k9, k10⟩ := hk
  refine ⟨h1, fun n hn => ?_, ?_⟩
  · rw [k1] at hn
    rw [k5, k8, k10, k4, k6]
    exact hI.2.1 n hn
  · unfold tCnt
    rw [k1]; exact hI.2.2
theorem svK_cnt {T S : TT} (hk : svK T S) : tCnt S = tCnt T ∧ tKy S = tKy T := by
  obtain ⟨k1, k2, k3, k4, k5, k6, k7, k8, k9, k10⟩ := hk
  constructor
  · unfold tCnt; rw [k1]
  · unfold tKy; rw [k1, k5]
/-- what commit answers, and what there is then: down, the tree, the committed one, the disk, power, sequence -/
def aCom (dn : Bool) (T Tc : TT) (D : Nat → Nat) (pw : Option Nat) (tr sq : Nat) : Int32 × Bool × TT × TT × (Nat → Nat) × Option Nat × Nat :=
  if dn = true then (-4, dn, T, Tc, D, pw, sq) else if tFn T = 0 then (0, dn, T, Tc, D, pw, sq) else if 254 - tOn Tc < tFn T then (-2, dn, T, Tc, D, pw, sq)
  else if (tSave T Tc D pw tr (sq + 1)).1 = true then (nI (tFn T + 1), dn, tSet (tSave T Tc D pw tr (sq + 1)).2.1, tSet (tSave T Tc D pw tr (sq + 1)).2.1, (tSave T Tc D pw tr (sq + 1)).2.2.2.1, (tSave T Tc D pw tr (sq + 1)).2.2.2.2, sq + 1)
  else (-3, true, (tSave T Tc D pw tr (sq + 1)).2.1, Tc, (tSave T Tc D pw tr (sq + 1)).2.2.2.1, (tSave T Tc D pw tr (sq + 1)).2.2.2.2, sq)
theorem tSet_cnt (T : TT) : tCnt (tSet T) = tCnt T ∧ tKy (tSet T) = tKy T := by
  constructor
  · unfold tCnt; rw [show tU (tSet T) = tU T from rfl]
  · unfold tKy; rw [show tU (tSet T) = tU T from rfl, show tV (tSet T) = tV T from rfl]
theorem tFn_le {T : TT} (hW : tWF T) (h : tCnt T ≤ 200) : tFn T ≤ 200 := by
  have h1 : tFn T ≤ (tEs T).length := List.countP_le_length
  have h2 := tEs_len hW
  unfold tCnt at h
  omega
theorem tPs_fn {T : TT} (hW : tWF T) : (tPs T).countP (tR T) = tFn T := (tPo_perm hW 13 (tO T) hW.1.1 (by omega)).countP_eq _
section CO4
variable {l : Launch} {g : xG} {M : xM} {Q : Option Value → xM → Prop} {F : Nat → Prop} {x : Nat} {K : List Nat} {dn : Bool} {T Tc : TT} {D : Nat → Nat} {pw : Option Nat} {tr sq : Nat}
variable {tp tb t tc s d db w rb w2 rb2 ta st stc : Nat} {KK KKc : List Nat} {φ φc ψ : Nat → Nat} {sp spc : List Nat} {tk : Nat → Bool}
/-- both trees are the same then -/
theorem cRp.two (h : cRp F M x K dn T Tc D pw tr sq tp tb t tc s d db w rb w2 rb2 ta st stc KK KKc φ φc ψ sp spc tk) {M1 : xM} {T1 T2 : TT} {φ1 φ2 : Nat → Nat} {sp1 sp2 : List Nat} (r1 : cTr M1 t KK φ1 ψ T1 sp1 (tCnt T1) (tKy T1)) (r2 : cTr M1 tc KKc φ2 ψ T2 sp2 (tCnt T2) (tKy T2)) (hxG : xag (fun a => RG t KK ψ a ∨ RG tc KKc ψ a) M M1) :
    cRp F M1 x K dn T1 T2 D pw tr sq tp tb t tc s d db w rb w2 rb2 ta st stc KK KKc φ1 φ2 ψ sp1 sp2 tk ∧ xag F M M1 := by
  obtain ⟨⟨a1, a2, a3, a4, a5, a6, a7⟩, b, ⟨c1, c2⟩, ⟨e1, e2⟩, f, ⟨g1, g2, g3⟩, i⟩ := id h
  have hxx : ¬ (RG t KK ψ x ∨ RG tc KKc ψ x) := fun z => z.elim (RG_cKK c1 a1.2 (by decide) (by decide) (by decide)) (RG_cKK e1 a1.2 (by decide) (by decide) (by decide))
  obtain ⟨p1, -, p3⟩ := hxG.2 x hxx
  have h1 := tb_RG c1 b.1 g2
  have h2 := tb_RG e1 b.1 g3
  obtain ⟨q1, -, q3⟩ := hxG.2 tp (fun z => z.elim (h1 tp (Or.inl rfl)) (h2 tp (Or.inl rfl)))
  obtain ⟨u1, -, -⟩ := hxG.2 tb (fun z => z.elim (h1 tb (Or.inr rfl)) (h2 tb (Or.inr rfl)))
  have hk : ∀ {y k : Nat}, xat M y k → k ≠ 5 → k ≠ 1 → k ≠ 9 → ¬ (RG t KK ψ y ∨ RG tc KKc ψ y) := fun hy k5 k1 k9 z => z.elim (RG_cKK c1 hy.2 k5 k1 k9) (RG_cKK e1 hy.2 k5 k1 k9)
  obtain ⟨⟨s1, s2, s3, s4, s5⟩, u, ⟨f1, v1⟩, ⟨f2, v2⟩, ⟨w1, w2', w3⟩, y1⟩ := id f
  exact ⟨⟨⟨hxG.at.mpr a1, by rw [p3]; exact a2, by rw [p3]; exact a3, by rw [p3]; exact a4, by rw [p3]; exact a5, by rw [p1]; exact a6, by rw [p1]; exact a7⟩, tpR_fr b hxG.1.1 hxG.1.2.1 hxG.1.2.2.1 (q1 1) (q3 0) u1, ⟨c1.ag hxG (hk c1.2.1.2.1 (by decide) (by decide) (by decide)), r1⟩, ⟨e1.ag hxG (hk e1.2.1.2.1 (by decide) (by decide) (by decide)), r2⟩, f.ag hxG (hk s1 (by decide) (by decide) (by decide)) (hk u.1.1 (by decide) (by decide) (by decide)) (hk u.1.2.2.1 (by decide) (by decide) (by decide)) (hk v1.1.2.2.1 (by decide) (by decide) (by decide)) (hk v2.1.2.2.1 (by decide) (by decide) (by decide)) (hk w1 (by decide) (by decide) (by decide)), ⟨g1, g2, g3⟩, i⟩, hxG.mono (fun a z => i a (z.elim (fun e => Or.inr (Or.inr (Or.inr (Or.inl e)))) (fun e => Or.inr (Or.inr (Or.inr (Or.inr (Or.inl e)))))))⟩
theorem sX9_commit (hA : aI T Tc sq) (h : cR F M x K dn T Tc D pw tr sq) (hQ : ∀ M1, cR F M1 x K (aCom dn T Tc D pw tr sq).2.1 (aCom dn T Tc D pw tr sq).2.2.1 (aCom dn T Tc D pw tr sq).2.2.2.1 (aCom dn T Tc D pw tr sq).2.2.2.2.1 (aCom dn T Tc D pw tr sq).2.2.2.2.2.1 tr (aCom dn T Tc D pw tr sq).2.2.2.2.2.2 → xag F M M1 → Q (some (.int (aCom dn T Tc D pw tr sq).1)) M1) : xSp l g mX9_commit 0 0 [va_rf (some x)] M Q := by
  obtain ⟨tp, tb, t, tc, s, d, db, w, rb, w2, rb2, ta, st, stc, KK, KKc, φ, φc, ψ, sp, spc, tk, h⟩ := h
  have h : cRp F M x K dn T Tc D pw tr sq tp tb t tc s d db w rb w2 rb2 ta st stc KK KKc φ φc ψ sp spc tk := h
  obtain ⟨⟨a1, a2, a3, a4, a5, a6, a7⟩, b, ⟨c1, c2⟩, ⟨e1, e2⟩, f, ⟨g1, g2, g3⟩, i⟩ := id h
  have hd := dn0 a7
  have hW := hA.1.1
  have hfn := tFn_le hW hA.1.2.2.2
  have hsq := hA.2.2
  unfold aCom at hQ
  refine eX9_commit _ (bX9_commit_0 _ ⟨a1, fun c => ⟨t, a3, c1.1, ?_⟩, fun c => ?_⟩)
  · have hdn := hd.mp c
    rw [if_neg (by rw [hdn]; decide)] at hQ
    rw [a3]
    refine sX8_freshNodes hW (c2.ns hW) c1.1 c2.1.2.1 ⟨_, rfl, fun c3 => ⟨a1, ?_⟩, fun c3 => ?_⟩
    · have k0 : tFn T ≠ 0 := nne c3 rfl (b := 0) rfl
      rw [if_neg k0] at hQ
      refine sX9_freePages hA h (fun h200 => ⟨_, rfl, fun c4 => ⟨a1, s, a5, f.1.1, ?_⟩, fun c4 => ?_⟩)
      · have k4 : tFn T ≤ 254 - tOn Tc := nle c4 rfl rfl
        rw [if_neg (by omega)] at hQ
        rw [a5, a3, a4, a6, nI_1]
        refine sX6_save hW hA.1.2 hA.2.1.1 (fun n hn => (hA.2.1.2.1.1 n hn).2.2.1) c2 e2 f (by rw [tPs_fn hW]; unfold tOn at h200 k4; omega) (by omega) (fun M1 tk1 k1 i1 t1 s1 x1 => ⟨_, rfl, fun c5 => ?_, fun c5 => ?_⟩)
        · have hok : (tSave T Tc D pw tr (sq + 1)).1 = true := Classical.byContradiction (fun z => c5 (by rw [if_neg z]))
          rw [if_pos hok] at hQ
          obtain ⟨ec1, ec2⟩ := svK_cnt k1
          have t1' : cTr M1 t KK φ ψ (tSave T Tc D pw tr (sq + 1)).2.1 sp (tCnt (tSave T Tc D pw tr (sq + 1)).2.1) (tKy (tSave T Tc D pw tr (sq + 1)).2.1) := by rw [ec1, ec2]; exact t1
          generalize (tSave T Tc D pw tr (sq + 1)).2.1 = S at *
          have hWS : tWF S := k1.wf hW
          have hIS := svK_inv k1 i1 hA.1.2
          obtain ⟨h2, x2⟩ := h.ts hA.2.1.1 t1' s1 x1
          obtain ⟨h3, x3⟩ := h2.own (M1 := xsI M1 x 4 (nI (sq + 1))) (dn1 := dn) (sq1 := sq + 1) hWS hA.2.1.1 (xag_I _ rfl) (fun j => rfl) (by rw [xI_sI, if_pos ⟨rfl, rfl⟩]) (by rw [xI_sI, if_neg (fun z => absurd z.2 (by decide))]; exact h2.1.2.2.2.2.2.2)
          rw [h2.1.2.2.2.2.2.1, nI_1]
          refine ⟨h2.1.1, t, h3.1.2.2.1, h3.2.2.1.1.1, ?_⟩
          rw [h3.1.2.2.1]
          refine sX8_settle hWS h3.2.2.1.2 (fun M4 t4 x4 => ⟨rfl, ?_⟩)
          obtain ⟨es1, es2⟩ := tSet_cnt S
          have t4' : cTr M4 t KK φ ψ (tSet S) sp (tCnt (tSet S)) (tKy (tSet S)) := by rw [es1, es2]; exact t4
          obtain ⟨h5, x5⟩ := h3.tree hA.2.1.1 t4' x4
          refine ⟨h5.1.1, tc, h5.1.2.2.2.1, h5.2.2.2.1.1.1, ?_⟩
          rw [h5.1.2.2.2.1, h5.1.2.2.1]
          refine sX8_become (tSet_wf hWS) (tSet_inv hIS).2.2 h5.2.2.2.1.1 h5.2.2.2.1.2.1.2.1 (h5.2.2.2.1.2.2.1.2.2 _ hA.2.1.1.1.1) t4' (fun a z y => g1 a y z) (fun M6 τ sp6 r1 r2 x6 => ⟨rfl, ?_⟩)
          obtain ⟨h7, x7⟩ := h5.two r2 r1 (x6.mono (fun a z => z.elim (fun e => Or.inr e) (fun e => Or.inl e)))
          have := hQ M6 h7.r (x2.trans (x3.trans (x5.trans x7)))
          rw [nI_1]
          exact this
        · have hok : ¬ (tSave T Tc D pw tr (sq + 1)).1 = true := fun z => by rw [if_pos z] at c5; exact absurd c5 (by decide)
          rw [if_neg hok] at hQ
          obtain ⟨ec1, ec2⟩ := svK_cnt k1
          have t1' : cTr M1 t KK φ ψ (tSave T Tc D pw tr (sq + 1)).2.1 sp (tCnt (tSave T Tc D pw tr (sq + 1)).2.1) (tKy (tSave T Tc D pw tr (sq + 1)).2.1) := by rw [ec1, ec2]; exact t1
          generalize (tSave T Tc D pw tr (sq + 1)).2.1 = S at *
          have hWS : tWF S := k1.wf hW
          obtain ⟨h2, x2⟩ := h.ts hA.2.1.1 t1' s1 x1
          obtain ⟨h3, x3⟩ := h2.own (M1 := xsI M1 x 5 1) (dn1 := true) (sq1 := sq) hWS hA.2.1.1 (xag_I _ rfl) (fun j => rfl) (by rw [xI_sI, if_neg (fun z => absurd z.2 (by decide))]; exact h2.1.2.2.2.2.2.1) (by rw [xI_sI, if_pos ⟨rfl, rfl⟩]; rfl)
          exact ⟨h2.1.1, hQ _ h3.r (x2.trans x3)⟩
      · have k4 : 254 - tOn Tc < tFn T := nnle c4 rfl rfl
        rw [if_pos k4] at hQ
        exact hQ M h.r xag.rf
    · have k0 : tFn T = 0 := neq c3 rfl (b := 0) rfl
      rw [if_pos k0] at hQ
      exact hQ M h.r xag.rf
  · have hdn : dn = true := bnf (fun z => c (hd.mpr z))
    rw [if_pos hdn] at hQ
    exact hQ M h.r xag.rf
end CO4
