/-! The reference's readChildren: a child, the loop. -/
theorem adC_cnt {T : TT} {n b p : Nat} (h : tCnt T < 220) : tCnt (adC T n b p) = tCnt T + 1 := by
  obtain ⟨f1, f2⟩ := tFree_ok h
  unfold tCnt
  refine cnt_up (c := tFree T) f1 (va_up_self _ _ _) (fun x hx => va_up_ne _ _ hx) (List.range 220) List.nodup_range (List.mem_range.mpr f2)
theorem adC_12 {T : TT} {n b p : Nat} (h : ∀ m, tU T m = true → (tX T m).length ≤ 12) : ∀ m, tU (adC T n b p) m = true → (tX (adC T n b p) m).length ≤ 12 := fun m hm => by
  by_cases e : m = tFree T
  · have : tX (adC T n b p) m = [] := by rw [e]; exact va_up_self _ _ _
    rw [this]; exact Nat.zero_le _
  · have e1 : tX (adC T n b p) m = tX T m := va_up_ne _ _ e
    have e2 : tU (adC T n b p) m = tU T m := va_up_ne _ _ e
    rw [e2] at hm
    rw [e1]; exact h m hm
section RRC2
variable {l : Launch} {g : xG} {M M0 M1 : xM} {Q : Option Value → xM → Prop} {y n p e k m b q : Nat} {ad : Nat → Nat} {T : TT} {f : Nat → Nat} {tk : Nat → Bool} {la : Option Nat}
theorem rT_tk {o : Nat} (hx : rX (fun a _ => a = ad 26) M M1) (hS : rS M y ad) (h12 : ∀ m, tU T m = true → (tX T m).length ≤ 12) (hT : rT M ad o T) : rT M1 ad o T :=
  hx.tT hT (fun j hj n hn => hS.na (RA_RL j hj) (j := 26) (by decide) (fun q => by subst q; revert hj; decide)) (fun i hi => hS.na (i := 7) (j := 26) (by decide) (by decide) (by decide)) (fun n hn hu => h12 n hu)
theorem rN_26 {c i : Nat} (hS : rS M y ad) : ¬ rN ad c (ad 26) i := fun z => by
  rcases z with ⟨j, hj, z, -⟩ | ⟨z, -⟩
  · exact hS.na (i := 26) (by decide) (RA_RL j hj) (fun w => by subst w; revert hj; decide) z
  · exact hS.na (i := 26) (j := 7) (by decide) (by decide) (by decide) z
theorem rc_child {x2 x3 x7 : Int32} {w11 : Value} (hS : rS M y ad) (hT : rT M ad 0 T) (hK : rK M ad tk) (hcnt : tCnt T ≤ 200) (h12 : ∀ m, tU T m = true → (tX T m).length ≤ 12) (hla : ∀ b0, la = some b0 → b0 < 256) (hb : b < 256) (hq : q < 256) (hk : k ≤ 256) (hm : m < 256) (he : e < 256)
    (hfail : ¬ (k ≠ m ∧ (tCnt T < 200 ∧ (∀ b0, la = some b0 → b0 < b) ∧ 2 ≤ q ∧ tk q = false)) → Q (some (.int 0)) M)
    (hgo : k ≠ m → (tCnt T < 200 ∧ (∀ b0, la = some b0 → b0 < b) ∧ 2 ≤ q ∧ tk q = false) → ∀ M1, rX (rRd ad) M M1 → rT M1 ad 0 (adC T n b q) → rK M1 ad (va_up tk q true) → ∀ u v w, xWp l g mX10_readChildren 0 0 26 [(1, va_rf (some y)), (1, .int (nI n)), (1, .int x2), (1, .int x3), (1, .int (nI m)), (1, .int (nI (k + 1))), (1, .int (nI b)), (1, .int x7), (1, .int (nI (e + 1))), (0, u), (0, v), (0, w)] [] (0, 0) M1 Q) :
    xWp l g mX10_readChildren 0 0 177 [(1, va_rf (some y)), (1, .int (nI n)), (1, .int x2), (1, .int x3), (1, .int (nI m)), (1, .int (nI k)), (1, .int (pI la)), (1, .int x7), (1, .int (nI e)), (1, .int (nI b)), (1, .int (nI q)), (0, w11)] [] (0, 0) M Q := by
  have h26 := (hS.2.1 26 (by decide)).1
  have aq : xai M (ad 26) 11 (nI q) q := hS.ai (j := 26) (by decide) hq
  have eq0 := hK q hq
  have hlast : nI b ≤ pI la ↔ ∃ b0, la = some b0 ∧ b ≤ b0 := by
    cases la with
    | none =>
      constructor
      · intro z
        exfalso
        have z : nI b ≤ (-1 : Int32) := z
        have h2 : (nI b).toInt = b := Int32.toInt_ofNat_of_lt (by omega)
        have := Int32.le_iff_toInt_le.mp z
        rw [h2, show (-1 : Int32).toInt = -1 from rfl] at this
        omega
      · rintro ⟨b0, h, -⟩; cases h
    | some b0 =>
      have h0 := hla b0 rfl
      constructor
      · intro z
        exact ⟨b0, rfl, nle z rfl rfl⟩
      · rintro ⟨b1, h, h1⟩
        injection h with h
        subst h
        show nI b ≤ nI b0
        refine Int32.le_iff_toInt_le.mpr ?_
        have e1 : (nI b).toInt = b := Int32.toInt_ofNat_of_lt (by omega)
        have e2 : (nI b0).toInt = b0 := Int32.toInt_ofNat_of_lt (by omega)
        rw [e1, e2]; omega
  refine bX10_readChildren_177 _ _ _ _ _ _ _ _ _ _ _ _ ⟨fun z => ?_, fun z1 => ⟨fun z => ?_, fun z2 => ⟨hS.1, ad 26, h26, q, aq, fun z => ?_, fun z3 => ⟨fun z4 => ?_, fun z => ?_⟩⟩⟩⟩
  · obtain ⟨b0, h1, h2⟩ := hlast.mp z
    exact hfail (fun w => by have := w.2.2.1 b0 h1; omega)
  · have := nlt z rfl (b := 2) rfl
    exact hfail (fun w => by omega)
  · refine hfail (fun w => ?_)
    rw [eq0, w.2.2.2.2] at z
    exact z rfl
  · have hkm : k ≠ m := nne z4 rfl rfl
    refine sX10_nodes hS hT ⟨_, rfl, fun z5 => ⟨hS.1, ad 26, h26, q, aq, ?_⟩, fun z5 => ?_⟩
    · have h200 : tCnt T ≠ 200 := nne z5 rfl (b := 200) rfl
      have hb0 : ∀ b0, la = some b0 → b0 < b := fun b0 h0 => by
        apply Classical.byContradiction
        intro w
        exact z1 (hlast.mpr ⟨b0, h0, by omega⟩)
      have hq2 : 2 ≤ q := nnlt z2 rfl (b := 2) rfl
      have htk : tk q = false := z01.mp (eq0.symm.trans z3)
      rw [show ((1 : Int32) &&& 1) = 1 by decide]
      have hxt : rX (fun a _ => a = ad 26) M (xsI M (ad 26) q 1) := rX_I rfl
      have hSt := hxt.sS hS
      have hTt := rT_tk hxt hS h12 hT
      obtain ⟨f1, f2⟩ := tFree_ok (T := T) (by omega)
      refine sX10_newNode (x1 := nI n) (x2 := nI b) hSt hTt (by omega) (fun M1 hx hw => ⟨_, rfl, (hx.sS hSt).1, ad 12, ((hx.sS hSt).2.1 12 (by decide)).1, tFree T, (hx.sS hSt).ai (j := 12) (by decide) (by show tFree T < 440; omega), ?_⟩)
      rw [nI_1, nI_1]
      have hS1 := hx.sS hSt
      have hx2 : rX (rN ad (tFree T)) (xsI M (ad 26) q 1) (xsI M1 (ad 12) (tFree T) (nI q)) := hx.trans (rX_I (Or.inl ⟨12, by decide, rfl, rfl⟩))
      obtain ⟨c4, c5, c6, c8, c9, c10, c11, c12, c13⟩ := hw
      have ee : ∀ j ∈ RL9, j ≠ 12 → ∀ k, xI (xsI M1 (ad 12) (tFree T) (nI q)) (ad j) k = xI M1 (ad j) k := fun j hj n1 k => rsk hS hj (by decide) n1
      have hT2 : rT (xsI M1 (ad 12) (tFree T) (nI q)) ad 0 (adC T n b q) := by
        have u1 : tU (adC T n b q) (tFree T) = true := va_up_self _ _ _
        have u2 : tP (adC T n b q) (tFree T) = some n := va_up_self _ _ _
        have u3 : tB (adC T n b q) (tFree T) = b := va_up_self _ _ _
        have u4 : tX (adC T n b q) (tFree T) = [] := va_up_self _ _ _
        have u5 : tV (adC T n b q) (tFree T) = none := va_up_self _ _ _
        have u6 : tF (adC T n b q) (tFree T) = 1 := va_up_self _ _ _
        have u7 : tG (adC T n b q) (tFree T) = q := va_up_self _ _ _
        have u8 : tR (adC T n b q) (tFree T) = true := va_up_self _ _ _
        refine rT_upd (c := tFree T) hSt hTt hx2 h12 ⟨by rw [ee 4 (by decide) (by decide), c4, u1]; rfl, fun _ => rC0.mpr ?_⟩ (fun m hm => ⟨va_up_ne _ _ hm, va_up_ne _ _ hm, va_up_ne _ _ hm, va_up_ne _ _ hm, va_up_ne _ _ hm, va_up_ne _ _ hm, va_up_ne _ _ hm, va_up_ne _ _ hm⟩)
        refine ⟨by rw [ee 5 (by decide) (by decide), c5, u2]; rfl, by rw [ee 6 (by decide) (by decide), c6, u3], by rw [ee 8 (by decide) (by decide), c8, u4]; rfl, fun i hi => ?_, by rw [ee 9 (by decide) (by decide), c9, u5]; rfl, by rw [u5]; exact c10, by rw [ee 11 (by decide) (by decide), c11, u6]; rfl, by rw [xI_sI, if_pos ⟨rfl, rfl⟩, u7], by rw [ee 13 (by decide) (by decide), c13, u8]; rfl⟩
        rw [u4] at hi
        exact absurd hi (Nat.not_lt_zero i)
      have hxx : rX (rRd ad) M (xsI M1 (ad 12) (tFree T) (nI q)) := (hxt.mono (fun a k z => Or.inl z)).trans (hx2.mono (rN_rd f2))
      refine xWp.lw (hgo hkm ⟨by omega, hb0, hq2, htk⟩ _ hxx hT2 (fun r hr => ?_) (.int (nI b)) (.int (nI q)) (.int (nI (tFree T)))) ⟨Or.inl rfl, Or.inl rfl, Or.inl rfl, Or.inl rfl, Or.inl rfl, Or.inl rfl, Or.inl rfl, Or.inl rfl, Or.inl rfl, Or.inr rfl, Or.inr rfl, Or.inr rfl, trivial⟩
      rw [(hx2.2 _ _ (rN_26 hS)).1, xI_sI]
      by_cases e : r = q
      · rw [if_pos ⟨rfl, e⟩, e, va_up_self, if_pos rfl]
      · rw [if_neg (fun z => e z.2), va_up_ne _ _ e]; exact hK r hr
    · have h200 : tCnt T = 200 := neq z5 rfl (b := 200) rfl
      exact hfail (fun w => by omega)
  · have hkm : k = m := neq z rfl rfl
    exact hfail (fun w => w.1 hkm)
end RRC2
