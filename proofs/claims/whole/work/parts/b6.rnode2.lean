/-! The reference's readNode. -/
section RRM
variable {l : Launch} {g : xG} {M M0 M1 : xM} {Q : Option Value → xM → Prop} {y n p r : Nat} {ad : Nat → Nat} {T : TT} {f : Nat → Nat} {D : Nat → Nat}
/-- the cells behind the first writes -/
theorem rd_cells {b : Int32} (hS : rS M y ad) (hb : b = (if f 1 = 1 then 1 else 0)) : rX (rM ad n) M (xsI (xsI (xsJ (xsI (xsI M (ad 11) n (nI (f 0))) (ad 9) n b) (ad 10) n (lNm f 2 8)) (ad 8) n (nI (f 10))) (ad 13) n 0) ∧ rdK (xsI (xsI (xsJ (xsI (xsI M (ad 11) n (nI (f 0))) (ad 9) n b) (ad 10) n (lNm f 2 8)) (ad 8) n (nI (f 10))) (ad 13) n 0) ad n f 0 := by
  constructor
  · refine ((((rX_I (Or.inl ⟨11, by decide, rfl, rfl⟩)).trans (rX_I (Or.inl ⟨9, by decide, rfl, rfl⟩))).trans (rX_J (Or.inl ⟨10, by decide, rfl, rfl⟩))).trans (rX_I (Or.inl ⟨8, by decide, rfl, rfl⟩))).trans (rX_I (Or.inl ⟨13, by decide, rfl, rfl⟩))
  · refine ⟨?_, ?_, ?_, ?_, ?_, fun i hi => absurd hi (Nat.not_lt_zero i)⟩
    · rw [rsk hS (i := 11) (j := 13) (by decide) (by decide) (by decide), rsk hS (i := 11) (j := 8) (by decide) (by decide) (by decide), xI_sJ, rsk hS (i := 11) (j := 9) (by decide) (by decide) (by decide), xI_sI, if_pos ⟨rfl, rfl⟩]
    · rw [rsk hS (i := 9) (j := 13) (by decide) (by decide) (by decide), rsk hS (i := 9) (j := 8) (by decide) (by decide) (by decide), xI_sJ, xI_sI, if_pos ⟨rfl, rfl⟩, hb]
    · rw [xJ_sI, xJ_sI, xJ_sJ, if_pos ⟨rfl, rfl⟩]
    · rw [rsk hS (i := 8) (j := 13) (by decide) (by decide) (by decide), xI_sI, if_pos ⟨rfl, rfl⟩]
    · rw [xI_sI, if_pos ⟨rfl, rfl⟩]
theorem rd_mid {w8 w9 w10 : Value} {tk : Nat → Bool} (hS : rS M y ad) (hD : rDk M ad D) (hp : p < 256) (hn : n < 220) (hu : tU T n = true) (hT : rT M ad 0 T) (hK : rK M ad tk) (hcnt : tCnt T ≤ 200) (h12 : ∀ m, tU T m = true → (tX T m).length ≤ 12) (hr : xI M y 14 = nI r) (hr2 : r < 220)
    (h1 : lNm (pgF D p) 504 8 = sm (pgF D p) 504 ∧ (1 ≤ pgF D p 0 ∧ pgF D p 0 ≤ 4) ∧ pgF D p 1 ≤ 1 ∧ (pgF D p 1 = 0 → lNm (pgF D p) 2 8 = 0))
    (hno : ¬ okR (pgF D p) (tCnt T) tk (n = r) → ∀ M2, rX (rRd ad) M M2 → Q (some (.int 0)) M2)
    (hyes : ∀ cs tk1 M2, okR (pgF D p) (tCnt T) tk (n = r) → rdL (pgF D p) (rCl (pgF D p 0)) 0 0 = some cs → acc (tCnt T) tk none cs = some tk1 → rX (rRd ad) M M2 → rT M2 ad 0 (adCs (rdT T n (pgF D p)) n cs) → rK M2 ad tk1 → Q (some (.int 1)) M2) :
    xWp l g mX10_readNode 0 0 120 [(1, va_rf (some y)), (1, .int (nI n)), (1, .int (nI (512 * p))), (1, .int (nI (pgF D p 0))), (1, .int (nI (pgF D p 10))), (1, .int (nI (pgF D p 1))), (1, .int (nI (pgF D p 23))), (2, .long (lNm (pgF D p) 2 8)), (0, w8), (0, w9), (0, w10)] [] (0, 0) M Q := by
  have hl : ∀ x, pgF D p x < 256 := fun x => hD.2 _
  have hc : ∀ k, k < 512 → xI M (ad 17) (512 * p + k) = nI (pgF D p k) := fun k hk => hD.1 _ (by omega)
  have l0 := hl 0
  have l1 := hl 1
  have l10 := hl 10
  have l23 := hl 23
  have aj : ∀ j ∈ RL9, rn j = 440 → xai M (ad j) (rk j) (nI n) n := fun j hj hr => hS.ai hj (by rw [hr]; omega)
  generalize hf : pgF D p = f at *
  have rl : fRoom (f 0) < 2 ^ 31 := by
    unfold fRoom
    split
    · omega
    · split
      · omega
      · split <;> omega
  have mr : ∀ {N : xM}, rX (rM ad n) M N → rX (rRd ad) M N := fun hN => hN.mono (fun a k z => rN_rd hn a k (rM_n a k z))
  refine bX10_readNode_120 _ _ _ _ _ _ _ _ _ _ _ ⟨fun z => hno (fun q => q.2.1.1 (lgeq.mp z)) M rX.rf, fun z2 => ⟨fun z => hno (fun q => ?_) M rX.rf, fun z3 => ?_⟩⟩
  · have := nlt z (a := 12) rfl rfl
    have := q.2.1.2.1
    omega
  · have n2 : lNm f 2 8 ≠ -9223372036854775808 := fun q => z2 (lgeq.mpr q)
    have n3 : f 10 ≤ 12 := nnlt z3 (a := 12) rfl rfl
    refine sX10_room (by omega) ⟨_, rfl, fun z4 => ?_, fun z4 => hno (fun q => ?_) M rX.rf⟩
    · have n4 : f 23 ≤ fRoom (f 0) := nle z4 rfl rfl
      have go : ∀ b : Int32, b = (if f 1 = 1 then 1 else 0) → xWp l g mX10_readNode 0 0 197 [(1, va_rf (some y)), (1, .int (nI n)), (1, .int (nI (512 * p))), (1, .int (nI (f 0))), (1, .int (nI (f 10))), (1, .int (nI (f 1))), (1, .int (nI (f 23))), (2, .long (lNm f 2 8)), (0, w8), (1, .int (nI 0)), (0, w10)] [] (0, 0) (xsI (xsI (xsJ (xsI (xsI M (ad 11) n (nI (f 0))) (ad 9) n b) (ad 10) n (lNm f 2 8)) (ad 8) n (nI (f 10))) (ad 13) n 0) Q := fun b hb => by
        obtain ⟨hxW, hRW⟩ := rd_cells (n := n) (b := b) (f := f) hS hb
        refine rd_pre hS hl hp hn hc h1.2.1 (fun z M2 hx2 => hno (fun q => z q.2.2.1) M2 (mr hx2)) (fun hz M2 x9 hx2 hR2 => ?_) 12 0 _ (by omega) hxW hRW (fun i a => by omega)
        have hS2 := hx2.sS hS
        have hD2 : rDk M2 ad D := ⟨fun k hk => by rw [((mr hx2).2 _ _ (rRd_a hS (by decide) (by decide))).1]; exact hD.1 k hk, hD.2⟩
        have hT2 := rd_T hS hT hn hu h12 h1.2.2 n3 hx2 hR2
        have hr2' : xI M2 y 14 = nI r := by rw [((mr hx2).2 _ _ (rRd_y hS)).1]; exact hr
        have hK2 : rK M2 ad tk := fun q hq => by rw [(hx2.2 _ _ (fun z => rN_26 hS (rM_n _ _ z))).1]; exact hK q hq
        have hen : rEn (f 0) ≤ 504 := by
          unfold rEn
          split
          · have := fRoom2 (F := f 0) (by omega) (by omega) h1.2.1.1 h1.2.1.2
            omega
          · split <;> omega
        refine rd_tail hS2 (fun k hk => ?_) hl hp hn hr2' hr2 (fun hz2 => ?_) (fun z => hno (fun q => z q.2.2.2.1) M2 (mr hx2)) (504 - rEn (f 0)) (rEn (f 0)) (by omega) (fun j a b => by omega) (Nat.le_refl _)
        · rw [((mr hx2).2 _ _ (rRd_a hS (by decide) (by decide))).1]; exact hc k hk
        · have h12' : ∀ m, tU (rdT T n f) m = true → (tX (rdT T n f) m).length ≤ 12 := fun m hm => by
            by_cases e : m = n
            · have : tX (rdT T n f) m = pgX f := by rw [e]; exact va_up_self _ _ _
              rw [this, pgX_len]; exact n3
            · have : tX (rdT T n f) m = tX T m := va_up_ne _ _ e
              rw [this]; exact h12 m hm
          have ok := fun (h : ∃ cs tk1, rdL f (rCl (f 0)) 0 0 = some cs ∧ acc (tCnt T) tk none cs = some tk1) => (show okR f (tCnt T) tk (n = r) from ⟨h1, ⟨n2, n3, n4⟩, hz, hz2, h⟩)
          subst hf
          refine sX10_readChildren (T := rdT T n (pgF D p)) (tk := tk) hS2 hD2 hp h1.2.1 hT2 hK2 hcnt h12' (fun z M3 hx3 => ⟨_, rfl, fun _ => hno (fun q => z q.2.2.2.2) M3 ((mr hx2).trans hx3), fun q => absurd rfl q⟩) (fun cs tk1 M3 e1 e2 hx3 hT3 hK3 => ⟨_, rfl, fun q => absurd q (by decide), fun _ => hyes cs tk1 M3 (ok ⟨cs, tk1, e1, e2⟩) e1 e2 ((mr hx2).trans hx3) hT3 hK3⟩)
      refine ⟨hS.1, ad 11, (hS.2.1 11 (by decide)).1, n, aj 11 (by decide) rfl, fun z => ⟨ad 9, (hS.2.1 9 (by decide)).1, n, aj 9 (by decide) rfl, ad 10, (hS.2.1 10 (by decide)).1, n, aj 10 (by decide) rfl, ad 8, (hS.2.1 8 (by decide)).1, n, aj 8 (by decide) rfl, ad 13, (hS.2.1 13 (by decide)).1, n, aj 13 (by decide) rfl, ?_⟩, fun z => ⟨ad 9, (hS.2.1 9 (by decide)).1, n, aj 9 (by decide) rfl, ad 10, (hS.2.1 10 (by decide)).1, n, aj 10 (by decide) rfl, ad 8, (hS.2.1 8 (by decide)).1, n, aj 8 (by decide) rfl, ad 13, (hS.2.1 13 (by decide)).1, n, aj 13 (by decide) rfl, ?_⟩⟩
      · rw [show ((0 : Int32) &&& 1) = 0 by decide]
        exact go 0 (by rw [if_neg (nne z rfl (b := 1) rfl)])
      · rw [show ((0 : Int32) &&& 1) = 0 by decide, show ((1 : Int32) &&& 1) = 1 by decide]
        exact go 1 (by rw [if_pos (neq z rfl (b := 1) rfl)])
    · have := nnle z4 rfl rfl
      have := q.2.1.2.2
      omega
theorem sX10_readNode {tk : Nat → Bool} (hS : rS M y ad) (hD : rDk M ad D) (hp : tG T n < 256) (hn : n < 220) (hu : tU T n = true) (hT : rT M ad 0 T) (hK : rK M ad tk) (hcnt : tCnt T ≤ 200) (h12 : ∀ m, tU T m = true → (tX T m).length ≤ 12) (hr : xI M y 14 = nI r) (hr2 : r < 220)
    (hno : ¬ okR (pgF D (tG T n)) (tCnt T) tk (n = r) → ∀ M2, rX (rRd ad) M M2 → Q (some (.int 0)) M2)
    (hyes : ∀ cs tk1 M2, okR (pgF D (tG T n)) (tCnt T) tk (n = r) → rdL (pgF D (tG T n)) (rCl (pgF D (tG T n) 0)) 0 0 = some cs → acc (tCnt T) tk none cs = some tk1 → rX (rRd ad) M M2 → rT M2 ad 0 (adCs (rdT T n (pgF D (tG T n))) n cs) → rK M2 ad tk1 → Q (some (.int 1)) M2) :
    xSp l g mX10_readNode 0 0 [va_rf (some y), .int (nI n)] M Q := by
  obtain ⟨-, -, -, -, -, -, -, c8, -⟩ := rC0.mp ((hT n hn).2 hu)
  generalize hpe : tG T n = p at *
  have hl : ∀ x, pgF D p x < 256 := fun x => hD.2 _
  have hc : ∀ k, k < 512 → xI M (ad 17) (512 * p + k) = nI (pgF D p k) := fun k hk => hD.1 _ (by omega)
  have h17 := (hS.2.1 17 (by decide)).1
  have aD : ∀ k, k < 512 → xai M (ad 17) 9 (nI (512 * p + k)) (512 * p + k) := fun k hk => hS.ai (j := 17) (by decide) (by show 512 * p + k < 131072; omega)
  have e512 : 512 * nI p = nI (512 * p) := nI_mul 512 p
  have e1 : nI (512 * p) + 1 = nI (512 * p + 1) := nI_add _ 1
  have e2 : nI (512 * p) + 2 = nI (512 * p + 2) := nI_add _ 2
  have e10 : nI (512 * p) + 10 = nI (512 * p + 10) := nI_add _ 10
  have e23 : nI (512 * p) + 23 = nI (512 * p + 23) := nI_add _ 23
  have e504 : nI (512 * p) + 504 = nI (512 * p + 504) := nI_add _ 504
  have l0 := hl 0
  have l1 := hl 1
  have c0 := hc 0 (by omega)
  rw [Nat.add_zero] at c0
  have a0 := aD 0 (by omega)
  rw [Nat.add_zero] at a0
  refine eX10_readNode _ _ (bX10_readNode_0 _ _ ⟨hS.1, ad 12, (hS.2.1 12 (by decide)).1, n, hS.ai (j := 12) (by decide) (by show n < 440; omega), ?_⟩)
  rw [c8, e512]
  refine ⟨ad 17, h17, 512 * p, a0, 512 * p + 10, by rw [e10]; exact aD 10 (by omega), 512 * p + 1, by rw [e1]; exact aD 1 (by omega), 512 * p + 23, by rw [e23]; exact aD 23 (by omega), ?_⟩
  rw [e2, e504, h17, c0, hc 10 (by omega), hc 1 (by omega), hc 23 (by omega)]
  refine sX10_numberAt (i := 2) (n := 8) hS hD hp (by omega) ⟨_, rfl, hS.1, ?_⟩
  rw [h17]
  refine sX10_numberAt (i := 504) (n := 8) hS hD hp (by omega) ⟨_, rfl, hS.1, ?_⟩
  rw [h17]
  refine sX10_sum (f := pgF D p) (j := 17) hS (by decide) rfl (by show 512 * p + 504 ≤ 131072; omega) (fun k hk => hc k (by omega)) ⟨_, rfl, fun z => hno (fun q => z (lgeq.mpr q.1.1)) M rX.rf, fun z1 => ?_⟩
  refine sX10_in (x := nI (pgF D p 0)) (a := 1) (b := 4) ⟨_, rfl, fun z => hno (fun q => ?_) M rX.rf, fun z2 => ⟨fun z => hno (fun q => ?_) M rX.rf, fun z3 => ?_⟩⟩
  · rw [if_pos] at z
    · exact absurd z (by decide)
    · obtain ⟨q1, q2⟩ := q.1.2.1
      have e4 : (nI (pgF D p 0)).toInt = pgF D p 0 := Int32.toInt_ofNat_of_lt (by omega)
      refine ⟨Int32.le_iff_toInt_le.mpr ?_, Int32.le_iff_toInt_le.mpr ?_⟩
      · rw [e4, show (1 : Int32).toInt = 1 from rfl]; omega
      · rw [e4, show (4 : Int32).toInt = 4 from rfl]; omega
  · have := nlt z (a := 1) rfl rfl
    have := q.1.2.2.1
    omega
  · have hin : (1 : Int32) ≤ nI (pgF D p 0) ∧ nI (pgF D p 0) ≤ 4 := Classical.byContradiction (fun q => z2 (if_neg q))
    have hF : 1 ≤ pgF D p 0 ∧ pgF D p 0 ≤ 4 := ⟨nle hin.1 (a := 1) rfl rfl, nle hin.2 rfl (b := 4) rfl⟩
    have h1 : pgF D p 1 ≤ 1 := nnlt z3 (a := 1) rfl rfl
    refine ⟨fun z => ?_, fun z => ⟨fun w => hno (fun q => w (lgeq.mpr (q.1.2.2.2 (neq z rfl (b := 0) rfl)))) M rX.rf, fun w => ?_⟩⟩
    · exact rd_mid hS hD hp hn hu hT hK hcnt h12 hr hr2 ⟨lgeq.mp z1, hF, h1, fun q => absurd q (nne z rfl (b := 0) rfl)⟩ hno hyes
    · exact rd_mid hS hD hp hn hu hT hK hcnt h12 hr hr2 ⟨lgeq.mp z1, hF, h1, fun _ => lgeq.mp w⟩ hno hyes
end RRM
