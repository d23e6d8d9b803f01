/-! The loop of the reference's commit. -/
theorem l_div {a d : Nat} (ha : a < 2 ^ 31) (hd : 0 < d) (hd2 : d < 2 ^ 31) : Int64.ofNat a / Int64.ofNat d = Int64.ofNat (a / d) := by
  apply Int64.toInt_inj.mp
  have h1 : a / d ≤ a := Nat.div_le_self a d
  rw [Int64.toInt_div, Int64.toInt_ofNat_of_lt (by omega), Int64.toInt_ofNat_of_lt (by omega), Int64.toInt_ofNat_of_lt (by omega)]
  rw [Int.tdiv_eq_ediv_of_nonneg (by omega), ← Int.natCast_ediv]
  generalize a / d = q at h1 ⊢
  apply Int.bmod_eq_of_le <;> omega
theorem l_rem2 {a : Nat} (ha : a < 2 ^ 31) : Int64.ofNat a - Int64.ofNat a / 2 * 2 = Int64.ofNat (a % 2) := by
  have e : (2 : Int64) = Int64.ofNat 2 := rfl
  rw [e, l_div ha (by decide) (by decide), ← Int64.ofNat_mul, ← Int64.ofNat_sub _ _ (by omega)]
  congr 1
  omega
theorem l_32 (a : Nat) : (Int64.ofNat a).toInt32 = nI a := Int64.toInt32_ofNat'
theorem l_u64 {k : Nat} (h : k < 2 ^ 31) : (Int64.ofNat k).toUInt64.toNat = k := by
  have : (Int64.ofNat k).toUInt64 = UInt64.ofNat k := rfl
  rw [this, UInt64.toNat_ofNat']
  omega
theorem setN_2 {f : Nat → Nat} {i k : Nat} (h : k < 65536) : setN f i 2 (Int64.ofNat k) = va_up (va_up f i (k / 256)) (i + 1) (k % 256) := by
  funext x
  unfold setN
  rw [l_u64 (by omega)]
  by_cases h1 : x = i + 1
  · rw [if_pos (by omega), h1, va_up_self, show 8 * (2 - 1 - (i + 1 - i)) = 0 by omega]; omega
  · rw [va_up_ne _ _ h1]
    by_cases h2 : x = i
    · rw [if_pos (by omega), h2, va_up_self, show 8 * (2 - 1 - (i - i)) = 8 by omega]; omega
    · rw [if_neg (by omega), va_up_ne _ _ h2]
def rCm (y : Nat) (ad : Nat → Nat) (a k : Nat) : Prop := rWr y ad a k ∨ a = ad 26 ∨ (a = ad 12 ∧ k < 220)
/-- what there is while the reference commits -/
def rV (M0 M1 : xM) (y : Nat) (ad : Nat → Nat) (T : TT) (tr : Nat) (s : SvS) : Prop :=
  rX (rCm y ad) M0 M1 ∧ rT M1 ad 0 s.1 ∧ svK T s.1 ∧ tI1 s.1 ∧ (∀ k, k < 131072 → xI M1 (ad 17) k = nI (s.2.2.1 k)) ∧ (∀ k, s.2.2.1 k < 256) ∧ (∀ k, s.2.2.2 = some k → k ≤ 1000) ∧ (s.2.2.2 ≠ none → xI M1 y 19 = nI tr)
/-- and power is there -/
def rVn (M0 M1 : xM) (y : Nat) (ad : Nat → Nat) (T : TT) (tr : Nat) (s : SvS) : Prop :=
  rV M0 M1 y ad T tr s ∧ rK M1 ad (fun p => decide (p < 2) || s.2.1 p) ∧ xI M1 y 18 = pwI s.2.2.2 ∧ xI M1 y 3 = 0
section RCN
variable {l : Launch} {g : xG} {M M0 M1 : xM} {Q : Option Value → xM → Prop} {y n : Nat} {ad : Nat → Nat} {T : TT} {tk : Nat → Bool} {tr : Nat} {Q1 : Bool × SvS → Prop}
theorem rCm_y (hS : rS M y ad) {k : Nat} (h : k ≠ 18 ∧ k ≠ 3) : ¬ rCm y ad y k := fun z => by
  rcases z with (z | z | ⟨-, z⟩) | z | ⟨z, -⟩
  · exact hS.ny (j := 25) (by decide) z.symm
  · exact hS.ny (j := 17) (by decide) z.symm
  · omega
  · exact hS.ny (j := 26) (by decide) z.symm
  · exact hS.ny (j := 12) (by decide) z.symm
theorem rWr_a (hS : rS M y ad) {j k : Nat} (hj : j ∈ RL9) (h : j ≠ 25 ∧ j ≠ 17) : ¬ rWr y ad (ad j) k := fun z => by
  rcases z with z | z | ⟨z, -⟩
  · exact hS.na hj (j := 25) (by decide) h.1 z
  · exact hS.na hj (j := 17) (by decide) h.2 z
  · exact hS.ny hj z
theorem rWr_y (hS : rS M y ad) {k : Nat} (h : k ≠ 18 ∧ k ≠ 3) : ¬ rWr y ad y k := fun z => rCm_y hS h (Or.inl z)
theorem rWr_T {o : Nat} (hx : rX (rWr y ad) M M1) (hS : rS M y ad) (hW : tWF T) (hT : rT M ad o T) : rT M1 ad o T :=
  hx.tT hT (fun j hj n hn => rWr_a hS (RA_RL j hj) ⟨fun q => by subst q; revert hj; decide, fun q => by subst q; revert hj; decide⟩) (fun i hi => rWr_a hS (j := 7) (by decide) (by decide)) (fun n hn hu => (tX_le hW hu).1)
theorem tkT {o : Nat} (hx : rX (fun a _ => a = ad 26) M M1) (hS : rS M y ad) (hW : tWF T) (hT : rT M ad o T) : rT M1 ad o T :=
  hx.tT hT (fun j hj n hn => hS.na (RA_RL j hj) (j := 26) (by decide) (fun q => by subst q; revert hj; decide)) (fun i hi => hS.na (i := 7) (j := 26) (by decide) (by decide) (by decide)) (fun n hn hu => (tX_le hW hu).1)
theorem rT_gs {p : Nat} (hS : rS M y ad) (hT : rT M ad 0 T) (hW : tWF T) (hn : tU T n = true) : rT (xsI M (ad 12) n (nI p)) ad 0 (tGs T n p) := by
  obtain ⟨c1, c2, c3, c4, c5, c6, c7, c8, c9⟩ := hT.d hW hn
  have e : ∀ j ∈ RL9, j ≠ 12 → ∀ k, xI (xsI M (ad 12) n (nI p)) (ad j) k = xI M (ad j) k := fun j hj n1 k => rsk hS hj (by decide) n1
  refine rT_upd (c := n) hS hT (rX_I (Or.inl ⟨12, by decide, rfl, rfl⟩)) (x12 hW) ⟨by rw [e 4 (by decide) (by decide)]; exact hT.u (hW.2.1 n hn).1, fun _ => rC0.mpr ?_⟩ (fun m hm => ⟨rfl, rfl, rfl, rfl, rfl, rfl, va_up_ne _ _ hm, rfl⟩)
  have ev : tG (tGs T n p) n = p := va_up_self _ _ _
  refine ⟨by rw [e 5 (by decide) (by decide)]; exact c1, by rw [e 6 (by decide) (by decide)]; exact c2, by rw [e 8 (by decide) (by decide)]; exact c3, fun i hi => by rw [e 7 (by decide) (by decide)]; exact c4 i hi, by rw [e 9 (by decide) (by decide)]; exact c5, c6, by rw [e 11 (by decide) (by decide)]; exact c7, ?_, by rw [e 13 (by decide) (by decide)]; exact c9⟩
  rw [ev, xI_sI, if_pos ⟨rfl, rfl⟩]
theorem com_loop {x1 : Int32} (hW : tWF T) (h200 : tCnt T ≤ 200) (ht : tr < 512) (hS0 : rS M0 y ad) (hO0 : xI M0 y 14 = nI (tO T))
    (hend : ∀ M1 s w, rVn M0 M1 y ad T tr s → Q1 (true, s) → xWp l g mX10_commit 0 0 46 [(1, va_rf (some y)), (1, .int x1), (1, .int (-1)), (0, w)] [] (0, 0) M1 Q)
    (hlost : ∀ M1 s, rV M0 M1 y ad T tr s → xI M1 y 3 = 1 → Q1 (false, s) → Q (some (.int (-3))) M1) :
    ∀ (l2 l1 : List Nat) (M1 : xM) (s : SvS) (w : Value), tPs T = l1 ++ l2 → rVn M0 M1 y ad T tr s → cTk s.2.1 + l2.countP (tR T) ≤ 254 → Q1 (svL tr l2 s) → xWp l g mX10_commit 0 0 46 [(1, va_rf (some y)), (1, .int x1), (1, .int (pI l2.head?)), (0, w)] [] (0, 0) M1 Q
  | [], l1, M1, s, w, hl, hV, hcnt, hq => hend M1 s w hV hq
  | n :: r, l1, M1, (S, tk, D, pw), w, hl, hV, hcnt, hq => by
    obtain ⟨⟨hx, hT, hk, hI, hD, hDl, hpw, h19⟩, hK, h18, h3⟩ := id hV
    have hk : svK T S := hk
    have hI : tI1 S := hI
    have hT : rT M1 ad 0 S := hT
    have hS1 := hx.sS hS0
    have hWS : tWF S := hk.wf hW
    have hlS : tPs S = l1 ++ n :: r := (tPs_congr hk.2.2.2.2.2.2.2.1 hk.2.2.2.2.2.2.2.2.2).trans hl
    obtain ⟨hn, hN⟩ := tPs_at hWS hlS
    have hn220 := (hWS.2.1 n hn).1
    have h200S : tCnt S ≤ 200 := by unfold tCnt; rw [hk.1]; exact h200
    have hO1 : xI M1 y 14 = nI (tO S) := by rw [(hx.2 _ _ (rCm_y hS0 (by decide))).1, hO0, hk.2.2.2.2.2.2.2.2.2]
    have e13 : xI M1 (ad 13) n = (if tR S n = true then 1 else 0) := (hT.d hWS hn).2.2.2.2.2.2.2.2
    rw [List.countP_cons] at hcnt
    refine bX10_commit_46 _ _ _ _ ⟨fun z => ?_, fun _ => ⟨hS1.1, ad 13, (hS1.2.1 13 (by decide)).1, n, hS1.ai (j := 13) (by decide) (by show n < 440; omega), fun c => ?_, fun c => ?_⟩⟩
    · exfalso
      have := (pI_m1 (o := some n) (fun x hx => by injection hx with hx; rw [← hx]; exact hn220)).mp z
      cases this
    · have hR := z01.mp (e13.symm.trans c)
      refine com_next hWS hn hS1 hT hO1 (fun w2 => ?_)
      rw [hN]
      refine com_loop hW h200 ht hS0 hO0 hend hlost r (l1 ++ [n]) M1 _ w2 (by rw [hl]; simp) hV (by omega) ?_
      have e : svL tr (n :: r) (S, tk, D, pw) = svL tr r (S, tk, D, pw) := by
        show (if tR S n = true then _ else _) = _
        rw [if_neg (by rw [hR]; decide)]
      rw [← e]; exact hq
    · have hR := bnf (fun z => c (e13.trans (z01.mpr z)))
      have hRT : tR T n = true := by rw [← hk.2.2.2.2.2.2.1]; exact hR
      rw [if_pos hRT] at hcnt
      have hc254 : cTk tk < 254 := by have h : cTk tk + (List.countP (tR T) r + 1) ≤ 254 := hcnt; omega
      obtain ⟨o1, o2, o3⟩ := tLp_ok hc254
      refine com_free hc254 hn220 hS1 hK ?_ (tLp tk - 2) 2 (by omega) (by omega) (fun q q1 q2 => by omega)
      have hxa : rX (fun a _ => a = ad 26) M1 (xsI M1 (ad 26) (tLp tk) 1) := rX_I rfl
      have hSa := hxa.sS hS1
      have hTa := tkT hxa hS1 hWS hT
      have hT2 := rT_gs (p := tLp tk) hSa hTa hWS hn
      have hx2 : rX (rCm y ad) M1 (xsI (xsI M1 (ad 26) (tLp tk) 1) (ad 12) n (nI (tLp tk))) := (hxa.mono (fun a k z => Or.inr (Or.inl z))).trans (rX_I (Or.inr (Or.inr ⟨rfl, hn220⟩)))
      have hS2 := hx2.sS hS1
      have e2 : ∀ j ∈ RL9, j ≠ 12 → j ≠ 26 → ∀ k, xI (xsI (xsI M1 (ad 26) (tLp tk) 1) (ad 12) n (nI (tLp tk))) (ad j) k = xI M1 (ad j) k := fun j hj n1 n2 k => by rw [rsk hS1 hj (by decide) n1, rsk hS1 hj (by decide) n2]
      have y2 : ∀ k, xI (xsI (xsI M1 (ad 26) (tLp tk) 1) (ad 12) n (nI (tLp tk))) y k = xI M1 y k := fun k => by rw [xI_sI, if_neg (fun z => hS1.ny (j := 12) (by decide) z.1.symm), xI_sI, if_neg (fun z => hS1.ny (j := 26) (by decide) z.1.symm)]
      have hm2 : ∀ p, p < 256 → xI (xsI (xsI M1 (ad 26) (tLp tk) 1) (ad 12) n (nI (tLp tk))) (ad 26) p = (if (decide (p < 2) || va_up tk (tLp tk) true p) = true then 1 else 0) := fun p hp => by
        rw [rsk hS1 (i := 26) (j := 12) (by decide) (by decide) (by decide), xI_sI]
        by_cases e : p = tLp tk
        · rw [if_pos ⟨rfl, e⟩, e, va_up_self, Bool.or_true, if_pos rfl]
        · rw [if_neg (fun z => e z.2), va_up_ne _ _ e]; exact hK p hp
      generalize xsI (xsI M1 (ad 26) (tLp tk) 1) (ad 12) n (nI (tLp tk)) = M2 at hT2 hx2 hS2 e2 y2 hm2 ⊢
      have hW2 : tWF (tGs S n (tLp tk)) := tGs_wf hWS _ _
      have hI2 : tI1 (tGs S n (tLp tk)) := tGs_i1 hI o2
      have hkN : svK T (tGs S n (tLp tk)) := hk
      have hl200 : (tC (tGs S n (tLp tk)) n).length ≤ 200 := Nat.le_trans (tC_cnt hWS hn) h200S
      have eg : tG (tGs S n (tLp tk)) n = tLp tk := va_up_self _ _ _
      refine sX10_writeNode hW2 hn (hI2 n hn).1 (hI2 n hn).2.1 (fun c hc => (hI2 c hc).2.2.1) hl200 (hI2 n hn).2.2.2 hS2 hT2 (D := D) (pw := pw) (tr := tr) (fun k hk => by rw [e2 17 (by decide) (by decide) (by decide)]; exact hD k hk) (by rw [y2]; exact h18) (fun z => by rw [y2]; exact h19 z) ht hpw (fun M3 hx3 k1 k2 k3 => ?_)
      rw [eg] at k1
      have hx03 : rX (rCm y ad) M0 M3 := (hx.trans hx2).trans (hx3.mono (fun a k z => Or.inl z))
      have hV3 : rV M0 M3 y ad T tr (svN tr (S, tk, D, pw) n) := by
        refine ⟨hx03, rWr_T hx3 hS2 hW2 hT2, hkN, hI2, k1, dkW_lt hDl (tPg_lt hW2 hI2 hn hl200), fun k hk => ?_, fun z => ?_⟩
        · have hk : pwN pw = some k := hk
          cases hq : pw with
          | none => rw [hq] at hk; cases hk
          | some j =>
            have hj := hpw j hq
            rw [hq] at hk
            cases j with
            | zero => cases hk
            | succ j => injection hk with hk; omega
        · rw [(hx3.2 _ _ (rWr_y hS2 (by decide))).1, y2]
          refine h19 (fun q => z ?_)
          have q : pw = none := q
          show pwN pw = none
          rw [q]; rfl
      refine ⟨_, rfl, fun z => ?_, fun z => ?_⟩
      · have hp0 : ¬ pw = some 0 := fun q => z (if_pos q)
        have hl2 : tPs (tGs S n (tLp tk)) = l1 ++ n :: r := (tPs_congr (T := S) rfl rfl).trans hlS
        have hN2 := (tPs_at hW2 hl2).2
        have hS3 := hx03.sS hS0
        refine xWp.lw (com_next (w3 := .int (nI (tLp tk))) hW2 hn hS3 hV3.2.1 ?_ (fun w2 => ?_)) ⟨Or.inl rfl, Or.inl rfl, Or.inl rfl, Or.inr rfl, trivial⟩
        · rw [(hx3.2 _ _ (rWr_y hS2 (by decide))).1, y2]; exact hO1
        · rw [hN2]
          refine com_loop hW h200 ht hS0 hO0 hend hlost r (l1 ++ [n]) M3 (svN tr (S, tk, D, pw) n) w2 (by rw [hl]; simp) ⟨hV3, fun p hp => ?_, k3 hp0, by rw [k2, if_neg hp0]⟩ ?_ ?_
          · rw [(hx3.2 _ _ (rWr_a hS2 (j := 26) (by decide) (by decide))).1]; exact hm2 p hp
          · show cTk (va_up tk (tLp tk) true) + _ ≤ 254
            have h : cTk tk + (List.countP (tR T) r + 1) ≤ 254 := hcnt
            rw [cTk_up o1 o2 o3]; omega
          · have e : svL tr (n :: r) (S, tk, D, pw) = svL tr r (svN tr (S, tk, D, pw) n) := by
              show (if tR S n = true then (if pw = some 0 then _ else _) else _) = _
              rw [if_pos hR, if_neg hp0]
            rw [e] at hq; exact hq
      · have hp0 : pw = some 0 := Classical.byContradiction (fun q => by rw [if_neg q] at z; exact absurd z (by decide))
        have e : svL tr (n :: r) (S, tk, D, pw) = (false, svN tr (S, tk, D, pw) n) := by
          show (if tR S n = true then (if pw = some 0 then _ else _) else _) = _
          rw [if_pos hR, if_pos hp0]
        rw [e] at hq
        exact hlost M3 _ hV3 (by rw [k2, if_pos hp0]) hq
end RCN
