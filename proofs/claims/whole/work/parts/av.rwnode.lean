/-! The reference's writeNode. -/
theorem va_comm (f : Nat → Nat) {i j a b : Nat} (h : i ≠ j) : va_up (va_up f i a) j b = va_up (va_up f j b) i a := by
  funext x
  by_cases h1 : x = i
  · rw [h1, va_up_ne _ _ h, va_up_self, va_up_self]
  · rw [va_up_ne _ _ h1]
    by_cases h2 : x = j
    · rw [h2, va_up_self, va_up_self]
    · rw [va_up_ne _ _ h2, va_up_ne _ _ h2, va_up_ne _ _ h1]
theorem tab1_23 (F k e p b : Nat) (f : Nat → Nat) : tab1 F k e p (va_up f 23 b) = va_up (tab1 F k e p f) 23 b := by
  unfold tab1
  by_cases h4 : F = 4
  · rw [if_pos h4, if_pos h4, va_comm f (by omega)]
  · rw [if_neg h4, if_neg h4]
    by_cases h3 : F = 3
    · rw [if_pos h3, if_pos h3, va_comm f (by omega), va_comm (va_up f (24 + e) (k + 1)) (by omega)]
    · rw [if_neg h3, if_neg h3, va_comm f (by omega), va_comm (va_up f (24 + k) e) (by omega)]
theorem tabF_23 (F b : Nat) : ∀ (cs : List (Nat × Nat)) (k : Nat) (f : Nat → Nat), tabF F cs k (va_up f 23 b) = va_up (tabF F cs k f) 23 b
  | [], _, _ => rfl
  | (e, p) :: r, k, f => by
    show tabF F r (k + 1) (tab1 F k e p (va_up f 23 b)) = _
    rw [tab1_23]
    exact tabF_23 F b r (k + 1) _
section RWQ
variable {l : Launch} {g : xG} {M M0 M1 : xM} {Q : Option Value → xM → Prop} {y n : Nat} {ad : Nat → Nat} {f f1 : Nat → Nat} {T : TT} {D : Nat → Nat} {pw : Option Nat} {tr : Nat}
theorem wn_rest {w3 : Value} (hW : tWF T) (hn : tU T n = true) (hF1 : 1 ≤ tF T n) (hF4 : tF T n ≤ 4) (hGa : ∀ c, tU T c = true → tG T c < 256) (h200 : (tC T n).length ≤ 200) (hroom : (tC T n).length ≤ fRoom (tF T n)) (hS : rS M y ad) (hT : rT M ad 0 T) (hB : rB M ad f)
    (hf : sealF (va_up (tabF (tF T n) (tCs T n) 0 (pfxF f (tX T n))) 23 (tC T n).length) = tPg T n) (hD : ∀ k, k < 131072 → xI M (ad 17) k = nI (D k)) (h18 : xI M y 18 = pwI pw) (h19 : pw ≠ none → xI M y 19 = nI tr) (ht : tr < 512) (hpw : ∀ k, pw = some k → k ≤ 1000)
    (hQ : ∀ M1, rX (rWr y ad) M M1 → (∀ k, k < 131072 → xI M1 (ad 17) k = nI (dkW D (tG T n) (tPg T n) pw tr k)) → xI M1 y 3 = (if pw = some 0 then 1 else 0) → (pw ≠ some 0 → xI M1 y 18 = pwI (pwN pw)) → Q (some (.int (if pw = some 0 then 0 else 1))) M1) : xWp l g mX10_writeNode 0 0 64 [(1, va_rf (some y)), (1, .int (nI n)), (1, .int (nI 0)), (0, w3)] [] (0, 0) M Q := by
  have hn220 := (hW.2.1 n hn).1
  refine wn_pre (f := f) hW hn hS hT (fun M1 hx1 hB1 => ?_) (tX T n).length 0 M (by omega) rX.rf ?_
  · have hS1 := hx1.sS hS
    have hT1 := sh_T hx1 hS hW hT
    refine wn_tab (f := pfxF f (tX T n)) hW hn hF1 hF4 (fun c hc => hGa c (hW.2.2.2.2.1 n c hn hc).1) h200 hroom hS1 hT1 (fun M2 hx2 hB2 => ?_) (tC T n) [] M1 _ rfl hB1 rfl rX.rf
    have hx02 := hx1.trans hx2
    have hS2 := hx02.sS hS
    have hT2 := sh_T hx02 hS hW hT
    have h12 := (hT2.d hW hn).2.2.2.2.2.2.2.1
    have hGn := hGa n hn
    refine bX10_writeNode_109 _ _ _ _ ⟨fun _ => ⟨hS2.1, ad 25, (hS2.2.1 25 (by decide)).1, 23, hS2.ai (j := 25) (by decide) (by decide), ad 12, (hS2.2.1 12 (by decide)).1, n, hS2.ai (j := 12) (by decide) (by show n < 440; omega), ?_⟩, fun z => absurd rfl z⟩
    rw [rsk hS (i := 12) (j := 25) (by decide) (by decide) (by decide), h12]
    have hx3 : rX (fun a _ => a = ad 25) M (xsI M2 (ad 25) 23 (nI (tC T n).length)) := hx02.trans (rX_I rfl)
    have y3 : ∀ k, xI (xsI M2 (ad 25) 23 (nI (tC T n).length)) y k = xI M y k := fun k => (hx3.2 _ _ (fun z => hS.ny (j := 25) (by decide) z.symm)).1
    refine sX10_write hGn (hx3.sS hS) (hB2.up (i := 23) (b := (tC T n).length) (by omega)) (D := D) (fun k hk => by rw [(hx3.2 _ _ (fun z => hS.na (i := 17) (j := 25) (by decide) (by decide) (by decide) z)).1]; exact hD k hk) (by rw [y3 18]; exact h18) (fun z => by rw [y3 19]; exact h19 z) ht hpw (fun M4 hx4 k1 k2 k3 => ⟨_, rfl, ?_, ?_⟩)
    · by_cases e : pw = some 0
      · rw [if_pos e]; exact Or.inl rfl
      · rw [if_neg e]; exact Or.inr rfl
    · rw [hf] at k1
      exact hQ M4 ((hx3.mono (fun a k z => Or.inl z)).trans hx4) k1 k2 k3
  · have e : (fun x => if x < 11 + 0 then pfxF f (tX T n) x else f x) = f := by
      funext x
      by_cases h : x < 11 + 0
      · rw [if_pos h]; unfold pfxF; rw [if_neg (by omega)]
      · rw [if_neg h]
    rw [e]; exact hB
theorem sX10_writeNode (hW : tWF T) (hn : tU T n = true) (hF1 : 1 ≤ tF T n) (hF4 : tF T n ≤ 4) (hGa : ∀ c, tU T c = true → tG T c < 256) (h200 : (tC T n).length ≤ 200) (hroom : (tC T n).length ≤ fRoom (tF T n)) (hS : rS M y ad) (hT : rT M ad 0 T)
    (hD : ∀ k, k < 131072 → xI M (ad 17) k = nI (D k)) (h18 : xI M y 18 = pwI pw) (h19 : pw ≠ none → xI M y 19 = nI tr) (ht : tr < 512) (hpw : ∀ k, pw = some k → k ≤ 1000)
    (hQ : ∀ M1, rX (rWr y ad) M M1 → (∀ k, k < 131072 → xI M1 (ad 17) k = nI (dkW D (tG T n) (tPg T n) pw tr k)) → xI M1 y 3 = (if pw = some 0 then 1 else 0) → (pw ≠ some 0 → xI M1 y 18 = pwI (pwN pw)) → Q (some (.int (if pw = some 0 then 0 else 1))) M1) : xSp l g mX10_writeNode 0 0 [va_rf (some y), .int (nI n)] M Q := by
  have hn220 := (hW.2.1 n hn).1
  have hX12 := (tX_le hW hn).1
  refine eX10_writeNode _ _ (bX10_writeNode_0 _ _ ⟨hS.1, sX10_beginSheet hS (fun M1 hx1 hB1 => ⟨rfl, ?_⟩)⟩)
  have hS1 := hx1.sS hS
  obtain ⟨c1, c2, c3, c4, c5, c6, c7, c8, c9⟩ := (sh_T hx1 hS hW hT).d hW hn
  have ne : ∀ j ∈ RL9, j ≠ 25 → ∀ (N : xM) i v k, xI (xsI N (ad 25) i v) (ad j) k = xI N (ad j) k := fun j hj h N i v k => rsk hS hj (by decide) h
  have aj : ∀ j ∈ RL9, rn j = 440 → xai M1 (ad j) (rk j) (nI n) n := fun j hj hr => hS1.ai hj (by rw [hr]; omega)
  have a25 : ∀ k, k < 512 → xai M1 (ad 25) 9 (nI k) k := fun k hk => hS1.ai (j := 25) (by decide) hk
  have go : ∀ (b : Nat), b < 2 → b = (if (tV T n).isSome = true then 1 else 0) → xSp l g mX10_number 0 0 [va_rf (some y), .int (nI 2), .int (nI 8), .long ((tV T n).getD 0)] (xsI (xsI M1 (ad 25) 0 (nI (tF T n))) (ad 25) 1 (nI b)) (fun ρ29 M28 => ρ29 = none ∧ (xat M28 y 7 ∧ (∃ a32, (xR M28 y 8) = some a32 ∧ ∃ i34, xai M28 a32 9 (nI n) i34 ∧ (∃ a36, (xR M28 y 25) = some a36 ∧ ∃ i38, xai M28 a36 9 (10 : Int32) i38 ∧ xWp l g mX10_writeNode 0 0 64 [(1, va_rf (some y)), (1, .int (nI n)), (1, .int 0), (0, .null)] [] (0, 0) (xsI M28 a36 i38 (xI M28 a32 i34)) Q)))) := fun b hb hbv => by
    have hx2 : rX (fun a _ => a = ad 25) M (xsI (xsI M1 (ad 25) 0 (nI (tF T n))) (ad 25) 1 (nI b)) := (hx1.trans (rX_I (P := fun a _ => a = ad 25) rfl)).trans (rX_I (P := fun a _ => a = ad 25) rfl)
    have hB2 := (hB1.up (i := 0) (b := tF T n) (by omega)).up (i := 1) (b := b) (by omega)
    refine sX10_number (hx2.sS hS) hB2 (by omega) (by omega) (fun M3 hx3 hB3 => ⟨rfl, ?_⟩)
    have hx03 := hx2.trans hx3
    have hS3 := hx03.sS hS
    have w8 := ((sh_T hx03 hS hW hT).d hW hn).2.2.1
    refine ⟨hS3.1, ad 8, (hS3.2.1 8 (by decide)).1, n, hS3.ai (j := 8) (by decide) (by show n < 440; omega), ad 25, (hS3.2.1 25 (by decide)).1, 10, hS3.ai (j := 25) (by decide) (by decide), ?_⟩
    rw [w8]
    have hx4 : rX (fun a _ => a = ad 25) M (xsI M3 (ad 25) 10 (nI (tX T n).length)) := hx03.trans (rX_I rfl)
    have y4 : ∀ k, xI (xsI M3 (ad 25) 10 (nI (tX T n).length)) y k = xI M y k := fun k => (hx4.2 _ _ (fun z => hS.ny (j := 25) (by decide) z.symm)).1
    refine wn_rest hW hn hF1 hF4 hGa h200 hroom (hx4.sS hS) (sh_T hx4 hS hW hT) (hB3.up (i := 10) (b := (tX T n).length) (by omega)) ?_ (D := D) (fun k hk => by rw [(hx4.2 _ _ (fun z => hS.na (i := 17) (j := 25) (by decide) (by decide) (by decide) z)).1]; exact hD k hk) (by rw [y4 18]; exact h18) (fun z => by rw [y4 19]; exact h19 z) ht hpw (fun M5 hx5 k1 k2 k3 => hQ M5 ((hx4.mono (fun a k z => Or.inl z)).trans hx5) k1 k2 k3)
    unfold tPg ndF
    rw [tabF_23, setN_8, hbv]
    have : (tCs T n).length = (tC T n).length := by unfold tCs; rw [List.length_map]
    rw [this]
  refine ⟨hS1.1, ad 11, (hS1.2.1 11 (by decide)).1, n, aj 11 (by decide) rfl, ad 25, (hS1.2.1 25 (by decide)).1, 0, a25 0 (by omega), ad 9, (hS1.2.1 9 (by decide)).1, n, aj 9 (by decide) rfl, fun z => ⟨ad 25, (hS1.2.1 25 (by decide)).1, 1, a25 1 (by omega), ad 10, (hS1.2.1 10 (by decide)).1, n, aj 10 (by decide) rfl, ?_⟩, fun z => ⟨ad 25, (hS1.2.1 25 (by decide)).1, 1, a25 1 (by omega), ad 10, (hS1.2.1 10 (by decide)).1, n, aj 10 (by decide) rfl, ?_⟩⟩
  · rw [ne 9 (by decide) (by decide), c5] at z
    have h10 : xJ (xsI (xsI M1 (ad 25) 0 (xI M1 (ad 11) n)) (ad 25) 1 0) (ad 10) n = (tV T n).getD 0 := c6
    rw [h10, c7]
    exact go 0 (by omega) (by rw [z01.mp z]; rfl)
  · rw [ne 9 (by decide) (by decide), c5] at z
    have h10 : xJ (xsI (xsI M1 (ad 25) 0 (xI M1 (ad 11) n)) (ad 25) 1 1) (ad 10) n = (tV T n).getD 0 := c6
    rw [h10, c7]
    exact go 1 (by omega) (by rw [bnf (fun q => z (z01.mpr q))]; rfl)
end RWQ
