/-! The reference's numberAt, headOf. -/
theorem lgeq {a b : Int64} : lg_cmp a b = 0 ↔ a = b := by
  constructor
  · intro h
    have h1 : ¬ a < b := fun z => by
      have := lglt.mpr z
      rw [h] at this
      exact absurd this (by decide)
    have h2 : ¬ b < a := fun z => by
      have := lggt.mpr z
      rw [h] at this
      exact absurd this (by decide)
    exact Int64.le_antisymm (Int64.not_lt.mp h2) (Int64.not_lt.mp h1)
  · intro h
    have h1 : ¬ lg_cmp a b < 0 := fun z => by
      have := lglt.mp z
      rw [h] at this
      exact Int64.lt_irrefl this
    have h2 : ¬ 0 < lg_cmp a b := fun z => by
      have := lggt.mp z
      rw [h] at this
      exact Int64.lt_irrefl this
    exact Int32.le_antisymm (Int32.not_lt.mp h2) (Int32.not_lt.mp h1)
section RHD
variable {l : Launch} {g : xG} {M M0 M1 : xM} {Q : Option Value → xM → Prop} {y n : Nat} {ad : Nat → Nat} {T : TT} {D : Nat → Nat}
theorem sX10_inL {x a b : Int64} (hQ : Q (some (.int (if a ≤ x ∧ x ≤ b then 1 else 0))) M) : xSp l g mX10_in 0 0 [.long x, .long a, .long b] M Q := by
  refine eX10_in _ _ _ (bX10_in_0 _ _ _ ⟨fun c => ?_, fun c => ⟨fun c2 => ?_, fun c2 => ?_⟩⟩)
  · have h := lglt.mp c
    rw [if_neg (fun z => Int64.not_lt.mpr z.1 h)] at hQ
    exact hQ
  · have h := lggt.mp c2
    rw [if_neg (fun z => Int64.not_lt.mpr z.2 h)] at hQ
    exact hQ
  · have h1 : ¬ x < a := fun z => c (lglt.mpr z)
    have h2 : ¬ b < x := fun z => c2 (lggt.mpr z)
    rw [if_pos ⟨Int64.not_lt.mp h1, Int64.not_lt.mp h2⟩] at hQ
    exact hQ
/-- the bytes of the disk -/
def rDk (M : xM) (ad : Nat → Nat) (D : Nat → Nat) : Prop := (∀ k, k < 131072 → xI M (ad 17) k = nI (D k)) ∧ ∀ k, D k < 256
theorem numAt_loop {p i n : Nat} (hS : rS M y ad) (hD : rDk M ad D) (hp : p < 256) (hi : i + n ≤ 512) (hQ : Q (some (.long (lNm (pgF D p) i n))) M) :
    ∀ (d k : Nat) (w4 : Value), n = k + d → xWp l g mX10_numberAt 0 0 5 [(1, va_rf (some (ad 17))), (1, .int (nI (512 * p + i))), (1, .int (nI n)), (2, .long (lNm (pgF D p) i k)), (0, w4), (1, .int (nI k))] [] (0, 0) M Q := by
  intro d
  induction d with
  | zero =>
    intro k w4 hd
    have hk : k = n := by omega
    subst hk
    exact bX10_numberAt_5 _ _ _ _ _ _ ⟨fun _ => hQ, fun z => absurd (Int32.le_refl _) z⟩
  | succ d ih =>
    intro k w4 hd
    refine bX10_numberAt_5 _ _ _ _ _ _ ⟨fun z => ?_, fun _ => ⟨ad 17, rfl, 512 * p + i + k, ?_, ?_⟩⟩
    · exfalso
      have := nle z rfl rfl
      omega
    · rw [nI_add]; exact hS.ai (j := 17) (by decide) (by show 512 * p + i + k < 131072; omega)
    · rw [hD.1 _ (by omega), nI_1]
      have e : lNm (pgF D p) i (k + 1) = (lNm (pgF D p) i k <<< ((8 : Int32).toInt64 &&& 63)) ||| (nI (D (512 * p + i + k))).toInt64 := by
        show (lNm (pgF D p) i k <<< ((8 : Int32).toInt64 &&& 63)) ||| (nI (D (512 * p + (i + k)))).toInt64 = _
        rw [Nat.add_assoc]
      rw [← e]
      exact ih (k + 1) _ (by omega)
theorem sX10_numberAt {p i n : Nat} (hS : rS M y ad) (hD : rDk M ad D) (hp : p < 256) (hi : i + n ≤ 512) (hQ : Q (some (.long (lNm (pgF D p) i n))) M) : xSp l g mX10_numberAt 0 0 [va_rf (some (ad 17)), .int (nI (512 * p + i)), .int (nI n)] M Q :=
  eX10_numberAt _ _ _ (bX10_numberAt_0 _ _ _ (numAt_loop hS hD hp hi hQ n 0 _ (by omega)))
theorem head_loop {p : Nat} {x1 : Int32} {j3 : Int64} {w4 : Value} {b0 : Prop} (hS : rS M y ad) (hD : rDk M ad D) (hp : p < 256) (h1 : (b0 ∧ ∀ k, 12 ≤ k → k < 504 → pgF D p k = 0) → Q (some (.long j3)) M) (h0 : ¬ (b0 ∧ ∀ k, 12 ≤ k → k < 504 → pgF D p k = 0) → Q (some (.long 0)) M) :
    ∀ (d k : Nat) (x5 : Int32), 504 = k + d → (x5 = 0 ∨ x5 = 1) → (x5 = 1 ↔ (b0 ∧ ∀ j, 12 ≤ j → j < k → pgF D p j = 0)) → 12 ≤ k → xWp l g mX10_headOf 0 0 101 [(1, va_rf (some y)), (1, .int x1), (1, .int (nI (512 * p))), (2, .long j3), (0, w4), (1, .int x5), (1, .int (nI k))] [] (0, 0) M Q := by
  intro d
  induction d with
  | zero =>
    intro k x5 hd h01 hb hk
    have hk : k = 504 := by omega
    subst hk
    refine bX10_headOf_101 _ _ _ _ _ _ _ ⟨fun _ => ⟨fun z => h0 (fun q => ?_), fun z => h1 (hb.mp (h01.resolve_left z))⟩, fun z => absurd (Int32.le_refl _) z⟩
    rw [hb.mpr q] at z
    exact absurd z (by decide)
  | succ d ih =>
    intro k x5 hd h01 hb hk
    have ha0 : x5 &&& 0 = 0 := by rcases h01 with e | e <;> rw [e] <;> decide
    have ha1 : x5 &&& 1 = x5 := by rcases h01 with e | e <;> rw [e] <;> decide
    have ec : xI M (ad 17) (512 * p + k) = nI (pgF D p k) := hD.1 _ (by omega)
    have hl : pgF D p k < 256 := hD.2 _
    refine bX10_headOf_101 _ _ _ _ _ _ _ ⟨fun z => ?_, fun _ => ⟨hS.1, ad 17, (hS.2.1 17 (by decide)).1, 512 * p + k, ?_, fun z => ?_, fun z => ?_⟩⟩
    · exfalso
      have := nle z (a := 504) rfl rfl
      omega
    · rw [nI_add]; exact hS.ai (j := 17) (by decide) (by show 512 * p + k < 131072; omega)
    · rw [ec] at z
      have hz : pgF D p k ≠ 0 := nne z rfl (b := 0) rfl
      rw [ha0, nI_1]
      refine ih (k + 1) 0 (by omega) (Or.inl rfl) ⟨fun q => absurd q (by decide), fun q => absurd (q.2 k hk (by omega)) hz⟩ (by omega)
    · rw [ec] at z
      have hz : pgF D p k = 0 := neq z rfl (b := 0) rfl
      rw [ha1, nI_1]
      refine ih (k + 1) x5 (by omega) h01 (hb.trans ⟨fun q => ⟨q.1, fun j a b => ?_⟩, fun q => ⟨q.1, fun j a b => q.2 j a (by omega)⟩⟩) (by omega)
      by_cases e : j = k
      · rw [e]; exact hz
      · exact q.2 j a (by omega)
theorem hdN_long {p : Nat} : Int64.ofNat (hdN D p) = @ite _ (hdOk (pgF D p) p) (Classical.propDecidable _) (lNm (pgF D p) 1 8) 0 := by
  unfold hdN
  by_cases h : hdOk (pgF D p) p
  · rw [if_pos h, if_pos h]
    obtain ⟨h1, h2, -⟩ := h
    have h1 := Int64.not_lt.mp h1
    have h3 := Int64.le_iff_toInt_le.mp h1
    apply Int64.toInt_inj.mp
    have e1 : (1 : Int64).toInt = 1 := rfl
    rw [e1] at h3
    have e2 : (lNm (pgF D p) 1 8).toNatClampNeg = (lNm (pgF D p) 1 8).toInt.toNat := rfl
    rw [e2, Int64.toInt_ofNat_of_lt]
    · omega
    · have := Int64.toInt_lt (lNm (pgF D p) 1 8)
      omega
  · rw [if_neg h, if_neg h]; rfl
theorem sX10_headOf {p : Nat} (hS : rS M y ad) (hD : rDk M ad D) (hp : p < 256) (hQ : Q (some (.long (Int64.ofNat (hdN D p)))) M) : xSp l g mX10_headOf 0 0 [va_rf (some y), .int (nI p)] M Q := by
  have hf : ∀ x, pgF D p x < 256 := fun x => hD.2 _
  have hf9 := hf 9
  rw [hdN_long] at hQ
  have e512 : 512 * nI p = nI (512 * p) := nI_mul 512 p
  have h17 := (hS.2.1 17 (by decide)).1
  have aD : ∀ k, k < 512 → xai M (ad 17) 9 (nI (512 * p + k)) (512 * p + k) := fun k hk => hS.ai (j := 17) (by decide) (by show 512 * p + k < 131072; omega)
  have cD : ∀ k, k < 512 → xI M (ad 17) (512 * p + k) = nI (pgF D p k) := fun k hk => hD.1 _ (by omega)
  have e0 : (∃ b0 : Prop, (hdOk (pgF D p) p ↔ (b0 ∧ ∀ k, 12 ≤ k → k < 504 → pgF D p k = 0)) ∧ (b0 ↔ (pgF D p 0 = 1 ∧ lNm (pgF D p) 504 8 = sm (pgF D p) 504 ∧ ((1 ≤ lNm (pgF D p) 1 8 ∧ lNm (pgF D p) 1 8 ≤ 1000000000) ∧ lNm (pgF D p) 1 8 - lNm (pgF D p) 1 8 / 2 * 2 = (nI p).toInt64 ∧ 2 ≤ pgF D p 9)))) := by
    refine ⟨_, ?_, Iff.rfl⟩
    unfold hdOk
    rw [hd_iff hf]
    constructor
    · rintro ⟨a, b, c, d, e, f1, f2⟩
      exact ⟨⟨f1, e, ⟨Int64.not_lt.mp a, Int64.not_lt.mp b⟩, c, d⟩, f2⟩
    · rintro ⟨⟨f1, e, ⟨a, b⟩, c, d⟩, f2⟩
      exact ⟨Int64.not_lt.mpr a, Int64.not_lt.mpr b, c, d, e, f1, f2⟩
  obtain ⟨b0, hb1, hb2⟩ := e0
  have fin : ∀ (x5 : Int32) (w : Value), (x5 = 0 ∨ x5 = 1) → (x5 = 1 ↔ b0) → xWp l g mX10_headOf 0 0 101 [(1, va_rf (some y)), (1, .int (nI p)), (1, .int (nI (512 * p))), (2, .long (lNm (pgF D p) 1 8)), (0, w), (1, .int x5), (1, .int 12)] [] (0, 0) M Q := fun x5 w h01 hx => by
    refine head_loop (b0 := b0) hS hD hp (fun z => ?_) (fun z => ?_) 492 12 x5 (by omega) h01 (hx.trans ⟨fun q => ⟨q, fun j a b => by omega⟩, fun q => q.1⟩) (by omega)
    · rw [if_pos (hb1.mpr z)] at hQ; exact hQ
    · rw [if_neg (fun q => z (hb1.mp q))] at hQ; exact hQ
  have bad : ∀ {w : Value}, ¬ b0 → xWp l g mX10_headOf 0 0 101 [(1, va_rf (some y)), (1, .int (nI p)), (1, .int (nI (512 * p))), (2, .long (lNm (pgF D p) 1 8)), (0, w), (1, .int 0), (1, .int 12)] [] (0, 0) M Q := fun {w} hb => fin 0 w (Or.inl rfl) ⟨fun q => absurd q (by decide), fun q => absurd q hb⟩
  refine eX10_headOf _ _ (bX10_headOf_0 _ _ ⟨hS.1, ?_⟩)
  have e1 : nI (512 * p) + 1 = nI (512 * p + 1) := nI_add _ 1
  have e504 : nI (512 * p) + 504 = nI (512 * p + 504) := nI_add _ 504
  have e9 : nI (512 * p) + 9 = nI (512 * p + 9) := nI_add _ 9
  rw [e512, h17, e1, e504, e9]
  refine sX10_numberAt (i := 1) (n := 8) hS hD hp (by omega) ⟨_, rfl, hS.1, ad 17, h17, 512 * p, aD 0 (by omega), fun z => ?_, fun z => ?_⟩
  · have c0 := cD 0 (by omega)
    rw [Nat.add_zero] at c0
    rw [c0] at z
    exact bad (fun q => nne z rfl (b := 1) rfl (hb2.mp q).1)
  · have c0 := cD 0 (by omega)
    rw [Nat.add_zero] at c0
    rw [c0] at z
    have hf0 := hf 0
    have z0 : pgF D p 0 = 1 := neq z rfl (b := 1) rfl
    rw [h17]
    refine sX10_numberAt (i := 504) (n := 8) hS hD hp (by omega) ⟨_, rfl, hS.1, ?_⟩
    rw [h17]
    refine sX10_sum (f := pgF D p) (j := 17) hS (by decide) rfl (by show 512 * p + 504 ≤ 131072; omega) (fun k hk => cD k (by omega)) ⟨_, rfl, fun z => ?_, fun z => ?_⟩
    · exact bad (fun q => z (lgeq.mpr (hb2.mp q).2.1))
    · have z1 := lgeq.mp z
      refine sX10_inL ⟨_, rfl, fun z => ?_, fun z => ⟨fun z3 => ?_, fun z3 => ⟨hS.1, ad 17, h17, 512 * p + 9, aD 9 (by omega), fun z4 => ?_, fun z4 => ?_⟩⟩⟩
      · exact bad (fun q => by rw [if_pos (hb2.mp q).2.2.1] at z; exact absurd z (by decide))
      · exact bad (fun q => z3 (lgeq.mpr (hb2.mp q).2.2.2.1))
      · rw [cD 9 (by omega)] at z4
        have := nlt z4 rfl (b := 2) rfl
        exact bad (fun q => by have := (hb2.mp q).2.2.2.2; omega)
      · rw [cD 9 (by omega)] at z4
        have h9 := nnlt z4 rfl (b := 2) rfl
        have z2 : 1 ≤ lNm (pgF D p) 1 8 ∧ lNm (pgF D p) 1 8 ≤ 1000000000 := Classical.byContradiction (fun q => z (if_neg q))
        exact fin 1 _ (Or.inr rfl) ⟨fun _ => hb2.mpr ⟨z0, z1, z2, lgeq.mp z3, h9⟩, fun _ => rfl⟩
end RHD
