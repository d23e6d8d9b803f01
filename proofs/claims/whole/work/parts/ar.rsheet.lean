/-! The reference's sheet: sum, number, beginSheet. -/
/-- the sheet holds bytes -/
def rB (M : xM) (ad : Nat → Nat) (f : Nat → Nat) : Prop := (∀ i, i < 512 → xI M (ad 25) i = nI (f i)) ∧ ∀ i, f i < 256
/-- a number of so many bytes in a row -/
def setN (f : Nat → Nat) (i n : Nat) (j : Int64) : Nat → Nat := fun x => if i ≤ x ∧ x < i + n then (j.toUInt64.toNat / 2 ^ (8 * (n - 1 - (x - i)))) % 256 else f x
theorem setN_8 (f : Nat → Nat) (i : Nat) (j : Int64) : setN f i 8 j = setL f i j := rfl
section RSH
variable {l : Launch} {g : xG} {M M0 M1 : xM} {Q : Option Value → xM → Prop} {y : Nat} {ad : Nat → Nat} {f : Nat → Nat}
theorem sum_loop {j from0 : Nat} (hS : rS M y ad) (hj : j ∈ RL9) (hk9 : rk j = 9) (hr : from0 + 504 ≤ rn j) (hf : ∀ k, k < 504 → xI M (ad j) (from0 + k) = nI (f k)) (hQ : Q (some (.long (sm f 504))) M) :
    ∀ (d k : Nat) (w3 : Value), 504 = k + d → xWp l g mX10_sum 0 0 5 [(1, va_rf (some (ad j))), (1, .int (nI from0)), (2, .long (sm f k)), (0, w3), (1, .int (nI k))] [] (0, 0) M Q
  | 0, k, w3, hd => by
    have : k = 504 := by omega
    subst this
    exact bX10_sum_5 _ _ _ _ _ ⟨fun _ => hQ, fun c => absurd (Int32.le_refl _) c⟩
  | d + 1, k, w3, hd => by
    refine bX10_sum_5 _ _ _ _ _ ⟨fun c => ?_, fun _ => ⟨ad j, rfl, from0 + k, ?_, ?_⟩⟩
    · exfalso
      have := nle c (a := 504) rfl rfl
      omega
    · rw [nI_add, ← hk9]; exact hS.ai hj (by omega)
    · rw [hf k (by omega), nI_1]
      exact sum_loop hS hj hk9 hr hf hQ d (k + 1) _ (by omega)
theorem sX10_sum {j from0 : Nat} (hS : rS M y ad) (hj : j ∈ RL9) (hk9 : rk j = 9) (hr : from0 + 504 ≤ rn j) (hf : ∀ k, k < 504 → xI M (ad j) (from0 + k) = nI (f k)) (hQ : Q (some (.long (sm f 504))) M) : xSp l g mX10_sum 0 0 [va_rf (some (ad j)), .int (nI from0)] M Q :=
  eX10_sum _ _ (bX10_sum_0 _ _ (sum_loop hS hj hk9 hr hf hQ 504 0 _ (by omega)))
theorem begin_loop (hS : rS M y ad) (hQ : ∀ M1, rX (fun a _ => a = ad 25) M M1 → rB M1 ad (fun _ => 0) → Q none M1) :
    ∀ (d k : Nat) (M1 : xM), 512 = k + d → rX (fun a _ => a = ad 25) M M1 → (∀ i, i < k → xI M1 (ad 25) i = 0) → xWp l g mX10_beginSheet 0 0 2 [(1, va_rf (some y)), (1, .int (nI k))] [] (0, 0) M1 Q
  | 0, k, M1, hd, hx, h => by
    have : k = 512 := by omega
    subst this
    exact bX10_beginSheet_2 _ _ ⟨fun _ => hQ M1 hx ⟨fun i hi => h i hi, fun i => (by show 0 < 256; decide)⟩, fun c => absurd (Int32.le_refl _) c⟩
  | d + 1, k, M1, hd, hx, h => by
    have hS1 := hx.sS hS
    refine bX10_beginSheet_2 _ _ ⟨fun c => ?_, fun _ => ⟨hS1.1, ad 25, (hS1.2.1 25 (by decide)).1, k, hS1.ai (j := 25) (by decide) (by show k < 512; omega), ?_⟩⟩
    · exfalso
      have := nle c (a := 512) rfl rfl
      omega
    · rw [nI_1]
      refine begin_loop hS hQ d (k + 1) _ (by omega) (hx.trans (rX_I rfl)) (fun i hi => ?_)
      by_cases e : i = k
      · rw [xI_sI, if_pos ⟨rfl, e⟩]
      · rw [xI_sI, if_neg (fun z => e z.2)]; exact h i (by omega)
theorem sX10_beginSheet (hS : rS M y ad) (hQ : ∀ M1, rX (fun a _ => a = ad 25) M M1 → rB M1 ad (fun _ => 0) → Q none M1) : xSp l g mX10_beginSheet 0 0 [va_rf (some y)] M Q :=
  eX10_beginSheet _ (bX10_beginSheet_0 _ (begin_loop hS hQ 512 0 M (by omega) rX.rf (fun i hi => by omega)))
theorem number_loop {i n : Nat} {v : Int64} {w4 : Value} (hS : rS M y ad) (h8 : n ≤ 8) (hi : i + n ≤ 512) (hf : ∀ x, f x < 256) (hQ : ∀ M1, rX (fun a _ => a = ad 25) M M1 → rB M1 ad (setN f i n v) → Q none M1) :
    ∀ (d k : Nat) (M1 : xM), n = k + d → rX (fun a _ => a = ad 25) M M1 → (∀ x, x < 512 → xI M1 (ad 25) x = nI (if x < i + k then setN f i n v x else f x)) → xWp l g mX10_number 0 0 3 [(1, va_rf (some y)), (1, .int (nI i)), (1, .int (nI n)), (2, .long v), (0, w4), (1, .int (nI k))] [] (0, 0) M1 Q
  | 0, k, M1, hd, hx, h => by
    have hk : k = n := by omega
    subst hk
    refine bX10_number_3 _ _ _ _ _ _ ⟨fun _ => hQ M1 hx ⟨fun x hx2 => ?_, fun x => ?_⟩, fun c => absurd (Int32.le_refl _) c⟩
    · rw [h x hx2]
      by_cases e : x < i + k
      · rw [if_pos e]
      · rw [if_neg e]; unfold setN; rw [if_neg (by omega)]
    · unfold setN
      split
      · exact Nat.mod_lt _ (by decide)
      · exact hf x
  | d + 1, k, M1, hd, hx, h => by
    have hS1 := hx.sS hS
    refine bX10_number_3 _ _ _ _ _ _ ⟨fun c => ?_, fun _ => ⟨hS1.1, ad 25, (hS1.2.1 25 (by decide)).1, i + k, by rw [nI_add]; exact hS1.ai (j := 25) (by decide) (by show i + k < 512; omega), ?_⟩⟩
    · exfalso
      have := nle c rfl rfl
      omega
    · have e1 : nI n - 1 - nI k = nI (n - 1 - k) := by
        have h1 : nI n - 1 = nI (n - 1) := by
          have : n = (n - 1) + 1 := by omega
          rw [this, nI_pred, Nat.add_sub_cancel]
        rw [h1]
        have := nI_sb (n - 1 - k) k
        rw [show n - 1 - k + k = n - 1 by omega] at this
        exact this
      rw [e1, ty_byteR v (by omega), nI_1]
      refine number_loop hS h8 hi hf hQ d (k + 1) _ (by omega) (hx.trans (rX_I rfl)) (fun x hx2 => ?_)
      by_cases e : x = i + k
      · rw [xI_sI, if_pos ⟨rfl, e⟩, if_pos (by omega)]
        unfold setN
        rw [if_pos (by omega), show x - i = k by omega]
      · rw [xI_sI, if_neg (fun z => e z.2), h x hx2]
        by_cases e2 : x < i + k
        · rw [if_pos e2, if_pos (by omega)]
        · rw [if_neg e2, if_neg (by omega)]
theorem sX10_number {i n : Nat} {v : Int64} (hS : rS M y ad) (hb : rB M ad f) (h8 : n ≤ 8) (hi : i + n ≤ 512) (hQ : ∀ M1, rX (fun a _ => a = ad 25) M M1 → rB M1 ad (setN f i n v) → Q none M1) : xSp l g mX10_number 0 0 [va_rf (some y), .int (nI i), .int (nI n), .long v] M Q :=
  eX10_number _ _ _ _ (bX10_number_0 _ _ _ _ (number_loop hS h8 hi hb.2 hQ n 0 M (by omega) rX.rf (fun x hx => by
    rw [hb.1 x hx]
    by_cases e : x < i + 0
    · rw [if_pos e]; unfold setN; rw [if_neg (by omega)]
    · rw [if_neg e])))
end RSH
