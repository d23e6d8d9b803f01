/-! Pages, as the reference reads them. -/
/-- the number that bytes stand for -/
def nv (f : Nat → Nat) (i : Nat) : Nat → Nat
  | 0 => 0
  | k + 1 => nv f i k * 256 + f (i + k)
theorem nv_lt {f : Nat → Nat} (hf : ∀ x, f x < 256) (i : Nat) : ∀ k, nv f i k < 256 ^ k
  | 0 => by show 0 < 1; omega
  | k + 1 => by
    have h1 := nv_lt hf i k
    have h2 := hf (i + k)
    rw [Nat.pow_succ]
    show nv f i k * 256 + f (i + k) < _
    omega
theorem l_step (x : Int64) {b n : Nat} (hx : x.toUInt64.toNat = n) (hn : n * 256 + 255 < 2 ^ 64) (hb : b < 256) : ((x <<< ((8 : Int32).toInt64 &&& 63)) ||| (nI b).toInt64).toUInt64.toNat = n * 256 + b := by
  have e8 : ((8 : Int32).toInt64 &&& 63) = 8 := by decide
  rw [e8]
  have hb2 : (nI b).toInt64 = Int64.ofNat b := by
    apply Int64.toInt_inj.mp
    have h1 : (nI b).toInt = b := Int32.toInt_ofNat_of_lt (by omega)
    have h2 : (Int64.ofNat b).toInt = b := Int64.toInt_ofNat_of_lt (by omega)
    rw [Int32.toInt_toInt64, h1, h2]
  rw [hb2]
  have e1 : ((x <<< (8 : Int64)) ||| Int64.ofNat b).toUInt64.toNat = ((x <<< (8 : Int64)) ||| Int64.ofNat b).toBitVec.toNat := rfl
  rw [e1, Int64.toBitVec_or, BitVec.toNat_or]
  have e2 : (x <<< (8 : Int64)).toBitVec.toNat = n * 256 := by
    rw [Int64.toBitVec_shiftLeft]
    have : ((8 : Int64).toBitVec.smod 64) = 8#64 := by decide
    rw [this, BitVec.shiftLeft_eq', BitVec.toNat_shiftLeft, show (8#64).toNat = 8 from rfl]
    have h3 : x.toBitVec.toNat = n := hx
    rw [h3, Nat.shiftLeft_eq]
    omega
  have e3 : (Int64.ofNat b).toBitVec.toNat = b := by
    show (BitVec.ofNat 64 b).toNat = b
    rw [BitVec.toNat_ofNat]
    omega
  rw [e2, e3]
  have := Nat.shiftLeft_add_eq_or_of_lt (b := b) (i := 8) (by omega) n
  rw [Nat.shiftLeft_eq, show (2 : Nat) ^ 8 = 256 from rfl] at this
  exact this.symm
theorem lNm_nv {f : Nat → Nat} (hf : ∀ x, f x < 256) (i : Nat) : ∀ k, k ≤ 8 → (lNm f i k).toUInt64.toNat = nv f i k
  | 0, _ => rfl
  | k + 1, hk => by
    have h1 := nv_lt hf i k
    have h2 : 256 ^ k ≤ 256 ^ 7 := Nat.pow_le_pow_right (by omega) (by omega)
    exact l_step _ (lNm_nv hf i k (by omega)) (by omega) (hf _)
theorem i64_nat {a b : Int64} (h : a.toUInt64.toNat = b.toUInt64.toNat) : a = b := by
  apply Int64.toBitVec_inj.mp
  exact BitVec.eq_of_toNat_eq h
theorem nv_div {f : Nat → Nat} (hf : ∀ x, f x < 256) (i : Nat) : ∀ (d k : Nat), nv f i (k + 1 + d) / 256 ^ d % 256 = f (i + k)
  | 0, k => by
    have := hf (i + k)
    show (nv f i k * 256 + f (i + k)) / 256 ^ 0 % 256 = _
    rw [Nat.pow_zero, Nat.div_one]
    omega
  | d + 1, k => by
    have h1 := nv_div hf i d k
    have h2 := hf (i + (k + 1 + d))
    rw [show k + 1 + (d + 1) = (k + 1 + d) + 1 by omega]
    show (nv f i (k + 1 + d) * 256 + f (i + (k + 1 + d))) / 256 ^ (d + 1) % 256 = _
    rw [Nat.pow_succ, Nat.mul_comm (256 ^ d) 256, ← Nat.div_div_eq_div_mul, show (nv f i (k + 1 + d) * 256 + f (i + (k + 1 + d))) / 256 = nv f i (k + 1 + d) by omega]
    exact h1
theorem lB_pow (j : Int64) {k : Nat} : lB j k = (j.toUInt64.toNat / 256 ^ (7 - k)) % 256 := by
  unfold lB
  rw [Nat.pow_mul]
theorem lNm_lB {f : Nat → Nat} (hf : ∀ x, f x < 256) {i k : Nat} (hk : k < 8) : lB (lNm f i 8) k = f (i + k) := by
  rw [lB_pow, lNm_nv hf i 8 (by omega)]
  have := nv_div hf i (7 - k) k
  rw [show k + 1 + (7 - k) = 8 by omega] at this
  exact this
theorem nv_of {f : Nat → Nat} {i N : Nat} (h : ∀ k, k < 8 → f (i + k) = N / 256 ^ (7 - k) % 256) (hN : N < 2 ^ 64) : ∀ k, k ≤ 8 → nv f i k = N / 256 ^ (8 - k)
  | 0, _ => by
    show 0 = _
    rw [Nat.div_eq_of_lt]
    exact hN
  | k + 1, hk => by
    have h1 := nv_of h hN k (by omega)
    show nv f i k * 256 + f (i + k) = _
    rw [h1, h k (by omega), show 8 - k = (7 - k) + 1 by omega, Nat.pow_succ, ← Nat.div_div_eq_div_mul, show 8 - (k + 1) = 7 - k by omega]
    omega
theorem lNm_of {f : Nat → Nat} (hf : ∀ x, f x < 256) {i : Nat} {j : Int64} (h : ∀ k, k < 8 → f (i + k) = lB j k) : lNm f i 8 = j := by
  apply i64_nat
  rw [lNm_nv hf i 8 (by omega), nv_of (N := j.toUInt64.toNat) (fun k hk => by rw [h k hk, lB_pow]) (UInt64.toNat_lt _) 8 (by omega)]
  simp
theorem sm_congr {f h : Nat → Nat} : ∀ k, (∀ x, x < k → f x = h x) → sm f k = sm h k
  | 0, _ => rfl
  | k + 1, hh => by
    show smS (sm f k) (f k) = smS (sm h k) (h k)
    rw [sm_congr k (fun x hx => hh x (by omega)), hh k (by omega)]
/-- a page that is sealed: what is below 504 is right, and the sum is right -/
theorem seal_iff {f h : Nat → Nat} (hf : ∀ x, f x < 256) : (∀ i, i < 512 → f i = sealF h i) ↔ (∀ i, i < 504 → f i = h i) ∧ lNm f 504 8 = sm f 504 := by
  have lo : ∀ i, i < 504 → sealF h i = h i := fun i hi => by
    unfold sealF setL
    rw [if_neg (by omega)]
  have hi : ∀ k, k < 8 → sealF h (504 + k) = lB (sm h 504) k := fun k hk => by
    unfold sealF setL
    rw [if_pos (by omega), show 504 + k - 504 = k by omega]
  constructor
  · intro z
    have z1 : ∀ i, i < 504 → f i = h i := fun i hi => by rw [z i (by omega), lo i hi]
    refine ⟨z1, lNm_of hf (fun k hk => ?_)⟩
    rw [z _ (by omega), hi k hk, sm_congr 504 z1]
  · rintro ⟨z1, z2⟩ i h512
    by_cases h504 : i < 504
    · rw [z1 i h504, lo i h504]
    · have := hi (i - 504) (by omega)
      rw [show 504 + (i - 504) = i by omega] at this
      rw [this, ← sm_congr 504 z1, ← z2, lNm_lB hf (by omega), show 504 + (i - 504) = i by omega]
/-- a cell of a node's table, as the reference reads it: wrong, nothing, a child -/
def enC (f : Nat → Nat) (e k : Nat) : Option (Option (Nat × Nat)) :=
  if f 0 < 3 then (if e < f 23 then some (some (f (24 + e), f (24 + fRoom (f 0) + e))) else if f (24 + e) = 0 ∧ f (24 + fRoom (f 0) + e) = 0 then some none else none)
  else if f (24 + e) = 0 then some none
  else if f 0 = 4 then some (some (e, f (24 + e)))
  else if f (24 + e) = k + 1 ∧ k + 1 ≤ 48 then some (some (e, f (280 + k))) else none
/-- the children, as the reference reads them -/
noncomputable def rdL (f : Nat → Nat) : Nat → Nat → Nat → Option (List (Nat × Nat))
  | 0, _, k => @ite _ ((f 0 = 3 → ∀ j, k ≤ j → j < 48 → f (280 + j) = 0) ∧ k = f 23) (Classical.propDecidable _) (some []) none
  | d + 1, e, k => match enC f e k with
    | none => none
    | some none => rdL f d (e + 1) k
    | some (some c) => if k = f 23 then none else (rdL f d (e + 1) (k + 1)).map (fun r => c :: r)
def rCl (F : Nat) : Nat := if F < 3 then fRoom F else 256
def rEn (F : Nat) : Nat := if F < 3 then 24 + 2 * fRoom F else if F = 3 then 328 else 280
section PG
variable {f : Nat → Nat}
theorem rdL_0 {e k : Nat} {cs : List (Nat × Nat)} : rdL f 0 e k = some cs ↔ (((f 0 = 3 → ∀ j, k ≤ j → j < 48 → f (280 + j) = 0) ∧ k = f 23) ∧ cs = []) := by
  show (@ite _ _ (Classical.propDecidable _) (some []) none : Option (List (Nat × Nat))) = some cs ↔ _
  constructor
  · intro h
    split at h
    · rename_i hc
      injection h with h
      exact ⟨hc, h.symm⟩
    · cases h
  · rintro ⟨h, rfl⟩
    rw [if_pos h]
theorem rdL_skip {d e k : Nat} (h : enC f e k = some none) : rdL f (d + 1) e k = rdL f d (e + 1) k := by
  show (match enC f e k with | none => none | some none => rdL f d (e + 1) k | some (some c) => _) = _
  rw [h]
theorem rdL_bad {d e k : Nat} (h : enC f e k = none) : rdL f (d + 1) e k = none := by
  show (match enC f e k with | none => none | some none => rdL f d (e + 1) k | some (some c) => _) = _
  rw [h]
theorem rdL_child {d e k : Nat} {c : Nat × Nat} {cs : List (Nat × Nat)} (h : enC f e k = some (some c)) : rdL f (d + 1) e k = some cs ↔ (k ≠ f 23 ∧ ∃ r, rdL f d (e + 1) (k + 1) = some r ∧ cs = c :: r) := by
  have e1 : rdL f (d + 1) e k = (if k = f 23 then none else (rdL f d (e + 1) (k + 1)).map (fun r => c :: r)) := by
    show (match enC f e k with | none => none | some none => rdL f d (e + 1) k | some (some c) => _) = _
    rw [h]
  rw [e1]
  by_cases hk : k = f 23
  · rw [if_pos hk]
    constructor
    · intro z; cases z
    · intro z; exact absurd hk z.1
  · rw [if_neg hk, Option.map_eq_some_iff]
    constructor
    · rintro ⟨r, h1, h2⟩; exact ⟨hk, r, h1, h2.symm⟩
    · rintro ⟨-, r, h1, h2⟩; exact ⟨r, h1, h2.symm⟩
theorem rdL_Mg (hF : 3 ≤ f 0) : ∀ (d e k : Nat) (cs : List (Nat × Nat)), rdL f d e k = some cs → cs = pgMg f d e k
  | 0, e, k, cs, h => (rdL_0.mp h).2
  | d + 1, e, k, cs, h => by
    show cs = if f (24 + e) = 0 then pgMg f d (e + 1) k else (e, if f 0 = 4 then f (24 + e) else f (280 + k)) :: pgMg f d (e + 1) (k + 1)
    have e0 : enC f e k = (if f (24 + e) = 0 then some none else if f 0 = 4 then some (some (e, f (24 + e))) else if f (24 + e) = k + 1 ∧ k + 1 ≤ 48 then some (some (e, f (280 + k))) else none) := by
      unfold enC
      rw [if_neg (by omega)]
    by_cases h0 : f (24 + e) = 0
    · rw [if_pos h0] at e0 ⊢
      rw [rdL_skip e0] at h
      exact rdL_Mg hF d (e + 1) k cs h
    · rw [if_neg h0] at e0 ⊢
      by_cases h4 : f 0 = 4
      · rw [if_pos h4] at e0 ⊢
        obtain ⟨-, r, h1, h2⟩ := (rdL_child e0).mp h
        rw [h2, rdL_Mg hF d (e + 1) (k + 1) r h1]
      · rw [if_neg h4] at e0 ⊢
        by_cases hk : f (24 + e) = k + 1 ∧ k + 1 ≤ 48
        · rw [if_pos hk] at e0
          obtain ⟨-, r, h1, h2⟩ := (rdL_child e0).mp h
          rw [h2, rdL_Mg hF d (e + 1) (k + 1) r h1]
        · rw [if_neg hk] at e0
          rw [rdL_bad e0] at h; cases h
/-- format 4 -/
theorem rdL_4 (hF : f 0 = 4) : ∀ (d e k : Nat), rdL f d e k = some (pgMg f d e k) ↔ k + (pgMg f d e k).length = f 23
  | 0, e, k => by
    rw [rdL_0]
    show _ ↔ k + 0 = f 23
    constructor
    · intro h; exact h.1.2
    · intro h; exact ⟨⟨fun z => by omega, h⟩, rfl⟩
  | d + 1, e, k => by
    have e0 : enC f e k = (if f (24 + e) = 0 then some none else some (some (e, f (24 + e)))) := by
      unfold enC
      rw [if_neg (by omega), if_pos hF]
    have e1 : pgMg f (d + 1) e k = if f (24 + e) = 0 then pgMg f d (e + 1) k else (e, f (24 + e)) :: pgMg f d (e + 1) (k + 1) := by
      show (if f (24 + e) = 0 then pgMg f d (e + 1) k else (e, if f 0 = 4 then f (24 + e) else f (280 + k)) :: pgMg f d (e + 1) (k + 1)) = _
      rw [if_pos hF]
    by_cases h0 : f (24 + e) = 0
    · rw [if_pos h0] at e0 e1
      rw [rdL_skip e0, e1]
      exact rdL_4 hF d (e + 1) k
    · rw [if_neg h0] at e0 e1
      rw [rdL_child e0, e1, List.length_cons]
      have ih := rdL_4 hF d (e + 1) (k + 1)
      constructor
      · rintro ⟨-, r, h1, h2⟩
        injection h2 with _ h2
        rw [← h2] at h1
        have := ih.mp h1
        omega
      · intro h
        exact ⟨by omega, _, ih.mpr (by omega), rfl⟩
theorem tab_4 : ∀ (d e k k2 : Nat) (g : Nat → Nat), f 0 = 4 → e + d = 256 → (∀ i, 24 + e ≤ i → i < 280 → g i = 0) → ∀ i, tabF 4 (pgMg f d e k) k2 g i = if 24 + e ≤ i ∧ i < 280 then f i else g i
  | 0, e, k, k2, g, hF, hd, hg, i => by
    rw [if_neg (by omega)]; rfl
  | d + 1, e, k, k2, g, hF, hd, hg, i => by
    have e1 : pgMg f (d + 1) e k = if f (24 + e) = 0 then pgMg f d (e + 1) k else (e, f (24 + e)) :: pgMg f d (e + 1) (k + 1) := by
      show (if f (24 + e) = 0 then pgMg f d (e + 1) k else (e, if f 0 = 4 then f (24 + e) else f (280 + k)) :: pgMg f d (e + 1) (k + 1)) = _
      rw [if_pos hF]
    rw [e1]
    by_cases h0 : f (24 + e) = 0
    · rw [if_pos h0, tab_4 d (e + 1) k k2 g hF (by omega) (fun i a b => hg i (by omega) b) i]
      by_cases hi : i = 24 + e
      · rw [if_neg (by omega), if_pos (by omega), hi, h0]; exact hg _ (by omega) (by omega)
      · by_cases h : 24 + e ≤ i ∧ i < 280
        · rw [if_pos (by omega), if_pos h]
        · rw [if_neg (by omega), if_neg h]
    · rw [if_neg h0]
      show tabF 4 (pgMg f d (e + 1) (k + 1)) (k2 + 1) (va_up g (24 + e) (f (24 + e))) i = _
      rw [tab_4 d (e + 1) (k + 1) (k2 + 1) _ hF (by omega) (fun i a b => by rw [va_up_ne _ _ (by omega)]; exact hg i (by omega) b) i]
      by_cases hi : i = 24 + e
      · rw [if_neg (by omega), if_pos (by omega), hi, va_up_self]
      · by_cases h : 24 + e ≤ i ∧ i < 280
        · rw [if_pos (by omega), if_pos h]
        · rw [if_neg (by omega), if_neg h, va_up_ne _ _ hi]
/-- format 3 -/
theorem tab_3o : ∀ (d e k : Nat) (g : Nat → Nat), f 0 = 3 → e + d = 256 → ∀ i, (i < 24 + e ∨ (280 ≤ i ∧ i < 280 + k)) → tabF 3 (pgMg f d e k) k g i = g i
  | 0, e, k, g, hF, hd, i, hi => rfl
  | d + 1, e, k, g, hF, hd, i, hi => by
    have e1 : pgMg f (d + 1) e k = if f (24 + e) = 0 then pgMg f d (e + 1) k else (e, f (280 + k)) :: pgMg f d (e + 1) (k + 1) := by
      show (if f (24 + e) = 0 then pgMg f d (e + 1) k else (e, if f 0 = 4 then f (24 + e) else f (280 + k)) :: pgMg f d (e + 1) (k + 1)) = _
      rw [if_neg (show ¬ f 0 = 4 by omega)]
    rw [e1]
    by_cases h0 : f (24 + e) = 0
    · rw [if_pos h0]
      exact tab_3o d (e + 1) k g hF (by omega) i (by omega)
    · rw [if_neg h0]
      show tabF 3 (pgMg f d (e + 1) (k + 1)) (k + 1) (va_up (va_up g (24 + e) (k + 1)) (280 + k) (f (280 + k))) i = _
      rw [tab_3o d (e + 1) (k + 1) _ hF (by omega) i (by omega), va_up_ne _ _ (by omega), va_up_ne _ _ (by omega)]
theorem tab_3 (h23 : f 23 ≤ 48) : ∀ (d e k : Nat) (g : Nat → Nat), f 0 = 3 → e + d = 256 → (∀ i, 24 + e ≤ i → i < 280 → g i = 0) → (∀ i, 280 + k ≤ i → g i = 0) →
    (((∀ i, (24 + e ≤ i ∧ i < 280) ∨ (280 + k ≤ i ∧ i < 504) → f i = tabF 3 (pgMg f d e k) k g i) ∧ k + (pgMg f d e k).length = f 23) ↔ (rdL f d e k = some (pgMg f d e k) ∧ ∀ i, 328 ≤ i → i < 504 → f i = 0))
  | 0, e, k, g, hF, hd, hg, hg2 => by
    rw [rdL_0]
    show (_ ∧ k + 0 = f 23) ↔ _
    constructor
    · rintro ⟨h1, h2⟩
      have h3 : ∀ i, 280 + k ≤ i → i < 504 → f i = 0 := fun i a b => by
        rw [h1 i (Or.inr ⟨a, b⟩)]; exact hg2 i a
      exact ⟨⟨⟨fun _ j a b => h3 _ (by omega) (by omega), h2⟩, rfl⟩, fun i a b => h3 i (by omega) b⟩
    · rintro ⟨⟨⟨h1, h2⟩, -⟩, h3⟩
      refine ⟨fun i hi => ?_, h2⟩
      show f i = g i
      rcases hi with hi | hi
      · omega
      · rw [hg2 i hi.1]
        by_cases h : i < 328
        · have := h1 hF (i - 280) (by omega) (by omega)
          rw [show 280 + (i - 280) = i by omega] at this
          exact this
        · exact h3 i (by omega) hi.2
  | d + 1, e, k, g, hF, hd, hg, hg2 => by
    have e0 : enC f e k = (if f (24 + e) = 0 then some none else if f (24 + e) = k + 1 ∧ k + 1 ≤ 48 then some (some (e, f (280 + k))) else none) := by
      unfold enC
      rw [if_neg (by omega), if_neg (show ¬ f 0 = 4 by omega)]
    have e1 : pgMg f (d + 1) e k = if f (24 + e) = 0 then pgMg f d (e + 1) k else (e, f (280 + k)) :: pgMg f d (e + 1) (k + 1) := by
      show (if f (24 + e) = 0 then pgMg f d (e + 1) k else (e, if f 0 = 4 then f (24 + e) else f (280 + k)) :: pgMg f d (e + 1) (k + 1)) = _
      rw [if_neg (show ¬ f 0 = 4 by omega)]
    by_cases h0 : f (24 + e) = 0
    · rw [if_pos h0] at e0 e1
      rw [rdL_skip e0, e1, ← tab_3 h23 d (e + 1) k g hF (by omega) (fun i a b => hg i (by omega) b) hg2]
      constructor
      · rintro ⟨h1, h2⟩
        exact ⟨fun i hi => h1 i (by omega), h2⟩
      · rintro ⟨h1, h2⟩
        refine ⟨fun i hi => ?_, h2⟩
        by_cases h : i = 24 + e
        · rw [tab_3o d (e + 1) k g hF (by omega) i (by omega), h, h0, hg _ (by omega) (by omega)]
        · exact h1 i (by omega)
    · rw [if_neg h0] at e0 e1
      have e2 : ∀ i, tabF 3 ((e, f (280 + k)) :: pgMg f d (e + 1) (k + 1)) k g i = tabF 3 (pgMg f d (e + 1) (k + 1)) (k + 1) (va_up (va_up g (24 + e) (k + 1)) (280 + k) (f (280 + k))) i := fun i => rfl
      have ih := tab_3 h23 d (e + 1) (k + 1) (va_up (va_up g (24 + e) (k + 1)) (280 + k) (f (280 + k))) hF (by omega) (fun i a b => by rw [va_up_ne _ _ (by omega), va_up_ne _ _ (by omega)]; exact hg i (by omega) b) (fun i a => by rw [va_up_ne _ _ (by omega), va_up_ne _ _ (by omega)]; exact hg2 i (by omega))
      rw [e1, List.length_cons]
      constructor
      · rintro ⟨h1, h2⟩
        have h3 : f (24 + e) = k + 1 := by
          rw [h1 (24 + e) (Or.inl ⟨by omega, by omega⟩), e2, tab_3o d (e + 1) (k + 1) _ hF (by omega) _ (by omega), va_up_ne _ _ (by omega), va_up_self]
        rw [if_pos ⟨h3, by omega⟩] at e0
        obtain ⟨i1, i2⟩ := ih.mp ⟨fun i hi => by rw [← e2]; exact h1 i (by omega), by omega⟩
        exact ⟨(rdL_child e0).mpr ⟨by omega, _, i1, rfl⟩, i2⟩
      · rintro ⟨h1, h2⟩
        by_cases hk : f (24 + e) = k + 1 ∧ k + 1 ≤ 48
        · rw [if_pos hk] at e0
          obtain ⟨-, r, h3, h4⟩ := (rdL_child e0).mp h1
          injection h4 with _ h4
          rw [← h4] at h3
          obtain ⟨i1, i2⟩ := ih.mpr ⟨h3, h2⟩
          refine ⟨fun i hi => ?_, by omega⟩
          rw [e2]
          by_cases ha : i = 24 + e
          · rw [tab_3o d (e + 1) (k + 1) _ hF (by omega) _ (by omega), ha, va_up_ne _ _ (by omega), va_up_self]; exact hk.1
          · by_cases hb : i = 280 + k
            · rw [tab_3o d (e + 1) (k + 1) _ hF (by omega) _ (by omega), hb, va_up_self]
            · exact i1 i (by omega)
        · rw [if_neg hk] at e0
          rw [rdL_bad e0] at h1; cases h1
/-- formats 1 and 2 -/
theorem rdL_1 (hF : f 0 < 3) : ∀ (d e : Nat) (cs : List (Nat × Nat)), e + d = fRoom (f 0) → f 23 ≤ fRoom (f 0) → (rdL f d e (min e (f 23)) = some cs ↔ (cs = (List.range' e (f 23 - e)).map (fun k => (f (24 + k), f (24 + fRoom (f 0) + k))) ∧ ∀ j, e ≤ j → f 23 ≤ j → j < fRoom (f 0) → f (24 + j) = 0 ∧ f (24 + fRoom (f 0) + j) = 0))
  | 0, e, cs, hd, h23 => by
    rw [rdL_0, show f 23 - e = 0 by omega]
    constructor
    · rintro ⟨⟨-, h1⟩, h2⟩
      exact ⟨h2, fun j a b c => by omega⟩
    · rintro ⟨h1, -⟩
      exact ⟨⟨fun z => by omega, by omega⟩, h1⟩
  | d + 1, e, cs, hd, h23 => by
    have e0 : enC f e (min e (f 23)) = (if e < f 23 then some (some (f (24 + e), f (24 + fRoom (f 0) + e))) else if f (24 + e) = 0 ∧ f (24 + fRoom (f 0) + e) = 0 then some none else none) := by
      unfold enC
      rw [if_pos hF]
    by_cases he : e < f 23
    · rw [if_pos he] at e0
      rw [rdL_child e0, show min e (f 23) + 1 = min (e + 1) (f 23) by omega]
      constructor
      · rintro ⟨-, r, h1, h2⟩
        obtain ⟨i1, i2⟩ := (rdL_1 hF d (e + 1) r (by omega) h23).mp h1
        refine ⟨?_, fun j a b c => i2 j (by omega) b c⟩
        rw [h2, i1, show f 23 - e = (f 23 - (e + 1)) + 1 by omega, List.range'_succ, List.map_cons]
      · rintro ⟨h1, h2⟩
        refine ⟨by omega, _, (rdL_1 hF d (e + 1) _ (by omega) h23).mpr ⟨rfl, fun j a b c => h2 j (by omega) b c⟩, ?_⟩
        rw [h1, show f 23 - e = (f 23 - (e + 1)) + 1 by omega, List.range'_succ, List.map_cons]
    · rw [if_neg he] at e0
      by_cases hz : f (24 + e) = 0 ∧ f (24 + fRoom (f 0) + e) = 0
      · rw [if_pos hz] at e0
        rw [rdL_skip e0, show min e (f 23) = min (e + 1) (f 23) by omega, rdL_1 hF d (e + 1) cs (by omega) h23, show f 23 - (e + 1) = f 23 - e by omega, show f 23 - e = 0 by omega]
        constructor
        · rintro ⟨h1, h2⟩
          refine ⟨h1, fun j a b c => ?_⟩
          by_cases hj : j = e
          · rw [hj]; exact hz
          · exact h2 j (by omega) b c
        · rintro ⟨h1, h2⟩
          exact ⟨h1, fun j a b c => h2 j (by omega) b c⟩
      · rw [if_neg hz] at e0
        rw [rdL_bad e0]
        constructor
        · intro z; cases z
        · rintro ⟨-, h2⟩
          exact absurd (h2 e (by omega) (by omega) (by omega)) hz
theorem tab_1 (hF : f 0 < 3) : ∀ (m e : Nat) (g : Nat → Nat), e + m ≤ fRoom (f 0) → ∀ i, tabF (f 0) ((List.range' e m).map (fun k => (f (24 + k), f (24 + fRoom (f 0) + k)))) e g i = if (24 + e ≤ i ∧ i < 24 + e + m) ∨ (24 + fRoom (f 0) + e ≤ i ∧ i < 24 + fRoom (f 0) + e + m) then f i else g i
  | 0, e, g, hm, i => by
    rw [if_neg (by omega)]; rfl
  | m + 1, e, g, hm, i => by
    rw [List.range'_succ, List.map_cons]
    show tabF (f 0) _ (e + 1) (tab1 (f 0) e (f (24 + e)) (f (24 + fRoom (f 0) + e)) g) i = _
    have e1 : tab1 (f 0) e (f (24 + e)) (f (24 + fRoom (f 0) + e)) g = va_up (va_up g (24 + e) (f (24 + e))) (24 + fRoom (f 0) + e) (f (24 + fRoom (f 0) + e)) := by
      unfold tab1
      rw [if_neg (by omega), if_neg (by omega)]
    rw [e1, tab_1 hF m (e + 1) _ (by omega) i]
    generalize fRoom (f 0) = R at *
    by_cases h : (24 + (e + 1) ≤ i ∧ i < 24 + (e + 1) + m) ∨ (24 + R + (e + 1) ≤ i ∧ i < 24 + R + (e + 1) + m)
    · rw [if_pos h, if_pos (by omega)]
    · rw [if_neg h]
      by_cases h1 : i = 24 + R + e
      · rw [h1, va_up_self, if_pos (by omega)]
      · rw [va_up_ne _ _ h1]
        by_cases h2 : i = 24 + e
        · rw [h2, va_up_self, if_pos (by omega)]
        · rw [va_up_ne _ _ h2, if_neg (by omega)]
theorem rdL_pgC (hF : 1 ≤ f 0 ∧ f 0 ≤ 4) (h23 : f 23 ≤ fRoom (f 0)) {cs : List (Nat × Nat)} (h : rdL f (rCl (f 0)) 0 0 = some cs) : cs = pgC f := by
  unfold rCl at h
  unfold pgC
  by_cases h3 : f 0 < 3
  · rw [if_pos h3] at h ⊢
    have e0 : min 0 (f 23) = 0 := by omega
    have := (rdL_1 h3 (fRoom (f 0)) 0 cs (by omega) h23)
    rw [e0] at this
    rw [(this.mp h).1, Nat.sub_zero]
    unfold pgL
    rw [List.range_eq_range']
  · rw [if_neg h3] at h ⊢
    exact rdL_Mg (by omega) 256 0 0 cs h
end PG
section PG2
variable {f : Nat → Nat}
theorem tab_lo24 (F : Nat) : ∀ (cs : List (Nat × Nat)) (k : Nat) (g : Nat → Nat) (i : Nat), i < 24 → tabF F cs k g i = g i
  | [], _, _, _, _ => rfl
  | (e, p) :: r, k, g, i, hi => by
    show tabF F r (k + 1) (tab1 F k e p g) i = g i
    rw [tab_lo24 F r (k + 1) _ i hi]
    unfold tab1
    split
    · rw [va_up_ne _ _ (by omega)]
    · split
      · rw [va_up_ne _ _ (by omega), va_up_ne _ _ (by omega)]
      · rw [va_up_ne _ _ (by omega), va_up_ne _ _ (by omega)]
/-- what stands before a node's table -/
def ndB (F : Nat) (v : Option Int64) (X : List Nat) (m : Nat) : Nat → Nat := va_up (pfxF (va_up (setL (va_up (va_up (fun _ => 0) 0 F) 1 (if v.isSome = true then 1 else 0)) 2 (v.getD 0)) 10 X.length) X) 23 m
theorem ndF_B (F : Nat) (v : Option Int64) (X : List Nat) (cs : List (Nat × Nat)) : ndF F v X cs = sealF (tabF F cs 0 (ndB F v X cs.length)) := rfl
section NB
variable {F m : Nat} {v : Option Int64} {X : List Nat}
theorem ndB_hi (hX : X.length ≤ 12) {i : Nat} (hi : 24 ≤ i) : ndB F v X m i = 0 := by
  unfold ndB
  rw [va_up_ne _ _ (by omega)]
  unfold pfxF
  rw [if_neg (by omega), va_up_ne _ _ (by omega)]
  unfold setL
  rw [if_neg (by omega), va_up_ne _ _ (by omega), va_up_ne _ _ (by omega)]
theorem ndB_0 : ndB F v X m 0 = F := by
  unfold ndB
  rw [va_up_ne _ _ (by omega)]
  unfold pfxF
  rw [if_neg (by omega), va_up_ne _ _ (by omega)]
  unfold setL
  rw [if_neg (by omega), va_up_ne _ _ (by omega), va_up_self]
theorem ndB_1 : ndB F v X m 1 = (if v.isSome = true then 1 else 0) := by
  unfold ndB
  rw [va_up_ne _ _ (by omega)]
  unfold pfxF
  rw [if_neg (by omega), va_up_ne _ _ (by omega)]
  unfold setL
  rw [if_neg (by omega), va_up_self]
theorem ndB_2 {k : Nat} (hk : k < 8) : ndB F v X m (2 + k) = lB (v.getD 0) k := by
  unfold ndB
  rw [va_up_ne _ _ (by omega)]
  unfold pfxF
  rw [if_neg (by omega), va_up_ne _ _ (by omega)]
  unfold setL
  rw [if_pos (by omega), show 2 + k - 2 = k by omega]
theorem ndB_10 : ndB F v X m 10 = X.length := by
  unfold ndB
  rw [va_up_ne _ _ (by omega)]
  unfold pfxF
  rw [if_neg (by omega), va_up_self]
theorem ndB_11 {k : Nat} (hk : k < 12) : ndB F v X m (11 + k) = X.getD k 0 := by
  unfold ndB
  rw [va_up_ne _ _ (by omega)]
  unfold pfxF
  by_cases h : k < X.length
  · rw [if_pos (by omega), show 11 + k - 11 = k by omega]
  · rw [if_neg (by omega), va_up_ne _ _ (by omega)]
    unfold setL
    rw [if_neg (by omega), va_up_ne _ _ (by omega), va_up_ne _ _ (by omega)]
    simp [List.getD_eq_getElem?_getD, List.getElem?_eq_none (Nat.le_of_not_lt h)]
theorem ndB_23 : ndB F v X m 23 = m := by
  unfold ndB
  rw [va_up_self]
end NB
theorem lB_0 (k : Nat) : lB 0 k = 0 := by
  unfold lB
  have : (0 : Int64).toUInt64.toNat = 0 := rfl
  rw [this]
  simp
theorem pgX_len : (pgX f).length = f 10 := by unfold pgX; rw [List.length_map, List.length_range]
theorem pgX_get (k : Nat) : (pgX f).getD k 0 = if k < f 10 then f (11 + k) else 0 := by
  unfold pgX
  by_cases h : k < f 10
  · rw [if_pos h]
    simp [List.getD_eq_getElem?_getD, h]
  · rw [if_neg h]
    simp [List.getD_eq_getElem?_getD, h]
/-- what the reference asks of the bytes before the table -/
def pgLo (f : Nat → Nat) : Prop := (f 1 ≤ 1 ∧ (f 1 = 0 → lNm f 2 8 = 0)) ∧ ∀ k, f 10 ≤ k → k < 12 → f (11 + k) = 0
theorem pgLo_iff (hf : ∀ x, f x < 256) : (∀ i, i < 24 → f i = ndB (f 0) (pgV f) (pgX f) (pgC f).length i) ↔ pgLo f ∧ f 23 = (pgC f).length := by
  constructor
  · intro h
    have h1 := h 1 (by omega)
    rw [ndB_1] at h1
    refine ⟨⟨⟨?_, fun h0 => ?_⟩, fun k a b => ?_⟩, ?_⟩
    · rw [h1]; split <;> omega
    · have hv : pgV f = none := by unfold pgV; rw [if_neg (by omega)]
      refine lNm_of hf (fun k hk => ?_)
      rw [h (2 + k) (by omega), ndB_2 hk, hv]; rfl
    · rw [h (11 + k) (by omega), ndB_11 b, pgX_get, if_neg (by omega)]
    · rw [h 23 (by omega), ndB_23]
  · rintro ⟨⟨⟨h1, h2⟩, h3⟩, h4⟩ i hi
    by_cases i0 : i = 0
    · rw [i0, ndB_0]
    · by_cases i1 : i = 1
      · rw [i1, ndB_1]
        unfold pgV
        by_cases e : f 1 = 1
        · rw [if_pos e, e]; rfl
        · rw [if_neg e]
          show f 1 = 0
          omega
      · by_cases i2 : i < 10
        · have := ndB_2 (F := f 0) (m := (pgC f).length) (v := pgV f) (X := pgX f) (k := i - 2) (by omega)
          rw [show 2 + (i - 2) = i by omega] at this
          rw [this]
          unfold pgV
          by_cases e : f 1 = 1
          · rw [if_pos e]
            show f i = lB (lNm f 2 8) (i - 2)
            rw [lNm_lB hf (by omega), show 2 + (i - 2) = i by omega]
          · rw [if_neg e]
            show f i = lB 0 (i - 2)
            rw [← h2 (by omega), lNm_lB hf (by omega), show 2 + (i - 2) = i by omega]
        · by_cases i3 : i = 10
          · rw [i3, ndB_10, pgX_len]
          · by_cases i4 : i < 23
            · have := ndB_11 (F := f 0) (m := (pgC f).length) (v := pgV f) (X := pgX f) (k := i - 11) (by omega)
              rw [show 11 + (i - 11) = i by omega] at this
              rw [this, pgX_get, show 11 + (i - 11) = i by omega]
              by_cases e : i - 11 < f 10
              · rw [if_pos e]
              · rw [if_neg e]
                have := h3 (i - 11) (by omega) (by omega)
                rw [show 11 + (i - 11) = i by omega] at this
                exact this
            · have i5 : i = 23 := by omega
              rw [i5, ndB_23]; exact h4
/-- the table -/
theorem pgHi_iff (hF : 1 ≤ f 0 ∧ f 0 ≤ 4) (h23 : f 23 ≤ fRoom (f 0)) {g : Nat → Nat} (hg : ∀ i, 24 ≤ i → g i = 0) : ((∀ i, 24 ≤ i → i < 504 → f i = tabF (f 0) (pgC f) 0 g i) ∧ f 23 = (pgC f).length) ↔ ((∀ k, rEn (f 0) ≤ k → k < 504 → f k = 0) ∧ rdL f (rCl (f 0)) 0 0 = some (pgC f)) := by
  unfold rEn rCl pgC
  by_cases h3 : f 0 < 3
  · rw [if_pos h3, if_pos h3, if_pos h3]
    have e0 : min 0 (f 23) = 0 := by omega
    have r1 := rdL_1 h3 (fRoom (f 0)) 0 (pgL f) (by omega) h23
    rw [e0] at r1
    have el : pgL f = (List.range' 0 (f 23 - 0)).map (fun k => (f (24 + k), f (24 + fRoom (f 0) + k))) := by
      unfold pgL
      rw [List.range_eq_range', Nat.sub_zero]
    have t1 := fun i => tab_1 h3 (f 23) 0 g (by omega) i
    rw [show List.range' 0 (f 23) = List.range' 0 (f 23 - 0) by rw [Nat.sub_zero], ← el] at t1
    have hlen : (pgL f).length = f 23 := by unfold pgL; rw [List.length_map, List.length_range]
    have hR : fRoom (f 0) ≤ 16 := fRoom2 (by omega) (by omega) hF.1 hF.2
    constructor
    · rintro ⟨h1, -⟩
      have z : ∀ i, 24 ≤ i → i < 504 → ¬ ((24 + 0 ≤ i ∧ i < 24 + 0 + f 23) ∨ (24 + fRoom (f 0) + 0 ≤ i ∧ i < 24 + fRoom (f 0) + 0 + f 23)) → f i = 0 := fun i a b c => by
        rw [h1 i a b, t1 i, if_neg c]; exact hg i a
      refine ⟨fun k a b => z k (by omega) b (by omega), r1.mpr ⟨el, fun j a b c => ⟨z _ (by omega) (by omega) (by omega), z _ (by omega) (by omega) (by omega)⟩⟩⟩
    · rintro ⟨h1, h2⟩
      obtain ⟨-, h4⟩ := r1.mp h2
      refine ⟨fun i a b => ?_, hlen.symm⟩
      rw [t1 i]
      by_cases c : (24 + 0 ≤ i ∧ i < 24 + 0 + f 23) ∨ (24 + fRoom (f 0) + 0 ≤ i ∧ i < 24 + fRoom (f 0) + 0 + f 23)
      · rw [if_pos c]
      · rw [if_neg c, hg i a]
        by_cases c1 : i < 24 + fRoom (f 0)
        · have := (h4 (i - 24) (by omega) (by omega) (by omega)).1
          rw [show 24 + (i - 24) = i by omega] at this
          exact this
        · by_cases c2 : i < 24 + 2 * fRoom (f 0)
          · have := (h4 (i - 24 - fRoom (f 0)) (by omega) (by omega) (by omega)).2
            rw [show 24 + fRoom (f 0) + (i - 24 - fRoom (f 0)) = i by omega] at this
            exact this
          · exact h1 i (by omega) b
  · rw [if_neg h3, if_neg h3, if_neg h3]
    by_cases h33 : f 0 = 3
    · rw [if_pos h33, h33]
      have hr : f 23 ≤ 48 := by rw [h33] at h23; exact h23
      have := tab_3 hr 256 0 0 g h33 (by omega) (fun i a b => hg i (by omega)) (fun i a => hg i (by omega))
      rw [Nat.zero_add, show 24 + 0 = 24 from rfl] at this
      constructor
      · rintro ⟨h1, h2⟩
        obtain ⟨a, b⟩ := this.mp ⟨fun i hi => h1 i (by omega) (by omega), h2.symm⟩
        exact ⟨b, a⟩
      · rintro ⟨h1, h2⟩
        obtain ⟨a, b⟩ := this.mpr ⟨h2, h1⟩
        exact ⟨fun i hi hj => a i (by omega), b.symm⟩
    · have h4 : f 0 = 4 := by omega
      rw [if_neg h33, h4]
      have t4 := fun i => tab_4 256 0 0 0 g h4 (by omega) (fun i a b => hg i (by omega)) i
      have r4 := rdL_4 h4 256 0 0
      rw [Nat.zero_add] at r4
      constructor
      · rintro ⟨h1, h2⟩
        refine ⟨fun k a b => ?_, r4.mpr h2.symm⟩
        rw [h1 k (by omega) b, t4 k, if_neg (by omega)]; exact hg k (by omega)
      · rintro ⟨h1, h2⟩
        refine ⟨fun i a b => ?_, (r4.mp h2).symm⟩
        rw [t4 i]
        by_cases c : 24 + 0 ≤ i ∧ i < 280
        · rw [if_pos c]
        · rw [if_neg c, hg i a]; exact h1 i (by omega) b
theorem pg_iff (hf : ∀ x, f x < 256) (hF : 1 ≤ f 0 ∧ f 0 ≤ 4) (h23 : f 23 ≤ fRoom (f 0)) (h10 : f 10 ≤ 12) : (∀ i, i < 512 → f i = ndF (f 0) (pgV f) (pgX f) (pgC f) i) ↔ (lNm f 504 8 = sm f 504 ∧ pgLo f ∧ (∀ k, rEn (f 0) ≤ k → k < 504 → f k = 0) ∧ rdL f (rCl (f 0)) 0 0 = some (pgC f)) := by
  rw [ndF_B, seal_iff hf]
  have hi := pgHi_iff hF h23 (g := ndB (f 0) (pgV f) (pgX f) (pgC f).length) (fun i a => ndB_hi (by rw [pgX_len]; exact h10) a)
  have lo := pgLo_iff hf
  constructor
  · rintro ⟨h1, h2⟩
    obtain ⟨l1, l2⟩ := lo.mp (fun i hi => by rw [h1 i (by omega), tab_lo24 _ _ _ _ _ hi])
    obtain ⟨a, b⟩ := hi.mp ⟨fun i _ hj => h1 i hj, l2⟩
    exact ⟨h2, l1, a, b⟩
  · rintro ⟨h1, h2, h3, h4⟩
    obtain ⟨a, b⟩ := hi.mpr ⟨h3, h4⟩
    have l1 := lo.mpr ⟨h2, b⟩
    refine ⟨fun i hi => ?_, h1⟩
    by_cases c : i < 24
    · rw [tab_lo24 _ _ _ _ _ c]; exact l1 i c
    · exact a i (by omega) hi
end PG2
theorem hd_iff {f : Nat → Nat} (hf : ∀ x, f x < 256) : (∀ i, i < 512 → f i = hdF (lNm f 1 8) (f 9) (f 10 * 256 + f 11) i) ↔ (lNm f 504 8 = sm f 504 ∧ f 0 = 1 ∧ ∀ k, 12 ≤ k → k < 504 → f k = 0) := by
  unfold hdF
  rw [seal_iff hf]
  have h10 := hf 10
  have h11 := hf 11
  have e0 : ∀ i, (va_up (va_up (va_up (setL (va_up (fun _ => 0) 0 1) 1 (lNm f 1 8)) 9 (f 9)) 10 ((f 10 * 256 + f 11) / 256)) 11 ((f 10 * 256 + f 11) % 256)) i = if i = 0 then 1 else if i < 12 then f i else 0 := fun i => by
    by_cases i11 : i = 11
    · rw [i11, va_up_self, if_neg (by omega), if_pos (by omega)]; omega
    · rw [va_up_ne _ _ i11]
      by_cases i10 : i = 10
      · rw [i10, va_up_self, if_neg (by omega), if_pos (by omega)]; omega
      · rw [va_up_ne _ _ i10]
        by_cases i9 : i = 9
        · rw [i9, va_up_self, if_neg (by omega), if_pos (by omega)]
        · rw [va_up_ne _ _ i9]
          unfold setL
          by_cases i0 : i = 0
          · rw [if_neg (by omega), i0, va_up_self, if_pos rfl]
          · rw [if_neg i0]
            by_cases c : i < 12
            · rw [if_pos (by omega), if_pos c, lNm_lB hf (by omega), show 1 + (i - 1) = i by omega]
            · rw [if_neg (by omega), if_neg c, va_up_ne _ _ i0]
  constructor
  · rintro ⟨h1, h2⟩
    refine ⟨h2, by rw [h1 0 (by omega), e0, if_pos rfl], fun k a b => by rw [h1 k b, e0, if_neg (by omega), if_neg (by omega)]⟩
  · rintro ⟨h1, h2, h3⟩
    refine ⟨fun i hi => ?_, h1⟩
    rw [e0]
    by_cases i0 : i = 0
    · rw [if_pos i0, i0]; exact h2
    · rw [if_neg i0]
      by_cases c : i < 12
      · rw [if_pos c]
      · rw [if_neg c]; exact h3 i (by omega) hi
theorem nv_2 (f : Nat → Nat) (i : Nat) : nv f i 2 = f i * 256 + f (i + 1) := by
  show (0 * 256 + f (i + 0)) * 256 + f (i + 1) = _
  rw [Nat.add_zero]; omega
theorem lNm_2 {f : Nat → Nat} (hf : ∀ x, f x < 256) (i : Nat) : lNm f i 2 = Int64.ofNat (f i * 256 + f (i + 1)) := by
  apply i64_nat
  have h1 := hf i
  have h2 := hf (i + 1)
  rw [lNm_nv hf i 2 (by omega), nv_2]
  show _ = (UInt64.ofNat (f i * 256 + f (i + 1))).toNat
  rw [UInt64.toNat_ofNat']
  omega
