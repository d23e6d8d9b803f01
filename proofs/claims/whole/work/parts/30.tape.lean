/-! LAYER 3. Numbers; the tape. -/
theorem nlt {a b : Nat} {x y : Int32} (h : x < y) (hx : x = nI a) (hy : y = nI b) (ha : a < 2 ^ 31 := by omega) (hb : b < 2 ^ 31 := by omega) : a < b := by
  subst hx; subst hy; exact (nI_ltI ha hb).mp h
theorem nle {a b : Nat} {x y : Int32} (h : x ≤ y) (hx : x = nI a) (hy : y = nI b) (ha : a < 2 ^ 31 := by omega) (hb : b < 2 ^ 31 := by omega) : a ≤ b := by
  subst hx; subst hy; exact (nI_leI ha hb).mp h
theorem nnlt {a b : Nat} {x y : Int32} (h : ¬ x < y) (hx : x = nI a) (hy : y = nI b) (ha : a < 2 ^ 31 := by omega) (hb : b < 2 ^ 31 := by omega) : b ≤ a := by
  subst hx; subst hy; exact Nat.not_lt.mp fun q => h ((nI_ltI ha hb).mpr q)
theorem nnle {a b : Nat} {x y : Int32} (h : ¬ x ≤ y) (hx : x = nI a) (hy : y = nI b) (ha : a < 2 ^ 31 := by omega) (hb : b < 2 ^ 31 := by omega) : b < a := by
  subst hx; subst hy; exact Nat.not_le.mp fun q => h ((nI_leI ha hb).mpr q)
theorem neq {a b : Nat} {x y : Int32} (h : x = y) (hx : x = nI a) (hy : y = nI b) (ha : a < 2 ^ 31 := by omega) (hb : b < 2 ^ 31 := by omega) : a = b := by
  subst hx; subst hy; exact (nI_eq ha hb).mp h
theorem nne {a b : Nat} {x y : Int32} (h : ¬ x = y) (hx : x = nI a) (hy : y = nI b) : a ≠ b := by
  subst hx; subst hy; exact fun q => h (by rw [q])
theorem nneg {a : Nat} {x : Int32} (h : x < 0) (hx : x = nI a) (ha : a < 2 ^ 31 := by omega) : False := by
  subst hx; exact nI_pos ha h
section T30
variable {l : Launch} {g : xG} {M : xM} {Q : Option Value → xM → Prop}
/-- a tape and its array -/
def tpOk (M : xM) (a b : Nat) : Prop := xat M a 4 ∧ xR M a 0 = some b ∧ xat M b 9 ∧ xN M b = 64
theorem sX7_isKey {a b n : Nat} (h : tpOk M a b) (hn : xI M a 1 = nI n) (h64 : n ≤ 64) (hQ : Q (some (.int (if n ≤ 12 then 1 else 0))) M) : xSp l g mX7_isKey 0 0 [va_rf (some a)] M Q := by
  refine eX7_isKey a (bX7_isKey_0 a ⟨h.1, fun c => ?_, fun c => ?_⟩)
  · have c1 := nlt c (a := 12) rfl hn
    rw [if_neg (by omega)] at hQ; exact hQ
  · have c1 := nnlt c (a := 12) rfl hn
    rw [if_pos (by omega)] at hQ; exact hQ
theorem sX7_byteAt {a b n j : Nat} (h : tpOk M a b) (hn : xI M a 1 = nI n) (h64 : n ≤ 64) (hj : j < 2 ^ 31) (hQ : Q (some (.int (if j < n then xI M b j else -1))) M) : xSp l g mX7_byteAt 0 0 [va_rf (some a), .int (nI j)] M Q := by
  obtain ⟨h1, h2, h3, h4⟩ := h
  refine eX7_byteAt a _ (bX7_byteAt_0 a _ ⟨fun c => (nneg c rfl).elim, fun _ => ⟨h1, fun c => ?_, fun c => ⟨b, h2, h3, fun c2 => ?_, fun c2 => ⟨j, ⟨h3, rfl, ?_, by omega⟩, ?_⟩⟩⟩⟩)
  · have c1 := nle c hn rfl
    rw [if_neg (by omega)] at hQ; exact hQ
  · have c1 := nnle c hn rfl
    have c3 := nle c2 rfl rfl
    omega
  · have c1 := nnle c hn rfl
    omega
  · have c1 := nnle c hn rfl
    rw [if_pos c1] at hQ; exact hQ
theorem sX7_byteAtN {a b n : Nat} {x : Int32} (h : tpOk M a b) (hn : xI M a 1 = nI n) (h64 : n ≤ 64) (hx : x < 0) (hQ : Q (some (.int (-1))) M) : xSp l g mX7_byteAt 0 0 [va_rf (some a), .int x] M Q :=
  eX7_byteAt a _ (bX7_byteAt_0 a _ ⟨fun _ => hQ, fun c => absurd hx c⟩)
theorem sX7_setByte {a b j : Nat} {v : Int32} (h : tpOk M a b) (hj : j < 64) (hQ : Q none (xsI M b j v)) : xSp l g mX7_setByte 0 0 [va_rf (some a), .int (nI j), .int v] M Q := by
  obtain ⟨h1, h2, h3, h4⟩ := h
  refine eX7_setByte a _ _ (bX7_setByte_0 a _ _ ⟨fun c => (nneg c rfl).elim, fun _ => ⟨h1, b, h2, h3, fun c => ?_, fun c => ⟨j, ⟨h3, rfl, by omega, by omega⟩, hQ⟩⟩⟩)
  have c1 := nle c rfl rfl
  omega
theorem sX7_append {a b n : Nat} {v : Int32} (h : tpOk M a b) (hab : a ≠ b) (hn : xI M a 1 = nI n) (h64 : n < 64) (hQ : Q none (xsI (xsI M b n v) a 1 (nI (n + 1)))) : xSp l g mX7_append 0 0 [va_rf (some a), .int v] M Q := by
  have h0 := h
  obtain ⟨h1, h2, h3, h4⟩ := h
  refine eX7_append a _ (bX7_append_0 a _ ⟨h1, b, h2, h3, fun c => ?_, fun c => ?_⟩)
  · have c1 := nle c rfl hn
    omega
  · rw [hn]
    refine sX7_setByte h0 h64 ⟨rfl, h1, ?_⟩
    rw [xI_sI, if_neg (fun q => hab q.1), hn, nI_1]
    exact hQ
end T30
