/-! type, where nothing is thrown. -/
/-- the k-th of the n bytes that are typed -/
def tyB (j : Int64) (n k : Nat) : Nat := (j.toUInt64.toNat / 2 ^ (8 * (n - 1 - k))) % 256
def tyL (j : Int64) (n : Nat) : List Nat := (List.range n).map (tyB j n)
theorem ty_byte (j : Int64) {m : Nat} (hm : m ≤ 7) : (j.toUInt64 >>> ((nI (8 * m)).toInt64.toUInt64 &&& Int64.toUInt64 63)).toInt64.toInt32 &&& 255 = nI ((j.toUInt64.toNat / 2 ^ (8 * m)) % 256) := by
  have hs : ((nI (8 * m)).toInt64.toUInt64 &&& Int64.toUInt64 63) = UInt64.ofNat (8 * m) := by
    have : m = 0 ∨ m = 1 ∨ m = 2 ∨ m = 3 ∨ m = 4 ∨ m = 5 ∨ m = 6 ∨ m = 7 := by omega
    rcases this with rfl | rfl | rfl | rfl | rfl | rfl | rfl | rfl <;> decide
  rw [hs, pk_and _ 8 (by decide)]
  congr 1
  have e : ∀ y : UInt64, y.toInt64.toInt32.toBitVec.toNat % 2 ^ 8 = y.toNat % 256 := fun y => by
    have : y.toInt64.toInt32.toBitVec = BitVec.signExtend 32 y.toBitVec := rfl
    rw [this, BitVec.signExtend_eq_setWidth_of_le _ (by omega), BitVec.toNat_setWidth]
    show y.toNat % 2 ^ 32 % 2 ^ 8 = y.toNat % 256
    omega
  rw [e, UInt64.toNat_shiftRight, Nat.shiftRight_eq_div_pow]
  congr 3
  have : m = 0 ∨ m = 1 ∨ m = 2 ∨ m = 3 ∨ m = 4 ∨ m = 5 ∨ m = 6 ∨ m = 7 := by omega
  rcases this with rfl | rfl | rfl | rfl | rfl | rfl | rfl | rfl <;> decide
section TY
variable {l : Launch} {g : xG} {M : xM} {Q : Option Value → xM → Prop} {F : Nat → Prop} {x : Nat} {K : List Nat} {dn : Bool} {T Tc : TT} {D : Nat → Nat} {pw : Option Nat} {tr sq : Nat}
variable {tp tb t tc s d db w rb w2 rb2 ta st stc : Nat} {KK KKc : List Nat} {φ φc ψ : Nat → Nat} {sp spc : List Nat} {tk : Nat → Bool}
theorem tyL_take {j : Int64} {n k : Nat} (hk : k < n) : (tyL j n).take (k + 1) = (tyL j n).take k ++ [tyB j n k] ∧ ((tyL j n).take k).length = k := by
  have hl : (tyL j n).length = n := by unfold tyL; rw [List.length_map, List.length_range]
  have hg : (tyL j n)[k]? = some (tyB j n k) := by
    unfold tyL
    rw [List.getElem?_map, List.getElem?_range hk]; rfl
  exact ⟨by rw [List.take_add_one, hg]; rfl, by rw [List.length_take]; omega⟩
theorem type_loop {j : Int64} {n : Nat} {x3 : Int32} {w2' : Value} (hA : aI T Tc sq) (hn8 : n ≤ 8) (h64 : K.length + n ≤ 64) {M0 : xM} (hQ : ∀ M1, cR F M1 x (K ++ tyL j n) dn T Tc D pw tr sq → xag F M0 M1 → Q (some (.int (nI (K.length + n)))) M1) :
    ∀ (m k : Nat) (M1 : xM), n = k + m → cRp F M1 x (K ++ (tyL j n).take k) dn T Tc D pw tr sq tp tb t tc s d db w rb w2 rb2 ta st stc KK KKc φ φc ψ sp spc tk → xag F M0 M1 → xWp l g mX9_type 0 0 53 [(1, va_rf (some x)), (2, .long j), (0, w2'), (1, .int x3), (1, .int (if m = 0 then -8 else nI (8 * (m - 1))))] [] (0, 0) M1 Q
  | 0, k, M1, hk, h, hx => by
    have hl : (tyL j n).length = n := by unfold tyL; rw [List.length_map, List.length_range]
    rw [List.take_of_length_le (by omega)] at h
    refine bX9_type_53 _ _ _ _ _ ⟨fun _ => ⟨h.1.1, tp, h.1.2.1, h.2.1.1.1, ?_⟩, fun c => absurd (by rw [if_pos rfl]; decide) c⟩
    rw [h.2.1.2.1, List.length_append, hl]
    exact hQ M1 h.r hx
  | m + 1, k, M1, hk, h, hx => by
    obtain ⟨e1, e2⟩ := tyL_take (j := j) (n := n) (k := k) (by omega)
    rw [if_neg (by omega), Nat.add_sub_cancel]
    obtain ⟨⟨a1, a2, a3, a4, a5, a6, a7⟩, b, ⟨c1, c2⟩, ⟨e1', e2'⟩, f, ⟨g1, g2, g3⟩, i⟩ := id h
    have hlen : (K ++ (tyL j n).take k).length = K.length + k := by rw [List.length_append, e2]
    refine bX9_type_53 _ _ _ _ _ ⟨fun c => (nneg c rfl).elim, fun _ => ⟨a1, tp, a2, b.1.1, ?_⟩⟩
    rw [a2, ty_byte j (by omega)]
    have eb : (j.toUInt64.toNat / 2 ^ (8 * m)) % 256 = tyB j n k := by unfold tyB; rw [show n - 1 - k = m by omega]
    rw [eb]
    have hb256 : tyB j n k < 256 := Nat.mod_lt _ (by decide)
    have hne : tb ≠ tp := ne_of_kind b.1.2.2.1.2 b.1.1.2 (by decide)
    have hx1 : xag (fun a => a = tp ∨ a = tb) M1 (xsI (xsI M1 tb (K.length + k) (nI (tyB j n k))) tp 1 (nI (K.length + k + 1))) := (xag_I (P := fun a => a = tp ∨ a = tb) _ (Or.inr rfl)).trans (xag_I (P := fun a => a = tp ∨ a = tb) _ (Or.inl rfl))
    refine sX7_append b.1 (Ne.symm hne) (by rw [b.2.1, hlen]) (by omega) ⟨rfl, ?_⟩
    obtain ⟨q1, q2⟩ := h.tape (K1 := K ++ (tyL j n).take (k + 1)) hA.1.1 hA.2.1.1 hx1 ⟨b.1, by
        rw [xI_sI, if_pos ⟨rfl, rfl⟩, e1, ← List.append_assoc, List.length_append, hlen]; rfl, by
        rw [e1, ← List.append_assoc, List.length_append, hlen, List.length_singleton]; omega, fun y hy => by
        rw [e1, ← List.append_assoc, List.length_append, hlen, List.length_singleton] at hy
        rw [xI_sI, if_neg (fun z => hne z.1), xI_sI, e1, ← List.append_assoc, getD_app, hlen]
        by_cases hyk : y = K.length + k
        · rw [if_pos ⟨rfl, hyk⟩, if_neg (by omega), hyk, Nat.sub_self]; rfl
        · rw [if_neg (fun z => hyk z.2), if_pos (by omega), b.2.2.2.1 y (by rw [hlen]; omega)], fun y hy => by
        rw [e1, ← List.append_assoc] at hy
        rcases List.mem_append.mp hy with hy | hy
        · exact b.2.2.2.2 y hy
        · rw [List.mem_singleton.mp hy]; exact hb256⟩
    have key := type_loop hA hn8 h64 hQ m (k + 1) _ (by omega) q1 (hx.trans q2) (x3 := x3) (w2' := w2')
    have es : nI (8 * m) + -8 = (if m = 0 then -8 else nI (8 * (m - 1))) := by
      by_cases hm : m = 0
      · rw [if_pos hm, hm]; decide
      · rw [if_neg hm, show (-8 : Int32) = -(nI 8) from by decide, ← Int32.sub_eq_add_neg, pk_sub (by omega)]
        congr 1; omega
    rw [es]
    exact key
theorem sX9_type {j : Int64} {n : Nat} (hA : aI T Tc sq) (hn1 : 1 ≤ n) (hn8 : n ≤ 8) (h64 : K.length + n ≤ 64) (h : cR F M x K dn T Tc D pw tr sq) (hQ : ∀ M1, cR F M1 x (K ++ tyL j n) dn T Tc D pw tr sq → xag F M M1 → Q (some (.int (nI (K.length + n)))) M1) : xSp l g mX9_type 0 0 [va_rf (some x), .long j, .int (nI n)] M Q := by
  obtain ⟨tp, tb, t, tc, s, d, db, w, rb, w2, rb2, ta, st, stc, KK, KKc, φ, φc, ψ, sp, spc, tk, h⟩ := h
  have h : cRp F M x K dn T Tc D pw tr sq tp tb t tc s d db w rb w2 rb2 ta st stc KK KKc φ φc ψ sp spc tk := h
  have h2 : cRp F M x (K ++ (tyL j n).take 0) dn T Tc D pw tr sq tp tb t tc s d db w rb w2 rb2 ta st stc KK KKc φ φc ψ sp spc tk := by rw [List.take_zero, List.append_nil]; exact h
  refine eX9_type _ _ _ (bX9_type_0 _ _ _ ⟨fun c => ?_, fun _ => ⟨fun _ => ⟨h.1.1, tp, h.1.2.1, h.2.1.1.1, fun _ => ?_, fun c => ?_⟩, fun c => ?_⟩⟩)
  · have := nlt c rfl (b := 1) rfl
    omega
  · have key := type_loop (l := l) (g := g) (x3 := nI n) (w2' := .null) hA hn8 h64 hQ n 0 M (by omega) h2 xag.rf
    rw [if_neg (by omega)] at key
    have es : 8 * (nI n - 1) = nI (8 * (n - 1)) := by
      rw [show (1 : Int32) = nI 1 from rfl, pk_sub hn1, show (8 : Int32) = nI 8 from rfl, nI_mul]
    rw [es]
    exact key
  · rw [h.2.1.2.1, nI_add] at c
    have := nnle c rfl (b := 64) rfl
    omega
  · have := nnle c rfl (b := 8) rfl
    omega
end TY
