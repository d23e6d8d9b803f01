/-! The reference's type. -/
theorem shr_bits (j : Int64) {s : Nat} (hs : s ≤ 56) : (BitVec.setWidth 32 ((j.toBitVec.sshiftRight s) &&& 255#64)) = BitVec.ofNat 32 ((j.toBitVec.toNat / 2 ^ s) % 256) := by
  apply BitVec.eq_of_getLsbD_eq
  intro i hi
  rw [BitVec.getLsbD_setWidth, BitVec.getLsbD_and, BitVec.getLsbD_ofNat, BitVec.getLsbD_ofNat, show (256 : Nat) = 2 ^ 8 from rfl, Nat.testBit_mod_two_pow, Nat.testBit_div_two_pow, show (255 : Nat) = 2 ^ 8 - 1 from rfl, Nat.testBit_two_pow_sub_one, BitVec.getLsbD_sshiftRight]
  by_cases h8 : i < 8
  · rw [decide_eq_true h8, decide_eq_true hi, if_pos (by omega), decide_eq_true (show i < 64 by omega), decide_eq_false (show ¬ 64 ≤ i by omega)]
    simp [BitVec.getLsbD, Nat.add_comm]
  · rw [decide_eq_false h8]; simp
theorem ty_byteR (j : Int64) {m : Nat} (hm : m ≤ 7) : ((j >>> ((8 * nI m).toInt64 &&& 63)) &&& 255).toInt32 = nI ((j.toUInt64.toNat / 2 ^ (8 * m)) % 256) := by
  have hs : ((8 * nI m).toInt64 &&& 63) = Int64.ofNat (8 * m) := by
    have : m = 0 ∨ m = 1 ∨ m = 2 ∨ m = 3 ∨ m = 4 ∨ m = 5 ∨ m = 6 ∨ m = 7 := by omega
    rcases this with rfl | rfl | rfl | rfl | rfl | rfl | rfl | rfl <;> decide
  rw [hs]
  apply Int32.toBitVec_inj.mp
  have h1 : (j >>> Int64.ofNat (8 * m)).toBitVec = j.toBitVec.sshiftRight (8 * m) := by
    rw [Int64.toBitVec_shiftRight]
    have : ((Int64.ofNat (8 * m)).toBitVec.smod 64).toNat = 8 * m := by
      have : m = 0 ∨ m = 1 ∨ m = 2 ∨ m = 3 ∨ m = 4 ∨ m = 5 ∨ m = 6 ∨ m = 7 := by omega
      rcases this with rfl | rfl | rfl | rfl | rfl | rfl | rfl | rfl <;> decide
    show j.toBitVec.sshiftRight _ = _
    rw [this]
  have h2 : (((j >>> Int64.ofNat (8 * m)) &&& 255).toInt32).toBitVec = BitVec.signExtend 32 ((j >>> Int64.ofNat (8 * m)).toBitVec &&& 255#64) := rfl
  rw [h2, h1, BitVec.signExtend_eq_setWidth_of_le _ (by omega), shr_bits j (by omega)]
  rfl
section RTY
variable {l : Launch} {g : xG} {M M0 M1 : xM} {Q : Option Value → xM → Prop} {y : Nat} {ad : Nat → Nat} {T Tc : TT} {K : List Nat} {dn : Bool} {D : Nat → Nat} {pw : Option Nat} {tr sq : Nat}
theorem rtype_loop {j : Int64} {n : Nat} {x3 : Int32} {w2 : Value} (hS : rS M y ad) (hn8 : n ≤ 8) (h64 : K.length + n ≤ 64) (hQ : ∀ M1, rX (rYt y ad) M M1 → xI M1 y 0 = xI M y 0 → rP M1 y ad (K ++ tyL j n) → Q (some (.int (nI (K.length + n)))) M1) :
    ∀ (m k : Nat) (M1 : xM), n = k + m → rX (rYt y ad) M M1 → xI M1 y 0 = xI M y 0 → rP M1 y ad (K ++ (tyL j n).take k) → xWp l g mX10_type 0 0 50 [(1, va_rf (some y)), (2, .long j), (0, w2), (1, .int x3), (1, .int (nI m + (-1)))] [] (0, 0) M1 Q
  | 0, k, M1, hk, hx, h0, hP => by
    have hl : (tyL j n).length = n := by unfold tyL; rw [List.length_map, List.length_range]
    rw [List.take_of_length_le (by omega)] at hP
    refine bX10_type_50 _ _ _ _ _ ⟨fun _ => ⟨(hx.sS hS).1, ?_⟩, fun c => absurd (by decide) c⟩
    rw [hP.1, List.length_append, hl]
    exact hQ M1 hx h0 hP
  | m + 1, k, M1, hk, hx, h0, hP => by
    obtain ⟨e1, e2⟩ := tyL_take (j := j) (n := n) (k := k) (by omega)
    have hS1 := hx.sS hS
    have hlen : (K ++ (tyL j n).take k).length = K.length + k := by rw [List.length_append, e2]
    rw [nI_am]
    refine bX10_type_50 _ _ _ _ _ ⟨fun c => (nneg c rfl).elim, fun _ => ⟨hS1.1, ad 1, (hS1.2.1 1 (by decide)).1, K.length + k, ?_, ?_⟩⟩
    · rw [hP.1, hlen]; exact hS1.ai (j := 1) (by decide) (by show _ < 64; omega)
    · rw [hP.1, hlen, nI_1, ty_byteR j (by omega)]
      have eb : (j.toUInt64.toNat / 2 ^ (8 * m)) % 256 = tyB j n k := by unfold tyB; rw [show n - 1 - k = m by omega]
      rw [eb]
      have hb256 : tyB j n k < 256 := Nat.mod_lt _ (by decide)
      refine rtype_loop hS hn8 h64 hQ m (k + 1) _ (by omega) (hx.trans ((rX_I (Or.inr (Or.inl ⟨rfl, rfl⟩))).trans (rX_I (Or.inr (Or.inr rfl))))) ?_ ⟨?_, ?_, fun i hi => ?_, fun b hb => ?_⟩
      · rw [xI_sI, if_neg (fun z => hS.ny (j := 1) (by decide) z.1.symm), xI_sI, if_neg (fun z => absurd z.2 (by decide))]; exact h0
      · rw [xI_sI, if_neg (fun z => hS.ny (j := 1) (by decide) z.1.symm), xI_sI, if_pos ⟨rfl, rfl⟩, e1, ← List.append_assoc, List.length_append, hlen]; rfl
      · rw [e1, ← List.append_assoc, List.length_append, hlen, List.length_singleton]; omega
      · rw [e1, ← List.append_assoc, List.length_append, hlen, List.length_singleton] at hi
        rw [xI_sI, e1, ← List.append_assoc, getD_app, hlen]
        by_cases hyk : i = K.length + k
        · rw [if_pos ⟨rfl, hyk⟩, if_neg (by omega), hyk, Nat.sub_self]; rfl
        · rw [if_neg (fun z => hyk z.2), if_pos (by omega), xI_sI, if_neg (fun z => hS.ny (j := 1) (by decide) z.1)]; exact hP.2.2.1 i (by rw [hlen]; omega)
      · rw [e1, ← List.append_assoc] at hb
        rcases List.mem_append.mp hb with hb | hb
        · exact hP.2.2.2 b hb
        · rw [List.mem_singleton.mp hb]; exact hb256
theorem sX10_type {j : Int64} {n : Nat} (hA : aI T Tc sq) (hn1 : 1 ≤ n) (hn8 : n ≤ 8) (h64 : K.length + n ≤ 64) (h : rR M y ad K dn T Tc D pw tr sq) (hQ : ∀ M1, rR M1 y ad (K ++ tyL j n) dn T Tc D pw tr sq → xag (rG y ad) M M1 → xI M1 y 0 = 0 → Q (some (.int (nI (K.length + n)))) M1) : xSp l g mX10_type 0 0 [va_rf (some y), .long j, .int (nI n)] M Q := by
  have hR0 := h.th (v := 0) hA
  have hS := hR0.1
  have hP := h.2.1
  have i1 : (1 : Int32) ≤ nI n ∧ nI n ≤ 8 := ⟨Int32.not_lt.mp (fun z => by have := nlt z rfl (b := 1) rfl; omega), Int32.not_lt.mp (fun z => by have := nlt z (a := 8) rfl rfl; omega)⟩
  refine eX10_type _ _ _ (bX10_type_0 _ _ _ (sX10_in (a := 1) (b := 8) ⟨_, rfl, fun _ => ⟨hS.1, fun _ => ⟨fun _ => ?_, fun c => ?_⟩, fun c => ?_⟩, fun c => ?_⟩))
  · rw [show nI n - 1 = nI n + (-1) from Int32.sub_eq_add_neg _ _]
    refine rtype_loop hS hn8 h64 (fun M1 hx h0 hp => ?_) n 0 _ (by omega) rX.rf rfl (by rw [List.take_zero, List.append_nil]; exact hR0.2.1)
    refine hQ M1 (hR0.tp hA hx hp) (((rX_I (Or.inl (Or.inl ⟨rfl, Or.inl rfl⟩))).trans hx).xa rYt_g) (h0.trans (by rw [xI_sI, if_pos ⟨rfl, rfl⟩]))
  · rw [xI_sI, if_pos ⟨rfl, rfl⟩] at c; exact absurd (by decide) c
  · exfalso
    rw [hP.1, nI_add] at c
    have := nnle c rfl (b := 64) rfl
    omega
  · rw [if_pos i1] at c; exact absurd c (by decide)
end RTY
