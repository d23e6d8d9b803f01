/-! The reference's start. -/
def rSf (y : Nat) (ad : Nat → Nat) (a k : Nat) : Prop := rRd ad a k ∨ rH ad 220 a k ∨ (a = y ∧ (k = 14 ∨ k = 15 ∨ k = 16)) ∨ rY y ad a k
section RST
variable {l : Launch} {g : xG} {M M0 M1 : xM} {Q : Option Value → xM → Prop} {y : Nat} {ad : Nat → Nat} {D : Nat → Nat} {T Tc T1 : TT} {K : List Nat} {dn : Bool} {pw : Option Nat} {tr sq sq1 p : Nat}
theorem rSf_y (hS : rS M y ad) {k : Nat} (h : k = 2 ∨ k = 3 ∨ k = 18 ∨ k = 19) : ¬ rSf y ad y k := fun z => by
  rcases z with z | (⟨j, hj, z, -⟩ | ⟨z, -⟩) | z | z | z
  · exact rRd_y hS z
  · exact hS.ny (RA_RL j hj) z.symm
  · exact hS.ny (j := 7) (by decide) z.symm
  · omega
  · omega
  · exact hS.ny (j := 23) (by decide) z.symm
theorem rSf_a (hS : rS M y ad) {i k : Nat} (hi : i ∈ RL9) (h : i ∉ RA9 ∧ i ≠ 7 ∧ i ≠ 26 ∧ i ≠ 23) : ¬ rSf y ad (ad i) k := fun z => by
  rcases z with z | (⟨j, hj, z, -⟩ | ⟨z, -⟩) | z | z | z
  · exact rRd_a hS hi ⟨h.1, h.2.1, h.2.2.1⟩ z
  · exact hS.na hi (RA_RL j hj) (fun q => h.1 (by rw [q]; exact hj)) z
  · exact hS.na hi (j := 7) (by decide) h.2.1 z
  · exact hS.ny hi z.1
  · exact hS.ny hi z.1
  · exact hS.na hi (j := 23) (by decide) h.2.2.2 z
theorem rSf_g : ∀ a k, rSf y ad a k → rG y ad a := fun a k z => by
  rcases z with (z | ⟨j, hj, z, -⟩ | ⟨z, -⟩) | (⟨j, hj, z, -⟩ | ⟨z, -⟩) | z | z
  · exact Or.inr ⟨26, by decide, z⟩
  · exact Or.inr ⟨j, RA_RL j hj, z⟩
  · exact Or.inr ⟨7, by decide, z⟩
  · exact Or.inr ⟨j, RA_RL j hj, z⟩
  · exact Or.inr ⟨7, by decide, z⟩
  · exact Or.inl z.1
  · exact rY_g a k z
theorem rRt_f : ∀ a k, rRt y ad a k → rSf y ad a k := fun a k z => by
  rcases z with z | z
  · exact Or.inl z
  · exact Or.inr (Or.inr (Or.inl ⟨z.1, Or.inl z.2⟩))
theorem st_fin (h : rR M y ad K false T Tc D none 0 sq) (hx : rX (rSf y ad) M M1) (hT1 : rT M1 ad 0 T1) (hT2 : rT M1 ad 220 T1) (h14 : xI M1 y 14 = nI (tO T1)) (h15 : xI M1 y 15 = nI (tO T1)) (h16 : xJ M1 y 16 = Int64.ofNat sq1) : rR M1 y ad K false T1 T1 D none 0 sq1 := by
  obtain ⟨hS, hP, h3, -, -, -, ⟨hD, hD2⟩, hp, ht, ht2, hpw⟩ := h
  refine ⟨hx.sS hS, rP_x hx (rSf_y hS (by omega)) (fun k => rSf_a hS (by decide) (by decide)) hP, by rw [(hx.2 _ _ (rSf_y hS (by omega))).1]; exact h3, ⟨hT1, h14⟩, ⟨hT2, h15⟩, h16, ⟨fun k hk => by rw [(hx.2 _ _ (rSf_a hS (by decide) (by decide))).1]; exact hD k hk, hD2⟩, fun z => by rw [(hx.2 _ _ (rSf_y hS (by omega))).1]; exact hp z, fun z => absurd rfl z, ht2, hpw⟩
theorem st_keep (h : rR M0 y ad K false T Tc D none 0 sq) (hx : rX (rSf y ad) M0 M1) (hT1 : rT M1 ad 0 T1) (hW : tWF T1) (h14 : xI M1 y 14 = nI (tO T1)) (h16 : xJ M1 y 16 = Int64.ofNat sq1) (h0 : xI M1 y 0 = 0)
    (hQ : ∀ M2, rR M2 y ad K false T1 T1 D none 0 sq1 → xag (rG y ad) M0 M2 → xI M2 y 0 = 0 → Q (some (.int (nI sq1))) M2) :
    xSp l g mX10_keep 0 0 [va_rf (some y)] M1 (fun ρ3 M2 => ρ3 = none ∧ (xat M2 y 7 ∧ (Q (some (.int (xJ M2 y 16).toInt32)) M2))) := by
  have hS := h.1
  have hS1 := hx.sS hS
  refine sX10_keep hS1 hT1 (fun n _ hu => (tX_le hW hu).1) (fun M2 hx2 hT2 h15 => ⟨rfl, (hx2.sS hS1).1, ?_⟩)
  have no : ∀ k, k ≠ 15 → ¬ (rH ad 220 y k ∨ (y = y ∧ k = 15)) := fun k hk z => by
    rcases z with (⟨j, hj, z, -⟩ | ⟨z, -⟩) | z
    · exact hS.ny (RA_RL j hj) z.symm
    · exact hS.ny (j := 7) (by decide) z.symm
    · exact hk z.2
  have hxx : rX (rSf y ad) M0 M2 := hx.trans (hx2.mono (fun a k z => z.elim (fun q => Or.inr (Or.inl q)) (fun q => Or.inr (Or.inr (Or.inl ⟨q.1, Or.inr (Or.inl q.2)⟩)))))
  have e16 : xJ M2 y 16 = Int64.ofNat sq1 := by rw [(hx2.2 _ _ (no 16 (by decide))).2]; exact h16
  have hT3 : rT M2 ad 0 T1 := hx2.tT hT1 (fun j hj n hn z => by
      rcases z with (⟨i, hi, z, z2⟩ | ⟨z, -⟩) | z
      · omega
      · exact hS.na (RA_RL j hj) (j := 7) (by decide) (fun q => by subst q; revert hj; decide) z
      · exact hS.ny (RA_RL j hj) z.1) (fun i hi z => by
      rcases z with (⟨j, hj, z, -⟩ | ⟨z, z2⟩) | z
      · exact hS.na (i := 7) (by decide) (RA_RL j hj) (fun q => by subst q; revert hj; decide) z
      · omega
      · exact hS.ny (j := 7) (by decide) z.1) (fun n _ hu => (tX_le hW hu).1)
  rw [e16, l_32]
  refine hQ M2 (st_fin h hxx hT3 hT2 ?_ (by rw [h15]; exact h14) e16) (hxx.xa rSf_g) (by rw [(hx2.2 _ _ (no 0 (by decide))).1]; exact h0)
  rw [(hx2.2 _ _ (no 14 (by decide))).1]; exact h14
theorem st_97 {x5 x7 : Int32} {j1 j3 : Int64} {w2 w4 w9 w10 : Value} (hp : p < 2) (hS : rS M y ad) (hD : rDk M ad D)
    (hz : hdN D p = 0 → ∀ a b c, xWp l g mX10_start 0 0 60 [(1, va_rf (some y)), (2, .long j1), (0, w2), (2, .long j3), (0, w4), (1, .int x5), (1, .int 0), (1, .int (x7 + 1)), (0, a), (0, b), (0, c)] [] (0, 0) M Q)
    (hbad : 0 < hdN D p → ldTree D p = none → ∀ M2, rX (rRt y ad) M M2 → ∀ a b c, xWp l g mX10_start 0 0 60 [(1, va_rf (some y)), (2, .long j1), (0, w2), (2, .long j3), (0, w4), (1, .int x5), (1, .int 0), (1, .int (x7 + 1)), (0, a), (0, b), (0, c)] [] (0, 0) M2 Q)
    (hgood : 0 < hdN D p → ∀ T', ldTree D p = some T' → ∀ M2, rX (rRt y ad) M M2 → rT M2 ad 0 T' → xI M2 y 14 = nI (tO T') → ∀ a b c, xWp l g mX10_start 0 0 60 [(1, va_rf (some y)), (2, .long j1), (0, w2), (2, .long j3), (0, w4), (1, .int x5), (1, .int 1), (1, .int (x7 + 1)), (0, a), (0, b), (0, c)] [] (0, 0) (xsJ M2 y 16 (Int64.ofNat (hdN D p))) Q) :
    xWp l g mX10_start 0 0 97 [(1, va_rf (some y)), (2, .long j1), (0, w2), (2, .long j3), (0, w4), (1, .int x5), (1, .int 0), (1, .int x7), (1, .int (nI p)), (0, w9), (0, w10)] [.long (Int64.ofNat (hdN D p))] (0, 0) M Q := by
  have h17 := (hS.2.1 17 (by decide)).1
  have hle : hdN D p ≤ 1000000000 := hdN_le
  have key : lg_cmp (Int64.ofNat (hdN D p)) 0 = 0 ↔ hdN D p = 0 := by
    rw [lgeq]
    constructor
    · intro z
      have : (Int64.ofNat (hdN D p)).toUInt64.toNat = (0 : Int64).toUInt64.toNat := congrArg (fun x : Int64 => x.toUInt64.toNat) z
      rw [l_u64 (by omega)] at this
      exact this
    · intro z; rw [z]; rfl
  have lw : ∀ {N : xM} {v : Int32} {a b c : Value}, (∀ a b c, xWp l g mX10_start 0 0 60 [(1, va_rf (some y)), (2, .long j1), (0, w2), (2, .long j3), (0, w4), (1, .int x5), (1, .int v), (1, .int (x7 + 1)), (0, a), (0, b), (0, c)] [] (0, 0) N Q) → xWp l g mX10_start 0 0 60 [(1, va_rf (some y)), (2, .long j1), (0, w2), (2, .long j3), (0, w4), (1, .int x5), (1, .int v), (1, .int (x7 + 1)), (1, a), (2, b), (0, c)] [] (0, 0) N Q := fun {N v a b c} h => xWp.lw (h a b c) ⟨Or.inl rfl, Or.inl rfl, Or.inl rfl, Or.inl rfl, Or.inl rfl, Or.inl rfl, Or.inl rfl, Or.inl rfl, Or.inr rfl, Or.inr rfl, Or.inl rfl, trivial⟩
  refine bX10_start_97 _ _ _ _ _ _ _ _ _ _ _ _ ⟨fun z => ⟨hS.1, ad 17, h17, 512 * p + 9, ?_, ?_⟩, fun z => lw (hz (key.mp z))⟩
  · rw [show (512 : Int32) * nI p = nI (512 * p) from nI_mul 512 p, show nI (512 * p) + 9 = nI (512 * p + 9) from nI_add _ 9]
    exact hS.ai (j := 17) (by decide) (by show 512 * p + 9 < 131072; omega)
  · have hpos : 0 < hdN D p := by
      have : ¬ hdN D p = 0 := fun q => z (key.mpr q)
      omega
    have hok := hdN_pos hpos
    rw [show (512 : Int32) * nI p = nI (512 * p) from nI_mul 512 p, show nI (512 * p) + 10 = nI (512 * p + 10) from nI_add _ 10, h17, hD.1 _ (by omega)]
    refine sX10_numberAt (i := 10) (n := 2) hS hD (by omega) (by omega) ⟨_, rfl, hS.1, ?_⟩
    have e2 : lNm (pgF D p) 10 2 = Int64.ofNat (D (512 * p + 10) * 256 + D (512 * p + 11)) := lNm_2 (f := pgF D p) (fun x => hD.2 _) 10
    refine sX10_readTree (h := p) hS hD rfl hok.2.2.2.1 e2 (fun hn M2 hx2 => ⟨_, rfl, fun _ => lw (hbad hpos hn M2 hx2), fun q => absurd rfl q⟩) (fun T' hT' M2 hx2 hT2 h14 => ⟨_, rfl, fun q => absurd q (by decide), fun _ => ⟨(hx2.sS hS).1, lw (hgood hpos T' hT' M2 hx2 hT2 h14)⟩⟩)
end RST
