/-! The reference's poke; what is out of range. -/
section RPK
variable {l : Launch} {g : xG} {M M0 M1 M2 M3 M4 M5 : xM} {Q : Option Value → xM → Prop} {y : Nat} {ad : Nat → Nat} {T T1 Tc : TT} {o n b c s m w a u f t k : Nat} {K W js : List Nat} {v : Int64} {P P1 : Nat → Nat → Prop} {dn dn1 : Bool} {D D1 : Nat → Nat} {pw pw1 : Option Nat} {tr tr1 sq : Nat}
theorem nI_xor {a b : Nat} (ha : a < 256) (hb : b < 256) : nI a ^^^ nI b = nI (a ^^^ b) := by
  apply Int32.toBitVec_inj.mp
  show BitVec.ofNat 32 a ^^^ BitVec.ofNat 32 b = BitVec.ofNat 32 (a ^^^ b)
  apply BitVec.eq_of_toNat_eq
  have h : a ^^^ b < 2 ^ 8 := Nat.xor_lt_two_pow (n := 8) ha hb
  rw [BitVec.toNat_xor, BitVec.toNat_ofNat, BitVec.toNat_ofNat, BitVec.toNat_ofNat, Nat.mod_eq_of_lt (by omega), Nat.mod_eq_of_lt (by omega), Nat.mod_eq_of_lt (by omega)]
theorem xB_ref {b : Nat} (h : b < 256) (m : Int32) : nI b ^^^ (m &&& 255) = nI (xB b m) := by
  have e : m &&& 255 = nI (m.toBitVec.toNat % 256) := pk_and m 8 (by decide)
  rw [e, nI_xor h (Nat.mod_lt _ (by decide))]
  rfl
/-- the disk written -/
theorem rR.dk (hA : aI T Tc sq) (h : rR M y ad K dn T Tc D pw tr sq) (hx : rX (fun a _ => a = ad 17) M M1) (h1 : ∀ k, k < 131072 → xI M1 (ad 17) k = nI (D1 k)) (h2 : ∀ k, D1 k < 256) : rR M1 y ad K dn T Tc D1 pw tr sq := by
  obtain ⟨hS, hP, h3, ⟨hT, hr⟩, ⟨hTc, hrc⟩, hq, -, hp, ht, ht2, hpw⟩ := h
  have fy : ∀ k, xI M1 y k = xI M y k ∧ xJ M1 y k = xJ M y k := fun k => hx.2 _ _ (fun z => hS.ny (j := 17) (by decide) z.symm)
  have fa : ∀ j ∈ RL9, j ≠ 17 → ¬ ad j = ad 17 := fun j hj n1 => hS.na hj (by decide) n1
  have na : ∀ j ∈ RA9, ¬ ad j = ad 17 := fun j hj => fa j (RA_RL j hj) (fun q => by subst q; revert hj; decide)
  refine ⟨hx.sS hS, ⟨by rw [(fy 2).1]; exact hP.1, hP.2.1, fun i hi => by rw [(hx.2 _ _ (fa 1 (by decide) (by decide))).1]; exact hP.2.2.1 i hi, hP.2.2.2⟩, by rw [(fy 3).1]; exact h3, ⟨?_, by rw [(fy 14).1]; exact hr⟩, ⟨?_, by rw [(fy 15).1]; exact hrc⟩, by rw [(fy 16).2]; exact hq, ⟨h1, h2⟩, fun z => by rw [(fy 18).1]; exact hp z, fun z => by rw [(fy 19).1]; exact ht z, ht2, hpw⟩
  · exact hx.tT hT (fun j hj n hn => na j hj) (fun i hi => fa 7 (by decide) (by decide)) (fun n hn hu => (tX_le hA.1.1 hu).1)
  · exact hx.tT hTc (fun j hj n hn => na j hj) (fun i hi => fa 7 (by decide) (by decide)) (fun n hn hu => (tX_le hA.2.1.1 hu).1)
theorem th_out1 {z v : Int32} (hA : aI T Tc sq) (h : rR M y ad K dn T Tc D pw tr sq) (hq : ∀ M1, rR M1 y ad K dn T Tc D pw tr sq → xag (rG y ad) M M1 → xI M1 y 0 = z → Q (some (.int v)) M1) : Q (some (.int v)) (xsI M y 0 z) :=
  hq _ (h.th hA) ((rX_I (P := rY y ad) (Or.inl ⟨rfl, Or.inl rfl⟩)).xa rY_g) (by rw [xI_sI, if_pos ⟨rfl, rfl⟩])
theorem sX10_poke {p i : Nat} {m : Int32} (hA : aI T Tc sq) (hp : p < 256) (hi : i < 512) (h : rR M y ad K dn T Tc D pw tr sq) (hQ : ∀ M1, rR M1 y ad K dn T Tc (va_up D (512 * p + i) (xB (D (512 * p + i)) m)) pw tr sq → xag (rG y ad) M M1 → xI M1 y 0 = 0 → Q (some (.int (nI (xB (D (512 * p + i)) m)))) M1) : xSp l g mX10_poke 0 0 [va_rf (some y), .int (nI p), .int (nI i), .int m] M Q := by
  have hR0 := h.th (v := 0) hA
  obtain ⟨hS, hP, h3, -, -, -, ⟨hD, hD2⟩, -⟩ := id hR0
  have i1 : (0 : Int32) ≤ nI p ∧ nI p ≤ 255 := ⟨nn_ge (fun z => nneg z rfl), Int32.not_lt.mp (fun z => by have := nlt z (a := 255) rfl rfl; omega)⟩
  have i2 : (0 : Int32) ≤ nI i ∧ nI i ≤ 511 := ⟨nn_ge (fun z => nneg z rfl), Int32.not_lt.mp (fun z => by have := nlt z (a := 511) rfl rfl; omega)⟩
  have e5 : 512 * nI p + nI i = nI (512 * p + i) := by rw [show (512 : Int32) = nI 512 from rfl, nI_mul, nI_add]
  have ai := hS.ai (j := 17) (k := 512 * p + i) (by decide) (by show _ < 131072; omega)
  refine eX10_poke _ _ _ _ (bX10_poke_0 _ _ _ _ (sX10_in (a := 0) (b := 255) ⟨_, rfl, fun c => ?_, fun _ => sX10_in (a := 0) (b := 511) ⟨_, rfl, fun c => ?_, fun _ => ?_⟩⟩))
  · rw [if_pos i1] at c; exact absurd c (by decide)
  · rw [if_pos i2] at c; exact absurd c (by decide)
  · refine bX10_poke_30 _ _ _ _ _ _ ⟨y, rfl, hS.1, hS.1, fun _ => ⟨ad 17, (hS.2.1 17 (by decide)).1, 512 * p + i, by rw [e5]; exact ai, 512 * p + i, by rw [e5]; exact ai, ad 17, (hS.2.1 17 (by decide)).1, 512 * p + i, by rw [e5]; exact ai, ?_⟩, fun c => ?_⟩
    · rw [hD _ (by omega), xB_ref (hD2 _), xI_sI, if_pos ⟨rfl, rfl⟩]
      have hx : rX (fun a _ => a = ad 17) (xsI M y 0 0) (xsI (xsI M y 0 0) (ad 17) (512 * p + i) (nI (xB (D (512 * p + i)) m))) := rX_I rfl
      refine hQ _ (hR0.dk hA hx (fun k hk => ?_) (fun k => ?_)) ?_ ?_
      · by_cases e : k = 512 * p + i
        · rw [xI_sI, if_pos ⟨rfl, e⟩, e, va_up_self]
        · rw [xI_sI, if_neg (fun z => e z.2), va_up_ne _ _ e]; exact hD k hk
      · by_cases e : k = 512 * p + i
        · rw [e, va_up_self]; exact xB_lt (hD2 _) m
        · rw [va_up_ne _ _ e]; exact hD2 k
      · exact ((rX_I (P := fun a _ => rG y ad a) (Or.inl rfl)).trans (hx.mono (fun a _ z => Or.inr ⟨17, by decide, z⟩))).xa (fun a k z => z)
      · rw [xI_sI, if_neg (fun z => hS.ny (j := 17) (by decide) z.1.symm), xI_sI, if_pos ⟨rfl, rfl⟩]
    · rw [xI_sI, if_pos ⟨rfl, rfl⟩] at c; exact absurd (by decide) c
/-- out of range: octet -/
theorem sX10_octet_no {p i : Int32} (hn : ¬ ((0 ≤ p ∧ p ≤ 255) ∧ (0 ≤ i ∧ i ≤ 511))) (hA : aI T Tc sq) (h : rR M y ad K dn T Tc D pw tr sq) (hQ : ∀ M1, rR M1 y ad K dn T Tc D pw tr sq → xag (rG y ad) M M1 → xI M1 y 0 = 1 → Q (some (.int 0)) M1) : xSp l g mX10_octet 0 0 [va_rf (some y), .int p, .int i] M Q := by
  have hS := h.1
  refine eX10_octet _ _ _ (bX10_octet_0 _ _ _ (sX10_in (a := 0) (b := 255) ⟨_, rfl, fun c => ⟨hS.1, fun c2 => ?_, fun _ => th_out1 hA h hQ⟩, fun c => sX10_in (a := 0) (b := 511) ⟨_, rfl, fun c2 => ⟨hS.1, fun c2 => ?_, fun _ => th_out1 hA h hQ⟩, fun c2 => ?_⟩⟩))
  · rw [xI_sI, if_pos ⟨rfl, rfl⟩] at c2; exact absurd c2 (by decide)
  · rw [xI_sI, if_pos ⟨rfl, rfl⟩] at c2; exact absurd c2 (by decide)
  · exfalso
    refine hn ⟨Classical.byContradiction (fun z => ?_), Classical.byContradiction (fun z => ?_)⟩
    · rw [if_neg z] at c; exact c rfl
    · rw [if_neg z] at c2; exact c2 rfl
/-- out of range: poke -/
theorem sX10_poke_no {p i m : Int32} (hn : ¬ ((0 ≤ p ∧ p ≤ 255) ∧ (0 ≤ i ∧ i ≤ 511))) (hA : aI T Tc sq) (h : rR M y ad K dn T Tc D pw tr sq) (hQ : ∀ M1, rR M1 y ad K dn T Tc D pw tr sq → xag (rG y ad) M M1 → xI M1 y 0 = 1 → Q (some (.int 0)) M1) : xSp l g mX10_poke 0 0 [va_rf (some y), .int p, .int i, .int m] M Q := by
  have hS := h.1
  have go : xWp l g mX10_poke 0 0 30 [(1, va_rf (some y)), (1, .int p), (1, .int i), (1, .int m)] [.int 1, va_rf (some y)] (0, 0) M Q := by
    refine bX10_poke_30 _ _ _ _ _ _ ⟨y, rfl, hS.1, hS.1, fun c => ?_, fun _ => th_out1 hA h hQ⟩
    rw [xI_sI, if_pos ⟨rfl, rfl⟩] at c; exact absurd c (by decide)
  refine eX10_poke _ _ _ _ (bX10_poke_0 _ _ _ _ (sX10_in (a := 0) (b := 255) ⟨_, rfl, fun c => go, fun c => sX10_in (a := 0) (b := 511) ⟨_, rfl, fun c2 => go, fun c2 => ?_⟩⟩))
  exfalso
  refine hn ⟨Classical.byContradiction (fun z => ?_), Classical.byContradiction (fun z => ?_)⟩
  · rw [if_neg z] at c; exact c rfl
  · rw [if_neg z] at c2; exact c2 rfl
/-- out of range: cut -/
theorem sX10_cut_no {x : Int32} (hn : ¬ (0 ≤ x ∧ x ≤ nI K.length)) (hA : aI T Tc sq) (h : rR M y ad K dn T Tc D pw tr sq) (hQ : ∀ M1, rR M1 y ad K dn T Tc D pw tr sq → xag (rG y ad) M M1 → xI M1 y 0 = 1 → Q (some (.int 0)) M1) : xSp l g mX10_cut 0 0 [va_rf (some y), .int x] M Q := by
  have hS := h.1
  refine eX10_cut _ _ (bX10_cut_0 _ _ ⟨hS.1, ?_⟩)
  rw [h.2.1.1]
  refine sX10_in (a := 0) ⟨_, rfl, fun _ => ⟨hS.1, fun c => ?_, fun _ => th_out1 hA h hQ⟩, fun c => ?_⟩
  · rw [xI_sI, if_pos ⟨rfl, rfl⟩] at c; exact absurd c (by decide)
  · rw [if_neg hn] at c; exact absurd rfl c
/-- type: a count that is none, a tape that is full -/
theorem sX10_type_no {x : Int32} {j : Int64} (hn : ¬ (1 ≤ x ∧ x ≤ 8)) (hA : aI T Tc sq) (h : rR M y ad K dn T Tc D pw tr sq) (hQ : ∀ M1, rR M1 y ad K dn T Tc D pw tr sq → xag (rG y ad) M M1 → xI M1 y 0 = 1 → Q (some (.int 0)) M1) : xSp l g mX10_type 0 0 [va_rf (some y), .long j, .int x] M Q := by
  have hS := h.1
  refine eX10_type _ _ _ (bX10_type_0 _ _ _ (sX10_in (a := 1) (b := 8) ⟨_, rfl, fun c => ?_, fun _ => ⟨hS.1, fun c => ?_, fun _ => th_out1 hA h hQ⟩⟩))
  · rw [if_neg hn] at c; exact absurd rfl c
  · rw [xI_sI, if_pos ⟨rfl, rfl⟩] at c; exact absurd c (by decide)
theorem sX10_type_full {n : Nat} {j : Int64} (hn1 : 1 ≤ n) (hn8 : n ≤ 8) (h64 : 64 < K.length + n) (hA : aI T Tc sq) (h : rR M y ad K dn T Tc D pw tr sq) (hQ : ∀ M1, rR M1 y ad K dn T Tc D pw tr sq → xag (rG y ad) M M1 → xI M1 y 0 = 2 → Q (some (.int 0)) M1) : xSp l g mX10_type 0 0 [va_rf (some y), .long j, .int (nI n)] M Q := by
  have hS := h.1
  have hP := h.2.1
  have hP64 := hP.2.1
  have i1 : (1 : Int32) ≤ nI n ∧ nI n ≤ 8 := ⟨Int32.not_lt.mp (fun z => by have := nlt z rfl (b := 1) rfl; omega), Int32.not_lt.mp (fun z => by have := nlt z (a := 8) rfl rfl; omega)⟩
  refine eX10_type _ _ _ (bX10_type_0 _ _ _ (sX10_in (a := 1) (b := 8) ⟨_, rfl, fun _ => ⟨hS.1, fun c => ?_, fun _ => ⟨fun c => ?_, fun _ => th_out1 hA h hQ⟩⟩, fun c => ?_⟩))
  · rw [hP.1, nI_add] at c
    have := nle c rfl (b := 64) rfl
    omega
  · rw [xI_sI, if_pos ⟨rfl, rfl⟩] at c; exact absurd c (by decide)
  · rw [if_pos i1] at c; exact absurd c (by decide)
end RPK
