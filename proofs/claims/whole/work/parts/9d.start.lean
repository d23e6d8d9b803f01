/-! start, power, octet, poke, type, cut: where nothing is thrown. -/
def aPow (dn : Bool) (pw : Option Nat) (tr : Nat) (n t : Int32) : Int32 × Option Nat × Nat := if dn = true then (-4, pw, tr) else if n < -1 ∨ 1000 < n ∨ t < 0 ∨ ¬ t < 512 then (-1, pw, tr) else (1, (if n = -1 then none else some n.toNatClampNeg), t.toNatClampNeg)
/-- a byte changed by a mask -/
def xB (b : Nat) (m : Int32) : Nat := b ^^^ (m.toBitVec.toNat % 256)
theorem xB_lt {b : Nat} (h : b < 256) (m : Int32) : xB b m < 256 := Nat.xor_lt_two_pow (n := 8) h (Nat.mod_lt _ (by decide))
theorem i8_of (y : Int32) : y.toInt8 = (nI (y.toBitVec.toNat % 256)).toInt8 := by
  apply Int8.toBitVec_inj.mp
  show BitVec.signExtend 8 y.toBitVec = BitVec.signExtend 8 (BitVec.ofNat 32 (y.toBitVec.toNat % 256))
  rw [BitVec.signExtend_eq_setWidth_of_le _ (by omega), BitVec.signExtend_eq_setWidth_of_le _ (by omega)]
  apply BitVec.eq_of_toNat_eq
  rw [BitVec.toNat_setWidth, BitVec.toNat_setWidth, BitVec.toNat_ofNat]
  omega
theorem xB_set {b : Nat} (h : b < 256) (m : Int32) : (nI b ^^^ m).toInt8.toInt32.toInt8.toInt32 = sB (xB b m) := by
  rw [Int8.toInt8_toInt32, i8_of (nI b ^^^ m)]
  unfold sB xB
  congr 3
  show (BitVec.ofNat 32 b ^^^ m.toBitVec).toNat % 256 = _
  rw [BitVec.toNat_xor, BitVec.toNat_ofNat, Nat.mod_eq_of_lt (by omega : b < 2 ^ 32)]
  have h1 := Nat.xor_mod_two_pow (a := b) (b := m.toBitVec.toNat) (n := 8)
  rw [show (2 : Nat) ^ 8 = 256 from rfl] at h1
  rw [h1, Nat.mod_eq_of_lt h]
section CO5
variable {l : Launch} {g : xG} {M : xM} {Q : Option Value → xM → Prop} {F : Nat → Prop} {x : Nat} {K : List Nat} {dn : Bool} {T Tc : TT} {D : Nat → Nat} {pw : Option Nat} {tr sq : Nat}
variable {tp tb t tc s d db w rb w2 rb2 ta st stc : Nat} {KK KKc : List Nat} {φ φc ψ : Nat → Nat} {sp spc : List Nat} {tk : Nat → Bool}
theorem cRp.sst (hW : tWF T) (hWc : tWF Tc) (h : cRp F M x K dn T Tc D pw tr sq tp tb t tc s d db w rb w2 rb2 ta st stc KK KKc φ φc ψ sp spc tk) {M1 : xM} {D1 : Nat → Nat} {pw1 : Option Nat} {tr1 : Nat} {tk1 : Nat → Bool} (hs : sto M1 s d db w rb w2 rb2 ta D1 pw1 tr1 tk1) (hx : xag (RS d db rb rb2 ta) M M1) :
    cRp F M1 x K dn T Tc D1 pw1 tr1 sq tp tb t tc s d db w rb w2 rb2 ta st stc KK KKc φ φc ψ sp spc tk1 ∧ xag F M M1 :=
  h.ts hWc (h.2.2.1.2.ag hW hx (fun a z => (cKK_RS h.2.2.1.1 h.2.2.2.2.1 a z).1)) hs (hx.mono (fun a z => Or.inr z))
theorem sto.pow {M1 : xM} {pw1 : Option Nat} {tr1 : Nat} (h : sto M s d db w rb w2 rb2 ta D pw tr tk) (h1 : pwI pw1 = xI M1 d 1) (hM : M1 = xsI (xsI M d 1 (pwI pw1)) d 2 (nI tr1)) (ht : tr1 < 512) (hp : ∀ k, pw1 = some k → k ≤ 1000) : sto M1 s d db w rb w2 rb2 ta D pw1 tr1 tk ∧ xag (RS d db rb rb2 ta) M M1 := by
  have hx : xag (fun a => a = d) M M1 := by rw [hM]; exact (xag_I (P := fun a => a = d) _ rfl).trans (xag_I (P := fun a => a = d) _ rfl)
  obtain ⟨⟨a1, a2, a3, a4, a5⟩, ⟨⟨b1, b2, b3, b4⟩, b5, b6, b7⟩, ⟨f1, c1⟩, ⟨f2, c2⟩, ⟨e1, e2, e3⟩, g1, g2, g3⟩ := id h
  have hk : ∀ {y k : Nat}, xat M y k → k ≠ 0 → ¬ y = d := fun hy hk => ne_of_kind hy.2 b1.2 hk
  obtain ⟨p1, -, p3⟩ := hx.2 s (hk a1 (by decide))
  obtain ⟨q1, -, -⟩ := hx.2 db (hk b3 (by decide))
  obtain ⟨r1, -, -⟩ := hx.2 ta (hk e1 (by decide))
  refine ⟨⟨⟨hx.at.mpr a1, by rw [p3]; exact a2, by rw [p3]; exact a3, by rw [p3]; exact a4, by rw [p3]; exact a5⟩, ⟨⟨hx.at.mpr b1, by rw [hx.1.2.2.2]; exact b2, hx.at.mpr b3, by rw [hx.1.2.2.1]; exact b4⟩, fun k hk2 => by rw [q1]; exact b5 k hk2, b6, h1.symm, by rw [hM, xI_sI, if_pos ⟨rfl, rfl⟩], ht, hp⟩, ⟨f1, c1.ag hx (hk c1.1.2.2.1 (by decide))⟩, ⟨f2, c2.ag hx (hk c2.1.2.2.1 (by decide))⟩, ⟨hx.at.mpr e1, by rw [hx.1.2.2.1]; exact e2, fun p hp => by rw [r1]; exact e3 p hp⟩, g1, g2, g3⟩, hx.mono (fun a z => Or.inl z)⟩
theorem sX0_setPower {n t : Int32} (h : xat M d 0) (hQ : Q none (xsI (xsI M d 1 n) d 2 t)) : xSp l g mX0_setPower 0 0 [va_rf (some d), .int n, .int t] M Q := eX0_setPower _ _ _ (bX0_setPower_0 _ _ _ ⟨h, hQ⟩)
theorem pwI_of {n : Int32} (h1 : ¬ n < -1) (h2 : ¬ 1000 < n) : pwI (if n = -1 then none else some n.toNatClampNeg) = n ∧ ∀ k, (if n = -1 then none else some n.toNatClampNeg) = some k → k ≤ 1000 := by
  by_cases hn : n = -1
  · rw [if_pos hn]
    exact ⟨hn.symm, fun k hk => by cases hk⟩
  · rw [if_neg hn]
    have h0 : ¬ n < 0 := fun z => by
      have a1 : ¬ n.toInt < (-1 : Int32).toInt := fun y => h1 (Int32.lt_iff_toInt_lt.mpr y)
      have a2 : n.toInt < (0 : Int32).toInt := Int32.lt_iff_toInt_lt.mp z
      have a3 : n.toInt ≠ (-1 : Int32).toInt := fun y => hn (Int32.toInt_inj.mp y)
      rw [show (-1 : Int32).toInt = -1 by decide] at a1 a3
      rw [show (0 : Int32).toInt = 0 by decide] at a2
      omega
    obtain ⟨j, hj31, hj⟩ := nI_of h0
    subst hj
    rw [nI_clamp hj31]
    refine ⟨rfl, fun k hk => ?_⟩
    cases hk
    exact nnlt h2 (a := 1000) rfl rfl
theorem sX9_power {n t0 : Int32} (hA : aI T Tc sq) (h : cR F M x K dn T Tc D pw tr sq) (hQ : ∀ M1, cR F M1 x K dn T Tc D (aPow dn pw tr n t0).2.1 (aPow dn pw tr n t0).2.2 sq → xag F M M1 → Q (some (.int (aPow dn pw tr n t0).1)) M1) : xSp l g mX9_power 0 0 [va_rf (some x), .int n, .int t0] M Q := by
  obtain ⟨tp, tb, t, tc, s, d, db, w, rb, w2, rb2, ta, st, stc, KK, KKc, φ, φc, ψ, sp, spc, tk, h⟩ := h
  have h : cRp F M x K dn T Tc D pw tr sq tp tb t tc s d db w rb w2 rb2 ta st stc KK KKc φ φc ψ sp spc tk := h
  obtain ⟨⟨a1, a2, a3, a4, a5, a6, a7⟩, b, ⟨c1, c2⟩, ⟨e1, e2⟩, f, ⟨g1, g2, g3⟩, i⟩ := id h
  have hd := dn0 a7
  unfold aPow at hQ
  refine eX9_power _ _ _ (bX9_power_0 _ _ _ ⟨a1, fun c => ?_, fun c => ?_⟩)
  · have hdn := hd.mp c
    rw [if_neg (by rw [hdn]; decide)] at hQ
    have hno : (n < -1 ∨ 1000 < n ∨ t0 < 0 ∨ ¬ t0 < 512) → Q (some (.int (-1))) M := fun z => by
      rw [if_pos z] at hQ
      exact hQ M h.r xag.rf
    refine ⟨fun z => hno (Or.inl z), fun k1 => ⟨fun z => hno (Or.inr (Or.inl z)), fun k2 => ⟨fun z => hno (Or.inr (Or.inr (Or.inl z))), fun k3 => ⟨fun k4 => ⟨s, a5, f.1.1, d, f.1.2.1, f.2.1.1.1, ?_⟩, fun z => hno (Or.inr (Or.inr (Or.inr z)))⟩⟩⟩⟩
    rw [if_neg (fun z => by
      rcases z with z | z | z | z
      · exact k1 z
      · exact k2 z
      · exact k3 z
      · exact z k4)] at hQ
    rw [f.1.2.1]
    obtain ⟨j, hj31, hj⟩ := nI_of k3
    subst hj
    have kj := nlt k4 rfl (b := 512) rfl
    rw [nI_clamp hj31] at hQ
    obtain ⟨p1, p2⟩ := pwI_of k1 k2
    refine sX0_setPower f.2.1.1.1 ⟨rfl, ?_⟩
    obtain ⟨q1, q2⟩ := f.pow (M1 := xsI (xsI M d 1 n) d 2 (nI j)) (pw1 := if n = -1 then none else some n.toNatClampNeg) (tr1 := j) (by rw [p1, xI_sI, if_neg (fun z => absurd z.2 (by decide)), xI_sI, if_pos ⟨rfl, rfl⟩]) (by rw [p1]) kj p2
    obtain ⟨u1, u2⟩ := h.sst hA.1.1 hA.2.1.1 q1 q2
    exact hQ _ u1.r u2
  · have hdn : dn = true := bnf (fun z => c (hd.mpr z))
    rw [if_pos hdn] at hQ
    exact hQ M h.r xag.rf
theorem sX9_start0 (h : cR F M x K false T Tc D pw tr sq) (hQ : Q (some (.int (-1))) M) : xSp l g mX9_start 0 0 [va_rf (some x)] M Q := by
  obtain ⟨tp, tb, t, tc, s, d, db, w, rb, w2, rb2, ta, st, stc, KK, KKc, φ, φc, ψ, sp, spc, tk, ⟨⟨a1, a2, a3, a4, a5, a6, a7⟩, -⟩⟩ := h
  exact eX9_start _ (bX9_start_0 _ ⟨a1, fun c => absurd a7 c, fun _ => hQ⟩)
theorem sX9_start (hA : aI T Tc sq) (h : cR F M x K true T Tc D pw tr sq) (hQ : ∀ M1, cR F M1 x K false (tLoad D).2 (tLoad D).2 D none 0 (tLoad D).1 → xag F M M1 → Q (some (.int (nI (tLoad D).1))) M1) : xSp l g mX9_start 0 0 [va_rf (some x)] M Q := by
  obtain ⟨tp, tb, t, tc, s, d, db, w, rb, w2, rb2, ta, st, stc, KK, KKc, φ, φc, ψ, sp, spc, tk, h⟩ := h
  have h : cRp F M x K true T Tc D pw tr sq tp tb t tc s d db w rb w2 rb2 ta st stc KK KKc φ φc ψ sp spc tk := h
  obtain ⟨⟨a1, a2, a3, a4, a5, a6, a7⟩, b, ⟨c1, c2⟩, ⟨e1, e2⟩, f, ⟨g1, g2, g3⟩, i⟩ := id h
  obtain ⟨hWL, hIL, hRL, hsL⟩ := tLoad_ok (D := D) f.2.1.2.2.1
  obtain ⟨h1, x1⟩ := h.own (M1 := xsI M x 5 0) (dn1 := false) (sq1 := sq) hA.1.1 hA.2.1.1 (xag_I _ rfl) (fun j => rfl) (by rw [xI_sI, if_neg (fun z => absurd z.2 (by decide))]; exact a6) (by rw [xI_sI, if_pos ⟨rfl, rfl⟩]; rfl)
  refine eX9_start _ (bX9_start_0 _ ⟨a1, fun _ => ⟨s, h1.1.2.2.2.2.1, h1.2.2.2.2.1.1.1, d, h1.2.2.2.2.1.1.2.1, h1.2.2.2.2.1.2.1.1.1, ?_⟩, fun c => absurd (a7.symm.trans c) (by decide)⟩)
  rw [h1.2.2.2.2.1.1.2.1]
  refine sX0_setPower h1.2.2.2.2.1.2.1.1.1 ⟨rfl, ?_⟩
  obtain ⟨q1, q2⟩ := h1.2.2.2.2.1.pow (M1 := xsI (xsI (xsI M x 5 0) d 1 (-1)) d 2 0) (pw1 := none) (tr1 := 0) (by rw [xI_sI, if_neg (fun z => absurd z.2 (by decide)), xI_sI, if_pos ⟨rfl, rfl⟩]; rfl) rfl (by omega) (fun k hk => by cases hk)
  obtain ⟨h2, x2⟩ := h1.sst hA.1.1 hA.2.1.1 q1 q2
  generalize xsI (xsI (xsI M x 5 0) d 1 (-1)) d 2 0 = M2 at *
  refine ⟨h2.1.1, s, h2.1.2.2.2.2.1, h2.2.2.2.2.1.1.1, ?_⟩
  rw [h2.1.2.2.2.2.1, h2.1.2.2.1]
  refine sX6_load h2.2.2.1.1 h2.2.2.1.2.1.2.1 (h2.2.2.1.2.2.1.2.2 _ hA.1.1.1.1) h2.2.2.2.2.1 (fun M3 φ3 sp3 tk3 r3 s3 x3 => ⟨_, rfl, ?_⟩)
  obtain ⟨h4, x4⟩ := h2.ts hA.2.1.1 r3 s3 x3
  obtain ⟨h5, x5⟩ := h4.own (M1 := xsI M3 x 4 (nI (tLoad D).1)) (dn1 := false) (sq1 := (tLoad D).1) hWL hA.2.1.1 (xag_I _ rfl) (fun j => rfl) (by rw [xI_sI, if_pos ⟨rfl, rfl⟩]) (by rw [xI_sI, if_neg (fun z => absurd z.2 (by decide))]; exact h4.1.2.2.2.2.2.2)
  refine ⟨h4.1.1, tc, h5.1.2.2.2.1, h5.2.2.2.1.1.1, ?_⟩
  rw [h5.1.2.2.2.1, h5.1.2.2.1]
  refine sX8_become hWL hIL.2.2 h5.2.2.2.1.1 h5.2.2.2.1.2.1.2.1 (h5.2.2.2.1.2.2.1.2.2 _ hA.2.1.1.1.1) h5.2.2.1.2 (fun a z y => g1 a y z) (fun M6 τ sp6 r1 r2 x6 => ⟨rfl, ?_⟩)
  obtain ⟨h7, x7⟩ := h5.two r2 r1 (x6.mono (fun a z => z.elim (fun e => Or.inr e) (fun e => Or.inl e)))
  refine ⟨h7.1.1, ?_⟩
  rw [h7.1.2.2.2.2.2.1]
  exact hQ M6 h7.r (x1.trans (x2.trans (x4.trans (x5.trans x7))))
theorem sX9_octet {p i : Nat} (hp : p < 256) (hi : i < 512) (h : cR F M x K dn T Tc D pw tr sq) (hQ : Q (some (.int (nI (D (512 * p + i))))) M) : xSp l g mX9_octet 0 0 [va_rf (some x), .int (nI p), .int (nI i)] M Q := by
  obtain ⟨tp, tb, t, tc, s, d, db, w, rb, w2, rb2, ta, st, stc, KK, KKc, φ, φc, ψ, sp, spc, tk, ⟨⟨a1, a2, a3, a4, a5, a6, a7⟩, b, ⟨c1, c2⟩, ⟨e1, e2⟩, f, -⟩⟩ := h
  refine eX9_octet _ _ _ (bX9_octet_0 _ _ _ (sX0_has hp hi ⟨_, rfl, fun _ => ⟨a1, s, a5, f.1.1, d, f.1.2.1, f.2.1.1.1, ?_⟩, fun c => absurd c (by decide)⟩))
  rw [f.1.2.1]
  exact sX0_byteAt f.2.1 hp hi ⟨_, rfl, hQ⟩
theorem sX9_poke {p i : Nat} {m : Int32} (hA : aI T Tc sq) (hp : p < 256) (hi : i < 512) (h : cR F M x K dn T Tc D pw tr sq) (hQ : ∀ M1, cR F M1 x K dn T Tc (va_up D (512 * p + i) (xB (D (512 * p + i)) m)) pw tr sq → xag F M M1 → Q (some (.int (nI (xB (D (512 * p + i)) m)))) M1) : xSp l g mX9_poke 0 0 [va_rf (some x), .int (nI p), .int (nI i), .int m] M Q := by
  obtain ⟨tp, tb, t, tc, s, d, db, w, rb, w2, rb2, ta, st, stc, KK, KKc, φ, φc, ψ, sp, spc, tk, h⟩ := h
  have h : cRp F M x K dn T Tc D pw tr sq tp tb t tc s d db w rb w2 rb2 ta st stc KK KKc φ φc ψ sp spc tk := h
  obtain ⟨⟨a1, a2, a3, a4, a5, a6, a7⟩, b, ⟨c1, c2⟩, ⟨e1, e2⟩, f, ⟨g1, g2, g3⟩, i'⟩ := id h
  have hb := f.2.1.2.2.1 (512 * p + i)
  refine eX9_poke _ _ _ _ (bX9_poke_0 _ _ _ _ (sX0_has hp hi ⟨_, rfl, fun _ => ⟨a1, s, a5, f.1.1, d, f.1.2.1, f.2.1.1.1, ?_⟩, fun c => absurd c (by decide)⟩))
  rw [f.1.2.1]
  refine sX0_byteAt f.2.1 hp hi ⟨_, rfl, d, rfl, f.2.1.1.1, ?_⟩
  obtain ⟨⟨b1, b2, b3, b4⟩, b5, b6, b7⟩ := id f.2.1
  refine eX0_setByte _ _ _ _ (bX0_setByte_0 _ _ _ _ (sX0_has hp hi ⟨_, rfl, fun c => absurd c (by decide), fun _ => ⟨b1, db, b2, 512 * p + i, ⟨b3, by rw [p512, nI_add], by rw [b4]; omega, by rw [b4]; omega⟩, rfl, ?_⟩⟩))
  rw [xB_set hb]
  have hx1 : xag (fun a => a = d ∨ a = db) M (xsI M db (512 * p + i) (sB (xB (D (512 * p + i)) m))) := xag_I _ (Or.inr rfl)
  have s1 := f.dk hx1 (f.2.1.up (k := 512 * p + i) (xB_lt hb m))
  obtain ⟨h1, x1⟩ := h.sst hA.1.1 hA.2.1.1 s1 (hx1.mono (fun a z => z.elim (fun e => Or.inl e) (fun e => Or.inr (Or.inl e))))
  refine ⟨h1.1.1, s, h1.1.2.2.2.2.1, s1.1.1, d, s1.1.2.1, s1.2.1.1.1, ?_⟩
  rw [s1.1.2.1]
  refine sX0_byteAt s1.2.1 hp hi ⟨_, rfl, ?_⟩
  rw [va_up_self]
  exact hQ _ h1.r x1
theorem sX9_cut {n : Nat} (hA : aI T Tc sq) (hn : n ≤ K.length) (h : cR F M x K dn T Tc D pw tr sq) (hQ : ∀ M1, cR F M1 x (K.take n) dn T Tc D pw tr sq → xag F M M1 → Q (some (.int (nI K.length))) M1) : xSp l g mX9_cut 0 0 [va_rf (some x), .int (nI n)] M Q := by
  obtain ⟨tp, tb, t, tc, s, d, db, w, rb, w2, rb2, ta, st, stc, KK, KKc, φ, φc, ψ, sp, spc, tk, h⟩ := h
  have h : cRp F M x K dn T Tc D pw tr sq tp tb t tc s d db w rb w2 rb2 ta st stc KK KKc φ φc ψ sp spc tk := h
  obtain ⟨⟨a1, a2, a3, a4, a5, a6, a7⟩, b, ⟨c1, c2⟩, ⟨e1, e2⟩, f, ⟨g1, g2, g3⟩, i⟩ := id h
  have h64 := b.2.2.1
  refine eX9_cut _ _ (bX9_cut_0 _ _ ⟨fun c => (nneg c rfl).elim, fun _ => ⟨a1, tp, a2, b.1.1, fun _ => ?_, fun c => ?_⟩⟩)
  · have hne : tb ≠ tp := ne_of_kind b.1.2.2.1.2 b.1.1.2 (by decide)
    have hx1 : xag (fun a => a = tp ∨ a = tb) M (xsI M tp 1 (nI n)) := xag_I _ (Or.inl rfl)
    have hl : (K.take n).length = n := by rw [List.length_take]; omega
    obtain ⟨q1, q2⟩ := h.tape (K1 := K.take n) hA.1.1 hA.2.1.1 hx1 ⟨b.1, by rw [xI_sI, if_pos ⟨rfl, rfl⟩, hl], by rw [hl]; omega, fun j hj => by
      rw [hl] at hj
      rw [xI_sI, if_neg (fun z => hne z.1), b.2.2.2.1 j (by omega)]
      congr 1
      simp [List.getD_eq_getElem?_getD, List.getElem?_take, hj], fun y hy => b.2.2.2.2 y (List.mem_of_mem_take hy)⟩
    rw [b.2.1]
    exact hQ _ q1.r q2
  · exfalso
    have := nnle c rfl b.2.1
    omega
end CO5
