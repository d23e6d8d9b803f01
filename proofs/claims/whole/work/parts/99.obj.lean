/-! THE CLASS'S OBJECT: what its cells hold; its public methods. -/
/-- the object x: its tape K, whether it is down, its tree, the committed one, the disk, when power goes, the sequence; F: its cells -/
def cR (F : Nat → Prop) (M : xM) (x : Nat) (K : List Nat) (dn : Bool) (T Tc : TT) (D : Nat → Nat) (pw : Option Nat) (tr sq : Nat) : Prop :=
  ∃ (tp tb t tc s d db w rb w2 rb2 ta st stc : Nat) (KK KKc : List Nat) (φ φc ψ : Nat → Nat) (sp spc : List Nat) (tk : Nat → Bool),
    (xat M x 6 ∧ xR M x 0 = some tp ∧ xR M x 1 = some t ∧ xR M x 2 = some tc ∧ xR M x 3 = some s ∧ xI M x 4 = nI sq ∧ xI M x 5 = (if dn = true then 1 else 0)) ∧ tpR M tp tb K ∧
    (cKK M t st KK ψ ∧ cTr M t KK φ ψ T sp (tCnt T) (tKy T)) ∧ (cKK M tc stc KKc ψ ∧ cTr M tc KKc φc ψ Tc spc (tCnt Tc) (tKy Tc)) ∧ sto M s d db w rb w2 rb2 ta D pw tr tk ∧
    ((∀ a, RG t KK ψ a → ¬ RG tc KKc ψ a) ∧ (∀ a ∈ KK, ψ a ≠ tb) ∧ ∀ a ∈ KKc, ψ a ≠ tb) ∧ ∀ a, a = x ∨ a = tp ∨ a = tb ∨ RG t KK ψ a ∨ RG tc KKc ψ a ∨ RS d db rb rb2 ta a → F a
/-- what stands of the trees -/
def aI (T Tc : TT) (sq : Nat) : Prop := (tWF T ∧ tInv T) ∧ (tWF Tc ∧ tInv Tc ∧ ∀ n, tU Tc n = true → tR Tc n = false) ∧ sq < 2 ^ 30
section CO
variable {l : Launch} {g : xG} {M : xM} {Q : Option Value → xM → Prop} {F : Nat → Prop} {x : Nat} {K : List Nat} {dn : Bool} {T Tc : TT} {D : Nat → Nat} {pw : Option Nat} {tr sq : Nat}
variable {tp tb t tc s d db w rb w2 rb2 ta st stc : Nat} {KK KKc : List Nat} {φ φc ψ : Nat → Nat} {sp spc : List Nat} {tk : Nat → Bool}
/-- the object with all its parts named -/
def cRp (F : Nat → Prop) (M : xM) (x : Nat) (K : List Nat) (dn : Bool) (T Tc : TT) (D : Nat → Nat) (pw : Option Nat) (tr sq : Nat) (tp tb t tc s d db w rb w2 rb2 ta st stc : Nat) (KK KKc : List Nat) (φ φc ψ : Nat → Nat) (sp spc : List Nat) (tk : Nat → Bool) : Prop :=
    (xat M x 6 ∧ xR M x 0 = some tp ∧ xR M x 1 = some t ∧ xR M x 2 = some tc ∧ xR M x 3 = some s ∧ xI M x 4 = nI sq ∧ xI M x 5 = (if dn = true then 1 else 0)) ∧ tpR M tp tb K ∧
    (cKK M t st KK ψ ∧ cTr M t KK φ ψ T sp (tCnt T) (tKy T)) ∧ (cKK M tc stc KKc ψ ∧ cTr M tc KKc φc ψ Tc spc (tCnt Tc) (tKy Tc)) ∧ sto M s d db w rb w2 rb2 ta D pw tr tk ∧
    ((∀ a, RG t KK ψ a → ¬ RG tc KKc ψ a) ∧ (∀ a ∈ KK, ψ a ≠ tb) ∧ ∀ a ∈ KKc, ψ a ≠ tb) ∧ ∀ a, a = x ∨ a = tp ∨ a = tb ∨ RG t KK ψ a ∨ RG tc KKc ψ a ∨ RS d db rb rb2 ta a → F a
theorem cRp.r (h : cRp F M x K dn T Tc D pw tr sq tp tb t tc s d db w rb w2 rb2 ta st stc KK KKc φ φc ψ sp spc tk) : cR F M x K dn T Tc D pw tr sq := ⟨tp, tb, t, tc, s, d, db, w, rb, w2, rb2, ta, st, stc, KK, KKc, φ, φc, ψ, sp, spc, tk, h⟩
theorem RG_cKK (h : cKK M t st KK ψ) {y k : Nat} (hy : xK M y = k) (h5 : k ≠ 5) (h1 : k ≠ 1) (h9 : k ≠ 9) : ¬ RG t KK ψ y := fun z => by
  rcases z with z | z | ⟨b, hb, z⟩
  · exact ne_of_kind hy h.1.2 h5 z
  · exact ne_of_kind hy (h.2.2.1 _ z).1.2 h1 rfl
  · exact ne_of_kind hy (h.2.2.1 _ hb).2.2.1.2 h9 z
/-- cells of the object outside a set -/
theorem cRp.fr (h : cRp F M x K dn T Tc D pw tr sq tp tb t tc s d db w rb w2 rb2 ta st stc KK KKc φ φc ψ sp spc tk) {M1 : xM} (hx : xag (RG t KK ψ) M M1) :
    (xat M1 x 6 ∧ xR M1 x 0 = some tp ∧ xR M1 x 1 = some t ∧ xR M1 x 2 = some tc ∧ xR M1 x 3 = some s ∧ xI M1 x 4 = nI sq ∧ xI M1 x 5 = (if dn = true then 1 else 0)) ∧ tpR M1 tp tb K ∧ cKK M1 t st KK ψ := by
  obtain ⟨⟨a1, a2, a3, a4, a5, a6, a7⟩, b, ⟨c1, c2⟩, ⟨e1, e2⟩, f, ⟨g1, g2, g3⟩, i⟩ := h
  obtain ⟨p1, p2, p3⟩ := hx.2 x (RG_cKK c1 a1.2 (by decide) (by decide) (by decide))
  exact ⟨⟨hx.at.mpr a1, by rw [p3]; exact a2, by rw [p3]; exact a3, by rw [p3]; exact a4, by rw [p3]; exact a5, by rw [p1]; exact a6, by rw [p1]; exact a7⟩, tpR_RG b c2 g2 hx, c1.rg hx⟩
/-- another tree in the object -/
theorem cRp.tree (hW : tWF Tc) (h : cRp F M x K dn T Tc D pw tr sq tp tb t tc s d db w rb w2 rb2 ta st stc KK KKc φ φc ψ sp spc tk) {M1 : xM} {T1 : TT} {φ1 : Nat → Nat} {sp1 : List Nat} (hc : cTr M1 t KK φ1 ψ T1 sp1 (tCnt T1) (tKy T1)) (hx : xag (RG t KK ψ) M M1) :
    cRp F M1 x K dn T1 Tc D pw tr sq tp tb t tc s d db w rb w2 rb2 ta st stc KK KKc φ1 φc ψ sp1 spc tk ∧ xag F M M1 := by
  obtain ⟨f1, f2, f3⟩ := h.fr hx
  obtain ⟨⟨a1, a2, a3, a4, a5, a6, a7⟩, b, ⟨c1, c2⟩, ⟨e1, e2⟩, f, ⟨g1, g2, g3⟩, i⟩ := h
  refine ⟨⟨f1, f2, ⟨f3, hc⟩, ⟨e1.ag hx (RG_cKK c1 e1.2.1.2.1.2 (by decide) (by decide) (by decide)), e2.ag hW hx g1⟩, f.rg c2 hx, ⟨g1, g2, g3⟩, i⟩, hx.mono (fun a z => i a (Or.inr (Or.inr (Or.inr (Or.inl z)))))⟩
theorem dn0 {b : Bool} {y : Int32} (h : y = if b = true then 1 else 0) : (y = 0 ↔ b = false) := by rw [h]; exact z01
theorem isK (h : tpR M tp tb K) {Q1 : Option Value → xM → Prop} (hQ : Q1 (some (.int (if K.length ≤ 12 then 1 else 0))) M) : xSp l g mX7_isKey 0 0 [va_rf (some tp)] M Q1 := sX7_isKey h.1 h.2.1 h.2.2.1 hQ
/-- what put answers, and the tree then -/
def aPut (K : List Nat) (dn : Bool) (T : TT) (v : Int64) : Int32 × TT := if dn = true then (-4, T) else if 12 < K.length ∨ v = -9223372036854775808 then (-1, T) else tPut T K v
theorem sX9_put {v : Int64} (hA : aI T Tc sq) (h : cR F M x K dn T Tc D pw tr sq) (hQ : ∀ M1, cR F M1 x K dn (aPut K dn T v).2 Tc D pw tr sq → xag F M M1 → Q (some (.int (aPut K dn T v).1)) M1) : xSp l g mX9_put 0 0 [va_rf (some x), .long v] M Q := by
  obtain ⟨tp, tb, t, tc, s, d, db, w, rb, w2, rb2, ta, st, stc, KK, KKc, φ, φc, ψ, sp, spc, tk, h⟩ := h
  have h : cRp F M x K dn T Tc D pw tr sq tp tb t tc s d db w rb w2 rb2 ta st stc KK KKc φ φc ψ sp spc tk := h
  obtain ⟨⟨a1, a2, a3, a4, a5, a6, a7⟩, b, ⟨c1, c2⟩, ⟨e1, e2⟩, f, ⟨g1, g2, g3⟩, i⟩ := id h
  have hd := dn0 a7
  unfold aPut at hQ
  refine eX9_put _ _ (bX9_put_0 _ _ ⟨a1, fun c => ⟨tp, a2, b.1.1, ?_⟩, fun c => ?_⟩)
  · have hdn := hd.mp c
    rw [if_neg (by rw [hdn]; decide)] at hQ
    rw [a2]
    refine isK b ⟨_, rfl, fun c2' => ?_, fun c2' => ⟨fun c3 => ⟨a1, t, a3, c1.1, ?_⟩, fun c3 => ?_⟩⟩
    · have hk : ¬ K.length ≤ 12 := fun z => by rw [if_pos z] at c2'; exact absurd c2' (by decide)
      rw [if_pos (Or.inl (by omega))] at hQ
      exact hQ M h.r xag.rf
    · have hk : K.length ≤ 12 := Classical.byContradiction (fun z => c2' (by rw [if_neg z]))
      rw [if_neg (fun z => z.elim (fun y => by omega) (fun y => c3 (lg0.mpr y)))] at hQ
      rw [a3, a2]
      refine sX8_store hA.1.1 hA.1.2 c2 b g2 hk (fun M1 φ1 sp1 r1 x1 => ⟨_, rfl, ?_⟩)
      obtain ⟨q1, q2⟩ := h.tree hA.2.1.1 r1 x1
      exact hQ M1 q1.r q2
    · rw [if_pos (Or.inr (lg0.mp c3))] at hQ
      exact hQ M h.r xag.rf
  · have hdn : dn = true := bnf (fun z => c (hd.mpr z))
    rw [if_pos hdn] at hQ
    exact hQ M h.r xag.rf
def aRem (K : List Nat) (dn : Bool) (T : TT) : Int32 × TT := if dn = true then (-4, T) else if 12 < K.length then (-1, T) else tRem T K
theorem sX9_remove (hA : aI T Tc sq) (h : cR F M x K dn T Tc D pw tr sq) (hQ : ∀ M1, cR F M1 x K dn (aRem K dn T).2 Tc D pw tr sq → xag F M M1 → Q (some (.int (aRem K dn T).1)) M1) : xSp l g mX9_remove 0 0 [va_rf (some x)] M Q := by
  obtain ⟨tp, tb, t, tc, s, d, db, w, rb, w2, rb2, ta, st, stc, KK, KKc, φ, φc, ψ, sp, spc, tk, h⟩ := h
  have h : cRp F M x K dn T Tc D pw tr sq tp tb t tc s d db w rb w2 rb2 ta st stc KK KKc φ φc ψ sp spc tk := h
  obtain ⟨⟨a1, a2, a3, a4, a5, a6, a7⟩, b, ⟨c1, c2⟩, ⟨e1, e2⟩, f, ⟨g1, g2, g3⟩, i⟩ := id h
  have hd := dn0 a7
  unfold aRem at hQ
  refine eX9_remove _ (bX9_remove_0 _ ⟨a1, fun c => ⟨tp, a2, b.1.1, ?_⟩, fun c => ?_⟩)
  · have hdn := hd.mp c
    rw [if_neg (by rw [hdn]; decide)] at hQ
    rw [a2]
    refine isK b ⟨_, rfl, fun c2' => ⟨a1, t, a3, c1.1, ?_⟩, fun c2' => ?_⟩
    · have hk : K.length ≤ 12 := Classical.byContradiction (fun z => c2' (by rw [if_neg z]))
      rw [if_neg (by omega)] at hQ
      rw [a3, a2]
      refine sX8_drop hA.1.1 hA.1.2 c2 b (fun M1 sp1 r1 x1 => ⟨_, rfl, ?_⟩)
      obtain ⟨q1, q2⟩ := h.tree hA.2.1.1 r1 x1
      exact hQ M1 q1.r q2
    · have hk : ¬ K.length ≤ 12 := fun z => by rw [if_pos z] at c2'; exact absurd c2' (by decide)
      rw [if_pos (by omega)] at hQ
      exact hQ M h.r xag.rf
  · have hdn : dn = true := bnf (fun z => c (hd.mpr z))
    rw [if_pos hdn] at hQ
    exact hQ M h.r xag.rf
def aGet (K : List Nat) (dn : Bool) (T : TT) : Int64 := if dn = true ∨ 12 < K.length then -9223372036854775808 else match tFd T K with | none => -9223372036854775808 | some n => (tV T n).getD 0
theorem sX9_get (hA : aI T Tc sq) (h : cR F M x K dn T Tc D pw tr sq) (hQ : ∀ M1, cR F M1 x K dn T Tc D pw tr sq → xag F M M1 → Q (some (.long (aGet K dn T))) M1) : xSp l g mX9_get 0 0 [va_rf (some x)] M Q := by
  obtain ⟨tp, tb, t, tc, s, d, db, w, rb, w2, rb2, ta, st, stc, KK, KKc, φ, φc, ψ, sp, spc, tk, h⟩ := h
  have h : cRp F M x K dn T Tc D pw tr sq tp tb t tc s d db w rb w2 rb2 ta st stc KK KKc φ φc ψ sp spc tk := h
  obtain ⟨⟨a1, a2, a3, a4, a5, a6, a7⟩, b, ⟨c1, c2⟩, ⟨e1, e2⟩, f, ⟨g1, g2, g3⟩, i⟩ := id h
  have hd := dn0 a7
  have hx1 : xag (RG t KK ψ) M (skM M t φ T K) := (sk3_ag _ _ _).mono (fun x z => by rw [z]; exact RGt)
  have h2 : cTr (skM M t φ T K) t KK φ ψ T sp (tCnt T) (tKy T) := c2.sk hA.1.1 _ _ _
  unfold aGet at hQ
  refine eX9_get _ (bX9_get_0 _ ⟨a1, fun c => ?_, fun c => ⟨tp, a2, b.1.1, ?_⟩⟩)
  · have hdn : dn = true := bnf (fun z => c (hd.mpr z))
    rw [if_pos (Or.inl hdn)] at hQ
    exact hQ M h.r xag.rf
  · have hdn := hd.mp c
    rw [a2]
    refine isK b ⟨_, rfl, fun c2' => ⟨a1, t, a3, c1.1, ?_⟩, fun c2' => ?_⟩
    · have hk : K.length ≤ 12 := Classical.byContradiction (fun z => c2' (by rw [if_neg z]))
      rw [if_neg (fun z => z.elim (fun y => by rw [hdn] at y; cases y) (fun y => by omega))] at hQ
      rw [a3, a2]
      refine sX8_nodeOf hA.1.1 (c2.ns hA.1.1) b c1.1 c2.1.2.1 ⟨_, rfl, ?_⟩
      generalize skM M t φ T K = M2 at *
      obtain ⟨q1, q2⟩ := h.tree hA.2.1.1 h2 hx1
      cases hf : tFd T K with
      | none =>
        rw [hf] at hQ
        exact ⟨fun z => absurd rfl z, fun _ => hQ M2 q1.r q2⟩
      | some n =>
        rw [hf] at hQ
        have hn : tU T n = true := by rw [(tFd_some hf).1]; exact (tSe_ok hA.1.1 K).1
        have hb := (h2.2.1.1.1 n hn).1
        refine ⟨fun _ => ⟨φ n, rfl, hb.1.1, ?_⟩, fun z => by cases z⟩
        rw [hb.2.2.1.2.2.1]
        exact hQ M2 q1.r q2
    · have hk : ¬ K.length ≤ 12 := fun z => by rw [if_pos z] at c2'; exact absurd c2' (by decide)
      rw [if_pos (Or.inr (by omega))] at hQ
      exact hQ M h.r xag.rf
def aWith (K : List Nat) (dn : Bool) (T : TT) : Int32 := if dn = true then -4 else if 12 < K.length then -1 else nI (tWn T K)
theorem sX9_with (hA : aI T Tc sq) (h : cR F M x K dn T Tc D pw tr sq) (hQ : ∀ M1, cR F M1 x K dn T Tc D pw tr sq → xag F M M1 → Q (some (.int (aWith K dn T))) M1) : xSp l g mX9_with 0 0 [va_rf (some x)] M Q := by
  obtain ⟨tp, tb, t, tc, s, d, db, w, rb, w2, rb2, ta, st, stc, KK, KKc, φ, φc, ψ, sp, spc, tk, h⟩ := h
  have h : cRp F M x K dn T Tc D pw tr sq tp tb t tc s d db w rb w2 rb2 ta st stc KK KKc φ φc ψ sp spc tk := h
  obtain ⟨⟨a1, a2, a3, a4, a5, a6, a7⟩, b, ⟨c1, c2⟩, ⟨e1, e2⟩, f, ⟨g1, g2, g3⟩, i⟩ := id h
  have hd := dn0 a7
  unfold aWith at hQ
  refine eX9_with _ (bX9_with_0 _ ⟨a1, fun c => ⟨tp, a2, b.1.1, ?_⟩, fun c => ?_⟩)
  · have hdn := hd.mp c
    rw [if_neg (by rw [hdn]; decide)] at hQ
    rw [a2]
    refine isK b ⟨_, rfl, fun c2' => ⟨a1, t, a3, c1.1, ?_⟩, fun c2' => ?_⟩
    · have hk : K.length ≤ 12 := Classical.byContradiction (fun z => c2' (by rw [if_neg z]))
      rw [if_neg (by omega)] at hQ
      rw [a3, a2]
      refine sX8_keysUnder hA.1.1 c2 b g2 (fun M1 r1 x1 => ⟨_, rfl, ?_⟩)
      obtain ⟨q1, q2⟩ := h.tree hA.2.1.1 r1 x1
      exact hQ M1 q1.r q2
    · have hk : ¬ K.length ≤ 12 := fun z => by rw [if_pos z] at c2'; exact absurd c2' (by decide)
      rw [if_pos (by omega)] at hQ
      exact hQ M h.r xag.rf
  · have hdn : dn = true := bnf (fun z => c (hd.mpr z))
    rw [if_pos hdn] at hQ
    exact hQ M h.r xag.rf
def aBef (K : List Nat) (dn : Bool) (T : TT) : Int32 := if dn = true then -4 else if 12 < K.length then -1 else nI (tAn T K)
theorem sX9_before (hA : aI T Tc sq) (h : cR F M x K dn T Tc D pw tr sq) (hQ : ∀ M1, cR F M1 x K dn T Tc D pw tr sq → xag F M M1 → Q (some (.int (aBef K dn T))) M1) : xSp l g mX9_before 0 0 [va_rf (some x)] M Q := by
  obtain ⟨tp, tb, t, tc, s, d, db, w, rb, w2, rb2, ta, st, stc, KK, KKc, φ, φc, ψ, sp, spc, tk, h⟩ := h
  have h : cRp F M x K dn T Tc D pw tr sq tp tb t tc s d db w rb w2 rb2 ta st stc KK KKc φ φc ψ sp spc tk := h
  obtain ⟨⟨a1, a2, a3, a4, a5, a6, a7⟩, b, ⟨c1, c2⟩, ⟨e1, e2⟩, f, ⟨g1, g2, g3⟩, i⟩ := id h
  have hd := dn0 a7
  unfold aBef at hQ
  refine eX9_before _ (bX9_before_0 _ ⟨a1, fun c => ⟨tp, a2, b.1.1, ?_⟩, fun c => ?_⟩)
  · have hdn := hd.mp c
    rw [if_neg (by rw [hdn]; decide)] at hQ
    rw [a2]
    refine isK b ⟨_, rfl, fun c2' => ⟨a1, t, a3, c1.1, ?_⟩, fun c2' => ?_⟩
    · have hk : K.length ≤ 12 := Classical.byContradiction (fun z => c2' (by rw [if_neg z]))
      rw [if_neg (by omega)] at hQ
      rw [a3, a2]
      refine sX8_keysAhead hA.1.1 c2 b g2 (fun M1 r1 x1 => ⟨_, rfl, ?_⟩)
      obtain ⟨q1, q2⟩ := h.tree hA.2.1.1 r1 x1
      exact hQ M1 q1.r q2
    · have hk : ¬ K.length ≤ 12 := fun z => by rw [if_pos z] at c2'; exact absurd c2' (by decide)
      rw [if_pos (by omega)] at hQ
      exact hQ M h.r xag.rf
  · have hdn : dn = true := bnf (fun z => c (hd.mpr z))
    rw [if_pos hdn] at hQ
    exact hQ M h.r xag.rf
theorem tb_RG (h : cKK M t st KK ψ) (hb : tpOk M tp tb) (hne : ∀ a ∈ KK, ψ a ≠ tb) : ∀ a, a = tp ∨ a = tb → ¬ RG t KK ψ a := fun a ha z => by
  rcases ha with ha | ha
  · rw [ha] at z; exact RG_cKK h hb.1.2 (by decide) (by decide) (by decide) z
  · rw [ha] at z
    rcases z with z | z | ⟨b, hb2, z⟩
    · exact ne_of_kind hb.2.2.1.2 h.1.2 (by decide) z
    · exact ne_of_kind hb.2.2.1.2 (h.2.2.1 _ z).1.2 (by decide) rfl
    · exact hne b hb2 z.symm
/-- the object's own fields -/
theorem cRp.own (hW : tWF T) (hWc : tWF Tc) (h : cRp F M x K dn T Tc D pw tr sq tp tb t tc s d db w rb w2 rb2 ta st stc KK KKc φ φc ψ sp spc tk) {M1 : xM} {dn1 : Bool} {sq1 : Nat} (hx : xag (fun a => a = x) M M1) (hR : ∀ j, xR M1 x j = xR M x j) (h4 : xI M1 x 4 = nI sq1) (h5 : xI M1 x 5 = if dn1 = true then 1 else 0) :
    cRp F M1 x K dn1 T Tc D pw tr sq1 tp tb t tc s d db w rb w2 rb2 ta st stc KK KKc φ φc ψ sp spc tk ∧ xag F M M1 := by
  obtain ⟨⟨a1, a2, a3, a4, a5, a6, a7⟩, b, ⟨c1, c2⟩, ⟨e1, e2⟩, f, ⟨g1, g2, g3⟩, i⟩ := h
  have hxk : ∀ {y k : Nat}, xat M y k → k ≠ 6 → ¬ y = x := fun hy hk => ne_of_kind hy.2 a1.2 hk
  have hxG : ∀ a, a = x → ¬ RG t KK ψ a := fun a ha => by rw [ha]; exact RG_cKK c1 a1.2 (by decide) (by decide) (by decide)
  have hxGc : ∀ a, a = x → ¬ RG tc KKc ψ a := fun a ha => by rw [ha]; exact RG_cKK e1 a1.2 (by decide) (by decide) (by decide)
  obtain ⟨p1, -, p3⟩ := hx.2 tp (hxk b.1.1 (by decide))
  obtain ⟨q1, -, -⟩ := hx.2 tb (hxk b.1.2.2.1 (by decide))
  obtain ⟨⟨s1, s2, s3, s4, s5⟩, u, ⟨f1, v1⟩, ⟨f2, v2⟩, ⟨w1, w2', w3⟩, y1⟩ := id f
  exact ⟨⟨⟨hx.at.mpr a1, by rw [hR]; exact a2, by rw [hR]; exact a3, by rw [hR]; exact a4, by rw [hR]; exact a5, h4, h5⟩, tpR_fr b hx.1.1 hx.1.2.1 hx.1.2.2.1 (p1 1) (p3 0) q1, ⟨c1.ag hx (hxk c1.2.1.2.1 (by decide)), c2.ag hW hx hxG⟩, ⟨e1.ag hx (hxk e1.2.1.2.1 (by decide)), e2.ag hWc hx hxGc⟩, f.ag hx (hxk s1 (by decide)) (hxk u.1.1 (by decide)) (hxk u.1.2.2.1 (by decide)) (hxk v1.1.2.2.1 (by decide)) (hxk v2.1.2.2.1 (by decide)) (hxk w1 (by decide)), ⟨g1, g2, g3⟩, i⟩, hx.mono (fun a z => i a (Or.inl z))⟩
/-- another tape -/
theorem cRp.tape (hW : tWF T) (hWc : tWF Tc) (h : cRp F M x K dn T Tc D pw tr sq tp tb t tc s d db w rb w2 rb2 ta st stc KK KKc φ φc ψ sp spc tk) {M1 : xM} {K1 : List Nat} (hx : xag (fun a => a = tp ∨ a = tb) M M1) (hK : tpR M1 tp tb K1) :
    cRp F M1 x K1 dn T Tc D pw tr sq tp tb t tc s d db w rb w2 rb2 ta st stc KK KKc φ φc ψ sp spc tk ∧ xag F M M1 := by
  obtain ⟨⟨a1, a2, a3, a4, a5, a6, a7⟩, b, ⟨c1, c2⟩, ⟨e1, e2⟩, f, ⟨g1, g2, g3⟩, i⟩ := h
  have hxk : ∀ {y k : Nat}, xat M y k → k ≠ 4 → k ≠ 9 → ¬ (y = tp ∨ y = tb) := fun hy h4 h9 z => z.elim (ne_of_kind hy.2 b.1.1.2 h4) (ne_of_kind hy.2 b.1.2.2.1.2 h9)
  obtain ⟨p1, -, p3⟩ := hx.2 x (hxk a1 (by decide) (by decide))
  obtain ⟨⟨s1, s2, s3, s4, s5⟩, u, ⟨f1, v1⟩, ⟨f2, v2⟩, ⟨w1, w2', w3⟩, y1⟩ := id f
  exact ⟨⟨⟨hx.at.mpr a1, by rw [p3]; exact a2, by rw [p3]; exact a3, by rw [p3]; exact a4, by rw [p3]; exact a5, by rw [p1]; exact a6, by rw [p1]; exact a7⟩, hK, ⟨c1.ag hx (hxk c1.2.1.2.1 (by decide) (by decide)), c2.ag hW hx (tb_RG c1 b.1 g2)⟩, ⟨e1.ag hx (hxk e1.2.1.2.1 (by decide) (by decide)), e2.ag hWc hx (tb_RG e1 b.1 g3)⟩, f.ag hx (hxk s1 (by decide) (by decide)) (hxk u.1.1 (by decide) (by decide)) (hxk u.1.2.2.1 (by decide) (by decide)) (hxk v1.1.2.2.1 (by decide) (by decide)) (hxk v2.1.2.2.1 (by decide) (by decide)) (hxk w1 (by decide) (by decide)), ⟨g1, g2, g3⟩, i⟩, hx.mono (fun a z => i a (z.elim (fun e => Or.inr (Or.inl e)) (fun e => Or.inr (Or.inr (Or.inl e)))))⟩
/-- another tree and another store -/
theorem cRp.ts (hWc : tWF Tc) (h : cRp F M x K dn T Tc D pw tr sq tp tb t tc s d db w rb w2 rb2 ta st stc KK KKc φ φc ψ sp spc tk) {M1 : xM} {T1 : TT} {φ1 : Nat → Nat} {sp1 : List Nat} {D1 : Nat → Nat} {pw1 : Option Nat} {tr1 : Nat} {tk1 : Nat → Bool} (hc : cTr M1 t KK φ1 ψ T1 sp1 (tCnt T1) (tKy T1)) (hs : sto M1 s d db w rb w2 rb2 ta D1 pw1 tr1 tk1) (hx : xag (fun a => RG t KK ψ a ∨ RS d db rb rb2 ta a) M M1) :
    cRp F M1 x K dn T1 Tc D1 pw1 tr1 sq tp tb t tc s d db w rb w2 rb2 ta st stc KK KKc φ1 φc ψ sp1 spc tk1 ∧ xag F M M1 := by
  obtain ⟨⟨a1, a2, a3, a4, a5, a6, a7⟩, b, ⟨c1, c2⟩, ⟨e1, e2⟩, f, ⟨g1, g2, g3⟩, i⟩ := h
  have hS : ∀ {y k : Nat}, xat M y k → k ≠ 0 → k ≠ 8 → k ≠ 11 → ¬ RS d db rb rb2 ta y := fun {y k} hy h0 h8 h11 z => by
    obtain ⟨⟨s1, s2, s3, s4, s5⟩, u, ⟨f1, v1⟩, ⟨f2, v2⟩, ⟨w1, w2', w3⟩, y1⟩ := id f
    rcases z with z | z | z | z | z
    · exact ne_of_kind hy.2 u.1.1.2 h0 z
    · exact ne_of_kind hy.2 u.1.2.2.1.2 h8 z
    · exact ne_of_kind hy.2 v1.1.2.2.1.2 h8 z
    · exact ne_of_kind hy.2 v2.1.2.2.1.2 h8 z
    · exact ne_of_kind hy.2 w1.2 h11 z
  have hxP : ¬ (RG t KK ψ x ∨ RS d db rb rb2 ta x) := fun z => z.elim (RG_cKK c1 a1.2 (by decide) (by decide) (by decide)) (hS a1 (by decide) (by decide) (by decide))
  obtain ⟨p1, -, p3⟩ := hx.2 x hxP
  have htbG := tb_RG c1 b.1 g2
  obtain ⟨q1, -, q3⟩ := hx.2 tp (fun z => z.elim (htbG tp (Or.inl rfl)) (hS b.1.1 (by decide) (by decide) (by decide)))
  obtain ⟨r1, -, -⟩ := hx.2 tb (fun z => z.elim (htbG tb (Or.inr rfl)) (hS b.1.2.2.1 (by decide) (by decide) (by decide)))
  have hno := cKK_RS e1 f
  exact ⟨⟨⟨hx.at.mpr a1, by rw [p3]; exact a2, by rw [p3]; exact a3, by rw [p3]; exact a4, by rw [p3]; exact a5, by rw [p1]; exact a6, by rw [p1]; exact a7⟩, tpR_fr b hx.1.1 hx.1.2.1 hx.1.2.2.1 (q1 1) (q3 0) r1, ⟨c1.gs f hx, hc⟩, ⟨e1.ag hx (fun z => z.elim (RG_cKK c1 e1.2.1.2.1.2 (by decide) (by decide) (by decide)) (fun y => (hno stc y).2 rfl)), e2.ag hWc hx (fun a z => z.elim (g1 a) (fun y => (hno a y).1))⟩, hs, ⟨g1, g2, g3⟩, i⟩, hx.mono (fun a z => i a (z.elim (fun e => Or.inr (Or.inr (Or.inr (Or.inl e)))) (fun e => Or.inr (Or.inr (Or.inr (Or.inr (Or.inr e)))))))⟩
theorem sX9_halt (hA : aI T Tc sq) (h : cR F M x K dn T Tc D pw tr sq) (hQ : ∀ M1, cR F M1 x K true T Tc D pw tr sq → xag F M M1 → Q (some (.int (if dn = true then -4 else 1))) M1) : xSp l g mX9_halt 0 0 [va_rf (some x)] M Q := by
  obtain ⟨tp, tb, t, tc, s, d, db, w, rb, w2, rb2, ta, st, stc, KK, KKc, φ, φc, ψ, sp, spc, tk, h⟩ := h
  have h : cRp F M x K dn T Tc D pw tr sq tp tb t tc s d db w rb w2 rb2 ta st stc KK KKc φ φc ψ sp spc tk := h
  obtain ⟨⟨a1, a2, a3, a4, a5, a6, a7⟩, b, ⟨c1, c2⟩, ⟨e1, e2⟩, f, ⟨g1, g2, g3⟩, i⟩ := id h
  have hd := dn0 a7
  refine eX9_halt _ (bX9_halt_0 _ ⟨a1, fun c => ?_, fun c => ?_⟩)
  · have hdn := hd.mp c
    rw [if_neg (by rw [hdn]; decide)] at hQ
    obtain ⟨q1, q2⟩ := h.own (M1 := xsI M x 5 1) (dn1 := true) (sq1 := sq) hA.1.1 hA.2.1.1 (xag_I _ rfl) (fun j => rfl) (by rw [xI_sI, if_neg (fun z => absurd z.2 (by decide))]; exact a6) (by rw [xI_sI, if_pos ⟨rfl, rfl⟩]; rfl)
    exact hQ _ q1.r q2
  · have hdn : dn = true := bnf (fun z => c (hd.mpr z))
    rw [if_pos hdn] at hQ
    subst hdn
    exact hQ M h.r xag.rf
theorem sX9_tapeAt {i : Int32} (h : cR F M x K dn T Tc D pw tr sq) (hQ : Q (some (.int (if i < 0 then -1 else if i.toNatClampNeg < K.length then nI (K.getD i.toNatClampNeg 0) else -1))) M) : xSp l g mX9_tapeAt 0 0 [va_rf (some x), .int i] M Q := by
  obtain ⟨tp, tb, t, tc, s, d, db, w, rb, w2, rb2, ta, st, stc, KK, KKc, φ, φc, ψ, sp, spc, tk, ⟨⟨a1, a2, -⟩, b, -⟩⟩ := h
  refine eX9_tapeAt _ _ (bX9_tapeAt_0 _ _ ⟨a1, tp, a2, b.1.1, ?_⟩)
  rw [a2]
  by_cases hi : i < 0
  · rw [if_pos hi] at hQ
    exact sX7_byteAtN b.1 b.2.1 b.2.2.1 hi ⟨_, rfl, hQ⟩
  · rw [if_neg hi] at hQ
    obtain ⟨j, hj31, hj⟩ := nI_of hi
    subst hj
    rw [nI_clamp hj31] at hQ
    refine sX7_byteAt b.1 b.2.1 b.2.2.1 hj31 ⟨_, rfl, ?_⟩
    by_cases hk : j < K.length
    · rw [if_pos hk] at hQ ⊢
      rw [b.2.2.2.1 j hk]; exact hQ
    · rw [if_neg hk] at hQ ⊢; exact hQ
end CO
