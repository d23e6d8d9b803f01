/-! Worlds that grow. -/
/-- all that was there is there, and unchanged but at P -/
def xgr (P : Nat → Prop) (M M1 : xM) : Prop := ∀ a ∈ xL M, a ∈ xL M1 ∧ xK M1 a = xK M a ∧ xN M1 a = xN M a ∧ (¬ P a → (∀ k, xI M1 a k = xI M a k) ∧ (∀ k, xJ M1 a k = xJ M a k) ∧ ∀ k, xR M1 a k = xR M a k)
section GRW
variable {P P1 : Nat → Prop} {M M1 M2 : xM}
theorem xgr.rf : xgr P M M := fun a ha => ⟨ha, rfl, rfl, fun _ => ⟨fun _ => rfl, fun _ => rfl, fun _ => rfl⟩⟩
theorem xgr.trans (h1 : xgr P M M1) (h2 : xgr P M1 M2) : xgr P M M2 := fun a ha => by
  obtain ⟨a1, a2, a3, a4⟩ := h1 a ha
  obtain ⟨b1, b2, b3, b4⟩ := h2 a a1
  refine ⟨b1, b2.trans a2, b3.trans a3, fun z => ?_⟩
  obtain ⟨c1, c2, c3⟩ := a4 z
  obtain ⟨d1, d2, d3⟩ := b4 z
  exact ⟨fun k => (d1 k).trans (c1 k), fun k => (d2 k).trans (c2 k), fun k => (d3 k).trans (c3 k)⟩
theorem xgr.mono (h : xgr P M M1) (hp : ∀ a ∈ xL M, P a → P1 a) : xgr P1 M M1 := fun a ha => by
  obtain ⟨a1, a2, a3, a4⟩ := h a ha
  exact ⟨a1, a2, a3, fun z => a4 (fun q => z (hp a ha q))⟩
theorem xgr.at (h : xgr P M M1) {a c : Nat} (ha : xat M a c) : xat M1 a c := ⟨(h a ha.1).1, by rw [(h a ha.1).2.1]; exact ha.2⟩
theorem xgr.n (h : xgr P M M1) {a c : Nat} (ha : xat M a c) : xN M1 a = xN M a := (h a ha.1).2.2.1
theorem xgr.v (h : xgr P M M1) {a c : Nat} (ha : xat M a c) (hp : ¬ P a) : (∀ k, xI M1 a k = xI M a k) ∧ (∀ k, xJ M1 a k = xJ M a k) ∧ ∀ k, xR M1 a k = xR M a k := (h a ha.1).2.2.2 hp
theorem xgr_new {q kd n : Nat} (hq : q ∉ xL M) : xgr P M (xnew M q kd n) := fun a ha => by
  have hne : a ≠ q := fun z => hq (z ▸ ha)
  refine ⟨List.mem_append_left _ ha, by rw [xK_new, if_neg hne], by rw [xN_new, if_neg hne], fun _ => ⟨fun k => by rw [xI_new, if_neg hne], fun k => by rw [xJ_new, if_neg hne], fun k => by rw [xR_new, if_neg hne]⟩⟩
theorem xgr_R {b k : Nat} {v : Option Nat} (hb : P b) : xgr P M (xsR M b k v) := fun a ha => ⟨ha, rfl, rfl, fun z => ⟨fun _ => rfl, fun _ => rfl, fun j => by rw [xR_sR, if_neg (fun (w : a = b ∧ j = k) => z (by rw [w.1]; exact hb))]⟩⟩
theorem xgr_I {b k : Nat} {v : Int32} (hb : P b) : xgr P M (xsI M b k v) := fun a ha => ⟨ha, rfl, rfl, fun z => ⟨fun j => by rw [xI_sI, if_neg (fun (w : a = b ∧ j = k) => z (by rw [w.1]; exact hb))], fun _ => rfl, fun _ => rfl⟩⟩
theorem xgr_ag (h : xag P M M1) : xgr P M M1 := fun a ha => ⟨by rw [h.1.1]; exact ha, by rw [h.1.2.1], by rw [h.1.2.2.1], fun z => h.2 a z⟩
theorem xat_q {q kd n : Nat} : xat (xnew M q kd n) q kd := ⟨List.mem_append_right _ List.mem_cons_self, by rw [xK_new, if_pos rfl]⟩
end GRW
section CGR
variable {M M1 : xM} {F : Nat → Prop} {x t st tp tb nd ky s d db w rb w2 rb2 ta : Nat} {φ ψ : Nat → Nat} {KK sp K : List Nat} {dn : Bool} {T Tc : TT} {D : Nat → Nat} {pw : Option Nat} {tr sq : Nat} {tk : Nat → Bool} {f : Nat → Nat} {P : Nat → Prop}
theorem tpR_gr (h : tpR M tp tb K) (hx : xgr P M M1) (h1 : ¬ P tp) (h2 : ¬ P tb) : tpR M1 tp tb K := by
  obtain ⟨⟨a1, a2, a3, a4⟩, b, c, d, e⟩ := h
  obtain ⟨p1, p2, p3⟩ := hx.v a1 h1
  obtain ⟨q1, q2, q3⟩ := hx.v a3 h2
  exact ⟨⟨hx.at a1, by rw [p3]; exact a2, hx.at a3, by rw [hx.n a3]; exact a4⟩, by rw [p1]; exact b, c, fun i hi => by rw [q1]; exact d i hi, e⟩
theorem cKK_gr (h : cKK M t st KK ψ) (hx : xgr P M M1) (h1 : ¬ P t) (h2 : ¬ P st) (h3 : ∀ a ∈ KK, ¬ P a) : cKK M1 t st KK ψ := by
  obtain ⟨a1, ⟨b1, b2, b3, b4, b5, b6⟩, dd, e⟩ := h
  refine ⟨hx.at a1, ⟨by rw [(hx.v a1 h1).2.2]; exact b1, hx.at b2, by rw [hx.n b2]; exact b3, b4, b5, fun i hi => by rw [(hx.v b2 h2).2.2]; exact b6 i hi⟩, fun a ha => ?_, e⟩
  obtain ⟨d1, d2, d3, d4⟩ := dd a ha
  exact ⟨hx.at d1, by rw [(hx.v d1 (h3 a ha)).2.2]; exact d2, hx.at d3, by rw [hx.n d3]; exact d4⟩
theorem cTr_gr (hW : tWF T) (h : cTr M t KK φ ψ T sp nd ky) (hx : xgr P M M1) (h1 : ¬ P t) (h3 : ∀ a ∈ KK, ¬ P a) (h4 : ∀ a ∈ KK, ¬ P (ψ a)) : cTr M1 t KK φ ψ T sp nd ky := by
  obtain ⟨⟨g1, g2, g3, g4⟩, ⟨n1, n2, n3⟩, ⟨c1, c2, c3, c4⟩, k1, k2⟩ := id h
  obtain ⟨v1, -, v3⟩ := hx.v g1 h1
  refine ⟨⟨hx.at g1, by rw [v3]; exact g2, by rw [v1]; exact g3, by rw [v1]; exact g4⟩, ⟨⟨fun n hn => ?_, ?_⟩, n2, n3⟩, ⟨?_, c2, c3, c4⟩, fun a ha => ?_, k2⟩
  · obtain ⟨⟨⟨b1, b2, b3, b4⟩, b5, b6, b7⟩, c⟩ := n1.1 n hn
    obtain ⟨f1, f2, f3⟩ := hx.v b1 (h3 _ (n3 n hn))
    obtain ⟨f4, -, -⟩ := hx.v b3 (h4 _ (n3 n hn))
    refine ⟨⟨⟨hx.at b1, by rw [f3]; exact b2, hx.at b3, by rw [hx.n b3]; exact b4⟩, ⟨by rw [f1]; exact b5.1, fun i hi => by rw [f4]; exact b5.2 i hi⟩, ⟨by rw [f1]; exact b6.1, by rw [f1]; exact b6.2.1, by rw [f2]; exact b6.2.2.1, by rw [f1]; exact b6.2.2.2.1, by rw [f1]; exact b6.2.2.2.2.1, by rw [f1]; exact b6.2.2.2.2.2.1, by rw [f1]; exact b6.2.2.2.2.2.2⟩, by rw [f3]; exact b7⟩, ?_⟩
    rw [f3]
    refine chS_fr c (fun a ha => ?_)
    obtain ⟨z, hz, rfl⟩ := List.mem_map.mp ha
    have hzu := (hW.2.2.2.2.1 n z hn hz).1
    exact (hx.v (k1 _ (n3 z hzu)).1 (h3 _ (n3 z hzu))).2.2 11
  · rw [(hx.v (k1 _ (n3 _ hW.1.1)).1 (h3 _ (n3 _ hW.1.1))).2.2]; exact n1.2
  · rw [v3]
    exact chS_fr c1 (fun a ha => (hx.v (k1 _ (c3 a ha).1).1 (h3 _ (c3 a ha).1)).2.2 11)
  · obtain ⟨b1, b2, b3, b4⟩ := k1 a ha
    exact ⟨hx.at b1, by rw [(hx.v b1 (h3 a ha)).2.2]; exact b2, hx.at b3, by rw [hx.n b3]; exact b4⟩
theorem rwR_gr (h : rwR M w rb f) (hx : xgr P M M1) (h1 : ¬ P w) (h2 : ¬ P rb) : rwR M1 w rb f := by
  obtain ⟨⟨a1, a2, a3, a4⟩, b, c⟩ := h
  exact ⟨⟨hx.at a1, by rw [(hx.v a1 h1).2.2]; exact a2, hx.at a3, by rw [hx.n a3]; exact a4⟩, fun i hi => by rw [(hx.v a3 h2).1]; exact b i hi, c⟩
theorem dkR_gr (h : dkR M d db D pw tr) (hx : xgr P M M1) (h1 : ¬ P d) (h2 : ¬ P db) : dkR M1 d db D pw tr := by
  obtain ⟨⟨a1, a2, a3, a4⟩, b, c, e1, e2, e3, e4⟩ := h
  obtain ⟨v1, -, v3⟩ := hx.v a1 h1
  exact ⟨⟨hx.at a1, by rw [v3]; exact a2, hx.at a3, by rw [hx.n a3]; exact a4⟩, fun i hi => by rw [(hx.v a3 h2).1]; exact b i hi, c, by rw [v1]; exact e1, by rw [v1]; exact e2, e3, e4⟩
theorem sto_gr (h : sto M s d db w rb w2 rb2 ta D pw tr tk) (hx : xgr P M M1) (hp : ∀ a, (a = s ∨ a = d ∨ a = db ∨ a = w ∨ a = rb ∨ a = w2 ∨ a = rb2 ∨ a = ta) → ¬ P a) : sto M1 s d db w rb w2 rb2 ta D pw tr tk := by
  obtain ⟨⟨a1, a2, a3, a4, a5⟩, b, ⟨f1, c1⟩, ⟨f2, c2⟩, ⟨e1, e2, e3⟩, g1⟩ := h
  obtain ⟨-, -, q3⟩ := hx.v a1 (hp _ (Or.inl rfl))
  exact ⟨⟨hx.at a1, by rw [q3]; exact a2, by rw [q3]; exact a3, by rw [q3]; exact a4, by rw [q3]; exact a5⟩, dkR_gr b hx (hp _ (by simp)) (hp _ (by simp)), ⟨f1, rwR_gr c1 hx (hp _ (by simp)) (hp _ (by simp))⟩, ⟨f2, rwR_gr c2 hx (hp _ (by simp)) (hp _ (by simp))⟩, ⟨hx.at e1, by rw [hx.n e1]; exact e2, fun p hpp => by rw [(hx.v e1 (hp _ (by simp))).1]; exact e3 p hpp⟩, g1⟩
theorem cR_gr (hW : tWF T) (hWc : tWF Tc) (h : cR F M x K dn T Tc D pw tr sq) (hx : xgr (fun _ => False) M M1) : cR F M1 x K dn T Tc D pw tr sq := by
  obtain ⟨tp, tb, t, tc, s, d, db, w, rb, w2, rb2, ta, st, stc, KK, KKc, φ, φc, ψ, sp, spc, tk, ⟨a1, a2, a3, a4, a5, a6, a7⟩, b, ⟨c1, c2⟩, ⟨e1, e2⟩, f, g, i⟩ := h
  obtain ⟨p1, -, p3⟩ := hx.v a1 id
  exact ⟨tp, tb, t, tc, s, d, db, w, rb, w2, rb2, ta, st, stc, KK, KKc, φ, φc, ψ, sp, spc, tk, ⟨hx.at a1, by rw [p3]; exact a2, by rw [p3]; exact a3, by rw [p3]; exact a4, by rw [p3]; exact a5, by rw [p1]; exact a6, by rw [p1]; exact a7⟩, tpR_gr b hx id id, ⟨cKK_gr c1 hx id id (fun _ _ => id), cTr_gr hW c2 hx id (fun _ _ => id) (fun _ _ => id)⟩, ⟨cKK_gr e1 hx id id (fun _ _ => id), cTr_gr hWc e2 hx id (fun _ _ => id) (fun _ _ => id)⟩, sto_gr f hx (fun _ _ => id), g, i⟩
end CGR
