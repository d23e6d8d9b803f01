/-! The class's object is made. -/
section XMK
variable {l : Launch} {g : xG} {M M1 M2 M3 M4 M5 A B C : xM} {Q : Option Value → xM → Prop} {x tp tb t tc s d db w rb w2 rb2 ta : Nat}
theorem cR_make (hx : xat M1 x 6) (ht : tpR M1 tp tb []) (hR0 : xR M5 x 0 = some tp ∧ xR M5 x 1 = some t ∧ xR M5 x 2 = some tc ∧ xR M5 x 3 = some s ∧ xI M5 x 4 = 0 ∧ xI M5 x 5 = 0)
    (h1 : ∀ a ∈ xL M1, a ∈ xL A) (hT1 : tDn A M2 t) (h2 : ∀ a ∈ xL M2, a ∈ xL B) (htc : tc ∉ xL M2) (hT2 : tDn B M3 tc) (hs : sto M4 s d db w rb w2 rb2 ta (fun _ => 0) none 0 (fun _ => false))
    (G1 : xgr (fun b => b = x) M1 M2) (G2 : xgr (fun b => b = x) M2 M3) (G3 : xgr (fun b => b = x) M3 M4) (G4 : xgr (fun b => b = x) M4 M5) : cR (fun a => a ∈ xL M5) M5 x [] false tNil tNil (fun _ => 0) none 0 0 := by
  obtain ⟨st, KK, ψ, φ, sp, k1, k2, ⟨k3, k4⟩, -⟩ := hT1
  obtain ⟨stc, KKc, ψc, φc, spc, m1, m2, ⟨m3, m4⟩, -⟩ := hT2
  have hx2 := G1.at hx
  have hx3 := G2.at hx2
  have hx4 := G3.at hx3
  have nx : ∀ {N : xM} {b k : Nat}, xat N x 6 → xat N b k → k ≠ 6 → ¬ b = x := fun h6 hb hk => ne_of_kind hb.2 h6.2 hk
  have G23 : xgr (fun b => b = x) M2 M5 := (G2.trans G3).trans G4
  have G33 : xgr (fun b => b = x) M3 M5 := G3.trans G4
  have T0 := tpR_gr (tpR_gr ht G1 (nx hx ht.1.1 (by decide)) (nx hx ht.1.2.2.1 (by decide))) G23 (nx hx ht.1.1 (by decide)) (nx hx ht.1.2.2.1 (by decide))
  have in2 : ∀ a ∈ KK, a ∈ xL M2 ∧ ψ a ∈ xL M2 := fun a ha => ⟨(k1.2.2.1 a ha).1.1, (k1.2.2.1 a ha).2.2.1.1⟩
  have in3 : ∀ a ∈ KKc, a ∈ xL M3 ∧ ψc a ∈ xL M3 := fun a ha => ⟨(m1.2.2.1 a ha).1.1, (m1.2.2.1 a ha).2.2.1.1⟩
  have dj : ∀ a ∈ KKc, a ∉ KK := fun a ha z => (m4 a ha).1 (h2 _ (in2 a z).1)
  have e1 : ∀ a ∈ KK, (fun a => if a ∈ KK then ψ a else ψc a) a = ψ a := fun a ha => if_pos ha
  have e2 : ∀ a ∈ KKc, (fun a => if a ∈ KK then ψ a else ψc a) a = ψc a := fun a ha => if_neg (dj a ha)
  have U1 := cKK_psi (cKK_gr k1 G23 (nx hx2 k1.1 (by decide)) (nx hx2 k1.2.1.2.1 (by decide)) (fun a ha => nx hx2 (k1.2.2.1 a ha).1 (by decide))) e1
  have U2 := cTr_psi (cTr_gr tNil_wf k2 G23 (nx hx2 k1.1 (by decide)) (fun a ha => nx hx2 (k1.2.2.1 a ha).1 (by decide)) (fun a ha => nx hx2 (k1.2.2.1 a ha).2.2.1 (by decide))) e1
  have V1 := cKK_psi (cKK_gr m1 G33 (nx hx3 m1.1 (by decide)) (nx hx3 m1.2.1.2.1 (by decide)) (fun a ha => nx hx3 (m1.2.2.1 a ha).1 (by decide))) e2
  have V2 := cTr_psi (cTr_gr tNil_wf m2 G33 (nx hx3 m1.1 (by decide)) (fun a ha => nx hx3 (m1.2.2.1 a ha).1 (by decide)) (fun a ha => nx hx3 (m1.2.2.1 a ha).2.2.1 (by decide))) e2
  have S := hs
  obtain ⟨⟨s1, s2, s3, s4, s5⟩, s6, ⟨f1, s7⟩, ⟨f2, s8⟩, ⟨s9, s10, s11⟩, s12⟩ := hs
  have W := sto_gr S G4 (fun a ha => by
    rcases ha with z | z | z | z | z | z | z | z <;> rw [z]
    · exact nx hx4 s1 (by decide)
    · exact nx hx4 s6.1.1 (by decide)
    · exact nx hx4 s6.1.2.2.1 (by decide)
    · exact nx hx4 s7.1.1 (by decide)
    · exact nx hx4 s7.1.2.2.1 (by decide)
    · exact nx hx4 s8.1.1 (by decide)
    · exact nx hx4 s8.1.2.2.1 (by decide)
    · exact nx hx4 s9 (by decide))
  have tb1 : tb ∈ xL M1 := ht.1.2.2.1.1
  refine ⟨tp, tb, t, tc, s, d, db, w, rb, w2, rb2, ta, st, stc, KK, KKc, φ, φc, _, sp, spc, _, ⟨G4.at hx4, hR0.1, hR0.2.1, hR0.2.2.1, hR0.2.2.2.1, hR0.2.2.2.2.1, hR0.2.2.2.2.2⟩, T0, ⟨U1, U2⟩, ⟨V1, V2⟩, W, ⟨fun a ra rc => ?_, fun a ha z => ?_, fun a ha z => ?_⟩, fun a ha => ?_⟩
  · have l2 : a ∈ xL M2 := by
      rcases ra with z | z | ⟨b, hb, z⟩
      · rw [z]; exact k1.1.1
      · exact (in2 a z).1
      · rw [z, e1 b hb]; exact (in2 b hb).2
    rcases rc with z | z | ⟨b, hb, z⟩
    · exact htc (z ▸ l2)
    · exact (m4 a z).1 (h2 a l2)
    · rw [e2 b hb] at z
      exact (m4 b hb).2 (z ▸ h2 a l2)
  · replace z := (e1 a ha).symm.trans z
    exact (k4 a ha).2 (h1 _ (z ▸ tb1))
  · replace z := (e2 a ha).symm.trans z
    exact (m4 a ha).2 (h2 _ (G1 _ (z ▸ tb1)).1)
  · rcases ha with z | z | z | (z | z | ⟨b, hb, z⟩) | (z | z | ⟨b, hb, z⟩) | z | z | z | z | z
    · rw [z]; exact (G4.at hx4).1
    · rw [z]; exact T0.1.1.1
    · rw [z]; exact T0.1.2.2.1.1
    · rw [z]; exact U1.1.1
    · exact (U1.2.2.1 a z).1.1
    · rw [z]; exact (U1.2.2.1 b hb).2.2.1.1
    · rw [z]; exact V1.1.1
    · exact (V1.2.2.1 a z).1.1
    · rw [z]; exact (V1.2.2.1 b hb).2.2.1.1
    · rw [z]; exact W.2.1.1.1.1
    · rw [z]; exact W.2.1.1.2.2.1.1
    · rw [z]; exact (G4 _ s7.1.2.2.1.1).1
    · rw [z]; exact (G4 _ s8.1.2.2.1.1).1
    · rw [z]; exact W.2.2.2.2.1.1.1
theorem sX9_init (h : xat M x 6) (hQ : ∀ M1, cR (fun a => a ∈ xL M1) M1 x [] false tNil tNil (fun _ => 0) none 0 0 → Q none M1) : xSp l g mX9_init 814 142843 [va_rf (some x)] M Q := by
  refine eX9_init _ (bX9_init_0 _ ⟨by omega, fun tp htp => ⟨1, 64, by omega, sX7_init xat_q (fun M1 tb t1 t2 t3 => ⟨rfl, ?_⟩)⟩⟩)
  have G0 : xgr (fun _ => False) M M1 := xgr_mk htp t3
  have hx1 := G0.at h
  refine ⟨hx1, by omega, fun t ht => ⟨401, 5200, by omega, sX8_init xat_q (fun M2 hT1 => ⟨rfl, ?_⟩)⟩⟩
  have A1 : xgr (fun _ => False) (xsR M1 x 0 (some tp)) M2 := by obtain ⟨st, KK, ψ, φ, sp, -, -, -, z⟩ := id hT1; exact xgr_mk ht z
  have A2 : xgr (fun b => b = x) M1 (xsR M1 x 0 (some tp)) := xgr_R rfl
  have G1 : xgr (fun b => b = x) M1 M2 := A2.trans (A1.mono (fun _ _ z => z.elim))
  have hx2 := G1.at hx1
  have r2 : xR M2 x 0 = some tp := by rw [(A1.v (A2.at hx1) id).2.2, xR_sR, if_pos ⟨rfl, rfl⟩]
  refine ⟨hx2, by omega, fun tc htc => ⟨401, 5200, by omega, sX8_init xat_q (fun M3 hT2 => ⟨rfl, ?_⟩)⟩⟩
  have B1 : xgr (fun _ => False) (xsR M2 x 1 (some t)) M3 := by obtain ⟨st, KK, ψ, φ, sp, -, -, -, z⟩ := id hT2; exact xgr_mk htc z
  have B2 : xgr (fun b => b = x) M2 (xsR M2 x 1 (some t)) := xgr_R rfl
  have G2 : xgr (fun b => b = x) M2 M3 := B2.trans (B1.mono (fun _ _ z => z.elim))
  have hx3 := G2.at hx2
  have r3 : xR M3 x 0 = some tp ∧ xR M3 x 1 = some t := by
    rw [(B1.v (B2.at hx2) id).2.2, (B1.v (B2.at hx2) id).2.2]
    exact ⟨by rw [xR_sR, if_neg (fun z => absurd z.2 (by decide))]; exact r2, by rw [xR_sR, if_pos ⟨rfl, rfl⟩]⟩
  refine ⟨hx3, by omega, fun s hs => ⟨7, 132357, by omega, sX6_init xat_q (fun M4 d db w rb w2 rb2 ta hS _ hg => ⟨rfl, ?_⟩)⟩⟩
  have C1 : xgr (fun _ => False) (xsR M3 x 2 (some tc)) M4 := xgr_mk hs hg
  have C2 : xgr (fun b => b = x) M3 (xsR M3 x 2 (some tc)) := xgr_R rfl
  have G3 : xgr (fun b => b = x) M3 M4 := C2.trans (C1.mono (fun _ _ z => z.elim))
  have hx4 := G3.at hx3
  have r4 : xR M4 x 0 = some tp ∧ xR M4 x 1 = some t ∧ xR M4 x 2 = some tc := by
    rw [(C1.v (C2.at hx3) id).2.2, (C1.v (C2.at hx3) id).2.2, (C1.v (C2.at hx3) id).2.2]
    exact ⟨by rw [xR_sR, if_neg (fun z => absurd z.2 (by decide))]; exact r3.1, by rw [xR_sR, if_neg (fun z => absurd z.2 (by decide))]; exact r3.2, by rw [xR_sR, if_pos ⟨rfl, rfl⟩]⟩
  refine ⟨hx4, by omega, hQ _ ?_⟩
  have G4 : xgr (fun b => b = x) M4 (xsI (xsI (xsR M4 x 3 (some s)) x 4 0) x 5 0) := ((xgr_R (P := fun b => b = x) rfl).trans (xgr_I rfl)).trans (xgr_I rfl)
  refine cR_make (A := xnew (xsR M1 x 0 (some tp)) t 5 0) (B := xnew (xsR M2 x 1 (some t)) tc 5 0) hx1 t1 ⟨?_, ?_, ?_, ?_, ?_, ?_⟩ (fun a ha => List.mem_append_left _ ha) hT1 (fun a ha => List.mem_append_left _ ha) htc hT2 hS G1 G2 G3 G4
  · rw [xR_sI, xR_sI, xR_sR, if_neg (fun z => absurd z.2 (by decide))]; exact r4.1
  · rw [xR_sI, xR_sI, xR_sR, if_neg (fun z => absurd z.2 (by decide))]; exact r4.2.1
  · rw [xR_sI, xR_sI, xR_sR, if_neg (fun z => absurd z.2 (by decide))]; exact r4.2.2
  · rw [xR_sI, xR_sI, xR_sR, if_pos ⟨rfl, rfl⟩]
  · rw [xI_sI, if_neg (fun z => absurd z.2 (by decide)), xI_sI, if_pos ⟨rfl, rfl⟩]
  · rw [xI_sI, if_pos ⟨rfl, rfl⟩]
end XMK
