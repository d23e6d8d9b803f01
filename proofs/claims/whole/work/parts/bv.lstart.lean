/-! The law's start: both objects are made, and the loop is entered. -/
section LST
variable {M M1 M2 : xM} {y : Nat} {ad : Nat → Nat} {T Tc : TT} {K : List Nat} {dn : Bool} {D : Nat → Nat} {pw : Option Nat} {tr sq : Nat}
theorem rT_gr {o : Nat} (hS : rS M y ad) (hx : xgr (fun _ => False) M M1) (hT : rT M ad o T) : rT M1 ad o T := fun n hn => by
  have e : ∀ j ∈ RL9, ∀ i, xI M1 (ad j) i = xI M (ad j) i ∧ xJ M1 (ad j) i = xJ M (ad j) i := fun j hj i => ⟨(hx.v (hS.2.1 j hj).2.1 id).1 i, (hx.v (hS.2.1 j hj).2.1 id).2.1 i⟩
  obtain ⟨h1, h2⟩ := hT n hn
  refine ⟨by rw [(e 4 (by decide) _).1]; exact h1, fun hu => ?_⟩
  obtain ⟨c1, c2, c3, c4, c5, c6, c7, c8, c9⟩ := h2 hu
  exact ⟨by rw [(e 5 (by decide) _).1]; exact c1, by rw [(e 6 (by decide) _).1]; exact c2, by rw [(e 8 (by decide) _).1]; exact c3, fun i hi => by rw [(e 7 (by decide) _).1]; exact c4 i hi, by rw [(e 9 (by decide) _).1]; exact c5, by rw [(e 10 (by decide) _).2]; exact c6, by rw [(e 11 (by decide) _).1]; exact c7, by rw [(e 12 (by decide) _).1]; exact c8, by rw [(e 13 (by decide) _).1]; exact c9⟩
theorem rR_gr (h : rR M y ad K dn T Tc D pw tr sq) (hx : xgr (fun _ => False) M M1) : rR M1 y ad K dn T Tc D pw tr sq := by
  obtain ⟨hS, hP, h3, ⟨hT, hr⟩, ⟨hTc, hrc⟩, hq, ⟨hD, hD2⟩, hp, ht, ht2, hpw⟩ := h
  have ey := hx.v hS.1 id
  have e : ∀ j ∈ RL9, ∀ i, xI M1 (ad j) i = xI M (ad j) i := fun j hj i => (hx.v (hS.2.1 j hj).2.1 id).1 i
  obtain ⟨p1, p2, p3, p4⟩ := hP
  exact ⟨⟨hx.at hS.1, fun j hj => ⟨by rw [ey.2.2]; exact (hS.2.1 j hj).1, hx.at (hS.2.1 j hj).2.1, by rw [hx.n (hS.2.1 j hj).2.1]; exact (hS.2.1 j hj).2.2⟩, hS.2.2⟩, ⟨by rw [ey.1]; exact p1, p2, fun i hi => by rw [e 1 (by decide)]; exact p3 i hi, p4⟩, by rw [ey.1]; exact h3, ⟨rT_gr hS hx hT, by rw [ey.1]; exact hr⟩, ⟨rT_gr hS hx hTc, by rw [ey.1]; exact hrc⟩, by rw [ey.2.1]; exact hq, ⟨fun k hk => by rw [e 17 (by decide)]; exact hD k hk, hD2⟩, fun z => by rw [ey.1]; exact hp z, fun z => by rw [ey.1]; exact ht z, ht2, hpw⟩
end LST
section LSU
variable {l : Launch} {g : xG} {K9 : xKt} {Ls : Nat} {xs : Nat → Int32} {b0 : Nat} {M : xM}
theorem law_start (hl : l.stackTraces = false) (hscr : xScr K9 b0 Ls xs) (hth : xThK K9) (hLs : Ls ≤ 2048) (hend : ∀ (M : xM) (L : List (Nat × Value)) (c1 c2 : Nat), c1 ≤ 601024 → c2 ≤ 7293034 → xWg l g hL_law 601024 7293034 746 L [.int 1] (c1, c2) M K9) :
    xWg l g hL_law 601024 7293034 0 [(1, va_rf (some b0)), (0, .null), (0, .null), (0, .null), (0, .null), (0, .null), (0, .null)] [] (0, 0) M K9 := by
  refine bL_law_0 hscr hth ⟨by omega, fun x hx => ⟨814, 142843, by omega, sX9_init xat_q (fun M1 hc => ⟨rfl, by omega, fun y hy => ⟨15, 141184, by omega, sX10_init xat_q (fun k => by rw [xI_new, if_pos rfl]) (fun k => by rw [xJ_new, if_pos rfl]) (fun M2 ad hr hn hg => ⟨rfl, by omega, fun o ho => ?_⟩)⟩⟩)⟩⟩
  have G1 : xgr (fun _ => False) M1 M2 := xgr_mk hy hg
  have G2 : xgr (fun _ => False) M2 (xnew M2 o 10 1) := xgr_new ho
  refine law_loop (F := fun a => a ∈ xL M1) (x := x) (y := y) (o := o) (ad := ad) hl hscr hth hLs hend 512 0 _ [] false tNil tNil (fun _ => 0) none 0 0 _ _ _ _ (by omega) ⟨⟨⟨tNil_wf, tNil_inv⟩, ⟨tNil_wf, tNil_inv, fun _ _ => rfl⟩, by omega⟩, cR_gr tNil_wf tNil_wf hc (G1.trans G2), rR_gr hr G2, ⟨xat_q, by rw [xN_new, if_pos rfl]⟩, ⟨fun a ha ra => ?_, fun z => ho (G1 _ z).1, fun z => ?_⟩⟩ (by omega) (by omega)
  · rcases ra with z | ⟨j, hj, z⟩
    · exact hy (z ▸ ha)
    · exact nl_new (hn j hj) (z ▸ ha)
  · rcases z with z | ⟨j, hj, z⟩
    · exact ho (z ▸ hr.1.1.1)
    · exact ho (z ▸ (hr.1.2.1 j hj).2.1.1)
end LSU
