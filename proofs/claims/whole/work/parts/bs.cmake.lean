/-! The class's small objects are made. -/
section CMK
variable {l : Launch} {g : xG} {M0 M M1 M2 : xM} {Q : Option Value → xM → Prop} {a q kd n : Nat} {P R : Nat → Prop}
theorem xgr_ag2 (h : xgr P M0 M) (hx : xag R M M1) (hp : ∀ b ∈ xL M0, ¬ P b → ¬ R b) : xgr P M0 M1 := fun b hb => by
  obtain ⟨a1, a2, a3, a4⟩ := h b hb
  refine ⟨by rw [hx.1.1]; exact a1, by rw [hx.1.2.1]; exact a2, by rw [hx.1.2.2.1]; exact a3, fun z => ?_⟩
  obtain ⟨c1, c2, c3⟩ := a4 z
  obtain ⟨d1, d2, d3⟩ := hx.2 b (hp b hb z)
  exact ⟨fun k => by rw [d1]; exact c1 k, fun k => by rw [d2]; exact c2 k, fun k => by rw [d3]; exact c3 k⟩
theorem rst_ag (M : xM) (a : Nat) : xag (fun b => b = a) M (rst M a) := by
  refine ⟨⟨rst_L M a, rst_K M a, rst_N M a, fun b => by rw [rst_R, if_neg (fun z => by omega)]⟩, fun b hb => ⟨fun k => by rw [rst_I, if_neg (fun z => hb z.1)], fun k => by rw [rst_J, if_neg (fun z => hb z.1)], fun k => by rw [rst_R, if_neg (fun z => hb z.1)]⟩⟩
/-- a new object, then its constructor -/
theorem xgr_mk (hq : q ∉ xL M) (h : xgr (fun b => b = q) (xnew M q kd n) M1) : xgr P M M1 :=
  ((xgr_new (P := fun b => b = q) hq).trans h).mono (fun b hb z => absurd hb (by rw [z]; exact hq))
theorem xgr.nl (h : xgr P M M1) {b : Nat} (hb : b ∉ xL M1) : b ∉ xL M := fun z => hb (h b z).1
theorem nl_new {b : Nat} (hb : b ∉ xL (xnew M q kd n)) : b ∉ xL M := fun z => hb (List.mem_append_left _ z)
theorem sX3_init (h : xat M a 1) (hQ : ∀ M1 p, xat M1 a 1 → xR M1 a 0 = some p → xat M1 p 9 → xN M1 p = 12 → p ∉ xL M → xgr (fun b => b = a) M M1 → Q none M1) : xSp l g mX3_init 1 12 [va_rf (some a)] M Q := by
  refine eX3_init _ (bX3_init_0 _ ⟨by omega, fun q hq => ⟨xat_old hq h, by omega, sX3_reset (xat_old (n := 12) hq h) ⟨rfl, by omega, ?_⟩⟩⟩)
  have hx := rst_ag (xsR (xnew M q 9 12) a 0 (some q)) a
  have e : q ≠ a := fun z => hq (z ▸ h.1)
  refine hQ _ q (hx.at.mpr (xat_old (kd := 9) (n := 12) hq h)) (by rw [hx.1.2.2.2, xR_sR, if_pos ⟨rfl, rfl⟩]) (hx.at.mpr (xat_q (M := M) (q := q) (kd := 9) (n := 12))) (by rw [hx.1.2.2.1, xN_sR, xN_new, if_pos rfl]) hq ?_
  exact xgr_ag2 ((xgr_new (P := fun b => b = a) hq).trans (xgr_R rfl)) hx (fun b _ z => z)
theorem sX7_init (h : xat M a 4) (hQ : ∀ M1 p, tpR M1 a p [] → p ∉ xL M → xgr (fun b => b = a) M M1 → Q none M1) : xSp l g mX7_init 1 64 [va_rf (some a)] M Q := by
  refine eX7_init _ (bX7_init_0 _ ⟨by omega, fun q hq => ⟨xat_old hq h, by omega, ?_⟩⟩)
  refine hQ _ q ⟨⟨xat_old (kd := 9) (n := 64) hq h, ?_, xat_q (M := M) (q := q) (kd := 9) (n := 64), ?_⟩, ?_, by decide, fun i hi => absurd hi (Nat.not_lt_zero _), fun b hb => by cases hb⟩ hq (((xgr_new (P := fun b => b = a) hq).trans (xgr_R rfl)).trans (xgr_I rfl))
  · rw [xR_sI, xR_sR, if_pos ⟨rfl, rfl⟩]
  · rw [xN_sI, xN_sR, xN_new, if_pos rfl]
  · rw [xI_sI, if_pos ⟨rfl, rfl⟩]; rfl
theorem sX0_init (h : xat M a 0) (hQ : ∀ M1 p, dkR M1 a p (fun _ => 0) none 0 → p ∉ xL M → xgr (fun b => b = a) M M1 → Q none M1) : xSp l g mX0_init 1 131072 [va_rf (some a)] M Q := by
  refine eX0_init _ (bX0_init_0 _ ⟨by omega, fun q hq => ⟨xat_old hq h, by omega, ?_⟩⟩)
  have e : q ≠ a := fun z => hq (z ▸ h.1)
  refine hQ _ q ⟨⟨xat_old (kd := 8) (n := 131072) hq h, ?_, xat_q (M := M) (q := q) (kd := 8) (n := 131072), ?_⟩, fun k _ => ?_, fun k => (by show (0 : Nat) < 256; decide), ?_, ?_, by decide, fun k z => by cases z⟩ hq ((((xgr_new (P := fun b => b = a) hq).trans (xgr_R rfl)).trans (xgr_I rfl)).trans (xgr_I rfl))
  · rw [xR_sI, xR_sI, xR_sR, if_pos ⟨rfl, rfl⟩]
  · rw [xN_sI, xN_sI, xN_sR, xN_new, if_pos rfl]
  · rw [xI_sI, if_neg (fun z => e z.1), xI_sI, if_neg (fun z => e z.1), xI_sR, xI_new, if_pos rfl]; rfl
  · rw [xI_sI, if_neg (fun z => absurd z.2 (by decide)), xI_sI, if_pos ⟨rfl, rfl⟩]; rfl
  · rw [xI_sI, if_pos ⟨rfl, rfl⟩]; rfl
theorem sX5_init (h : xat M a 2) (hQ : ∀ M1 p, rwR M1 a p (fun _ => 0) → p ∉ xL M → xgr (fun b => b = a) M M1 → Q none M1) : xSp l g mX5_init 1 512 [va_rf (some a)] M Q := by
  refine eX5_init _ (bX5_init_0 _ ⟨by omega, fun q hq => ⟨xat_old hq h, by omega, ?_⟩⟩)
  refine hQ _ q ⟨⟨xat_old (kd := 8) (n := 512) hq h, ?_, xat_q (M := M) (q := q) (kd := 8) (n := 512), ?_⟩, fun k _ => ?_, fun k => (by show (0 : Nat) < 256; decide)⟩ hq ((xgr_new (P := fun b => b = a) hq).trans (xgr_R rfl))
  · rw [xR_sR, if_pos ⟨rfl, rfl⟩]
  · rw [xN_sR, xN_new, if_pos rfl]
  · rw [xI_sR, xI_new, if_pos rfl]; rfl
end CMK
section CMS
variable {l : Launch} {g : xG} {M M1 : xM} {Q : Option Value → xM → Prop} {s : Nat} {P R : Nat → Prop}
theorem sX6_init (h : xat M s 3) (hQ : ∀ M1 d db w rb w2 rb2 ta, sto M1 s d db w rb w2 rb2 ta (fun _ => 0) none 0 (fun _ => false) → (d ∉ xL M ∧ db ∉ xL M ∧ rb ∉ xL M ∧ rb2 ∉ xL M ∧ ta ∉ xL M) → xgr (fun b => b = s) M M1 → Q none M1) : xSp l g mX6_init 7 132357 [va_rf (some s)] M Q := by
  refine eX6_init _ (bX6_init_0 _ ⟨by omega, fun d hd => ⟨1, 131072, by omega, sX0_init xat_q (fun M1 db k1 n1 g1 => ⟨rfl, ?_⟩)⟩⟩)
  have sd : s ≠ d := fun z => hd (z ▸ h.1)
  have G1 : xgr (fun b => b = s) M M1 := xgr_mk hd g1
  have h1 := G1.at h
  refine ⟨h1, by omega, fun w hw => ⟨1, 512, by omega, sX5_init xat_q (fun M2 rb k2 n2 g2 => ⟨rfl, ?_⟩)⟩⟩
  have A1 : xgr (fun b => b = s) M1 (xsR M1 s 0 (some d)) := xgr_R rfl
  have A2 : xgr (fun _ => False) (xsR M1 s 0 (some d)) M2 := xgr_mk hw g2
  have G2 : xgr (fun b => b = s) M1 M2 := A1.trans (xgr_mk hw g2)
  have h2 := G2.at h1
  have r20 : xR M2 s 0 = some d := by rw [(A2.v (A1.at h1) id).2.2, xR_sR, if_pos ⟨rfl, rfl⟩]
  refine ⟨h2, by omega, fun w2 hw2 => ⟨1, 512, by omega, sX5_init xat_q (fun M3 rb2 k3 n3 g3 => ⟨rfl, ?_⟩)⟩⟩
  have A3 : xgr (fun b => b = s) M2 (xsR M2 s 1 (some w)) := xgr_R rfl
  have A4 : xgr (fun _ => False) (xsR M2 s 1 (some w)) M3 := xgr_mk hw2 g3
  have G3 : xgr (fun b => b = s) M2 M3 := A3.trans (xgr_mk hw2 g3)
  have h3 := G3.at h2
  have r30 : xR M3 s 0 = some d ∧ xR M3 s 1 = some w := by
    constructor
    · rw [(A4.v (A3.at h2) id).2.2, xR_sR, if_neg (fun z => absurd z.2 (by decide)), r20]
    · rw [(A4.v (A3.at h2) id).2.2, xR_sR, if_pos ⟨rfl, rfl⟩]
  refine ⟨h3, by omega, fun ta hta => ⟨by omega, ?_⟩⟩
  have sta : s ≠ ta := fun z => hta (z ▸ h3.1)
  have A5 : xgr (fun b => b = s) M3 (xsR (xnew (xsR M3 s 2 (some w2)) ta 11 256) s 3 (some ta)) := ((xgr_R (P := fun b => b = s) rfl).trans (xgr_new hta)).trans (xgr_R rfl)
  have h4 := A5.at h3
  have r4 : ∀ k, k < 2 → xR (xsR (xnew (xsR M3 s 2 (some w2)) ta 11 256) s 3 (some ta)) s k = xR M3 s k := fun k hk => by
    rw [xR_sR, if_neg (fun z => by omega), xR_new, if_neg sta, xR_sR, if_neg (fun z => by omega)]
  have ds : d ≠ s := fun z => sd z.symm
  have dbs : db ≠ s := ne_of_kind k1.1.2.2.1.2 h1.2 (by decide)
  have ws : w ≠ s := ne_of_kind k2.1.1.2 h2.2 (by decide)
  have rbs : rb ≠ s := ne_of_kind k2.1.2.2.1.2 h2.2 (by decide)
  have w2s : w2 ≠ s := ne_of_kind k3.1.1.2 h3.2 (by decide)
  have rb2s : rb2 ≠ s := ne_of_kind k3.1.2.2.1.2 h3.2 (by decide)
  have K1 := dkR_gr (dkR_gr (dkR_gr k1 G2 ds dbs) G3 ds dbs) A5 ds dbs
  have K2 := rwR_gr (rwR_gr k2 G3 ws rbs) A5 ws rbs
  have K3 := rwR_gr k3 A5 w2s rb2s
  have in1 : db ∈ xL M1 := k1.1.2.2.1.1
  have in2 : rb ∈ xL M2 := k2.1.2.2.1.1
  refine hQ _ d db w rb w2 rb2 ta ⟨⟨h4, by rw [r4 0 (by omega)]; exact r30.1, by rw [r4 1 (by omega)]; exact r30.2, ?_, ?_⟩, K1, ⟨_, K2⟩, ⟨_, K3⟩, ⟨?_, ?_, fun p _ => ?_⟩, ?_, ?_, ?_⟩ ⟨hd, nl_new n1, ?_, ?_, ?_⟩ (((G1.trans G2).trans G3).trans A5)
  · rw [xR_sR, if_neg (fun z => absurd z.2 (by decide)), xR_new, if_neg sta, xR_sR, if_pos ⟨rfl, rfl⟩]
  · rw [xR_sR, if_pos ⟨rfl, rfl⟩]
  · exact xat_q (M := xsR M3 s 2 (some w2)) (q := ta) (kd := 11) (n := 256)
  · rw [xN_sR, xN_new, if_pos rfl]
  · rw [xI_sR, xI_new, if_pos rfl]; rfl
  · exact fun z => nl_new n3 (z ▸ in2)
  · exact fun z => nl_new n2 (z ▸ in1)
  · exact fun z => nl_new n3 (z ▸ (G2 _ in1).1)
  · exact fun z => nl_new n2 (G1 _ z).1
  · exact fun z => nl_new n3 (G2 _ (G1 _ z).1).1
  · exact fun z => hta (G3 _ (G2 _ (G1 _ z).1).1).1
end CMS
