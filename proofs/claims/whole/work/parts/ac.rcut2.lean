/-! The reference's cutInTwo, whole. -/
section RCV
variable {l : Launch} {g : xG} {M M0 M1 M2 M3 M4 M5 : xM} {Q : Option Value → xM → Prop} {y : Nat} {ad : Nat → Nat} {T T1 Tc : TT} {o n b c s m w a : Nat} {K W p : List Nat} {v : Int64} {P P1 : Nat → Nat → Prop}
theorem rT_y {k : Nat} {x : Int32} (hS : rS M y ad) (hT : rT M ad o T) (h12 : ∀ n, n < 220 → tU T n = true → (tX T n).length ≤ 12) : rT (xsI M y k x) ad o T :=
  (rX_I (P := fun a _ => a = y) rfl).tT hT (fun j hj n hn => hS.ny (RA_RL j hj)) (fun i hi => hS.ny (j := 7) (by decide)) h12
theorem getD_dr (X : List Nat) (k i : Nat) : (X.drop k).getD i 0 = X.getD (k + i) 0 := by
  rw [List.getD_eq_getElem?_getD, List.getD_eq_getElem?_getD, List.getElem?_drop]
theorem rT_cu0 (hW : tWF T) (hs : tU T s = true) (ha : tU T a = false) (hm : m < (tX T s).length) (hS : rS M3 y ad) (hT3 : rT M3 ad 0 (tCu1 T s m a))
    (h4 : M4 = xsI (xsI (xsI M3 (ad 6) s (nI ((tX T s).getD m 0))) (ad 5) s (nI a)) (ad 8) s (nI ((tX T s).length - (m + 1)))) (hx5 : rX (fun b k => b = ad 7 ∧ 12 * s ≤ k ∧ k < 12 * s + 12) M4 M5) (h7 : ∀ i, i < (tX T s).length - (m + 1) → xI M5 (ad 7) (12 * s + i) = nI ((tX T s).getD (i + m + 1) 0)) :
    rX (rN ad s) M3 M5 ∧ rT M5 ad 0 (tCu0 T s m a) := by
  have hsa : s ≠ a := fun z => by rw [z, ha] at hs; cases hs
  have hs220 := (hW.2.1 s hs).1
  have hx34 : rX (rN ad s) M3 M4 := by
    rw [h4]
    exact (rX_I (Or.inl ⟨6, by decide, rfl, rfl⟩)).trans ((rX_I (Or.inl ⟨5, by decide, rfl, rfl⟩)).trans (rX_I (Or.inl ⟨8, by decide, rfl, rfl⟩)))
  have hx : rX (rN ad s) M3 M5 := hx34.trans (hx5.mono (fun b k z => Or.inr z))
  have hu1 : tU (tCu1 T s m a) s = true := by
    show va_up (tU T) a true s = true
    rw [va_up_ne _ _ hsa]; exact hs
  obtain ⟨c1, c2, c3, c4, c5, c6, c7, c8, c9⟩ := rC0.mp ((hT3 s hs220).2 hu1)
  have e : ∀ j ∈ RL9, j ≠ 7 → j ≠ 6 → j ≠ 5 → j ≠ 8 → ∀ k, xI M5 (ad j) k = xI M3 (ad j) k ∧ xJ M5 (ad j) k = xJ M3 (ad j) k := fun j hj n7 n6 n5 n8 k => by
    obtain ⟨g1, g2⟩ := hx5.2 (ad j) k (fun z => hS.na hj (by decide) n7 z.1)
    rw [g1, g2, h4, rsk hS hj (by decide) n8, rsk hS hj (by decide) n5, rsk hS hj (by decide) n6]
    exact ⟨rfl, rfl⟩
  have e2 : ∀ j ∈ RL9, j ≠ 7 → ∀ k, xI M5 (ad j) k = xI M4 (ad j) k := fun j hj n7 k => (hx5.2 (ad j) k (fun z => hS.na hj (by decide) n7 z.1)).1
  refine ⟨hx, rT_upd (c := s) hS hT3 hx (fun n hn => ?_) ⟨?_, fun _ => rC0.mpr ?_⟩ (fun n hn => ⟨rfl, va_up_ne _ _ hn, va_up_ne _ _ hn, va_up_ne _ _ hn, rfl, rfl, rfl, rfl⟩)⟩
  · by_cases hna : n = a
    · rw [hna]
      have : tX (tCu1 T s m a) a = (tX T s).take m := va_up_self _ _ _
      rw [this, List.length_take]
      have := (tX_le hW hs).1
      omega
    · have h1 : tX (tCu1 T s m a) n = tX T n := va_up_ne _ _ hna
      have h2 : tU (tCu1 T s m a) n = tU T n := va_up_ne _ _ hna
      rw [h1]; rw [h2] at hn
      exact (tX_le hW hn).1
  · rw [(e 4 (by decide) (by decide) (by decide) (by decide) (by decide) _).1]
    have := (hT3 s hs220).1
    rw [Nat.zero_add] at this
    exact this
  · have eX : tX (tCu0 T s m a) s = (tX T s).drop (m + 1) := va_up_self _ _ _
    have eP : tP (tCu0 T s m a) s = some a := va_up_self _ _ _
    have eB : tB (tCu0 T s m a) s = (tX T s).getD m 0 := va_up_self _ _ _
    refine ⟨?_, ?_, ?_, fun i hi => ?_, ?_, ?_, ?_, ?_, ?_⟩
    · rw [e2 5 (by decide) (by decide), h4, rsk hS (i := 5) (j := 8) (by decide) (by decide) (by decide), xI_sI, if_pos ⟨rfl, rfl⟩, eP]; rfl
    · rw [e2 6 (by decide) (by decide), h4, rsk hS (i := 6) (j := 8) (by decide) (by decide) (by decide), rsk hS (i := 6) (j := 5) (by decide) (by decide) (by decide), xI_sI, if_pos ⟨rfl, rfl⟩, eB]
    · rw [e2 8 (by decide) (by decide), h4, xI_sI, if_pos ⟨rfl, rfl⟩, eX, List.length_drop]
    · rw [eX] at hi ⊢
      rw [List.length_drop] at hi
      rw [h7 i hi, getD_dr]
      congr 2; omega
    · rw [(e 9 (by decide) (by decide) (by decide) (by decide) (by decide) _).1]; exact c5
    · rw [(e 10 (by decide) (by decide) (by decide) (by decide) (by decide) _).2]; exact c6
    · rw [(e 11 (by decide) (by decide) (by decide) (by decide) (by decide) _).1]; exact c7
    · rw [(e 12 (by decide) (by decide) (by decide) (by decide) (by decide) _).1]; exact c8
    · rw [(e 13 (by decide) (by decide) (by decide) (by decide) (by decide) _).1]; exact c9
theorem sX10_cutInTwo (hW : tWF T) (hcnt : tCnt T < 220) (hs : tU T s = true) (hm : m < (tX T s).length) (hS : rS M y ad) (hT : rT M ad 0 T) (hr : xI M y 14 = nI (tO T)) (e20 : xI M y 20 = nI s) (e21 : xI M y 21 = nI m)
    (hQ : ∀ M1, rX (rLo y ad) M M1 → rT M1 ad 0 (tFr (tCut T s m (tFree T)) s) → xI M1 y 14 = nI (tO (tCut T s m (tFree T))) → xI M1 y 20 = nI (tFree T) → (∀ k, k ≠ 14 → k ≠ 20 → xI M1 y k = xI M y k) → Q none M1) : xSp l g mX10_cutInTwo 0 0 [va_rf (some y)] M Q := by
  obtain ⟨f1, f2⟩ := tFree_ok hcnt
  generalize ha : tFree T = a at hQ f1 f2
  have hsa : s ≠ a := fun z => by rw [z, f1] at hs; cases hs
  have hs220 := (hW.2.1 s hs).1
  have h12 := (tX_le hW hs).1
  obtain ⟨c1, c2, c3, c4, -⟩ := hT.d hW hs
  refine eX10_cutInTwo _ (bX10_cutInTwo_0 _ ⟨hS.1, ad 5, (hS.2.1 5 (by decide)).1, s, by rw [e20]; exact hS.ai (j := 5) (by decide) (by show s < 440; omega), ad 6, (hS.2.1 6 (by decide)).1, s, by rw [e20]; exact hS.ai (j := 6) (by decide) (by show s < 440; omega), ?_⟩)
  rw [c1, c2, e20]
  refine sX10_newNode hS hT hcnt (fun M1 hx1 hn1 => ⟨_, rfl, (hx1.sS hS).1, ?_⟩)
  rw [ha] at hx1 hn1 ⊢
  have hS1 := hx1.sS hS
  refine ⟨ad 8, (hS1.2.1 8 (by decide)).1, a, hS1.ai (j := 8) (by decide) (by show a < 440; omega), ?_⟩
  have y1 : ∀ k, xI M1 y k = xI M y k := fun k => (hx1.2 _ _ (rN_y hS k)).1
  rw [y1 21, e21]
  have hx2 : rX (rXp ad a) M1 (xsI M1 (ad 8) a (nI m)) := rX_I (Or.inl ⟨rfl, rfl⟩)
  generalize hM2 : xsI M1 (ad 8) a (nI m) = M2 at hx2 ⊢
  have h28 : xI M2 (ad 8) a = nI m := by rw [← hM2, xI_sI, if_pos ⟨rfl, rfl⟩]
  have hS2 := hx2.sS hS1
  have yp : ∀ {N N1 : xM}, rX (rXp ad a) N N1 → ∀ k, xI N1 y k = xI N y k := fun h k => (h.2 _ _ (fun z => by
    rcases z with z | z
    · exact hS.ny (j := 8) (by decide) z.1.symm
    · exact hS.ny (j := 7) (by decide) z.1.symm)).1
  have y2 : ∀ k, xI M2 y k = xI M y k := fun k => (yp hx2 k).trans (y1 k)
  have hs7 : ∀ {N : xM}, rX (rN ad a) M N → ∀ i, i < (tX T s).length → xI N (ad 7) (12 * s + i) = nI ((tX T s).getD i 0) := fun h i hi => by
    rw [(h.2 _ _ (rN_pre hS (by omega))).1]; exact c4 i hi
  have hxa : rX (rN ad a) M M2 := hx1.trans (hx2.mono rXp_n)
  refine cut_pre (X := tX T s) (m := m) hS2 f2 hs220 hsa (by omega) ((y2 21).trans e21) (fun i hi => hs7 hxa i (by omega)) (fun M3 hx3 h37 h38 => ?_) m 0 M2 (by omega) rX.rf (fun j hj => by omega) rfl
  have hS3 := hx3.sS hS2
  have y3 : ∀ k, xI M3 y k = xI M y k := fun k => (yp hx3 k).trans (y2 k)
  obtain ⟨hx03, hT3⟩ := rT_cu1 (s := s) (m := m) hS hT hW (by omega) hx1 hn1 (hx2.trans hx3) (by rw [h38]; exact h28) h37
  have g7 := hs7 hx03
  have g21 : xI M3 y 21 = nI m := (y3 21).trans e21
  have g8 : xI M3 (ad 8) s = nI (tX T s).length := by rw [(hx03.2 _ _ (rN_arr (j := 8) hS (by decide) hsa)).1]; exact c3
  have e7 : (12 * nI s) + nI m = nI (12 * s + m) := by rw [show (12 : Int32) = nI 12 from rfl, nI_mul, nI_add]
  refine bX10_cutInTwo_34 _ _ _ _ ⟨hS3.1, fun _ => ?_, fun c => absurd (by rw [g21]; exact Int32.le_refl _) c⟩
  refine ⟨ad 7, (hS3.2.1 7 (by decide)).1, 12 * s + m, by rw [g21, e7]; exact hS3.ai (j := 7) (by decide) (by show _ < 5280; omega), ad 6, (hS3.2.1 6 (by decide)).1, s, hS3.ai (j := 6) (by decide) (by show s < 440; omega), ad 5, (hS3.2.1 5 (by decide)).1, s, hS3.ai (j := 5) (by decide) (by show s < 440; omega), ad 8, (hS3.2.1 8 (by decide)).1, s, hS3.ai (j := 8) (by decide) (by show s < 440; omega), s, hS3.ai (j := 8) (by decide) (by show s < 440; omega), ?_⟩
  have ev : xI (xsI (xsI M3 (ad 6) s (xI M3 (ad 7) (12 * s + m))) (ad 5) s (nI a)) (ad 8) s - (xI (xsI (xsI M3 (ad 6) s (xI M3 (ad 7) (12 * s + m))) (ad 5) s (nI a)) y 21 + 1) = nI ((tX T s).length - (m + 1)) := by
    rw [rsk hS (i := 8) (j := 5) (by decide) (by decide) (by decide), rsk hS (i := 8) (j := 6) (by decide) (by decide) (by decide), g8, xI_sI, if_neg (fun z => hS.ny (j := 5) (by decide) z.1.symm), xI_sI, if_neg (fun z => hS.ny (j := 6) (by decide) z.1.symm), g21, nI_1]
    have := nI_sb ((tX T s).length - (m + 1)) (m + 1)
    rw [show (tX T s).length - (m + 1) + (m + 1) = (tX T s).length by omega] at this
    exact this
  rw [ev, g7 m hm]
  generalize hM4 : xsI (xsI (xsI M3 (ad 6) s (nI ((tX T s).getD m 0))) (ad 5) s (nI a)) (ad 8) s (nI ((tX T s).length - (m + 1))) = M4
  have hx4 : rX (rN ad s) M3 M4 := by
    rw [← hM4]
    exact (rX_I (Or.inl ⟨6, by decide, rfl, rfl⟩)).trans ((rX_I (Or.inl ⟨5, by decide, rfl, rfl⟩)).trans (rX_I (Or.inl ⟨8, by decide, rfl, rfl⟩)))
  have hS4 := hx4.sS hS3
  have y4 : ∀ k, xI M4 y k = xI M y k := fun k => ((hx4.2 _ _ (rN_y hS k)).1).trans (y3 k)
  have g47 : ∀ k, xI M4 (ad 7) k = xI M3 (ad 7) k := fun k => by
    rw [← hM4, rsk hS (i := 7) (j := 8) (by decide) (by decide) (by decide), rsk hS (i := 7) (j := 5) (by decide) (by decide) (by decide), rsk hS (i := 7) (j := 6) (by decide) (by decide) (by decide)]
  have g48 : xI M4 (ad 8) s = nI ((tX T s).length - (m + 1)) := by rw [← hM4, xI_sI, if_pos ⟨rfl, rfl⟩]
  refine cut_post (X := tX T s) (m := m) hS4 hs220 hm h12 ((y4 21).trans e21) g48 (fun i hi => by rw [g47]; exact g7 i hi) (fun M5 hx5 h57 => ?_) ((tX T s).length - (m + 1)) 0 M4 (by omega) rX.rf (fun j hj => by omega) (fun j _ hj => by rw [g47]; exact g7 j hj)
  obtain ⟨hx35, hT5⟩ := rT_cu0 hW hs f1 hm hS3 hT3 hM4.symm hx5 h57
  have hS5 := hx35.sS hS3
  have y5 : ∀ k, xI M5 y k = xI M y k := fun k => ((hx35.2 _ _ (rN_y hS k)).1).trans (y3 k)
  have hx05 : rX (rLo y ad) M M5 := (hx03.mono (rN_lo f2)).trans (hx35.mono (rN_lo hs220))
  have g58 : xI M5 (ad 8) s = nI ((tX T s).length - (m + 1)) := by
    rw [(hx5.2 _ _ (fun z => hS.na (i := 8) (j := 7) (by decide) (by decide) (by decide) z.1)).1]; exact g48
  have hWc : tWF (tCut T s m a) := tCut_wf hW hs f1 f2 hm
  have hW0 : tWF (tCu0 T s m a) := tWF_same hWc rfl rfl rfl rfl rfl rfl rfl
  have hu0 : tU (tCu0 T s m a) s = true := by
    show va_up (tU T) a true s = true
    rw [va_up_ne _ _ hsa]; exact hs
  have x12c : ∀ n, n < 220 → tU (tFr (tCu0 T s m a) s) n = true → (tX (tFr (tCu0 T s m a) s) n).length ≤ 12 := fun n _ hn => (tX_le (tFr_wf hW0 s) hn).1
  have fin : ∀ (N N1 : xM), rX (rLo y ad) M N → rS N y ad → rX (rFc ad) N N1 → rT N1 ad 0 (tFr (tCu0 T s m a) s) → xI N y 14 = nI (tO (tCut T s m a)) → (∀ k, k ≠ 14 → xI N y k = xI M y k) → Q none (xsI N1 y 20 (nI a)) := fun N N1 k1 k2 k3 k4 k5 k6 => by
    refine hQ _ (k1.trans ((k3.mono rFc_lo).trans (rX_I (Or.inl (Or.inl ⟨rfl, by decide⟩))))) ?_ ?_ ?_ (fun k h14 h20 => ?_)
    · rw [← tFr_cut]
      exact rT_y (k3.sS k2) k4 x12c
    · rw [xI_sI, if_neg (fun z => absurd z.2 (by decide)), rFc_y k2 k3]; exact k5
    · rw [xI_sI, if_pos ⟨rfl, rfl⟩]
    · rw [xI_sI, if_neg (fun z => h20 z.2), rFc_y k2 k3]; exact k6 k h14
  refine bX10_cutInTwo_114 _ _ _ _ ⟨hS5.1, ad 8, (hS5.2.1 8 (by decide)).1, s, hS5.ai (j := 8) (by decide) (by show s < 440; omega), fun _ => ⟨fun c => ?_, fun c => ?_⟩, fun c => absurd (by rw [g58]; exact Int32.le_refl _) c⟩
  · have hso : ¬ s = tO T := fun z => c (by rw [y5 14, hr, z])
    refine sX10_freshen hW0 hS5 hT5 hu0 (fun M6 hx6 hT6 => ⟨rfl, (hx6.sS hS5).1, fin M5 M6 hx05 hS5 hx6 hT6 ?_ (fun k _ => y5 k)⟩)
    rw [y5 14, hr]
    show nI (tO T) = nI (if s = tO T then a else tO T)
    rw [if_neg hso]
  · have hso : s = tO T := by
      rw [y5 14, hr] at c
      have := (hW.2.1 _ hW.1.1).1
      exact (nI_inj (by omega) (by omega) c).symm
    have hT5b : rT (xsI M5 y 14 (nI a)) ad 0 (tCu0 T s m a) := rT_y hS5 hT5 (fun n _ hn => (tX_le hW0 hn).1)
    have hx5b : rX (rLo y ad) M5 (xsI M5 y 14 (nI a)) := rX_I (Or.inr (Or.inl ⟨rfl, rfl⟩))
    have hS5b := hx5b.sS hS5
    refine sX10_freshen hW0 hS5b hT5b hu0 (fun M6 hx6 hT6 => ⟨rfl, (hx6.sS hS5b).1, fin _ M6 (hx05.trans hx5b) hS5b hx6 hT6 ?_ (fun k h14 => ?_)⟩)
    · rw [xI_sI, if_pos ⟨rfl, rfl⟩]
      show nI a = nI (if s = tO T then a else tO T)
      rw [if_pos hso]
    · rw [xI_sI, if_neg (fun z => h14 z.2)]; exact y5 k
end RCV
