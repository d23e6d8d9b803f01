/-! mirror, become. -/
def twR (M : xM) (r : Option Nat) : Option Nat := match r with | none => none | some x => xR M x 12
section BC
variable {l : Launch} {g : xG} {M : xM} {Q : Option Value → xM → Prop} {φ ψ τ : Nat → Nat} {T : TT} {t st nd ky : Nat} {KK sp : List Nat}
theorem sX3_twinOf {r : Option Nat} (h : ∀ x, r = some x → xat M x 1) (hQ : Q (some (va_rf (twR M r))) M) : xSp l g mX3_twinOf 0 0 [va_rf r] M Q := by
  refine eX3_twinOf _ (bX3_twinOf_0 _ ⟨fun c => ?_, fun c => ?_⟩)
  · cases r with
    | none => exact absurd rfl c
    | some x => exact ⟨x, rfl, h x rfl, hQ⟩
  · subst c; exact hQ
theorem cN_ag {P : Nat → Prop} {M1 : xM} {n : Nat} (h : cN M φ ψ T n) (hx : xag P M M1) (h1 : ¬ P (φ n)) (h2 : ¬ P (ψ (φ n))) : cN M1 φ ψ T n := by
  obtain ⟨⟨e1, e2, e3, -⟩, e4⟩ := hx
  obtain ⟨f1, f2, f3⟩ := e4 _ h1
  obtain ⟨f4, -, -⟩ := e4 _ h2
  simpa only [cN, xat, e1, e2, e3, f1, f2, f3, f4] using h
/-- the cells of a node that another one's were copied to -/
def mrM (M : xM) (a o : Nat) : xM := xsI (xsI (xsI (xsI (xsJ (xsI (xsI M a 2 (xI M o 2)) a 3 (xI M o 3)) a 4 (xJ M o 4)) a 5 (xI M o 5)) a 6 (xI M o 6)) a 7 (xI M o 7)) a 8 (xI M o 8)
theorem mr_I {a o : Nat} (x j : Nat) : xI (mrM M a o) x j = if x = a ∧ 2 ≤ j ∧ j ≤ 8 ∧ j ≠ 4 then xI M o j else xI M x j := by
  simp only [mrM, xI_sI, xI_sJ]
  by_cases hx : x = a
  · by_cases h8 : j = 8
    · simp [hx, h8]
    · by_cases h7 : j = 7
      · simp [hx, h7]
      · by_cases h6 : j = 6
        · simp [hx, h6]
        · by_cases h5 : j = 5
          · simp [hx, h5]
          · by_cases h3 : j = 3
            · simp [hx, h3]
            · by_cases h2 : j = 2
              · simp [hx, h2]
              · have : ¬ (2 ≤ j ∧ j ≤ 8 ∧ j ≠ 4) := by omega
                simp [h8, h7, h6, h5, h3, h2, this]
  · simp [hx]
theorem mr_J {a o : Nat} (x j : Nat) : xJ (mrM M a o) x j = if x = a ∧ j = 4 then xJ M o 4 else xJ M x j := by
  simp only [mrM, xJ_sI, xJ_sJ]
theorem mr_R {a o : Nat} (x j : Nat) : xR (mrM M a o) x j = xR M x j := by
  simp only [mrM, xR_sI, xR_sJ]
theorem mr_S {a o : Nat} : xL (mrM M a o) = xL M ∧ xK (mrM M a o) = xK M ∧ xN (mrM M a o) = xN M := by
  refine ⟨?_, ?_, ?_⟩
  · simp only [mrM, xL_sI, xL_sJ]
  · simp only [mrM, xK_sI, xK_sJ]
  · simp only [mrM, xN_sI, xN_sJ]
theorem mirror_loop {n : Nat} {M0 : xM} (hW : tWF T) (hn : tU T n = true) (ho : cN M0 φ ψ T n) (hne : φ n ≠ τ n) (hψ : ψ (φ n) ≠ ψ (τ n)) (ha : xat M0 (τ n) 1 ∧ xR M0 (τ n) 0 = some (ψ (τ n)) ∧ xat M0 (ψ (τ n)) 9 ∧ xN M0 (ψ (τ n)) = 12) (hl : xI M0 (τ n) 1 = nI (tX T n).length)
    (hcont : ∀ M1, pfxP M0 M1 (τ n) (ψ (τ n)) (tX T n) → xWp l g mX3_mirror 0 0 10 [(1, va_rf (some (τ n))), (1, va_rf (some (φ n))), (1, .int (nI (tX T n).length))] [] (0, 0) M1 Q) :
    ∀ (d i : Nat) (M1 : xM), (tX T n).length = i + d → (xL M1 = xL M0 ∧ xK M1 = xK M0 ∧ xN M1 = xN M0 ∧ xJ M1 = xJ M0 ∧ xR M1 = xR M0) → (∀ x j, x ≠ ψ (τ n) → xI M1 x j = xI M0 x j) → (∀ j, j < i → xI M1 (ψ (τ n)) j = nI ((tX T n).getD j 0)) → xWp l g mX3_mirror 0 0 10 [(1, va_rf (some (τ n))), (1, va_rf (some (φ n))), (1, .int (nI i))] [] (0, 0) M1 Q
  | 0, i, M1, hd, hs, hI, hp => by
    have hi : i = (tX T n).length := by omega
    subst hi
    exact hcont M1 ⟨hs, fun x j hx _ => hI x j hx, by rw [hI _ _ (ne_of_kind ha.1.2 ha.2.2.1.2 (by decide))]; exact hl, hp⟩
  | d + 1, i, M1, hd, hs, hI, hp => by
    have h12 := (tX_le hW hn).1
    have hat : ∀ x k, xat M0 x k → xat M1 x k := fun x k z => ⟨by rw [hs.1]; exact z.1, by rw [hs.2.1]; exact z.2⟩
    have hta : τ n ≠ ψ (τ n) := ne_of_kind ha.1.2 ha.2.2.1.2 (by decide)
    have hfa : φ n ≠ ψ (τ n) := ne_of_kind ho.1.1.2 ha.2.2.1.2 (by decide)
    refine bX3_mirror_10 _ _ _ ⟨hat _ _ ha.1, fun c => ?_, fun c => ⟨φ n, rfl, hat _ _ ho.1.1, ?_⟩⟩
    · exfalso
      have := nle c ((hI _ _ hta).trans hl) rfl
      omega
    · refine sX3_prefixAt0 (k := (tX T n).length) (hat _ _ ho.1.1) (by rw [hs.2.2.2.2]; exact ho.1.2.1) (hat _ _ ho.1.2.2.1) (by rw [hs.2.2.1]; exact ho.1.2.2.2) (by rw [hI _ _ hfa]; exact ho.2.1.1) h12 (by omega) ⟨_, rfl, hat _ _ ha.1, ?_⟩
      rw [if_pos (by omega), hI _ _ hψ, ho.2.1.2 i (by omega)]
      refine sX3_setPrefixAt (hat _ _ ha.1) (by rw [hs.2.2.2.2]; exact ha.2.1) (hat _ _ ha.2.2.1) (by rw [hs.2.2.1]; exact ha.2.2.2) (by omega) ⟨rfl, ?_⟩
      rw [nI_1]
      refine mirror_loop hW hn ho hne hψ ha hl hcont d (i + 1) _ (by omega) hs (fun x j hx => by rw [xI_sI, if_neg (fun z => hx z.1)]; exact hI x j hx) (fun j hj => ?_)
      by_cases hji : j = i
      · rw [xI_sI, if_pos ⟨rfl, hji⟩, hji]
      · rw [xI_sI, if_neg (fun z => hji z.2)]; exact hp j (by omega)
theorem sX3_mirror {n : Nat} (hW : tWF T) (hn : tU T n = true) (ho : ∀ m, tU T m = true → cN M φ ψ T m ∧ xR M (φ m) 12 = some (τ m)) (hne : ∀ m, tU T m = true → φ m ≠ τ n) (hψ : ∀ m, tU T m = true → ψ (φ m) ≠ ψ (τ n)) (ha : xat M (τ n) 1 ∧ xR M (τ n) 0 = some (ψ (τ n)) ∧ xat M (ψ (τ n)) 9 ∧ xN M (ψ (τ n)) = 12)
    (hQ : ∀ M1, cN M1 τ ψ T n → xag (fun x => x = τ n ∨ x = ψ (τ n)) M M1 → (∀ x, xR M1 x 12 = xR M x 12) → Q none M1) : xSp l g mX3_mirror 0 0 [va_rf (some (τ n)), va_rf (some (φ n))] M Q := by
  obtain ⟨hoN, hoT⟩ := ho n hn
  obtain ⟨⟨b1, b1b, b1c, b1d⟩, ⟨b2, b2b⟩, ⟨i2, i3, i4, i5, i6, i7, i8⟩, ⟨r9, r10, r11⟩⟩ := id hoN
  have hnn := hne n hn
  have hta : τ n ≠ ψ (τ n) := ne_of_kind ha.1.2 ha.2.2.1.2 (by decide)
  have hfa : φ n ≠ ψ (τ n) := ne_of_kind b1.2 ha.2.2.1.2 (by decide)
  have hpa : ψ (φ n) ≠ τ n := ne_of_kind b1c.2 ha.1.2 (by decide)
  refine eX3_mirror _ _ (bX3_mirror_0 _ _ ⟨φ n, rfl, b1, ha.1, ?_⟩)
  rw [b2]
  have ho0 : cN (xsI M (τ n) 1 (nI (tX T n).length)) φ ψ T n := cN_ag hoN (xag_I (P := fun x => x = τ n) M rfl) hnn hpa
  refine mirror_loop (M0 := xsI M (τ n) 1 (nI (tX T n).length)) hW hn ho0 hnn (hψ n hn) ha (by rw [xI_sI, if_pos ⟨rfl, rfl⟩]) (fun M1 hp => ?_) (tX T n).length 0 _ (by omega) ⟨rfl, rfl, rfl, rfl, rfl⟩ (fun _ _ _ => rfl) (fun j hj => by omega)
  obtain ⟨⟨s1, s2, s3, s4, s5⟩, sI, sl, sp⟩ := hp
  have hat : ∀ x k, xat M x k → xat M1 x k := fun x k z => ⟨by rw [s1]; exact z.1, by rw [s2]; exact z.2⟩
  have hfI : ∀ j, xI M1 (φ n) j = xI M (φ n) j := fun j => by rw [sI _ _ hfa (fun z => hnn z.1), xI_sI, if_neg (fun z => hnn z.1)]
  have hfJ : ∀ j, xJ M1 (φ n) j = xJ M (φ n) j := fun j => by rw [s4]; rfl
  have hR : ∀ x j, xR M1 x j = xR M x j := fun x j => by rw [s5]; rfl
  have hoa : (φ n = τ n) = False := eq_false hnn
  have htw : ∀ (W : xM), (∀ m, tU T m = true → xat W (φ m) 1) → (∀ x, xR W x 12 = xR M x 12) → ∀ (o : Option Nat), (∀ m, o = some m → tU T m = true) → (∀ x, o.map φ = some x → xat W x 1) ∧ twR W (o.map φ) = o.map τ := fun W w1 w2 o h => by
    cases o with
    | none => exact ⟨fun x hx => (by cases hx), rfl⟩
    | some m => exact ⟨fun x hx => (by cases hx; exact w1 m (h m rfl)), by
        show xR W (φ m) 12 = _
        rw [w2]; exact (ho m (h m rfl)).2⟩
  have hP : ∀ m, tP T n = some m → tU T m = true := fun m hm => (hW.2.2.2.1 n m hn hm).1
  have hC : ∀ m, (tC T n).head? = some m → tU T m = true := fun m hm => (hW.2.2.2.2.1 n m hn (List.mem_of_head? hm)).1
  have hS : ∀ m, tS T n = some m → tU T m = true := fun m hm => tS_used hW hn hm
  have z01' : ∀ b : Bool, (if b = true then (1 : Int32) else 0) = 0 ∨ (if b = true then (1 : Int32) else 0) = 1 := fun b => by cases b <;> simp
  refine bX3_mirror_10 _ _ _ ⟨hat _ _ ha.1, fun _ => ⟨φ n, rfl, hat _ _ b1, ?_⟩, fun c => absurd (by rw [sl]; exact Int32.le_refl _) c⟩
  simp only [xI_sI, xI_sJ, xJ_sI, xJ_sJ, xR_sI, xR_sJ, hoa, false_and, if_false]
  refine ⟨by rw [hfI, i3]; exact z01' _, by rw [hfI, i8]; exact z01' _, ?_⟩
  show xSp l g mX3_twinOf 0 0 [va_rf (xR M1 (φ n) 9)] (mrM M1 (τ n) (φ n)) _
  obtain ⟨m1, m2, m3⟩ := mr_S (M := M1) (a := τ n) (o := φ n)
  have hatW : ∀ x k, xat M x k → xat (mrM M1 (τ n) (φ n)) x k := fun x k z => ⟨by rw [m1]; exact (hat x k z).1, by rw [m2]; exact (hat x k z).2⟩
  obtain ⟨p1, p2⟩ := htw (mrM M1 (τ n) (φ n)) (fun m hm => hatW _ _ (ho m hm).1.1.1) (fun x => by rw [mr_R, hR]) (tP T n) hP
  rw [hR, r9]
  refine sX3_twinOf p1 ⟨_, rfl, hatW _ _ ha.1, hatW _ _ b1, ?_⟩
  rw [p2]
  have e10 : xR (xsR (mrM M1 (τ n) (φ n)) (τ n) 9 ((tP T n).map τ)) (φ n) 10 = (tC T n).head?.map φ := by
    rw [xR_sR, if_neg (fun z => hnn z.1), mr_R, hR]; exact r10
  rw [e10]
  obtain ⟨p3, p4⟩ := htw (xsR (mrM M1 (τ n) (φ n)) (τ n) 9 ((tP T n).map τ)) (fun m hm => hatW _ _ (ho m hm).1.1.1) (fun x => by rw [xR_sR, if_neg (fun z => absurd z.2 (by decide)), mr_R, hR]) (tC T n).head? hC
  refine sX3_twinOf p3 ⟨_, rfl, hatW _ _ ha.1, hatW _ _ b1, ?_⟩
  rw [p4]
  have e11 : xR (xsR (xsR (mrM M1 (τ n) (φ n)) (τ n) 9 ((tP T n).map τ)) (τ n) 10 ((tC T n).head?.map τ)) (φ n) 11 = (tS T n).map φ := by
    rw [xR_sR, if_neg (fun z => hnn z.1), xR_sR, if_neg (fun z => hnn z.1), mr_R, hR]; exact r11
  rw [e11]
  obtain ⟨p5, p6⟩ := htw (xsR (xsR (mrM M1 (τ n) (φ n)) (τ n) 9 ((tP T n).map τ)) (τ n) 10 ((tC T n).head?.map τ)) (fun m hm => hatW _ _ (ho m hm).1.1.1) (fun x => by rw [xR_sR, if_neg (fun z => absurd z.2 (by decide)), xR_sR, if_neg (fun z => absurd z.2 (by decide)), mr_R, hR]) (tS T n) hS
  refine sX3_twinOf p5 ⟨_, rfl, hatW _ _ ha.1, ?_⟩
  rw [p6]
  have gI : ∀ x j, xI (xsR (xsR (xsR (mrM M1 (τ n) (φ n)) (τ n) 9 ((tP T n).map τ)) (τ n) 10 ((tC T n).head?.map τ)) (τ n) 11 ((tS T n).map τ)) x j = if x = τ n ∧ 2 ≤ j ∧ j ≤ 8 ∧ j ≠ 4 then xI M (φ n) j else xI M1 x j := fun x j => by
    rw [xI_sR, xI_sR, xI_sR, mr_I, hfI]
  have gR : ∀ x j, xR (xsR (xsR (xsR (mrM M1 (τ n) (φ n)) (τ n) 9 ((tP T n).map τ)) (τ n) 10 ((tC T n).head?.map τ)) (τ n) 11 ((tS T n).map τ)) x j = if x = τ n ∧ j = 11 then (tS T n).map τ else if x = τ n ∧ j = 10 then (tC T n).head?.map τ else if x = τ n ∧ j = 9 then (tP T n).map τ else xR M x j := fun x j => by
    rw [xR_sR, xR_sR, xR_sR, mr_R, hR]
  have gJ : ∀ x j, xJ (xsR (xsR (xsR (mrM M1 (τ n) (φ n)) (τ n) 9 ((tP T n).map τ)) (τ n) 10 ((tC T n).head?.map τ)) (τ n) 11 ((tS T n).map τ)) x j = if x = τ n ∧ j = 4 then xJ M (φ n) 4 else xJ M x j := fun x j => by
    rw [xJ_sR, xJ_sR, xJ_sR, mr_J, hfJ, s4]; rfl
  have gS : xL (xsR (xsR (xsR (mrM M1 (τ n) (φ n)) (τ n) 9 ((tP T n).map τ)) (τ n) 10 ((tC T n).head?.map τ)) (τ n) 11 ((tS T n).map τ)) = xL M ∧ xK (xsR (xsR (xsR (mrM M1 (τ n) (φ n)) (τ n) 9 ((tP T n).map τ)) (τ n) 10 ((tC T n).head?.map τ)) (τ n) 11 ((tS T n).map τ)) = xK M ∧ xN (xsR (xsR (xsR (mrM M1 (τ n) (φ n)) (τ n) 9 ((tP T n).map τ)) (τ n) 10 ((tC T n).head?.map τ)) (τ n) 11 ((tS T n).map τ)) = xN M := by
    refine ⟨?_, ?_, ?_⟩
    · rw [xL_sR, xL_sR, xL_sR, m1, s1]; rfl
    · rw [xK_sR, xK_sR, xK_sR, m2, s2]; rfl
    · rw [xN_sR, xN_sR, xN_sR, m3, s3]; rfl
  generalize xsR (xsR (xsR (mrM M1 (τ n) (φ n)) (τ n) 9 ((tP T n).map τ)) (τ n) 10 ((tC T n).head?.map τ)) (τ n) 11 ((tS T n).map τ) = M2 at *
  have hat2 : ∀ x k, xat M x k → xat M2 x k := fun x k z => ⟨by rw [gS.1]; exact z.1, by rw [gS.2.1]; exact z.2⟩
  have hIt : ∀ j, 2 ≤ j → j ≤ 8 → j ≠ 4 → xI M2 (τ n) j = xI M (φ n) j := fun j h1 h2 h3 => by rw [gI, if_pos ⟨rfl, h1, h2, h3⟩]
  refine hQ M2 ⟨⟨hat2 _ _ ha.1, ?_, hat2 _ _ ha.2.2.1, by rw [gS.2.2]; exact ha.2.2.2⟩, ⟨?_, fun i hi => ?_⟩, ⟨?_, ?_, ?_, ?_, ?_, ?_, ?_⟩, ⟨?_, ?_, ?_⟩⟩ ⟨⟨gS.1, gS.2.1, gS.2.2, fun x => ?_⟩, fun x hx => ⟨fun j => ?_, fun j => ?_, fun j => ?_⟩⟩ (fun x => ?_)
  · rw [gR, if_neg (fun z => absurd z.2 (by decide)), if_neg (fun z => absurd z.2 (by decide)), if_neg (fun z => absurd z.2 (by decide))]; exact ha.2.1
  · rw [gI, if_neg (by omega)]; exact sl
  · rw [gI, if_neg (fun z => hta z.1.symm)]; exact sp i hi
  · rw [hIt 2 (by omega) (by omega) (by omega)]; exact i2
  · rw [hIt 3 (by omega) (by omega) (by omega)]; exact i3
  · rw [gJ, if_pos ⟨rfl, rfl⟩]; exact i4
  · rw [hIt 5 (by omega) (by omega) (by omega)]; exact i5
  · rw [hIt 6 (by omega) (by omega) (by omega)]; exact i6
  · rw [hIt 7 (by omega) (by omega) (by omega)]; exact i7
  · rw [hIt 8 (by omega) (by omega) (by omega)]; exact i8
  · rw [gR, if_neg (fun z => absurd z.2 (by decide)), if_neg (fun z => absurd z.2 (by decide)), if_pos ⟨rfl, rfl⟩]
  · rw [gR, if_neg (fun z => absurd z.2 (by decide)), if_pos ⟨rfl, rfl⟩]
  · rw [gR, if_pos ⟨rfl, rfl⟩]
  · rw [gR, if_neg (fun z => absurd z.2 (by decide)), if_neg (fun z => absurd z.2 (by decide)), if_neg (fun z => absurd z.2 (by decide))]
  · have x1 : x ≠ τ n := fun z => hx (Or.inl z)
    have x2 : x ≠ ψ (τ n) := fun z => hx (Or.inr z)
    rw [gI, if_neg (fun z => x1 z.1), sI _ _ x2 (fun z => x1 z.1), xI_sI, if_neg (fun z => x1 z.1)]
  · rw [gJ, if_neg (fun z => hx (Or.inl z.1))]
  · have x1 : x ≠ τ n := fun z => hx (Or.inl z)
    rw [gR, if_neg (fun z => x1 z.1), if_neg (fun z => x1 z.1), if_neg (fun z => x1 z.1)]
  · rw [gR, if_neg (fun z => absurd z.2 (by decide)), if_neg (fun z => absurd z.2 (by decide)), if_neg (fun z => absurd z.2 (by decide))]
end BC
