/-! The loop of the reference's readTree. -/
theorem adCs_cnt {S : TT} {n : Nat} {cs : List (Nat × Nat)} (h : tCnt S + cs.length ≤ 220) : tCnt (adCs S n cs) = tCnt S + cs.length := by
  obtain ⟨i1, -, -⟩ := adCs_f cs S n h
  obtain ⟨j1, j2, j3⟩ := frI_ok cs.length (tU S) (by unfold tCnt at h; omega)
  have e : tU (adCs S n cs) = fun x => decide (x ∈ frI (tU S) cs.length) || tU S x := funext i1
  unfold tCnt
  rw [e, cnt_ld _ _ j2 j3, j1]
theorem adCs_12 : ∀ (cs : List (Nat × Nat)) (S : TT) (n : Nat), (∀ m, tU S m = true → (tX S m).length ≤ 12) → ∀ m, tU (adCs S n cs) m = true → (tX (adCs S n cs) m).length ≤ 12
  | [], _, _, h => h
  | (b, p) :: r, S, n, h => adCs_12 r (adC S n b p) n (adC_12 h)
theorem acc_len2 {cs : List (Nat × Nat)} {nd : Nat} {tk tk1 : Nat → Bool} (h : acc nd tk none cs = some tk1) (hn : nd ≤ 200) : nd + cs.length ≤ 200 := by
  by_cases hz : cs = []
  · rw [hz]; exact hn
  · have := acc_len _ _ _ _ _ h hz
    omega
/-- a tree that has all of T, but for what stands at n -/
def agT (T : TT) (n : Nat) (A : TT) : Prop := ∀ x, tU T x = true → tU A x = true ∧ tP A x = tP T x ∧ (x ≠ n → tX A x = tX T x)
section RTL
variable {l : Launch} {g : xG} {M M0 M1 : xM} {Q : Option Value → xM → Prop} {y n : Nat} {ad : Nat → Nat} {T A : TT} {D : Nat → Nat} {f : Nat → Nat}
theorem agT_lead (hW : tWF T) (hC : tC T n = []) (hT : rT M ad 0 A) (hag : agT T n A) : (∀ a, tU T a = true → xI M (ad 5) a = pI (tP T a)) ∧ ∀ a p, tU T a = true → tP T a = some p → xI M (ad 8) p = nI (tX T p).length := by
  refine ⟨fun a ha => ?_, fun a p ha hp => ?_⟩
  · obtain ⟨h1, h2, -⟩ := hag a ha
    obtain ⟨c1, -⟩ := rC0.mp ((hT a (hW.2.1 a ha).1).2 h1)
    rw [c1, h2]
  · obtain ⟨p1, p2, -⟩ := hW.2.2.2.1 a p ha hp
    obtain ⟨h1, -, h3⟩ := hag p p1
    have hpn : p ≠ n := fun z => by rw [z, hC] at p2; cases p2
    obtain ⟨-, -, c3, -⟩ := rC0.mp ((hT p (hW.2.1 p p1).1).2 h1)
    rw [c3, h3 hpn]
theorem agT_rd {c : Nat} {cs : List (Nat × Nat)} (hag : agT T n A) (hc : tU T c = true → c = n) (hcnt : tCnt A + cs.length ≤ 220) : agT T n (adCs (rdT A c f) c cs) := fun x hx => by
  obtain ⟨i1, i2, i3⟩ := adCs_f cs (rdT A c f) c hcnt
  obtain ⟨j1, j2, j3⟩ := frI_ok cs.length (tU (rdT A c f)) (by have h : tCnt (rdT A c f) + cs.length ≤ 220 := hcnt; unfold tCnt at h; omega)
  obtain ⟨h1, h2, h3⟩ := hag x hx
  have hxc : x ∉ frI (tU (rdT A c f)) cs.length := fun z => by
    have := (j3 x z).1
    rw [show tU (rdT A c f) x = tU A x from rfl, h1] at this
    cases this
  obtain ⟨s1, s2, s3, -⟩ := i3 x hxc
  refine ⟨by rw [i1, show tU (rdT A c f) x = tU A x from rfl, h1, Bool.or_true], by rw [s1]; exact h2, fun hn => ?_⟩
  rw [s3]
  show va_up (tX A) c (pgX f) x = _
  rw [va_up_ne _ _ (fun z => hn (by rw [z]; exact hc (by rw [← z]; exact hx)))]
  exact h3 hn
/-- a child that lies too deep: nothing comes of it -/
theorem rt_deep {x1 : Int32} {j2 : Int64} {w3 : Value} {c : Nat} {tk : Nat → Bool} (hS : rS M y ad) (hD : rDk M ad D) (hW : tWF T) (hC : tC T n = []) (hn : tU T n = true) (hT : rT M ad 0 A) (hag : agT T n A) (hc : c < 220) (hcT : tU T c = false) (hcA : tU A c = true) (hcP : tP A c = some n) (hXn : (tX A n).length + tL T n = 12) (hGc : tG A c < 256) (hK : rK M ad tk) (hcnt : tCnt A ≤ 200) (h12 : ∀ m, tU A m = true → (tX A m).length ≤ 12) (hr : xI M y 14 = nI (tO T))
    (hno : ∀ M2, rX (rRd ad) M M2 → Q (some (.int 0)) M2) :
    xWp l g mX10_readTree 0 0 83 [(1, va_rf (some y)), (1, .int x1), (2, .long j2), (0, w3), (1, .int (nI c))] [] (0, 0) M Q := by
  have hr220 := (hW.2.1 _ hW.1.1).1
  have hn220 := (hW.2.1 _ hn).1
  refine bX10_readTree_83 _ _ _ _ _ ⟨fun z => ?_, fun _ => ⟨hS.1, ?_⟩⟩
  · exfalso
    have := (pI_m1 (o := some c) (fun x hx => by injection hx with hx; omega)).mp z
    cases this
  refine sX10_readNode hS hD hGc hc hcA hT hK hcnt h12 hr hr220 (fun _ M2 hx2 => ⟨_, rfl, fun q => absurd rfl q, fun _ => hno M2 hx2⟩) (fun cs tk1 M2 ok e1 e2 hx2 hT2 hK2 => ⟨_, rfl, fun _ => ⟨(hx2.sS hS).1, ?_⟩, fun q => absurd q (by decide)⟩)
  have hS2 := hx2.sS hS
  have hc200 := acc_len2 e2 hcnt
  obtain ⟨i1, i2, i3⟩ := adCs_f cs (rdT A c (pgF D (tG A c))) c (by show tCnt A + cs.length ≤ 220; omega)
  obtain ⟨j1, j2, j3⟩ := frI_ok cs.length (tU A) (by unfold tCnt at hc200; omega)
  have hag2 : agT T n (adCs (rdT A c (pgF D (tG A c))) c cs) := agT_rd hag (fun z => by rw [hcT] at z; cases z) (by omega)
  obtain ⟨q1, q2⟩ := agT_lead hW hC hT2 hag2
  have hr2 : xI M2 y 14 = nI (tO T) := by rw [(hx2.2 _ _ (rRd_y hS)).1]; exact hr
  have hnA := (hag n hn).1
  have nf : ∀ x, tU A x = true → x ∉ frI (tU A) cs.length := fun x hx z => by rw [(j3 x z).1] at hx; cases hx
  have hcn : c ≠ n := fun z => by rw [z, hn] at hcT; cases hcT
  have pc : tP (adCs (rdT A c (pgF D (tG A c))) c cs) c = some n := by rw [(i3 c (nf c hcA)).1]; exact hcP
  have xn : tX (adCs (rdT A c (pgF D (tG A c))) c cs) n = tX A n := by
    rw [(i3 n (nf n hnA)).2.2.1]
    exact va_up_ne _ _ (fun z => hcn z.symm)
  have uc : tU (adCs (rdT A c (pgF D (tG A c))) c cs) c = true := by rw [i1, show tU (rdT A c (pgF D (tG A c))) c = tU A c from rfl, hcA, Bool.or_true]
  have un : tU (adCs (rdT A c (pgF D (tG A c))) c cs) n = true := (hag2 n hn).1
  have f12 : ∀ m, tU (rdT A c (pgF D (tG A c))) m = true → (tX (rdT A c (pgF D (tG A c))) m).length ≤ 12 := fun m hm => by
    by_cases e : m = c
    · have : tX (rdT A c (pgF D (tG A c))) m = pgX (pgF D (tG A c)) := by rw [e]; exact va_up_self _ _ _
      rw [this, pgX_len]; exact ok.2.1.2.1
    · have : tX (rdT A c (pgF D (tG A c))) m = tX A m := va_up_ne _ _ e
      rw [this]; exact h12 m hm
  have h12c := adCs_12 cs _ c f12 c uc
  obtain ⟨d1, -, d3, -⟩ := rC0.mp ((hT2 c hc).2 uc)
  obtain ⟨-, -, d4, -⟩ := rC0.mp ((hT2 n hn220).2 un)
  rw [pc] at d1
  have d1 : xI M2 (ad 5) c = nI n := d1
  rw [xn] at d4
  refine eX10_lead _ _ (bX10_lead_0 _ _ (bX10_lead_4 _ _ _ _ ⟨hS2.1, fun z => ?_, fun _ => ⟨ad 5, (hS2.2.1 5 (by decide)).1, c, hS2.ai (j := 5) (by decide) (by show c < 440; omega), ad 8, (hS2.2.1 8 (by decide)).1, n, by rw [d1]; exact hS2.ai (j := 8) (by decide) (by show n < 440; omega), c, hS2.ai (j := 5) (by decide) (by show c < 440; omega), ?_⟩⟩))
  · exfalso
    rw [hr2] at z
    have : c = tO T := nI_inj (by omega) (by omega) z
    rw [this, hW.1.1] at hcT
    cases hcT
  · rw [d1, d4]
    have e13 : (0 : Int32) + (1 + nI (tX A n).length) = nI (1 + (tX A n).length) := by
      rw [show (1 : Int32) = nI 1 from rfl, nI_add, show (0 : Int32) = nI 0 from rfl, nI_add, Nat.zero_add]
    rw [e13]
    refine rlead2 hS2 hW q1 q2 hr2 (L := 13) ?_ (tL T n) n (1 + (tX A n).length) hn (Nat.le_refl _) (by omega)
    refine ⟨_, rfl, hS2.1, ad 8, (hS2.2.1 8 (by decide)).1, c, hS2.ai (j := 8) (by decide) (by show c < 440; omega), fun z => ?_, fun _ => hno M2 hx2⟩
    exfalso
    rw [d3, nI_add] at z
    have := nle z rfl (b := 12) rfl
    omega
end RTL
