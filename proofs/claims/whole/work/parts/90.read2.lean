/-! READING A NODE, the whole way. -/
theorem acc_len : ∀ (cs : List (Nat × Nat)) (nd : Nat) (tk : Nat → Bool) (la : Option Nat) (tk1 : Nat → Bool), acc nd tk la cs = some tk1 → cs ≠ [] → cs.length + nd ≤ 200
  | [], nd, tk, la, tk1, h, hne => absurd rfl hne
  | (e, p) :: r, nd, tk, la, tk1, h, _ => by
    unfold acc at h
    by_cases hc : nd < 200 ∧ (∀ b, la = some b → b < e) ∧ 2 ≤ p ∧ tk p = false
    · rw [if_pos hc] at h
      by_cases hr : r = []
      · rw [hr]; simp; omega
      · have := acc_len r (nd + 1) _ _ tk1 h hr
        rw [List.length_cons]; omega
    · rw [if_neg hc] at h; cases h
def aFc (M M1 : xM) (a : Nat) : Prop := (∀ j, 6 ≤ j → j ≤ 8 → xI M1 a j = xI M a j) ∧ xR M1 a 9 = xR M a 9 ∧ xR M1 a 11 = xR M a 11
theorem aFc.trans {M M1 M2 : xM} {a : Nat} (h1 : aFc M M1 a) (h2 : aFc M1 M2 a) : aFc M M2 a := ⟨fun j a b => (h2.1 j a b).trans (h1.1 j a b), h2.2.1.trans h1.2.1, h2.2.2.trans h1.2.2⟩
theorem aK.fc {M M1 : xM} {a : Nat} (h : aK M M1 a) : aFc M M1 a := ⟨fun j h1 h2 => h.1 j (by omega), h.2 9 (by decide), h.2 11 (by decide)⟩
theorem aFc.ag {P : Nat → Prop} {M M1 : xM} {a : Nat} (hx : xag P M M1) (h : ¬ P a) : aFc M M1 a := ⟨fun j _ _ => (hx.2 a h).1 j, (hx.2 a h).2.2 9, (hx.2 a h).2.2 11⟩
section LN2
variable {l : Launch} {g : xG} {M : xM} {Q : Option Value → xM → Prop} {ψ : Nat → Nat} {t r a F nd ky L : Nat} {v : Option Int64} {X KK sp sp1 : List Nat} {qs : List (Nat × Nat × Nat)} {s d db w rb w2 rb2 ta tr : Nat} {D : Nat → Nat} {pw : Option Nat} {tk : Nat → Bool} {f : Nat → Nat} {par : Bool} {x3 x4 x5 : Int32}
/-- behind the children -/
theorem load173 {M0 : xM} {tk0 : Nat → Bool} {nd0 nd1 ky1 : Nat} {tk1 : Nat → Bool} (hF : 1 ≤ f 0 ∧ f 0 ≤ 4) (h23 : f 23 ≤ fRoom (f 0)) (hL : L + f 10 ≤ 12) (hA : acc nd0 tk0 none (pgC f) = some tk1) (hqs : qs.map (fun q => q.2) = pgC f) (h : hgS M t KK ψ r a (f 0) (pgV f) (pgX f) qs sp1 nd1 ky1) (hs : sto M s d db w rb w2 rb2 ta D pw tr tk1) (hr : rwR M w rb f) (hpar : xR M a 9 = none ↔ par = false) (hx : xag (RLd t a (ψ a) sp ta rb rb2) M0 M) (hfc : aFc M0 M a) (hsub : hgO sp nd0 qs sp1 nd1)
    (hfail : ¬ okP f L nd0 tk0 par → ∀ M1 tk1, sto M1 s d db w rb w2 rb2 ta D pw tr tk1 → xag (RLd t a (ψ a) sp ta rb rb2) M0 M1 → xR M1 t 2 = some r → Q (some (.int 0)) M1)
    (hok : okP f L nd0 tk0 par → ∀ M1 qs sp1 nd1 tk1, qs.map (fun q => q.2) = pgC f → acc nd0 tk0 none (pgC f) = some tk1 → hgS M1 t KK ψ r a (f 0) (pgV f) (pgX f) qs sp1 nd1 ky1 → sto M1 s d db w rb w2 rb2 ta D pw tr tk1 → xag (RLd t a (ψ a) sp ta rb rb2) M0 M1 → aFc M0 M1 a → hgO sp nd0 qs sp1 nd1 → Q (some (.int 1)) M1) :
    xWp l g mX6_loadNode 0 0 173 [(1, va_rf (some s)), (1, va_rf (some a)), (1, va_rf (some t)), (1, .int x3), (1, .int x4), (1, .int x5)] [.int 1] (0, 0) M Q := by
  have hn := h.2.1
  have hJ : xJ M a 4 = (pgV f).getD 0 := hn.2.2.1.2.2.1
  have hlen : qs.length = (pgC f).length := by rw [← hqs, List.length_map]
  have hl200 : qs.length ≤ 200 := by
    by_cases hz : pgC f = []
    · rw [hlen, hz]; simp
    · have := acc_len _ _ _ _ _ hA hz; omega
  have hXl : (pgX f).length = f 10 := by unfold pgX; rw [List.length_map, List.length_range]
  refine bX6_loadNode_173 _ _ _ _ _ _ _ ⟨fun c => absurd c (by decide), fun _ => ⟨a, rfl, hn.1.1, fun c => ?_, fun c => ?_⟩⟩
  · refine hfail (fun ok => ok.2.2.2.2.1 ?_) M tk1 hs hx h.1.1.2.1
    have e := lg0.mp c
    rw [hJ] at e
    cases hv : pgV f with
    | none => rw [hv] at e; exact absurd e (by decide)
    | some x => rw [hv] at e; exact congrArg some e
  have hv : pgV f ≠ some (-9223372036854775808) := fun z => c (lg0.mpr (by rw [hJ, z]; rfl))
  refine sX3_hasReason (par := par) hn (by omega) (by omega) hpar (fun b hb => ⟨b, rfl, fun c2 => ?_, fun c2 => ?_⟩)
  · have hre : (pgV f).isSome = true ∨ 2 ≤ (pgC f).length ∨ (par = false ∧ pgC f = [] ∧ f 10 = 0 ∧ f 0 = 1) := by
      rcases hb with hb | hb
      · exact absurd hb.1 c2
      · rcases hb.2 with w | w | w
        · exact Or.inl w
        · exact Or.inr (Or.inl (by rw [← hlen]; exact w))
        · refine Or.inr (Or.inr ⟨w.1, ?_, ?_, w.2.2.2⟩)
          · exact List.length_eq_zero_iff.mp (by rw [← hlen, w.2.1]; rfl)
          · rw [← hXl, w.2.2.1]; rfl
    obtain ⟨f2, hr2⟩ := hs.2.2.2.1
    refine ⟨hs.1.1, ?_⟩
    rw [hs.1.2.2.2.1]
    refine sX4_fillL hn hr2 hF.1 hF.2 hl200 (fun M1 r1 x1 => ⟨rfl, ?_⟩)
    rw [hqs] at r1
    have s1 := hs.rw2 x1 r1
    have hrb2 : rb ≠ rb2 := hs.2.2.2.2.2.1
    have hr1 : rwR M1 w rb f := hr.ag x1 hrb2
    have hno : ∀ x, RG t KK ψ x → ¬ x = rb2 := fun x hx2 z => tl_RG h.1 hr2.1.2.2.1 (by decide) (by decide) (by decide) (z ▸ hx2)
    have h1 := h.ag x1 hno
    have hx1 : xag (RLd t a (ψ a) sp ta rb rb2) M0 M1 := hx.trans (x1.mono (fun x z => Or.inr (Or.inr (Or.inr (Or.inr (Or.inr (Or.inr z)))))))
    have hfc1 : aFc M0 M1 a := hfc.trans (aFc.ag x1 (hno a (RGk h.2.2.2.2.1)))
    refine ⟨s1.1.1, w, s1.1.2.2.1, hr1.1.1, ?_⟩
    rw [s1.1.2.2.1, s1.1.2.2.2.1]
    refine sX5_same hr1 r1 (fun hall => ⟨_, rfl, Or.inr rfl, ?_⟩) (fun i hi hne => ⟨_, rfl, Or.inl rfl, ?_⟩)
    · exact hok ⟨hF, h23, hL, ⟨tk1, hA⟩, hv, hre, hall⟩ M1 qs sp1 nd1 tk1 hqs hA h1 s1 hx1 hfc1 hsub
    · exact hfail (fun ok => hne (ok.2.2.2.2.2.2 i hi)) M1 tk1 s1 hx1 h1.1.1.2.1
  · rcases hb with hb | hb
    · refine hfail (fun ok => hb.2 ?_) M tk1 hs hx h.1.1.2.1
      rcases ok.2.2.2.2.2.1 with w | w | w
      · exact Or.inl w
      · exact Or.inr (Or.inl (by rw [hlen]; exact w))
      · refine Or.inr (Or.inr ⟨w.1, ?_, ?_, w.2.2.2⟩)
        · exact List.length_eq_zero_iff.mp (by rw [hlen, w.2.1]; rfl)
        · exact List.length_eq_zero_iff.mp (by rw [hXl]; exact w.2.2.1)
    · rw [hb.1] at c2; exact absurd c2 (by decide)
/-- the children, and what is behind them -/
theorem loadHang {M0 : xM} {nd0 ky1 : Nat} (hF : 1 ≤ f 0 ∧ f 0 ≤ 4) (h23 : f 23 ≤ fRoom (f 0)) (hL : L + f 10 ≤ 12) (hf : ∀ i, f i < 256) (h : hgS M t KK ψ r a (f 0) (pgV f) (pgX f) [] sp nd0 ky1) (hs : sto M s d db w rb w2 rb2 ta D pw tr tk) (hr : rwR M w rb f) (hpar : xR M a 9 = none ↔ par = false) (hx : xag (RLd t a (ψ a) sp ta rb rb2) M0 M) (hfc : aFc M0 M a)
    (hfail : ¬ okP f L nd0 tk par → ∀ M1 tk1, sto M1 s d db w rb w2 rb2 ta D pw tr tk1 → xag (RLd t a (ψ a) sp ta rb rb2) M0 M1 → xR M1 t 2 = some r → Q (some (.int 0)) M1)
    (hok : okP f L nd0 tk par → ∀ M1 qs sp1 nd1 tk1, qs.map (fun q => q.2) = pgC f → acc nd0 tk none (pgC f) = some tk1 → hgS M1 t KK ψ r a (f 0) (pgV f) (pgX f) qs sp1 nd1 ky1 → sto M1 s d db w rb w2 rb2 ta D pw tr tk1 → xag (RLd t a (ψ a) sp ta rb rb2) M0 M1 → aFc M0 M1 a → hgO sp nd0 qs sp1 nd1 → Q (some (.int 1)) M1) :
    (3 ≤ (xI M a 2) → (xat M s 3 ∧ xSp l g mX6_hangMapped 0 0 [va_rf (some s), va_rf (some a), va_rf (some t)] M (fun ρ14 M13 => ∃ v12 : Int32, ρ14 = some (.int v12) ∧ xWp l g mX6_loadNode 0 0 173 [(1, va_rf (some s)), (1, va_rf (some a)), (1, va_rf (some t)), (1, .int x3), (1, .int x4), (1, .int x5)] [.int v12] (0, 0) M13 Q))) ∧ (¬ 3 ≤ (xI M a 2) → (xat M s 3 ∧ xSp l g mX6_hangListed 0 0 [va_rf (some s), va_rf (some a), va_rf (some t), .int (nI (fRoom (f 0)))] M (fun ρ19 M18 => ∃ v17 : Int32, ρ19 = some (.int v17) ∧ xWp l g mX6_loadNode 0 0 173 [(1, va_rf (some s)), (1, va_rf (some a)), (1, va_rf (some t)), (1, .int x3), (1, .int x4), (1, .int x5)] [.int v17] (0, 0) M18 Q))) := by
  have e2 : xI M a 2 = nI (f 0) := h.2.1.2.2.1.1
  have hRH : ∀ M1, xag (RH t a sp ta) M M1 → xag (RLd t a (ψ a) sp ta rb rb2) M0 M1 := fun M1 x1 => hx.trans (x1.mono (fun x z => by
    rcases z with z | z | z | z
    · exact Or.inl z
    · exact Or.inr (Or.inl z)
    · exact Or.inr (Or.inr (Or.inr (Or.inl z)))
    · exact Or.inr (Or.inr (Or.inr (Or.inr (Or.inl z))))))
  refine ⟨fun c => ⟨hs.1.1, ?_⟩, fun c => ⟨hs.1.1, ?_⟩⟩
  · have k3 : 3 ≤ f 0 := nle c (a := 3) rfl e2
    have eC : pgC f = pgMg f 256 0 0 := by unfold pgC; rw [if_neg (by omega)]
    refine sX6_hangMapped k3 hF.2 hf h hs hr rfl (fun hn M1 tk1 s1 r1 x1 t1 => ⟨_, rfl, bX6_loadNode_173 _ _ _ _ _ _ _ ⟨fun _ => ?_, fun c => absurd rfl c⟩⟩) (fun M1 qs1 sp1 nd1 tk1 hq hA h1 s1 r1 x1 ak hsub => ⟨_, rfl, ?_⟩)
    · exact hfail (fun ok => by obtain ⟨tk2, e⟩ := ok.2.2.2.1; rw [eC, hn] at e; cases e) M1 tk1 s1 (hRH M1 x1) t1
    · exact load173 hF h23 hL (by rw [eC]; exact hA) (by rw [eC]; exact hq) h1 s1 r1 (by rw [ak.2 9 (by decide)]; exact hpar) (hRH M1 x1) (hfc.trans ak.fc) hsub hfail hok
  · have k3 : f 0 < 3 := nnle c (a := 3) rfl e2
    have eC : pgC f = pgL f := by unfold pgC; rw [if_pos k3]
    refine sX6_hangListed hF.1 k3 h23 hf h hs hr rfl (fun hn M1 tk1 s1 r1 x1 t1 => ⟨_, rfl, bX6_loadNode_173 _ _ _ _ _ _ _ ⟨fun _ => ?_, fun c => absurd rfl c⟩⟩) (fun M1 qs1 sp1 nd1 tk1 hq hA h1 s1 r1 x1 ak hsub => ⟨_, rfl, ?_⟩)
    · exact hfail (fun ok => by obtain ⟨tk2, e⟩ := ok.2.2.2.1; rw [eC, hn] at e; cases e) M1 tk1 s1 (hRH M1 x1) t1
    · exact load173 hF h23 hL (by rw [eC]; exact hA) (by rw [eC]; exact hq) h1 s1 r1 (by rw [ak.2 9 (by decide)]; exact hpar) (hRH M1 x1) (hfc.trans ak.fc) hsub hfail hok
end LN2
