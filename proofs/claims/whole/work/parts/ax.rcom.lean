/-! The loop of the reference's commit: bytes, the first free page, the next node. -/
theorem up_lt {f : Nat → Nat} {i b : Nat} (h : ∀ x, f x < 256) (hb : b < 256) : ∀ x, va_up f i b x < 256 := fun x => by
  by_cases e : x = i
  · rw [e, va_up_self]; exact hb
  · rw [va_up_ne _ _ e]; exact h x
theorem setL_lt {f : Nat → Nat} {i : Nat} {j : Int64} (h : ∀ x, f x < 256) : ∀ x, setL f i j x < 256 := fun x => by
  unfold setL
  split
  · exact lB_lt _ _
  · exact h x
theorem pfxF_lt {f : Nat → Nat} {X : List Nat} (h : ∀ x, f x < 256) (hX : ∀ b ∈ X, b < 256) : ∀ x, pfxF f X x < 256 := fun x => by
  unfold pfxF
  split
  · exact getD_lt hX
  · exact h x
theorem tabF_lt {F : Nat} : ∀ (cs : List (Nat × Nat)) (k : Nat) (f : Nat → Nat), (∀ x, f x < 256) → (∀ c ∈ cs, c.1 < 256 ∧ c.2 < 256) → k + cs.length < 256 → ∀ x, tabF F cs k f x < 256
  | [], _, _, h, _, _ => h
  | (e, p) :: r, k, f, h, hc, hk => by
    have h1 := hc (e, p) List.mem_cons_self
    rw [List.length_cons] at hk
    refine tabF_lt r (k + 1) (tab1 F k e p f) ?_ (fun c hm => hc c (List.mem_cons_of_mem _ hm)) (by omega)
    unfold tab1
    split
    · exact up_lt h h1.2
    · split
      · exact up_lt (up_lt h (by omega)) h1.2
      · exact up_lt (up_lt h h1.1) h1.2
theorem ndF_lt {F : Nat} {v : Option Int64} {X : List Nat} {cs : List (Nat × Nat)} (hF : F ≤ 4) (hX : ∀ b ∈ X, b < 256) (hX2 : X.length ≤ 12) (hc : ∀ c ∈ cs, c.1 < 256 ∧ c.2 < 256) (hl : cs.length ≤ 200) : ∀ x, ndF F v X cs x < 256 := by
  unfold ndF sealF
  refine setL_lt (tabF_lt cs 0 _ (up_lt (pfxF_lt (up_lt (setL_lt (up_lt (up_lt (fun _ => by omega) (by omega)) (by split <;> omega))) (by omega)) hX) (by omega)) hc (by omega))
theorem hdF_lt {s : Int64} {r k : Nat} (hr : r < 256) (hk : k < 65536) : ∀ x, hdF s r k x < 256 := by
  unfold hdF sealF
  exact setL_lt (up_lt (up_lt (up_lt (setL_lt (up_lt (fun _ => by omega) (by omega))) hr) (by omega)) (by omega))
theorem dkC_lt {D f : Nat → Nat} {p n : Nat} (hD : ∀ x, D x < 256) (hf : ∀ x, f x < 256) : ∀ x, dkC D p f n x < 256 := fun x => by
  unfold dkC
  split
  · exact hf _
  · exact hD x
theorem dkW_lt {D f : Nat → Nat} {p tr : Nat} {pw : Option Nat} (hD : ∀ x, D x < 256) (hf : ∀ x, f x < 256) : ∀ x, dkW D p f pw tr x < 256 := by
  unfold dkW
  split
  · exact up_lt (dkC_lt hD hf) (by omega)
  · exact dkC_lt hD hf
theorem tPg_lt {T : TT} (hW : tWF T) (hI : tI1 T) {n : Nat} (hn : tU T n = true) (h200 : (tC T n).length ≤ 200) : ∀ x, tPg T n x < 256 := by
  refine ndF_lt (hI n hn).2.1 (hW.2.1 n hn).2.2.1 (tX_le hW hn).1 (fun c hc => ?_) (by unfold tCs; rw [List.length_map]; exact h200)
  obtain ⟨k, hk, rfl⟩ := List.mem_map.mp hc
  have hu := hW.2.2.2.2.1 n k hn hk
  exact ⟨(hW.2.1 k hu.1).2.1, (hI k hu.1).2.2.1⟩
/-- the marks of both sides -/
theorem tkN_tTk {T : TT} (hW : tWF T) {p : Nat} : tkN T 220 p = (decide (p < 2) || tTk T p) := by
  unfold tkN tTk
  by_cases hp : p < 2
  · simp [hp]
  · have h2 : 2 ≤ p := by omega
    rw [decide_eq_false hp, decide_eq_true h2, Bool.false_or, Bool.false_or, Bool.true_and, Bool.eq_iff_iff, List.any_eq_true, List.any_eq_true]
    constructor
    · rintro ⟨n, hn, h⟩
      simp only [Bool.and_eq_true, decide_eq_true_eq] at h
      exact ⟨n, (tEs_mem hW).mpr h.1.1, by simpa using h.2⟩
    · rintro ⟨n, hn, h⟩
      have hu := (tEs_mem hW).mp hn
      have h3 : tG T n = p := by simpa using h
      refine ⟨n, List.mem_range.mpr (hW.2.1 n hu).1, ?_⟩
      simp only [Bool.and_eq_true, decide_eq_true_eq]
      exact ⟨⟨hu, by omega⟩, h3⟩
section RCL
variable {l : Launch} {g : xG} {M M0 M1 : xM} {Q : Option Value → xM → Prop} {y n : Nat} {ad : Nat → Nat} {T : TT} {tk : Nat → Bool}
theorem com_free {x1 : Int32} (hc : cTk tk < 254) (hn : n < 220) (hS : rS M y ad) (hK : rK M ad (fun p => decide (p < 2) || tk p))
    (hw : xSp l g mX10_writeNode 0 0 [va_rf (some y), .int (nI n)] (xsI (xsI M (ad 26) (tLp tk) 1) (ad 12) n (nI (tLp tk))) (fun ρ14 M13 => ∃ v12 : Int32, ρ14 = some (.int v12) ∧ ((¬ v12 = 0 → xWp l g mX10_commit 0 0 102 [(1, va_rf (some y)), (1, .int x1), (1, .int (nI n)), (1, .int (nI (tLp tk)))] [] (0, 0) M13 Q) ∧ (v12 = 0 → (Q (some (.int (-3))) M13))))) :
    ∀ (k p : Nat), tLp tk = p + k → 2 ≤ p → (∀ q, 2 ≤ q → q < p → tk q = true) → xWp l g mX10_commit 0 0 62 [(1, va_rf (some y)), (1, .int x1), (1, .int (nI n)), (1, .int (nI p))] [] (0, 0) M Q := by
  obtain ⟨o1, o2, o3⟩ := tLp_ok hc
  have a26 : ∀ k, k < 256 → xai M (ad 26) 11 (nI k) k := fun k hk => hS.ai (j := 26) (by decide) hk
  intro k
  induction k with
  | zero =>
    intro p hk hp hl
    have hp2 : tLp tk = p := by omega
    rw [hp2] at hw o2 o3
    have e : xI M (ad 26) p = if (decide (p < 2) || tk p) = true then 1 else 0 := hK p o2
    rw [o3, Bool.or_false, if_neg (show ¬ decide (p < 2) = true by simp; omega)] at e
    refine bX10_commit_62 _ _ _ _ ⟨hS.1, ad 26, (hS.2.1 26 (by decide)).1, p, a26 p o2, fun _ => ⟨p, a26 p o2, ad 12, (hS.2.1 12 (by decide)).1, n, hS.ai (j := 12) (by decide) (by show n < 440; omega), ?_⟩, fun z => absurd e z⟩
    rw [show ((1 : Int32) &&& 1) = 1 by decide]
    exact hw
  | succ k ih =>
    intro p hk hp hl
    have htp : tk p = true := by
      cases ht : tk p with
      | true => rfl
      | false =>
        have := tLp_eq hp (by omega) ht hl
        omega
    have e : xI M (ad 26) p = if (decide (p < 2) || tk p) = true then 1 else 0 := hK p (by omega)
    rw [htp, Bool.or_true, if_pos rfl] at e
    refine bX10_commit_62 _ _ _ _ ⟨hS.1, ad 26, (hS.2.1 26 (by decide)).1, p, a26 p (by omega), fun z => ?_, fun _ => ?_⟩
    · rw [e] at z; exact absurd z (by decide)
    · rw [nI_1]
      refine ih (p + 1) (by omega) (by omega) (fun q q1 q2 => ?_)
      by_cases hq : q = p
      · rw [hq]; exact htp
      · exact hl q q1 (by omega)
theorem com_next {x1 : Int32} {w3 : Value} (hW : tWF T) (hn : tU T n = true) (hS : rS M y ad) (hT : rT M ad 0 T) (hO : xI M y 14 = nI (tO T))
    (hk : ∀ w, xWp l g mX10_commit 0 0 46 [(1, va_rf (some y)), (1, .int x1), (1, .int (pI (tAb T n))), (0, w)] [] (0, 0) M Q) :
    xWp l g mX10_commit 0 0 102 [(1, va_rf (some y)), (1, .int x1), (1, .int (nI n)), (0, w3)] [] (0, 0) M Q := by
  have hn220 := (hW.2.1 n hn).1
  have hr220 := (hW.2.1 (tO T) hW.1.1).1
  obtain ⟨c1, c2, -⟩ := hT.d hW hn
  have a5 : xai M (ad 5) 9 (nI n) n := hS.ai (j := 5) (by decide) (by show n < 440; omega)
  have a6 : xai M (ad 6) 9 (nI n) n := hS.ai (j := 6) (by decide) (by show n < 440; omega)
  have lw : ∀ {x : Int32} {v : Value}, x = pI (tAb T n) → xWp l g mX10_commit 0 0 46 [(1, va_rf (some y)), (1, .int x1), (1, .int x), (1, v)] [] (0, 0) M Q := fun {x v} e => by
    rw [e]
    exact xWp.lw (hk v) ⟨Or.inl rfl, Or.inl rfl, Or.inl rfl, Or.inr rfl, trivial⟩
  refine bX10_commit_102 _ _ _ _ ⟨hS.1, fun z => ⟨ad 5, (hS.2.1 5 (by decide)).1, n, a5, ad 6, (hS.2.1 6 (by decide)).1, n, a6, ?_⟩, fun z => ⟨fun _ => ⟨ad 5, (hS.2.1 5 (by decide)).1, n, a5, ?_⟩, fun q => absurd rfl q⟩⟩
  · have hne : n ≠ tO T := fun e => z (by rw [e, hO])
    rw [c1, c2, nI_1]
    cases hp : tP T n with
    | none =>
      obtain ⟨p, hp1, -⟩ := hW.2.2.1 n hn hne
      rw [hp] at hp1; cases hp1
    | some p =>
      have hpp := hW.2.2.2.1 n p hn hp
      have es := tS_tK hW hpp.1 hpp.2.1
      have hb := (hW.2.1 n hn).2.1
      show xSp l g mX10_childFrom 0 0 [va_rf (some y), .int (nI p), .int (nI (tB T n + 1))] M _
      refine sX10_childFrom hS hT hW hpp.1 (by omega) ⟨_, rfl, fun q => ?_, fun q => ?_⟩
      · have hnone : tK T p (tB T n + 1) = none := by
          cases hh : tK T p (tB T n + 1) with
          | none => rfl
          | some s =>
            exfalso
            have hs := List.mem_of_find?_eq_some hh
            have hsu := hW.2.2.2.2.1 p s hpp.1 hs
            rw [hh] at q
            have := (pI_m1 (o := some s) (fun x hx => by injection hx with hx; rw [← hx]; exact (hW.2.1 s hsu.1).1)).mp q
            cases this
        refine ⟨hS.1, ad 5, (hS.2.1 5 (by decide)).1, n, a5, lw ?_⟩
        rw [c1]
        unfold tAb
        rw [es, hnone]
      · cases hh : tK T p (tB T n + 1) with
        | none => rw [hh] at q; exact absurd rfl q
        | some s =>
          have hs := List.mem_of_find?_eq_some hh
          have hsu := hW.2.2.2.2.1 p s hpp.1 hs
          refine ⟨hS.1, ?_⟩
          show xSp l g mX10_deepest 0 0 [va_rf (some y), .int (nI s)] M _
          refine sX10_deepest hS hT hW hsu.1 ⟨_, rfl, lw ?_⟩
          unfold tAb
          rw [es, hh]
          rfl
  · rw [hO] at z
    have e : n = tO T := nI_inj (by omega) (by omega) z
    refine lw ?_
    rw [c1]
    unfold tAb
    rw [e, tS_root hW.1.2.1]
end RCL
