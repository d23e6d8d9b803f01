/-! The reference's readTree. -/
/-- what is changed while a tree is read -/
def rRt (y : Nat) (ad : Nat → Nat) (a k : Nat) : Prop := rRd ad a k ∨ (a = y ∧ k = 14)
section RTU
variable {l : Launch} {g : xG} {M M0 M1 : xM} {Q : Option Value → xM → Prop} {y : Nat} {ad : Nat → Nat} {D : Nat → Nat}
theorem rt_init {p h : Nat} {jj : Int64} {w3 : Value} (hS : rS M y ad) (hD : rDk M ad D) (hp : p = D (512 * h + 9)) (h2 : 2 ≤ p) (hjj : jj = Int64.ofNat (D (512 * h + 10) * 256 + D (512 * h + 11)))
    (h4 : ∀ n, n < 220 → xI M (ad 4) n = 0) (h26 : ∀ q, q < 256 → xI M (ad 26) q = 0)
    (hno : ldTree D h = none → ∀ M2, rX (rRt y ad) M M2 → Q (some (.int 0)) M2)
    (hyes : ∀ T', ldTree D h = some T' → ∀ M2, rX (rRt y ad) M M2 → rT M2 ad 0 T' → xI M2 y 14 = nI (tO T') → Q (some (.int 1)) M2) :
    xWp l g mX10_readTree 0 0 28 [(1, va_rf (some y)), (1, .int (nI p)), (2, .long jj), (0, w3), (1, .int (nI 256))] [] (0, 0) M Q := by
  have hp256 : p < 256 := by rw [hp]; exact hD.2 _
  have hT0 : rT M ad 0 tNo := fun n hn => ⟨by rw [Nat.zero_add, h4 n hn]; rfl, fun z => absurd (show false = true from z) (by decide)⟩
  refine bX10_readTree_28 _ _ _ _ _ ⟨fun _ => ⟨hS.1, ?_⟩, fun z => absurd (Int32.le_refl _) z⟩
  refine sX10_newNode (x1 := -1) (x2 := 0) hS hT0 (by rw [tNo_cnt]; omega) (fun M2 hx2 hn2 => ⟨_, rfl, (hx2.sS hS).1, ad 12, ((hx2.sS hS).2.1 12 (by decide)).1, 0, ?_, ad 26, ((hx2.sS hS).2.1 26 (by decide)).1, p, (hx2.sS hS).ai (j := 26) (by decide) hp256, ?_⟩)
  · rw [xI_sI, if_pos ⟨rfl, rfl⟩, tNo_free]; exact (hx2.sS hS).ai (j := 12) (by decide) (by decide)
  rw [tNo_free] at hx2 hn2 ⊢
  have hS2 := hx2.sS hS
  rw [show ((1 : Int32) &&& 1) = 1 by decide]
  have hxN : rX (rRt y ad) M2 (xsI (xsI (xsI M2 y 14 (nI 0)) (ad 12) 0 (nI p)) (ad 26) p 1) := ((rX_I (Or.inr ⟨rfl, rfl⟩)).trans (rX_I (Or.inl (Or.inr (Or.inl ⟨12, by decide, rfl, by omega⟩))))).trans (rX_I (Or.inl (Or.inl rfl)))
  have hx0 : rX (rRt y ad) M (xsI (xsI (xsI M2 y 14 (nI 0)) (ad 12) 0 (nI p)) (ad 26) p 1) := (hx2.mono (fun a k z => Or.inl (rN_rd (by omega) a k z))).trans hxN
  have e14 : xI (xsI (xsI (xsI M2 y 14 (nI 0)) (ad 12) 0 (nI p)) (ad 26) p 1) y 14 = nI 0 := by
    rw [xI_sI, if_neg (fun z => hS.ny (j := 26) (by decide) z.1.symm), xI_sI, if_neg (fun z => hS.ny (j := 12) (by decide) z.1.symm), xI_sI, if_pos ⟨rfl, rfl⟩]
  have ee : ∀ j ∈ RL9, j ≠ 12 → j ≠ 26 → ∀ i, xI (xsI (xsI (xsI M2 y 14 (nI 0)) (ad 12) 0 (nI p)) (ad 26) p 1) (ad j) i = xI M2 (ad j) i := fun j hj n1 n2 i => by
    rw [rsk hS hj (by decide) n2, rsk hS hj (by decide) n1, xI_sI, if_neg (fun z => hS.ny hj z.1)]
  have e12 : xI (xsI (xsI (xsI M2 y 14 (nI 0)) (ad 12) 0 (nI p)) (ad 26) p 1) (ad 12) 0 = nI p := by
    rw [rsk hS (i := 12) (j := 26) (by decide) (by decide) (by decide), xI_sI, if_pos ⟨rfl, rfl⟩]
  have e26 : ∀ q, q < 256 → xI (xsI (xsI (xsI M2 y 14 (nI 0)) (ad 12) 0 (nI p)) (ad 26) p 1) (ad 26) q = (if va_up (fun _ => false) p true q = true then 1 else 0) := fun q hq => by
    rw [xI_sI]
    by_cases e : q = p
    · rw [if_pos ⟨rfl, e⟩, e, va_up_self, if_pos rfl]
    · rw [if_neg (fun z => e z.2), va_up_ne _ _ e, rsk hS (i := 26) (j := 12) (by decide) (by decide) (by decide), xI_sI, if_neg (fun z => hS.ny (j := 26) (by decide) z.1), (hx2.2 _ _ (rN_26 hS)).1, h26 q hq]; rfl
  have eJ : ∀ i, xJ (xsI (xsI (xsI M2 y 14 (nI 0)) (ad 12) 0 (nI p)) (ad 26) p 1) (ad 10) i = xJ M2 (ad 10) i := fun i => rfl
  rw [e14]
  generalize xsI (xsI (xsI M2 y 14 (nI 0)) (ad 12) 0 (nI p)) (ad 26) p 1 = N at *
  have hSN := hx0.sS hS
  have hDN : rDk N ad D := ⟨fun k hk => by
    rw [(hx0.2 _ _ (fun z => z.elim (rRd_a hS (by decide) (by decide)) (fun q => hS.ny (j := 17) (by decide) q.1))).1]
    exact hD.1 k hk, hD.2⟩
  have hTN : rT N ad 0 (tRl (tGs tNil 0 p) [0]) := fun n hn => by
    rw [Nat.zero_add]
    by_cases hn0 : n = 0
    · subst hn0
      obtain ⟨n4, n5, n6, n8, n9, n10, n11, n12, n13⟩ := hn2
      refine ⟨by rw [ee 4 (by decide) (by decide) (by decide), n4]; rfl, fun _ => rC0.mpr ⟨by rw [ee 5 (by decide) (by decide) (by decide), n5]; rfl, by rw [ee 6 (by decide) (by decide) (by decide), n6]; rfl, by rw [ee 8 (by decide) (by decide) (by decide), n8]; rfl, fun i hi => absurd hi (Nat.not_lt_zero i), by rw [ee 9 (by decide) (by decide) (by decide), n9]; rfl, by rw [eJ, n10]; rfl, by rw [ee 11 (by decide) (by decide) (by decide), n11]; rfl, ?_, by rw [ee 13 (by decide) (by decide) (by decide), n13]; rfl⟩⟩
      rw [e12]
      show nI p = nI (va_up (tG tNil) 0 p 0)
      rw [va_up_self]
    · have eU : tU (tRl (tGs tNil 0 p) [0]) n = false := decide_eq_false hn0
      refine ⟨?_, fun z => by rw [eU] at z; cases z⟩
      rw [eU, ee 4 (by decide) (by decide) (by decide), (hx2.2 _ _ (fun z => ?_)).1, h4 n hn]; rfl
      rcases z with ⟨j, hj, z1, z2⟩ | ⟨z, -⟩
      · exact hn0 z2
      · exact hS.na (i := 4) (j := 7) (by decide) (by decide) (by decide) z
  obtain ⟨hI0, hc0, hk0⟩ := ld0_I h2 hp256
  have eT : ldTree D h = (match ldAll D 200 (tGs tNil 0 p) (va_up (fun _ => false) p true) 0 with | none => none | some T => if tKy T = D (512 * h + 10) * 256 + D (512 * h + 11) then some T else none) := by
    unfold ldTree
    rw [← hp]
    cases ldAll D 200 (tGs tNil 0 p) (va_up (fun _ => false) p true) 0 <;> rfl
  rw [eT] at hno hyes
  refine rt_loop hSN hDN 200 (tGs tNil 0 p) [] [] 0 (va_up (fun _ => false) p true) N hI0 (by omega) rX.rf e14 hTN e26 (fun hn M3 hx3 => ?_) (fun T' hT' M3 hx3 hT3 hO3 => ?_)
  · rw [hn] at hno
    exact hno rfl M3 (hx0.trans (hx3.mono (fun a k z => Or.inl z)))
  · rw [hT'] at hno hyes
    have hS3 := hx3.sS hSN
    have h14 : xI M3 y 14 = nI (tO T') := by rw [(hx3.2 _ _ (rRd_y hSN)).1, e14, hO3]; rfl
    have hky : tKy T' ≤ 220 := by
      have := List.countP_le_length (p := fun n => tU T' n && (tV T' n).isSome) (l := List.range 220)
      rw [List.length_range] at this
      exact this
    have l10 := hD.2 (512 * h + 10)
    have l11 := hD.2 (512 * h + 11)
    have hxx : rX (rRt y ad) M M3 := hx0.trans (hx3.mono (fun a k z => Or.inl z))
    refine bX10_readTree_83 _ _ _ _ _ ⟨fun _ => ⟨hS3.1, sX10_keys hS3 hT3 ⟨_, rfl, ?_⟩⟩, fun z => absurd rfl z⟩
    rw [nI_long (by omega), hjj]
    have key : lg_cmp (Int64.ofNat (tKy T')) (Int64.ofNat (D (512 * h + 10) * 256 + D (512 * h + 11))) = 0 ↔ tKy T' = D (512 * h + 10) * 256 + D (512 * h + 11) := by
      rw [lgeq]
      constructor
      · intro z
        have : (Int64.ofNat (tKy T')).toUInt64.toNat = (Int64.ofNat (D (512 * h + 10) * 256 + D (512 * h + 11))).toUInt64.toNat := congrArg (fun x : Int64 => x.toUInt64.toNat) z
        rw [l_u64 (by omega), l_u64 (by omega)] at this
        exact this
      · intro z; rw [z]
    refine ⟨fun z => hno (if_neg (fun q => z (key.mpr q))) M3 hxx, fun z => hyes T' (if_pos (key.mp z)) M3 hxx hT3 h14⟩
theorem sX10_readTree {p h : Nat} {jj : Int64} (hS : rS M y ad) (hD : rDk M ad D) (hp : p = D (512 * h + 9)) (h2 : 2 ≤ p) (hjj : jj = Int64.ofNat (D (512 * h + 10) * 256 + D (512 * h + 11)))
    (hno : ldTree D h = none → ∀ M2, rX (rRt y ad) M M2 → Q (some (.int 0)) M2)
    (hyes : ∀ T', ldTree D h = some T' → ∀ M2, rX (rRt y ad) M M2 → rT M2 ad 0 T' → xI M2 y 14 = nI (tO T') → Q (some (.int 1)) M2) :
    xSp l g mX10_readTree 0 0 [va_rf (some y), .int (nI p), .long jj] M Q := by
  have loop2 : ∀ (d k : Nat) (M1 : xM) (w3 : Value), 256 = k + d → rX (rRt y ad) M M1 → (∀ n, n < 220 → xI M1 (ad 4) n = 0) → (∀ q, q < k → xI M1 (ad 26) q = 0) → xWp l g mX10_readTree 0 0 28 [(1, va_rf (some y)), (1, .int (nI p)), (2, .long jj), (0, w3), (1, .int (nI k))] [] (0, 0) M1 Q := by
    intro d
    induction d with
    | zero =>
      intro k M1 w3 hd hx h4 h26
      have hk : k = 256 := by omega
      subst hk
      refine rt_init (hx.sS hS) ⟨fun k hk => ?_, hD.2⟩ hp h2 hjj h4 h26 (fun z M2 hx2 => hno z M2 (hx.trans hx2)) (fun T' z M2 hx2 => hyes T' z M2 (hx.trans hx2))
      rw [(hx.2 _ _ (fun z => z.elim (rRd_a hS (by decide) (by decide)) (fun q => hS.ny (j := 17) (by decide) q.1))).1]
      exact hD.1 k hk
    | succ d ih =>
      intro k M1 w3 hd hx h4 h26
      have hS1 := hx.sS hS
      refine bX10_readTree_28 _ _ _ _ _ ⟨fun z => ?_, fun _ => ⟨hS1.1, ad 26, (hS1.2.1 26 (by decide)).1, k, hS1.ai (j := 26) (by decide) (by show k < 256; omega), ?_⟩⟩
      · exfalso
        have := nle z (a := 256) rfl rfl
        omega
      · rw [nI_1, show ((0 : Int32) &&& 1) = 0 by decide]
        refine ih (k + 1) _ w3 (by omega) (hx.trans (rX_I (Or.inl (Or.inl rfl)))) (fun n hn => by rw [rsk hS (i := 4) (j := 26) (by decide) (by decide) (by decide)]; exact h4 n hn) (fun q hq => ?_)
        by_cases e : q = k
        · rw [xI_sI, if_pos ⟨rfl, e⟩]
        · rw [xI_sI, if_neg (fun z => e z.2)]; exact h26 q (by omega)
  have loop1 : ∀ (d k : Nat) (M1 : xM) (w3 : Value), 220 = k + d → rX (rRt y ad) M M1 → (∀ n, n < k → xI M1 (ad 4) n = 0) → xWp l g mX10_readTree 0 0 3 [(1, va_rf (some y)), (1, .int (nI p)), (2, .long jj), (0, w3), (1, .int (nI k))] [] (0, 0) M1 Q := by
    intro d
    induction d with
    | zero =>
      intro k M1 w3 hd hx h4
      have hk : k = 220 := by omega
      subst hk
      exact bX10_readTree_3 _ _ _ _ _ ⟨fun _ => loop2 256 0 M1 w3 (by omega) hx h4 (fun q hq => by omega), fun z => absurd (Int32.le_refl _) z⟩
    | succ d ih =>
      intro k M1 w3 hd hx h4
      have hS1 := hx.sS hS
      refine bX10_readTree_3 _ _ _ _ _ ⟨fun z => ?_, fun _ => ⟨hS1.1, ad 4, (hS1.2.1 4 (by decide)).1, k, hS1.ai (j := 4) (by decide) (by show k < 440; omega), ?_⟩⟩
      · exfalso
        have := nle z (a := 220) rfl rfl
        omega
      · rw [nI_1, show ((0 : Int32) &&& 1) = 0 by decide]
        refine ih (k + 1) _ w3 (by omega) (hx.trans (rX_I (Or.inl (Or.inr (Or.inl ⟨4, by decide, rfl, by omega⟩))))) (fun n hn => ?_)
        by_cases e : n = k
        · rw [xI_sI, if_pos ⟨rfl, e⟩]
        · rw [xI_sI, if_neg (fun z => e z.2)]; exact h4 n (by omega)
  exact eX10_readTree _ _ _ (bX10_readTree_0 _ _ _ (loop1 220 0 M _ (by omega) rX.rf (fun n hn => by omega)))
end RTU
