/-! The reference's writeNode: the table. -/
section RWO
variable {l : Launch} {g : xG} {M M0 M1 : xM} {Q : Option Value → xM → Prop} {y n : Nat} {ad : Nat → Nat} {f f1 : Nat → Nat} {T : TT}
theorem wn_tab (hW : tWF T) (hn : tU T n = true) (hF1 : 1 ≤ tF T n) (hF4 : tF T n ≤ 4) (hG : ∀ c ∈ tC T n, tG T c < 256) (h200 : (tC T n).length ≤ 200) (hroom : (tC T n).length ≤ fRoom (tF T n)) (hS : rS M y ad) (hT : rT M ad 0 T)
    (hcont : ∀ M1, rX (fun a _ => a = ad 25) M M1 → rB M1 ad (tabF (tF T n) (tCs T n) 0 f) → xWp l g mX10_writeNode 0 0 109 [(1, va_rf (some y)), (1, .int (nI n)), (1, .int (nI (tC T n).length)), (1, .int (-1))] [] (0, 0) M1 Q) :
    ∀ (l2 l1 : List Nat) (M1 : xM) (f1 : Nat → Nat), tC T n = l1 ++ l2 → rB M1 ad f1 → tabF (tF T n) (tCs T n) 0 f = tabF (tF T n) (l2.map (fun c => (tB T c, tG T c))) l1.length f1 → rX (fun a _ => a = ad 25) M M1 → xWp l g mX10_writeNode 0 0 109 [(1, va_rf (some y)), (1, .int (nI n)), (1, .int (nI l1.length)), (1, .int (pI l2.head?))] [] (0, 0) M1 Q
  | [], l1, M1, f1, hl, hB, hf, hx => by
    have hl2 : l1.length = (tC T n).length := by rw [hl]; simp
    rw [hl2]
    exact hcont M1 hx (by rw [hf]; exact hB)
  | c :: r, l1, M1, f1, hl, hB, hf, hx => by
    have hS1 := hx.sS hS
    have hT1 := sh_T hx hS hW hT
    have hn220 := (hW.2.1 n hn).1
    have hcm : c ∈ tC T n := by rw [hl]; simp
    obtain ⟨hcu, hcp⟩ := hW.2.2.2.2.1 n c hn hcm
    have hc220 := (hW.2.1 c hcu).1
    have hBc := (hW.2.1 c hcu).2.1
    have hGc := hG c hcm
    have hlen : l1.length < (tC T n).length := by rw [hl]; simp
    obtain ⟨n1, n2, n3, n4, n5, n6, n7, n8, n9⟩ := hT1.d hW hn
    obtain ⟨c1, c2, c3, c4, c5, c6, c7, c8, c9⟩ := hT1.d hW hcu
    have ne : ∀ j ∈ RL9, j ≠ 25 → ∀ (N : xM) i v k, xI (xsI N (ad 25) i v) (ad j) k = xI N (ad j) k := fun j hj h N i v k => rsk hS hj (by decide) h
    have cf : ∀ M2, rX (fun a _ => a = ad 25) M M2 → xSp l g mX10_childFrom 0 0 [va_rf (some y), .int (nI n), .int (nI (tB T c) + 1)] M2 (fun ρ M3 => ρ = some (.int (pI r.head?)) ∧ M3 = M2) := fun M2 hx2 => by
      rw [nI_1]
      refine sX10_childFrom (b := tB T c + 1) (hx2.sS hS) (sh_T hx2 hS hW hT) hW hn (by omega) ⟨?_, rfl⟩
      rw [← tS_child hW hn hl, tS_tK hW hn hcm]
    have nxt : ∀ M2 f2, rX (fun a _ => a = ad 25) M M2 → rB M2 ad f2 → f2 = tab1 (tF T n) l1.length (tB T c) (tG T c) f1 → xWp l g mX10_writeNode 0 0 109 [(1, va_rf (some y)), (1, .int (nI n)), (1, .int (nI l1.length + 1)), (1, .int (pI r.head?))] [] (0, 0) M2 Q := fun M2 f2 hx2 hB2 e => by
      have := wn_tab hW hn hF1 hF4 hG h200 hroom hS hT hcont r (l1 ++ [c]) M2 f2 (by rw [hl]; simp) hB2 (by rw [hf, e, List.length_append, List.length_singleton]; rfl) hx2
      rw [List.length_append, List.length_singleton] at this
      rw [nI_1]
      exact this
    have a25 : ∀ k, k < 512 → xai M1 (ad 25) 9 (nI k) k := fun k hk => hS1.ai (j := 25) (by decide) hk
    have aj : ∀ j ∈ RL9, rn j = 440 → ∀ m, m < 220 → xai M1 (ad j) (rk j) (nI m) m := fun j hj hr m hm => hS1.ai hj (by rw [hr]; omega)
    have e24 : ∀ k, (24 : Int32) + nI k = nI (24 + k) := fun k => by rw [show (24 : Int32) = nI 24 from rfl, nI_add]
    refine bX10_writeNode_109 _ _ _ _ ⟨fun z => ?_, fun _ => ⟨hS1.1, ad 11, (hS1.2.1 11 (by decide)).1, n, aj 11 (by decide) rfl n hn220, fun z3 => ⟨n, aj 11 (by decide) rfl n hn220, fun z4 => ?_, fun z4 => ?_⟩, fun z3 => ?_⟩⟩
    · exact absurd ((pI_m1 (o := some c) (fun q hq => by cases hq; exact hc220)).mp z) (fun q => by cases q)
    · have g3 := nne z4 n7 (b := 3) rfl
      have g4 : tF T n = 4 := by
        have := nle z3 (a := 3) rfl n7
        omega
      refine ⟨ad 6, (hS1.2.1 6 (by decide)).1, c, aj 6 (by decide) rfl c hc220, ad 12, (hS1.2.1 12 (by decide)).1, c, aj 12 (by decide) rfl c hc220, ad 25, (hS1.2.1 25 (by decide)).1, 24 + tB T c, ?_, ad 6, (hS1.2.1 6 (by decide)).1, c, aj 6 (by decide) rfl c hc220, ?_⟩
      · rw [c2, e24]; exact a25 _ (by omega)
      · rw [c8, ne 6 (by decide) (by decide), c2]
        have hx2 := hx.trans (rX_I (P := fun a _ => a = ad 25) (M := M1) (a := ad 25) (k := 24 + tB T c) (v := nI (tG T c)) rfl)
        refine (cf _ hx2).mono ?_
        rintro ρ M3 ⟨e1, e2⟩
        subst e2
        exact ⟨_, e1, nxt _ _ hx2 (hB.up hGc) (by unfold tab1; rw [if_pos g4])⟩
    · have g3 : tF T n = 3 := neq z4 n7 (b := 3) rfl
      have h48 : (tC T n).length ≤ 48 := by rw [g3] at hroom; exact hroom
      refine ⟨ad 6, (hS1.2.1 6 (by decide)).1, c, aj 6 (by decide) rfl c hc220, ad 25, (hS1.2.1 25 (by decide)).1, 24 + tB T c, ?_, ad 12, (hS1.2.1 12 (by decide)).1, c, aj 12 (by decide) rfl c hc220, ad 25, (hS1.2.1 25 (by decide)).1, 280 + l1.length, ?_, ad 6, (hS1.2.1 6 (by decide)).1, c, aj 6 (by decide) rfl c hc220, ?_⟩
      · rw [c2, e24]; exact a25 _ (by omega)
      · rw [show (280 : Int32) = nI 280 from rfl, nI_add]; exact a25 _ (by omega)
      · have el : nI l1.length + 1 = nI (l1.length + 1) := by rw [nI_1]
        rw [ne 12 (by decide) (by decide), c8, ne 6 (by decide) (by decide), ne 6 (by decide) (by decide), c2, el]
        have hx2 := hx.trans ((rX_I (P := fun a _ => a = ad 25) (M := M1) (a := ad 25) (k := 24 + tB T c) (v := nI (l1.length + 1)) rfl).trans (rX_I (P := fun a _ => a = ad 25) (a := ad 25) (k := 280 + l1.length) (v := nI (tG T c)) rfl))
        refine (cf _ hx2).mono ?_
        rintro ρ M3 ⟨e1, e2⟩
        subst e2
        refine ⟨_, e1, ?_⟩
        have := nxt _ _ hx2 ((hB.up (by omega)).up hGc) (by unfold tab1; rw [if_neg (by omega), if_pos g3])
        rw [el] at this
        exact this
    · have g12 : tF T n < 3 := by
        have := nnle z3 (a := 3) rfl n7
        omega
      have hr16 := fRoom2 (F := tF T n) (by omega) (by omega) hF1 hF4
      refine ⟨ad 6, (hS1.2.1 6 (by decide)).1, c, aj 6 (by decide) rfl c hc220, ad 25, (hS1.2.1 25 (by decide)).1, 24 + l1.length, ?_, ad 11, (hS1.2.1 11 (by decide)).1, n, aj 11 (by decide) rfl n hn220, ?_⟩
      · rw [e24]; exact a25 _ (by omega)
      · rw [ne 11 (by decide) (by decide), n7, c2]
        refine sX10_room (by omega) ⟨_, rfl, hS1.1, ad 12, (hS1.2.1 12 (by decide)).1, c, aj 12 (by decide) rfl c hc220, ad 25, (hS1.2.1 25 (by decide)).1, 24 + fRoom (tF T n) + l1.length, ?_, ad 6, (hS1.2.1 6 (by decide)).1, c, aj 6 (by decide) rfl c hc220, ?_⟩
        · rw [e24, nI_add]; exact a25 _ (by omega)
        · rw [ne 12 (by decide) (by decide), c8, ne 6 (by decide) (by decide), ne 6 (by decide) (by decide), c2]
          have hx2 := hx.trans ((rX_I (P := fun a _ => a = ad 25) (M := M1) (a := ad 25) (k := 24 + l1.length) (v := nI (tB T c)) rfl).trans (rX_I (P := fun a _ => a = ad 25) (a := ad 25) (k := 24 + fRoom (tF T n) + l1.length) (v := nI (tG T c)) rfl))
          refine (cf _ hx2).mono ?_
          rintro ρ M3 ⟨e1, e2⟩
          subst e2
          exact ⟨_, e1, nxt _ _ hx2 ((hB.up hBc).up hGc) (by unfold tab1; rw [if_neg (by omega), if_neg (by omega)])⟩
end RWO
