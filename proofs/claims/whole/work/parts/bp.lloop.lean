/-! The law's loop. -/
theorem sub4 {a i : Nat} (ha : a ≤ 2048) (hi : i ≤ 2048) : (nI a - 4 < nI i) ↔ a < i + 4 := by
  have e1 : (nI a).toInt = a := Int32.toInt_ofNat_of_lt (by omega)
  have e2 : (nI i).toInt = i := Int32.toInt_ofNat_of_lt (by omega)
  rw [Int32.lt_iff_toInt_lt, Int32.toInt_sub, e1, e2, show (4 : Int32).toInt = 4 from rfl]
  have : ((a : Int) - 4).bmod (2 ^ 32) = (a : Int) - 4 := by
    apply Int.bmod_eq_of_le <;> omega
  rw [this]
  omega
section LLP
variable {l : Launch} {g : xG} {K9 : xKt} {Ls : Nat} {xs : Nat → Int32} {b0 mc ms : Nat} {F : Nat → Prop} {x y o : Nat} {ad : Nat → Nat}
theorem law_loop (hl : l.stackTraces = false) (hscr : xScr K9 b0 Ls xs) (hth : xThK K9) (hLs : Ls ≤ 2048) (hend : ∀ (M : xM) (L : List (Nat × Value)) (c1 c2 : Nat), c1 ≤ mc → c2 ≤ ms → xWg l g hL_law mc ms 746 L [.int 1] (c1, c2) M K9) :
    ∀ (d k : Nat) (M : xM) (K : List Nat) (dn : Bool) (T Tc : TT) (D : Nat → Nat) (pw : Option Nat) (tr sq c1 c2 : Nat) (w5 w6 : Value), 512 = k + d → lI k F M x y o ad K dn T Tc D pw tr sq → c1 + d ≤ mc → c2 + 6 * d ≤ ms →
    xWg l g hL_law mc ms 23 [(1, va_rf (some b0)), (1, va_rf (some x)), (1, va_rf (some y)), (1, va_rf (some o)), (1, .int (nI (4 * k))), (0, w5), (0, w6)] [] (c1, c2) M K9 := by
  intro d
  induction d with
  | zero =>
    intro k M K dn T Tc D pw tr sq c1 c2 w5 w6 hd h h1 h2
    refine bL_law_23 _ _ _ _ _ _ hscr hth ⟨fun _ => hend M _ _ _ (by omega) (by omega), fun z => ?_⟩
    exfalso
    exact z ((sub4 hLs (by omega)).mpr (by omega))
  | succ d ih =>
    intro k M K dn T Tc D pw tr sq c1 c2 w5 w6 hd h h1 h2
    have hk : k ≤ 512 := by omega
    have hm : c1 + 1 ≤ mc ∧ c2 + 6 ≤ ms := ⟨by omega, by omega⟩
    have go : lGo l g mc ms K9 b0 (4 * k) k F x y o ad c1 c2 := fun M1 K1 dn1 T1 Tc1 D1 pw1 tr1 sq1 d1 d2 u v q1 q2 h3 => by
      refine bL_law_739 _ _ _ _ _ _ hscr hth ?_
      have e4 : nI (4 * k) + 4 = nI (4 * (k + 1)) := by rw [show nI (4 * k) + 4 = nI (4 * k + 4) from nI_add _ 4, Nat.mul_succ]
      rw [e4]
      exact ih (k + 1) M1 K1 dn1 T1 Tc1 D1 pw1 tr1 sq1 d1 d2 u v (by omega) h3 (by omega) (by omega)
    refine bL_law_23 _ _ _ _ _ _ hscr hth ⟨fun _ => hend M _ _ _ (by omega) (by omega), fun z => ?_⟩
    have hi : 4 * k + 4 ≤ Ls := by
      apply Classical.byContradiction
      intro w
      exact z ((sub4 hLs (by omega)).mpr (by omega))
    exact ⟨4 * k, rfl, by omega, fun _ => lc_type hl hscr hth hk hi hm h go, fun _ => lc_cut hl hscr hth hk hi hm h go, fun _ => lc_tapeAt hscr hth hk hi hm h go, fun _ => lc_put hscr hth hk hi hm h go, fun _ => lc_remove hscr hth hk hm h go, fun _ => lc_get hscr hth hk hm h go, fun _ => lc_with hscr hth hk hm h go, fun _ => lc_before hscr hth hk hm h go, fun _ => lc_nth hscr hth hk hi hm h go, fun _ => lc_commit hscr hth hk hm h go, fun _ => lc_back hscr hth hk hm h go, fun _ => lc_count hscr hth hk hi hm h go, fun _ => lc_node hscr hth hk hi hm h go, fun _ => lc_power hscr hth hk hi hm h go, fun _ => lc_start hscr hth hk hm h go, fun _ => lc_halt hscr hth hk hm h go, fun _ => lc_octet hl hscr hth hk hi hm h go, fun _ => lc_poke hl hscr hth hk hi hm h go, fun _ => go M K dn T Tc D pw tr sq c1 c2 w5 w6 (by omega) (by omega) (h.up (by omega))⟩
end LLP
