/-! The reference's writeNode: the prefix, the table. -/
section RWN
variable {l : Launch} {g : xG} {M M0 M1 : xM} {Q : Option Value → xM → Prop} {y n : Nat} {ad : Nat → Nat} {f f1 : Nat → Nat} {T : TT}
theorem rB.up (h : rB M ad f) {i b : Nat} (hb : b < 256) : rB (xsI M (ad 25) i (nI b)) ad (va_up f i b) := by
  refine ⟨fun j hj => ?_, fun j => ?_⟩
  · by_cases hji : j = i
    · rw [hji, va_up_self, xI_sI, if_pos ⟨rfl, rfl⟩]
    · rw [va_up_ne _ _ hji, xI_sI, if_neg (fun z => hji z.2)]; exact h.1 j hj
  · by_cases hji : j = i
    · rw [hji, va_up_self]; exact hb
    · rw [va_up_ne _ _ hji]; exact h.2 j
theorem sh_T {o : Nat} (hx : rX (fun a _ => a = ad 25) M M1) (hS : rS M y ad) (hW : tWF T) (hT : rT M ad o T) : rT M1 ad o T :=
  hx.tT hT (fun j hj n hn => hS.na (RA_RL j hj) (j := 25) (by decide) (fun q => by subst q; revert hj; decide)) (fun i hi => hS.na (i := 7) (j := 25) (by decide) (by decide) (by decide)) (fun n hn hu => (tX_le hW hu).1)
theorem wn_pre {w3 : Value} (hW : tWF T) (hn : tU T n = true) (hS : rS M y ad) (hT : rT M ad 0 T)
    (hcont : ∀ M1, rX (fun a _ => a = ad 25) M M1 → rB M1 ad (pfxF f (tX T n)) → xWp l g mX10_writeNode 0 0 109 [(1, va_rf (some y)), (1, .int (nI n)), (1, .int 0), (1, .int (pI (tC T n).head?))] [] (0, 0) M1 Q) :
    ∀ (d k : Nat) (M1 : xM), (tX T n).length = k + d → rX (fun a _ => a = ad 25) M M1 → rB M1 ad (fun x => if x < 11 + k then pfxF f (tX T n) x else f x) → xWp l g mX10_writeNode 0 0 64 [(1, va_rf (some y)), (1, .int (nI n)), (1, .int (nI k)), (0, w3)] [] (0, 0) M1 Q := by
  have hn220 := (hW.2.1 n hn).1
  have h12 := (tX_le hW hn).1
  have hb := (hW.2.1 n hn).2.2.1
  intro d
  induction d with
  | zero =>
    intro k M1 hd hx hB
    have hS1 := hx.sS hS
    have hT1 := sh_T hx hS hW hT
    obtain ⟨c1, c2, c3, c4, -⟩ := hT1.d hW hn
    have e : (fun x => if x < 11 + k then pfxF f (tX T n) x else f x) = pfxF f (tX T n) := by
      funext x
      by_cases h : x < 11 + k
      · rw [if_pos h]
      · rw [if_neg h]; unfold pfxF; rw [if_neg (by omega)]
    rw [e] at hB
    refine bX10_writeNode_64 _ _ _ _ ⟨hS1.1, ad 8, (hS1.2.1 8 (by decide)).1, n, hS1.ai (j := 8) (by decide) (by show n < 440; omega), fun _ => ?_, fun c => ?_⟩
    · refine sX10_childFrom (b := 0) hS1 hT1 hW hn (by omega) ⟨_, rfl, ?_⟩
      rw [tK_0]
      exact hcont M1 hx hB
    · exfalso
      have := nnle c c3 rfl
      omega
  | succ d ih =>
    intro k M1 hd hx hB
    have hS1 := hx.sS hS
    have hT1 := sh_T hx hS hW hT
    obtain ⟨c1, c2, c3, c4, -⟩ := hT1.d hW hn
    have e7 : 12 * nI n + nI k = nI (12 * n + k) := by rw [show (12 : Int32) = nI 12 from rfl, nI_mul, nI_add]
    have e11 : 11 + nI k = nI (11 + k) := by rw [show (11 : Int32) = nI 11 from rfl, nI_add]
    refine bX10_writeNode_64 _ _ _ _ ⟨hS1.1, ad 8, (hS1.2.1 8 (by decide)).1, n, hS1.ai (j := 8) (by decide) (by show n < 440; omega), fun c => ?_, fun _ => ⟨ad 7, (hS1.2.1 7 (by decide)).1, 12 * n + k, by rw [e7]; exact hS1.ai (j := 7) (by decide) (by show _ < 5280; omega), ad 25, (hS1.2.1 25 (by decide)).1, 11 + k, by rw [e11]; exact hS1.ai (j := 25) (by decide) (by show _ < 512; omega), ?_⟩⟩
    · exfalso
      have := nle c c3 rfl
      omega
    · rw [nI_1, c4 k (by omega)]
      refine ih (k + 1) _ (by omega) (hx.trans (rX_I rfl)) ?_
      have e : (fun x => if x < 11 + (k + 1) then pfxF f (tX T n) x else f x) = va_up (fun x => if x < 11 + k then pfxF f (tX T n) x else f x) (11 + k) ((tX T n).getD k 0) := by
        funext x
        by_cases h : x = 11 + k
        · rw [h, va_up_self, if_pos (by omega)]
          unfold pfxF
          rw [if_pos (by omega), Nat.add_sub_cancel_left]
        · rw [va_up_ne _ _ h]
          by_cases h2 : x < 11 + k
          · rw [if_pos h2, if_pos (by omega)]
          · rw [if_neg h2, if_neg (by omega)]
      rw [e]
      exact hB.up (getD_lt hb)
end RWN
