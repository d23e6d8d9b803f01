/-! The reference's count. -/
section RCN
variable {l : Launch} {g : xG} {M M0 M1 M2 M3 M4 M5 : xM} {Q : Option Value → xM → Prop} {y : Nat} {ad : Nat → Nat} {T T1 Tc : TT} {o n b c s m w a u f t k : Nat} {K W js : List Nat} {v : Int64} {P P1 : Nat → Nat → Prop} {dn dn1 : Bool} {D : Nat → Nat} {pw pw1 : Option Nat} {tr tr1 sq : Nat}
theorem count_fm {x1 : Int32} (h1 : x1 - 1 = nI f) (hf : f < 2 ^ 31) (hF : ∀ n, tU T n = true → tF T n ≤ 4) (hS : rS M y ad) (hT : rT M ad 0 T) (hQ : Q (some (.int (nI ((List.range 220).countP (fun n => tU T n && decide (tF T n = f)))))) M) :
    ∀ (d k : Nat), 220 = k + d → xWp l g mX10_count 0 0 88 [(1, va_rf (some y)), (1, .int x1), (1, .int (nI ((List.range k).countP (fun n => tU T n && decide (tF T n = f))))), (1, .int (nI k))] [] (0, 0) M Q
  | 0, k, hd => by
    have : k = 220 := by omega
    subst this
    exact bX10_count_88 _ _ _ _ ⟨fun _ => hQ, fun c => absurd (Int32.le_refl _) c⟩
  | d + 1, k, hd => by
    obtain ⟨hu, hc⟩ := hT k (by omega)
    rw [Nat.zero_add] at hu
    have key := count_fm h1 hf hF hS hT hQ d (k + 1) (by omega)
    have hno : (tU T k && decide (tF T k = f)) = false → xWp l g mX10_count 0 0 88 [(1, va_rf (some y)), (1, .int x1), (1, .int (nI ((List.range k).countP (fun n => tU T n && decide (tF T n = f))) + 0)), (1, .int (nI k + 1))] [] (0, 0) M Q := fun hf => by
      rw [cnt_succ, if_neg (by rw [hf]; decide), Nat.add_zero, ← nI_1] at key
      rw [Int32.add_zero]
      exact key
    refine bX10_count_88 _ _ _ _ ⟨fun c => ?_, fun _ => ⟨hS.1, ad 4, (hS.2.1 4 (by decide)).1, k, hS.ai (j := 4) (by decide) (by show k < 440; omega), fun c => ?_, fun c => ⟨ad 11, (hS.2.1 11 (by decide)).1, k, hS.ai (j := 11) (by decide) (by show k < 440; omega), fun c2 => ?_, fun c2 => ?_⟩⟩⟩
    · exfalso
      have := nle c (a := 220) rfl rfl
      omega
    · exact hno (by rw [z01.mp (hu.symm.trans c)]; rfl)
    · have hf' := bnf (fun z => c (hu.trans (z01.mpr z)))
      have h11 := (hc hf').2.2.2.2.2.2.1
      rw [Nat.zero_add] at h11
      rw [h11, h1] at c2
      exact hno (by rw [decide_eq_false (fun z => c2 (by rw [z]))]; simp)
    · have hf' := bnf (fun z => c (hu.trans (z01.mpr z)))
      have h11 := (hc hf').2.2.2.2.2.2.1
      rw [Nat.zero_add] at h11
      rw [h11, h1] at c2
      have h4 := hF k hf'
      rw [cnt_succ, if_pos (by rw [hf', decide_eq_true (nI_inj (by omega) hf c2)]; rfl), ← nI_1, ← nI_1] at key
      exact key
theorem j_int {q : Nat} (h : q < 2 ^ 30) : (Int64.ofNat q).toInt32 = nI q := by
  have h1 := nI_long (k := q) (by omega)
  rw [← h1]
  exact Int32.toInt32_toInt64 _
theorem sX10_count {i : Int32} (hA : aI T Tc sq) (h : rR M y ad K dn T Tc D pw tr sq) (hQ : ∀ M1, rR M1 y ad K dn T Tc D pw tr sq → xag (rG y ad) M M1 → xI M1 y 0 = 0 → Q (some (.int (aCnt dn T Tc sq i))) M1) : xSp l g mX10_count 0 0 [va_rf (some y), .int i] M Q := by
  have hR0 := h.th (v := 0) hA
  obtain ⟨hS, hP, h3, ⟨hT, hr⟩, ⟨hTc, hrc⟩, hq, -⟩ := id hR0
  have hW := hA.1.1
  have hF : ∀ n, tU T n = true → tF T n ≤ 4 := fun n hn => (hA.1.2.1 n hn).2.1
  have hG : ∀ n, tU Tc n = true → tG Tc n < 256 := fun n hn => (hA.2.1.2.1.1 n hn).2.2.1
  refine eX10_count _ _ (bX10_count_0 _ _ ⟨hS.1, fun c => ?_, fun c => ?_⟩)
  · have hdn := (dn0 h3).mp c
    have hdn2 : ¬ dn = true := by rw [hdn]; decide
    have hq0 : ∀ (z : Int32), aCnt dn T Tc sq i = z → Q (some (.int z)) (xsI M y 0 0) := fun z e => by rw [e] at hQ; exact th_out hA h hQ
    have fmt : ∀ f, i = nI (f + 1) → f < 100 → (i = 2 ∨ i = 3 ∨ i = 4 ∨ i = 5) → i ≠ 0 → i ≠ 1 → xWp l g mX10_count 0 0 88 [(1, va_rf (some y)), (1, .int i), (1, .int 0), (1, .int 0)] [] (0, 0) (xsI M y 0 0) Q := fun f hi hf hor h0 h1 => by
      have e : i - 1 = nI f := by rw [hi, nI_pred]
      refine count_fm e (by omega) hF hS hT (hq0 _ ?_) 220 0 (by omega)
      unfold aCnt
      rw [if_neg hdn2, if_neg h0, if_neg h1, if_pos hor, e, nI_clamp (by omega), tEs_cnt hW]
    refine ⟨fun k => ?_, fun k => ?_, fun k => ?_, fun k => ?_, fun k => ?_, fun k => ?_, fun k => ?_, fun k => ?_, fun k => ?_, fun k => ?_, fun k => ?_, fun k => ?_⟩
    · exact sX10_keys hS hT ⟨_, rfl, hq0 _ (by unfold aCnt; rw [if_neg hdn2, if_pos k])⟩
    · exact sX10_nodes hS hT ⟨_, rfl, hq0 _ (by unfold aCnt; rw [if_neg hdn2, k]; rfl)⟩
    · exact fmt 1 k (by omega) (Or.inl k) (by rw [k]; decide) (by rw [k]; decide)
    · exact fmt 2 k (by omega) (Or.inr (Or.inl k)) (by rw [k]; decide) (by rw [k]; decide)
    · exact fmt 3 k (by omega) (Or.inr (Or.inr (Or.inl k))) (by rw [k]; decide) (by rw [k]; decide)
    · exact fmt 4 k (by omega) (Or.inr (Or.inr (Or.inr k))) (by rw [k]; decide) (by rw [k]; decide)
    · exact sX10_freshMany hS hT hW ⟨_, rfl, hq0 _ (by unfold aCnt; rw [if_neg hdn2, k]; rfl)⟩
    · refine sX10_findTaken hA.2.1.1 hG hS hTc (fun M1 hx hk => ⟨_, rfl, ?_⟩)
      have e : aCnt dn T Tc sq i = nI (254 - tOn Tc) := by unfold aCnt; rw [if_neg hdn2, k]; rfl
      rw [e] at hQ
      refine hQ M1 (hR0.sh hA (hx.mono (fun a _ z => Or.inr z))) ?_ ?_
      · exact ((rX_I (P := fun a _ => rG y ad a) (Or.inl rfl)).trans (hx.mono (fun a _ z => Or.inr ⟨26, by decide, z⟩))).xa (fun a k z => z)
      · rw [(hx.2 _ _ (fun z => hS.ny (j := 26) (by decide) z.symm)).1, xI_sI, if_pos ⟨rfl, rfl⟩]
    · rw [hq, j_int hA.2.2]
      exact hq0 _ (by unfold aCnt; rw [if_neg hdn2, k]; rfl)
    · have ho220 := (hW.2.1 _ hW.1.1).1
      refine ⟨ad 12, (hS.2.1 12 (by decide)).1, tO T, by rw [hr]; exact hS.ai (j := 12) (by decide) (by show tO T < 440; omega), ?_⟩
      rw [(hT.d hW hW.1.1).2.2.2.2.2.2.2.1]
      exact hq0 _ (by unfold aCnt; rw [if_neg hdn2, k]; rfl)
    · exact sX10_depth hS hT hW hr ⟨_, rfl, hq0 _ (by unfold aCnt; rw [if_neg hdn2, k]; rfl)⟩
    · refine hq0 _ ?_
      unfold aCnt
      rw [if_neg hdn2, if_neg (show ¬ i = 0 from k 0 (by omega)), if_neg (show ¬ i = 1 from k 1 (by omega)), if_neg (fun z => by
        rcases z with z | z | z | z
        · exact k 2 (by omega) z
        · exact k 3 (by omega) z
        · exact k 4 (by omega) z
        · exact k 5 (by omega) z), if_neg (show ¬ i = 6 from k 6 (by omega)), if_neg (show ¬ i = 7 from k 7 (by omega)), if_neg (show ¬ i = 8 from k 8 (by omega)), if_neg (show ¬ i = 9 from k 9 (by omega)), if_neg (show ¬ i = 10 from k 10 (by omega))]
  · have e : aCnt dn T Tc sq i = -4 := by unfold aCnt; rw [if_pos (dn1 h3 c)]
    rw [e] at hQ
    exact th_out hA h hQ
end RCN
