/-! The reference's counts. -/
theorem fm_le (f : Nat → Nat) : ∀ (l : List Nat) (s m : Nat), l.foldl (fun x n => Nat.max x (f n)) s ≤ m ↔ s ≤ m ∧ ∀ n ∈ l, f n ≤ m
  | [], s, m => by simp
  | a :: r, s, m => by
    rw [List.foldl_cons, fm_le f r]
    constructor
    · rintro ⟨h1, h2⟩
      have h3 : Nat.max s (f a) ≤ m := h1
      have h4 : s ≤ Nat.max s (f a) := Nat.le_max_left _ _
      have h5 : f a ≤ Nat.max s (f a) := Nat.le_max_right _ _
      refine ⟨by omega, fun n hn => ?_⟩
      rcases List.mem_cons.mp hn with rfl | hn
      · omega
      · exact h2 n hn
    · rintro ⟨h1, h2⟩
      exact ⟨Nat.max_le.mpr ⟨h1, h2 a List.mem_cons_self⟩, fun n hn => h2 n (List.mem_cons_of_mem _ hn)⟩
theorem fm_same (f : Nat → Nat) {l1 l2 : List Nat} (h : ∀ n, n ∈ l1 ↔ n ∈ l2) : l1.foldl (fun x n => Nat.max x (f n)) 0 = l2.foldl (fun x n => Nat.max x (f n)) 0 := by
  apply Nat.le_antisymm
  · exact (fm_le f l1 0 _).mpr ⟨Nat.zero_le _, fun n hn => ((fm_le f l2 0 _).mp (Nat.le_refl _)).2 n ((h n).mp hn)⟩
  · exact (fm_le f l2 0 _).mpr ⟨Nat.zero_le _, fun n hn => ((fm_le f l1 0 _).mp (Nat.le_refl _)).2 n ((h n).mpr hn)⟩
section RC2
variable {l : Launch} {g : xG} {M : xM} {Q : Option Value → xM → Prop} {y : Nat} {ad : Nat → Nat} {T : TT} {o n b : Nat}
theorem fresh_loopR (hS : rS M y ad) (hT : rT M ad 0 T) (hQ : Q (some (.int (nI ((List.range 220).countP (fun n => tU T n && tR T n))))) M) : ∀ (d k : Nat), 220 = k + d → xWp l g mX10_freshMany 0 0 4 [(1, va_rf (some y)), (1, .int (nI ((List.range k).countP (fun n => tU T n && tR T n)))), (1, .int (nI k))] [] (0, 0) M Q
  | 0, k, hd => by
    have : k = 220 := by omega
    subst this
    exact bX10_freshMany_4 _ _ _ ⟨fun _ => hQ, fun c => absurd (Int32.le_refl _) c⟩
  | d + 1, k, hd => by
    obtain ⟨hu, hc⟩ := hT k (by omega)
    rw [Nat.zero_add] at hu
    have key := fresh_loopR hS hT hQ d (k + 1) (by omega)
    have hno : (tU T k && tR T k) = false → xWp l g mX10_freshMany 0 0 4 [(1, va_rf (some y)), (1, .int (nI ((List.range k).countP (fun n => tU T n && tR T n)) + 0)), (1, .int (nI k + 1))] [] (0, 0) M Q := fun hf => by
      rw [cnt_succ, if_neg (by rw [hf]; decide), Nat.add_zero, ← nI_1] at key
      rw [Int32.add_zero]
      exact key
    refine bX10_freshMany_4 _ _ _ ⟨fun c => ?_, fun _ => ⟨hS.1, ad 4, (hS.2.1 4 (by decide)).1, k, hS.ai (j := 4) (by decide) (by show k < 440; omega), fun c => ?_, fun c => ⟨ad 13, (hS.2.1 13 (by decide)).1, k, hS.ai (j := 13) (by decide) (by show k < 440; omega), fun c2 => ?_, fun c2 => ?_⟩⟩⟩
    · exfalso
      have := nle c (a := 220) rfl rfl
      omega
    · have hf := z01.mp (hu.symm.trans c)
      exact hno (by rw [hf]; rfl)
    · have hf := bnf (fun z => c (hu.trans (z01.mpr z)))
      have h13 := (hc hf).2.2.2.2.2.2.2.2
      rw [Nat.zero_add] at h13
      have := z01.mp (h13.symm.trans c2)
      exact hno (by rw [this]; simp)
    · have hf := bnf (fun z => c (hu.trans (z01.mpr z)))
      have h13 := (hc hf).2.2.2.2.2.2.2.2
      rw [Nat.zero_add] at h13
      have := bnf (fun z => c2 (h13.trans (z01.mpr z)))
      rw [cnt_succ, if_pos (by rw [hf, this]; rfl), ← nI_1, ← nI_1] at key
      exact key
theorem sX10_freshMany (hS : rS M y ad) (hT : rT M ad 0 T) (hW : tWF T) (hQ : Q (some (.int (nI (tFn T)))) M) : xSp l g mX10_freshMany 0 0 [va_rf (some y)] M Q := by
  refine eX10_freshMany _ (bX10_freshMany_0 _ ?_)
  have := fresh_loopR (l := l) (g := g) (Q := Q) hS hT (by rw [← tEs_cnt hW (tR T)]; exact hQ) 220 0 rfl
  exact this
theorem keys_loopR (hS : rS M y ad) (hT : rT M ad 0 T) (hQ : Q (some (.int (nI (tKy T)))) M) : ∀ (d k : Nat), 220 = k + d → xWp l g mX10_keys 0 0 4 [(1, va_rf (some y)), (1, .int (nI ((List.range k).countP (fun n => tU T n && (tV T n).isSome)))), (1, .int (nI k))] [] (0, 0) M Q
  | 0, k, hd => by
    have : k = 220 := by omega
    subst this
    exact bX10_keys_4 _ _ _ ⟨fun _ => hQ, fun c => absurd (Int32.le_refl _) c⟩
  | d + 1, k, hd => by
    obtain ⟨hu, hc⟩ := hT k (by omega)
    rw [Nat.zero_add] at hu
    have key := keys_loopR hS hT hQ d (k + 1) (by omega)
    have hno : (tU T k && (tV T k).isSome) = false → xWp l g mX10_keys 0 0 4 [(1, va_rf (some y)), (1, .int (nI ((List.range k).countP (fun n => tU T n && (tV T n).isSome)) + 0)), (1, .int (nI k + 1))] [] (0, 0) M Q := fun hf => by
      rw [cnt_succ, if_neg (by rw [hf]; decide), Nat.add_zero, ← nI_1] at key
      rw [Int32.add_zero]
      exact key
    refine bX10_keys_4 _ _ _ ⟨fun c => ?_, fun _ => ⟨hS.1, ad 4, (hS.2.1 4 (by decide)).1, k, hS.ai (j := 4) (by decide) (by show k < 440; omega), fun c => ?_, fun c => ⟨ad 9, (hS.2.1 9 (by decide)).1, k, hS.ai (j := 9) (by decide) (by show k < 440; omega), fun c2 => ?_, fun c2 => ?_⟩⟩⟩
    · exfalso
      have := nle c (a := 220) rfl rfl
      omega
    · have hf := z01.mp (hu.symm.trans c)
      exact hno (by rw [hf]; rfl)
    · have hf := bnf (fun z => c (hu.trans (z01.mpr z)))
      have h9 := (hc hf).2.2.2.2.1
      rw [Nat.zero_add] at h9
      have := z01.mp (h9.symm.trans c2)
      exact hno (by rw [this]; simp)
    · have hf := bnf (fun z => c (hu.trans (z01.mpr z)))
      have h9 := (hc hf).2.2.2.2.1
      rw [Nat.zero_add] at h9
      have := bnf (fun z => c2 (h9.trans (z01.mpr z)))
      rw [cnt_succ, if_pos (by rw [hf, this]; rfl), ← nI_1, ← nI_1] at key
      exact key
theorem sX10_keys (hS : rS M y ad) (hT : rT M ad 0 T) (hQ : Q (some (.int (nI (tKy T)))) M) : xSp l g mX10_keys 0 0 [va_rf (some y)] M Q :=
  eX10_keys _ (bX10_keys_0 _ (keys_loopR hS hT hQ 220 0 rfl))
theorem deep_loop (hS : rS M y ad) (hT : rT M ad 0 T) (hW : tWF T) {x1 : Int32} {R : Nat} (hQ : Q (some (.int (nI R))) M) : ∀ (f a : Nat), tU T a = true → 12 ≤ f + tL T a → tD T f a = R → xWp l g mX10_deepest 0 0 9 [(1, va_rf (some y)), (1, .int x1), (1, .int (nI a)), (1, .int (pI (tC T a).head?))] [] (0, 0) M Q := by
  intro f
  induction f with
  | zero =>
    intro a ha hf hR
    have hc := tC_none12 hW ha (by omega)
    rw [hc]
    have e : a = R := hR
    rw [e]
    exact bX10_deepest_9 _ _ _ _ ⟨fun _ => hQ, fun c => absurd rfl c⟩
  | succ f ih =>
    intro a ha hf hR
    cases hc : (tC T a).head? with
    | none =>
      have e : a = R := by rw [tD, hc] at hR; exact hR
      rw [e]
      exact bX10_deepest_9 _ _ _ _ ⟨fun _ => hQ, fun c => absurd rfl c⟩
    | some c =>
      have e : tD T f c = R := by rw [tD, hc] at hR; exact hR
      have h2 := hW.2.2.2.2.1 a c ha (List.mem_of_head? hc)
      have h3 := (hW.2.2.2.1 c a h2.1 h2.2).2.2
      have hc220 := (hW.2.1 c h2.1).1
      refine bX10_deepest_9 _ _ _ _ ⟨fun c2 => ?_, fun _ => ⟨hS.1, ?_⟩⟩
      · have := (pI_m1 (o := some c) (fun q hq => by cases hq; exact hc220)).mp c2
        cases this
      · refine sX10_childFrom (n := c) (b := 0) hS hT hW h2.1 (by omega) ⟨_, rfl, ?_⟩
        rw [tK_0]
        exact ih c h2.1 (by omega) e
theorem sX10_deepest (hS : rS M y ad) (hT : rT M ad 0 T) (hW : tWF T) (hn : tU T n = true) (hQ : Q (some (.int (nI (tD T 13 n)))) M) : xSp l g mX10_deepest 0 0 [va_rf (some y), .int (nI n)] M Q := by
  refine eX10_deepest _ _ (bX10_deepest_0 _ _ ⟨hS.1, sX10_childFrom (b := 0) hS hT hW hn (by omega) ⟨_, rfl, ?_⟩⟩)
  rw [tK_0]
  exact deep_loop hS hT hW hQ 13 n hn (by omega) rfl
theorem depth_in (hS : rS M y ad) (hT : rT M ad 0 T) (hW : tWF T) (hr : xI M y 14 = nI (tO T)) {m k L : Nat} (hm : m < 1000) (hL : L < 1000) (hcont : ∀ x4, xWp l g mX10_depth 0 0 4 [(1, va_rf (some y)), (1, .int (nI (Nat.max m L))), (1, .int (nI (k + 1))), (1, .int (nI L)), (1, .int x4)] [] (0, 0) M Q) : ∀ (f a s : Nat), tU T a = true → tL T a ≤ f → s + tLv T f a = L + 1 → xWp l g mX10_depth 0 0 28 [(1, va_rf (some y)), (1, .int (nI m)), (1, .int (nI k)), (1, .int (nI s)), (1, .int (nI a))] [] (0, 0) M Q := by
  have hend : ∀ (a s : Nat), tU T a = true → a = tO T → s = L → xWp l g mX10_depth 0 0 28 [(1, va_rf (some y)), (1, .int (nI m)), (1, .int (nI k)), (1, .int (nI s)), (1, .int (nI a))] [] (0, 0) M Q := fun a s ha hro hs => by
    subst hs
    refine bX10_depth_28 _ _ _ _ _ ⟨hS.1, fun _ => ⟨fun c => ?_, fun c => ?_⟩, fun c => absurd ((root_iff hW ha hr).mpr hro) c⟩
    · have k1 := nle c rfl rfl
      have e : Nat.max m s = m := Nat.max_eq_left k1
      have := hcont (nI a)
      rw [e, ← nI_1] at this
      exact this
    · have k1 := nnle c rfl rfl
      have e : Nat.max m s = s := Nat.max_eq_right (by omega)
      have := hcont (nI a)
      rw [e, ← nI_1] at this
      exact this
  intro f
  induction f with
  | zero =>
    intro a s ha hf hs
    have hro : a = tO T := by
      apply Classical.byContradiction
      intro z
      obtain ⟨p, hp, -⟩ := hW.2.2.1 a ha z
      have := (hW.2.2.2.1 a p ha hp).2.2
      omega
    have : tLv T 0 a = 1 := rfl
    exact hend a s ha hro (by omega)
  | succ f ih =>
    intro a s ha hf hs
    by_cases hro : a = tO T
    · have : tLv T (f + 1) a = 1 := by rw [hro]; simp only [tLv, hW.1.2.1]
      exact hend a s ha hro (by omega)
    · obtain ⟨p, hp, hpc⟩ := hW.2.2.1 a ha hro
      obtain ⟨p1, p2, p3⟩ := hW.2.2.2.1 a p ha hp
      have ha220 := (hW.2.1 a ha).1
      obtain ⟨hP, -⟩ := (hT a ha220).2 ha
      rw [Nat.zero_add] at hP
      rw [hp] at hP
      have e : tLv T (f + 1) a = tLv T f p + 1 := by simp only [tLv, hp]
      refine bX10_depth_28 _ _ _ _ _ ⟨hS.1, fun c => absurd ((root_iff hW ha hr).mp c) hro, fun _ => ⟨ad 5, (hS.2.1 5 (by decide)).1, a, hS.ai (j := 5) (by decide) (by show a < 440; omega), ?_⟩⟩
      rw [hP, nI_1]
      exact ih p (s + 1) p1 (by omega) (by omega)
theorem depth_loopR (hS : rS M y ad) (hT : rT M ad 0 T) (hW : tWF T) (hr : xI M y 14 = nI (tO T)) (hQ : Q (some (.int (nI (((List.range 220).filter (tU T)).foldl (fun x n => Nat.max x (tLv T 12 n)) 0)))) M) : ∀ (d k : Nat) (w3 w4 : Value), 220 = k + d → xWp l g mX10_depth 0 0 4 [(1, va_rf (some y)), (1, .int (nI (((List.range k).filter (tU T)).foldl (fun x n => Nat.max x (tLv T 12 n)) 0))), (1, .int (nI k)), (0, w3), (0, w4)] [] (0, 0) M Q
  | 0, k, w3, w4, hd => by
    have : k = 220 := by omega
    subst this
    exact bX10_depth_4 _ _ _ _ _ ⟨fun _ => hQ, fun c => absurd (Int32.le_refl _) c⟩
  | d + 1, k, w3, w4, hd => by
    obtain ⟨hu, hc⟩ := hT k (by omega)
    rw [Nat.zero_add] at hu
    have hb : ((List.range k).filter (tU T)).foldl (fun x n => Nat.max x (tLv T 12 n)) 0 ≤ 13 := (fm_le _ _ 0 13).mpr ⟨by omega, fun n _ => tLv_le T 12 n⟩
    refine bX10_depth_4 _ _ _ _ _ ⟨fun c => ?_, fun _ => ⟨hS.1, ad 4, (hS.2.1 4 (by decide)).1, k, hS.ai (j := 4) (by decide) (by show k < 440; omega), fun c => ?_, fun c => ?_⟩⟩
    · exfalso
      have := nle c (a := 220) rfl rfl
      omega
    · have hf := bnf (fun z => c (hu.trans (z01.mpr z)))
      have hlv := tLv_le T 12 k
      refine depth_in (L := tLv T 12 k) hS hT hW hr (by omega) (by omega) (fun x4 => ?_) 12 k 1 hf (tX_le hW hf).2 (by omega)
      have key := depth_loopR hS hT hW hr hQ d (k + 1) .null .null (by omega)
      have e : ((List.range (k + 1)).filter (tU T)).foldl (fun x n => Nat.max x (tLv T 12 n)) 0 = Nat.max (((List.range k).filter (tU T)).foldl (fun x n => Nat.max x (tLv T 12 n)) 0) (tLv T 12 k) := by
        rw [List.range_succ, List.filter_append, List.filter_cons_of_pos hf, List.filter_nil, List.foldl_append]; rfl
      rw [e] at key
      exact xWp.lw key ⟨Or.inl rfl, Or.inl rfl, Or.inl rfl, Or.inr rfl, Or.inr rfl, trivial⟩
    · have hf := z01.mp (hu.symm.trans c)
      have key := depth_loopR hS hT hW hr hQ d (k + 1) w3 w4 (by omega)
      have e : ((List.range (k + 1)).filter (tU T)) = (List.range k).filter (tU T) := by
        rw [List.range_succ, List.filter_append, List.filter_cons_of_neg (by rw [hf]; decide), List.filter_nil, List.append_nil]
      rw [e, ← nI_1] at key
      exact key
theorem sX10_depth (hS : rS M y ad) (hT : rT M ad 0 T) (hW : tWF T) (hr : xI M y 14 = nI (tO T)) (hQ : Q (some (.int (nI (tDp T)))) M) : xSp l g mX10_depth 0 0 [va_rf (some y)] M Q := by
  refine eX10_depth _ (bX10_depth_0 _ ?_)
  have e : ((List.range 220).filter (tU T)).foldl (fun x n => Nat.max x (tLv T 12 n)) 0 = tDp T := fm_same _ (fun n => by
    rw [List.mem_filter, List.mem_range, tEs_mem hW]
    exact ⟨fun h => h.2, fun h => ⟨(hW.2.1 n h).1, h⟩⟩)
  have := depth_loopR (l := l) (g := g) (Q := Q) hS hT hW hr (by rw [e]; exact hQ) 220 0 .null .null rfl
  exact this
end RC2
