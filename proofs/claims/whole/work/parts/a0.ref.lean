/-! THE REFERENCE: its arrays, by the abstract tree; the methods that read them. -/
/-- the fields that hold arrays; their kinds and lengths -/
def RL9 : List Nat := [1, 4, 5, 6, 7, 8, 9, 10, 11, 12, 13, 17, 23, 25, 26]
def rk (j : Nat) : Nat := if j = 4 ∨ j = 9 ∨ j = 13 ∨ j = 26 then 11 else if j = 10 then 10 else 9
def rn (j : Nat) : Nat := if j = 1 then 64 else if j = 7 then 5280 else if j = 17 then 131072 else if j = 23 then 40 else if j = 25 then 512 else if j = 26 then 256 else 440
/-- the object y and its arrays -/
def rS (M : xM) (y : Nat) (ad : Nat → Nat) : Prop := xat M y 7 ∧ (∀ j ∈ RL9, xR M y j = some (ad j) ∧ xat M (ad j) (rk j) ∧ xN M (ad j) = rn j) ∧ ∀ i ∈ RL9, ∀ j ∈ RL9, ad i = ad j → i = j
def pI : Option Nat → Int32
  | none => -1
  | some p => nI p
/-- the cells of node n at an offset -/
def rC (M : xM) (ad : Nat → Nat) (o : Nat) (T : TT) (n : Nat) : Prop :=
  xI M (ad 5) (o + n) = pI (tP T n) ∧ xI M (ad 6) (o + n) = nI (tB T n) ∧ xI M (ad 8) (o + n) = nI (tX T n).length ∧ (∀ i, i < (tX T n).length → xI M (ad 7) (12 * (o + n) + i) = nI ((tX T n).getD i 0)) ∧ xI M (ad 9) (o + n) = (if (tV T n).isSome = true then 1 else 0) ∧ xJ M (ad 10) (o + n) = (tV T n).getD 0 ∧ xI M (ad 11) (o + n) = nI (tF T n) ∧ xI M (ad 12) (o + n) = nI (tG T n) ∧ xI M (ad 13) (o + n) = (if tR T n = true then 1 else 0)
def rT (M : xM) (ad : Nat → Nat) (o : Nat) (T : TT) : Prop := ∀ n, n < 220 → xI M (ad 4) (o + n) = (if tU T n = true then 1 else 0) ∧ (tU T n = true → rC M ad o T n)
theorem pI_eq {o : Option Nat} {n : Nat} (ho : ∀ p, o = some p → p < 220) (hn : n < 220) : pI o = nI n ↔ o = some n := by
  cases o with
  | none =>
    refine ⟨fun h => ?_, fun h => by cases h⟩
    exfalso
    have h2 : nI n = -1 := h.symm
    have h3 : ¬ nI n < 0 := fun z => nneg z rfl
    rw [h2] at h3
    exact h3 (by decide)
  | some p =>
    have hp := ho p rfl
    refine ⟨fun h => ?_, fun h => by cases h; rfl⟩
    have : p = n := nI_inj (by omega) (by omega) h
    rw [this]
theorem pI_m1 {o : Option Nat} (ho : ∀ p, o = some p → p < 220) : pI o = -1 ↔ o = none := by
  cases o with
  | none => exact ⟨fun _ => rfl, fun _ => rfl⟩
  | some p =>
    have hp := ho p rfl
    refine ⟨fun h => ?_, fun h => by cases h⟩
    exfalso
    have h1 : nI p = -1 := h
    have h3 : ¬ nI p < 0 := fun z => nneg z rfl
    rw [h1] at h3
    exact h3 (by decide)
section RD
variable {l : Launch} {g : xG} {M : xM} {Q : Option Value → xM → Prop} {y : Nat} {ad : Nat → Nat} {T : TT} {o n b : Nat}
theorem rS.ai (h : rS M y ad) {j k : Nat} (hj : j ∈ RL9) (hk : k < rn j) : xai M (ad j) (rk j) (nI k) k := by
  obtain ⟨h1, h2, h3⟩ := h.2.1 j hj
  have hl : rn j ≤ 131072 := by
    unfold rn
    repeat (first | omega | split)
  exact ⟨h2, rfl, by rw [h3]; exact hk, by rw [h3]; omega⟩
theorem tP_lt (hW : tWF T) (hn : tU T n = true) : ∀ p, tP T n = some p → p < 220 := fun p hp => (hW.2.1 p (hW.2.2.2.1 n p hn hp).1).1
theorem ch_iff (hW : tWF T) {p c : Nat} (hp : tU T p = true) : c ∈ tC T p ↔ tU T c = true ∧ tP T c = some p := by
  constructor
  · exact fun h => hW.2.2.2.2.1 p c hp h
  · exact fun h => (hW.2.2.2.1 c p h.1 h.2).2.1
theorem cnt_succ (p : Nat → Bool) (k : Nat) : (List.range (k + 1)).countP p = (List.range k).countP p + (if p k = true then 1 else 0) := by
  rw [List.range_succ, List.countP_append, List.countP_cons, List.countP_nil]; simp
/-- a loop over all ids that counts -/
theorem nodes_loop (hS : rS M y ad) (hT : rT M ad 0 T) (hQ : Q (some (.int (nI (tCnt T)))) M) : ∀ (d k : Nat), 220 = k + d → xWp l g mX10_nodes 0 0 4 [(1, va_rf (some y)), (1, .int (nI ((List.range k).countP (tU T)))), (1, .int (nI k))] [] (0, 0) M Q
  | 0, k, hd => by
    have : k = 220 := by omega
    subst this
    exact bX10_nodes_4 _ _ _ ⟨fun _ => hQ, fun c => absurd (Int32.le_refl _) c⟩
  | d + 1, k, hd => by
    obtain ⟨hu, -⟩ := hT k (by omega)
    rw [Nat.zero_add] at hu
    refine bX10_nodes_4 _ _ _ ⟨fun c => ?_, fun _ => ⟨hS.1, ad 4, (hS.2.1 4 (by decide)).1, k, hS.ai (j := 4) (by decide) (by show k < 440; omega), fun c => ?_, fun c => ?_⟩⟩
    · exfalso
      have := nle c (a := 220) rfl rfl
      omega
    · have hf := z01.mp (hu.symm.trans c)
      have := nodes_loop hS hT hQ d (k + 1) (by omega)
      rw [cnt_succ, if_neg (by rw [hf]; decide), Nat.add_zero, ← nI_1] at this
      rw [show nI ((List.range k).countP (tU T)) + 0 = nI ((List.range k).countP (tU T)) from Int32.add_zero _]
      exact this
    · have hf := bnf (fun z => c (hu.trans (z01.mpr z)))
      have := nodes_loop hS hT hQ d (k + 1) (by omega)
      rw [cnt_succ, if_pos hf, ← nI_1, ← nI_1] at this
      exact this
theorem sX10_nodes (hS : rS M y ad) (hT : rT M ad 0 T) (hQ : Q (some (.int (nI (tCnt T)))) M) : xSp l g mX10_nodes 0 0 [va_rf (some y)] M Q :=
  eX10_nodes _ (bX10_nodes_0 _ (nodes_loop hS hT hQ 220 0 rfl))
theorem children_loop (hS : rS M y ad) (hT : rT M ad 0 T) (hW : tWF T) (hn : n < 220) (hQ : Q (some (.int (nI ((List.range 220).countP (fun c => tU T c && decide (tP T c = some n)))))) M) : ∀ (d k : Nat), 220 = k + d → xWp l g mX10_children 0 0 4 [(1, va_rf (some y)), (1, .int (nI n)), (1, .int (nI ((List.range k).countP (fun c => tU T c && decide (tP T c = some n))))), (1, .int (nI k))] [] (0, 0) M Q
  | 0, k, hd => by
    have : k = 220 := by omega
    subst this
    exact bX10_children_4 _ _ _ _ ⟨fun _ => hQ, fun c => absurd (Int32.le_refl _) c⟩
  | d + 1, k, hd => by
    obtain ⟨hu, hc⟩ := hT k (by omega)
    rw [Nat.zero_add] at hu
    have key := children_loop hS hT hW hn hQ d (k + 1) (by omega)
    have hno : (tU T k && decide (tP T k = some n)) = false → xWp l g mX10_children 0 0 4 [(1, va_rf (some y)), (1, .int (nI n)), (1, .int (nI ((List.range k).countP (fun c => tU T c && decide (tP T c = some n))) + 0)), (1, .int (nI k + 1))] [] (0, 0) M Q := fun hf => by
      rw [cnt_succ, if_neg (by rw [hf]; decide), Nat.add_zero, ← nI_1] at key
      rw [Int32.add_zero]
      exact key
    refine bX10_children_4 _ _ _ _ ⟨fun c => ?_, fun _ => ⟨hS.1, ad 4, (hS.2.1 4 (by decide)).1, k, hS.ai (j := 4) (by decide) (by show k < 440; omega), fun c => ?_, fun c => ⟨ad 5, (hS.2.1 5 (by decide)).1, k, hS.ai (j := 5) (by decide) (by show k < 440; omega), fun c2 => ?_, fun c2 => ?_⟩⟩⟩
    · exfalso
      have := nle c (a := 220) rfl rfl
      omega
    · have hf := z01.mp (hu.symm.trans c)
      exact hno (by rw [hf]; rfl)
    · have hf := bnf (fun z => c (hu.trans (z01.mpr z)))
      have hp := (hc hf).1
      rw [Nat.zero_add] at hp
      rw [hp] at c2
      have : tP T k ≠ some n := fun z => c2 ((pI_eq (tP_lt hW hf) hn).mpr z)
      exact hno (by simp [this])
    · have hf := bnf (fun z => c (hu.trans (z01.mpr z)))
      have hp := (hc hf).1
      rw [Nat.zero_add] at hp
      rw [hp] at c2
      have e : tP T k = some n := (pI_eq (tP_lt hW hf) hn).mp c2
      rw [cnt_succ, if_pos (by rw [hf, e]; simp), ← nI_1, ← nI_1] at key
      exact key
theorem ch_cnt (hW : tWF T) (hn : tU T n = true) : (List.range 220).countP (fun c => tU T c && decide (tP T c = some n)) = (tC T n).length := by
  have h1 := cnt_same (fun c => tU T c && decide (tP T c = some n)) (tC T n) (List.range 220) (tC_nodup hW hn) List.nodup_range (fun x hx => by
    have hx1 : tU T x = true ∧ tP T x = some n := by simpa using hx
    exact ⟨fun _ => List.mem_range.mpr (hW.2.1 x hx1.1).1, fun _ => (ch_iff hW hn).mpr hx1⟩)
  rw [← h1]
  exact List.countP_eq_length.mpr (fun x hx => by
    have := (ch_iff hW hn).mp hx
    simpa using this)
theorem sX10_children (hS : rS M y ad) (hT : rT M ad 0 T) (hW : tWF T) (hn : tU T n = true) (hQ : Q (some (.int (nI (tC T n).length))) M) : xSp l g mX10_children 0 0 [va_rf (some y), .int (nI n)] M Q := by
  refine eX10_children _ _ (bX10_children_0 _ _ ?_)
  have := children_loop (l := l) (g := g) (Q := Q) hS hT hW (hW.2.1 n hn).1 (by rw [ch_cnt hW hn]; exact hQ) 220 0 rfl
  exact this
/-- the best child among the ids below k -/
def cfI (T : TT) (n b k : Nat) (f : Option Nat) : Prop := (∀ c, f = some c → c < k ∧ tU T c = true ∧ tP T c = some n ∧ b ≤ tB T c) ∧ ∀ c, c < k → tU T c = true → tP T c = some n → b ≤ tB T c → ∃ e, f = some e ∧ tB T e ≤ tB T c
theorem cfI_end (hW : tWF T) (hn : tU T n = true) {f : Option Nat} (h : cfI T n b 220 f) : f = tK T n b := by
  cases hK : tK T n b with
  | none =>
    cases f with
    | none => rfl
    | some c =>
      obtain ⟨h1, h2, h3, h4⟩ := h.1 c rfl
      have := tK_none hK c ((ch_iff hW hn).mpr ⟨h2, h3⟩)
      omega
  | some k =>
    obtain ⟨hk1, hk2⟩ := tK_mem hK
    obtain ⟨hku, hkp⟩ := (ch_iff hW hn).mp hk1
    obtain ⟨e, he, hle⟩ := h.2 k (hW.2.1 k hku).1 hku hkp hk2
    rw [he]
    obtain ⟨h1, h2, h3, h4⟩ := h.1 e he
    have hem : e ∈ tC T n := (ch_iff hW hn).mpr ⟨h2, h3⟩
    obtain ⟨-, l1, l2, hl, hlt⟩ := tK_some hK
    have hsort := hW.2.2.2.2.2 n hn
    rw [hl] at hem hsort
    rw [List.pairwise_append, List.pairwise_cons] at hsort
    rcases List.mem_append.mp hem with hm | hm
    · have := hlt e hm; omega
    · rcases List.mem_cons.mp hm with hm | hm
      · rw [hm]
      · have := hsort.2.1.1 e hm; omega
theorem cf_loop (hS : rS M y ad) (hT : rT M ad 0 T) (hW : tWF T) (hn : tU T n = true) (hb : b < 2 ^ 31) (hQ : Q (some (.int (pI (tK T n b)))) M) : ∀ (d k : Nat) (f : Option Nat), 220 = k + d → cfI T n b k f → xWp l g mX10_childFrom 0 0 5 [(1, va_rf (some y)), (1, .int (nI n)), (1, .int (nI b)), (1, .int (pI f)), (1, .int (nI k))] [] (0, 0) M Q
  | 0, k, f, hd, hf => by
    have : k = 220 := by omega
    subst this
    rw [cfI_end hW hn hf]
    exact bX10_childFrom_5 _ _ _ _ _ ⟨fun _ => hQ, fun c => absurd (Int32.le_refl _) c⟩
  | d + 1, k, f, hd, hf => by
    obtain ⟨hu, hc⟩ := hT k (by omega)
    rw [Nat.zero_add] at hu
    have hn220 := (hW.2.1 n hn).1
    have hf220 : ∀ p, f = some p → p < 220 := fun p hp => by have := (hf.1 p hp).1; omega
    -- this id is none
    have hno : ¬ (tU T k = true ∧ tP T k = some n ∧ b ≤ tB T k) → xWp l g mX10_childFrom 0 0 5 [(1, va_rf (some y)), (1, .int (nI n)), (1, .int (nI b)), (1, .int (pI f)), (1, .int (nI k + 1))] [] (0, 0) M Q := fun hz => by
      rw [nI_1]
      refine cf_loop hS hT hW hn hb hQ d (k + 1) f (by omega) ⟨fun c hc2 => ?_, fun c c1 c2 c3 c4 => ?_⟩
      · obtain ⟨h1, h2⟩ := hf.1 c hc2
        exact ⟨by omega, h2⟩
      · by_cases hck : c = k
        · rw [hck] at c2 c3 c4; exact absurd ⟨c2, c3, c4⟩ hz
        · exact hf.2 c (by omega) c2 c3 c4
    refine bX10_childFrom_5 _ _ _ _ _ ⟨fun c => ?_, fun _ => ⟨hS.1, ad 4, (hS.2.1 4 (by decide)).1, k, hS.ai (j := 4) (by decide) (by show k < 440; omega), fun c => ?_, fun c => ⟨ad 5, (hS.2.1 5 (by decide)).1, k, hS.ai (j := 5) (by decide) (by show k < 440; omega), fun c2 => ?_, fun c2 => ⟨ad 6, (hS.2.1 6 (by decide)).1, k, hS.ai (j := 6) (by decide) (by show k < 440; omega), fun c3 => ?_, fun c3 => ⟨fun c4 => ?_, fun c4 => ?_⟩⟩⟩⟩⟩
    · exfalso
      have := nle c (a := 220) rfl rfl
      omega
    · have hu0 := z01.mp (hu.symm.trans c)
      exact hno (fun z => by rw [hu0] at z; cases z.1)
    all_goals
      have hu1 := bnf (fun z => c (hu.trans (z01.mpr z)))
      obtain ⟨hp, hB, -⟩ := hc hu1
      rw [Nat.zero_add] at hp hB
      rw [hp] at c2
      have hB256 := (hW.2.1 k hu1).2.1
    · exact hno (fun z => c2 ((pI_eq (tP_lt hW hu1) hn220).mpr z.2.1))
    all_goals
      have e2 : tP T k = some n := (pI_eq (tP_lt hW hu1) hn220).mp c2
      rw [hB] at c3
    · have := nlt c3 rfl rfl
      exact hno (fun z => by omega)
    all_goals have kb := nnlt c3 rfl rfl
    · have ef : f = none := (pI_m1 hf220).mp c4
      rw [nI_1]
      refine cf_loop hS hT hW hn hb hQ d (k + 1) (some k) (by omega) ⟨fun c hc2 => ?_, fun c c1 c2' c3' c4' => ?_⟩
      · cases hc2
        exact ⟨by omega, hu1, e2, kb⟩
      · by_cases hck : c = k
        · exact ⟨k, rfl, by rw [hck]; omega⟩
        · obtain ⟨e, he, -⟩ := hf.2 c (by omega) c2' c3' c4'
          rw [ef] at he; cases he
    · obtain ⟨e, he⟩ : ∃ e, f = some e := by
        cases hfe : f with
        | none => rw [hfe] at c4; exact absurd rfl c4
        | some e => exact ⟨e, rfl⟩
      obtain ⟨h1, h2, h3, h4⟩ := hf.1 e he
      have he220 := (hW.2.1 e h2).1
      have heB := (hW.2.1 e h2).2.1
      obtain ⟨-, hBe, -⟩ := (hT e he220).2 h2
      rw [Nat.zero_add] at hBe
      rw [he]
      refine ⟨k, hS.ai (j := 6) (by decide) (by show k < 440; omega), e, hS.ai (j := 6) (by decide) (by show e < 440; omega), fun c5 => ?_, fun c5 => ?_⟩
      · rw [hB, hBe] at c5
        have k5 := nle c5 rfl rfl
        rw [nI_1, ← he]
        refine cf_loop hS hT hW hn hb hQ d (k + 1) f (by omega) ⟨fun c hc2 => ?_, fun c c1 c2' c3' c4' => ?_⟩
        · obtain ⟨h1', h2'⟩ := hf.1 c hc2
          exact ⟨by omega, h2'⟩
        · by_cases hck : c = k
          · exact ⟨e, he, by rw [hck]; omega⟩
          · exact hf.2 c (by omega) c2' c3' c4'
      · rw [hB, hBe] at c5
        have k5 := nnle c5 rfl rfl
        rw [nI_1]
        refine cf_loop hS hT hW hn hb hQ d (k + 1) (some k) (by omega) ⟨fun c hc2 => ?_, fun c c1 c2' c3' c4' => ?_⟩
        · cases hc2
          exact ⟨by omega, hu1, e2, kb⟩
        · by_cases hck : c = k
          · exact ⟨k, rfl, by rw [hck]; omega⟩
          · obtain ⟨e', he', hle⟩ := hf.2 c (by omega) c2' c3' c4'
            rw [he] at he'
            cases he'
            exact ⟨k, rfl, by omega⟩
theorem sX10_childFrom (hS : rS M y ad) (hT : rT M ad 0 T) (hW : tWF T) (hn : tU T n = true) (hb : b < 2 ^ 31) (hQ : Q (some (.int (pI (tK T n b)))) M) : xSp l g mX10_childFrom 0 0 [va_rf (some y), .int (nI n), .int (nI b)] M Q :=
  eX10_childFrom _ _ _ (bX10_childFrom_0 _ _ _ (cf_loop hS hT hW hn hb hQ 220 0 none rfl ⟨fun c hc => (by cases hc), fun c hc => by omega⟩))
end RD
