/-! THE CLASS'S CELLS under the steps of the abstract tree. -/
def cB (M : xM) (φ ψ : Nat → Nat) (T : TT) (n : Nat) : Prop :=
  (xat M (φ n) 1 ∧ xR M (φ n) 0 = some (ψ (φ n)) ∧ xat M (ψ (φ n)) 9 ∧ xN M (ψ (φ n)) = 12) ∧
  (xI M (φ n) 1 = nI (tX T n).length ∧ ∀ i, i < (tX T n).length → xI M (ψ (φ n)) i = nI ((tX T n).getD i 0)) ∧
  (xI M (φ n) 2 = nI (tF T n) ∧ xI M (φ n) 3 = (if (tV T n).isSome = true then 1 else 0) ∧ xJ M (φ n) 4 = (tV T n).getD 0 ∧ xI M (φ n) 5 = nI (tC T n).length ∧ xI M (φ n) 6 = nI (tB T n) ∧ xI M (φ n) 7 = nI (tG T n) ∧ xI M (φ n) 8 = (if tR T n = true then 1 else 0)) ∧
  xR M (φ n) 9 = (tP T n).map φ
/-- the same as cNs, the children as chains -/
def cNc (M : xM) (φ ψ : Nat → Nat) (T : TT) : Prop := (∀ n, tU T n = true → cB M φ ψ T n ∧ chS M (xR M (φ n) 10) ((tC T n).map φ)) ∧ xR M (φ (tO T)) 11 = none
theorem head_map (f : Nat → Nat) (l : List Nat) : (l.map f).head? = l.head?.map f := by cases l <;> rfl
theorem cNc.s {M : xM} {φ ψ : Nat → Nat} {T : TT} (hW : tWF T) (h : cNc M φ ψ T) : cNs M φ ψ T := by
  intro n hn
  obtain ⟨⟨b1, b2, b3, b4⟩, b5⟩ := h.1 n hn
  refine ⟨b1, b2, b3, b4, by rw [chS_head b5, head_map], ?_⟩
  cases hp : tP T n with
  | none =>
    have hr : n = tO T := by
      apply Classical.byContradiction
      intro hne
      obtain ⟨q, hq2, -⟩ := hW.2.2.1 n hn hne
      rw [hp] at hq2; cases hq2
    rw [tS_root hp, hr]; exact h.2
  | some p =>
    obtain ⟨k1, k2, k3⟩ := hW.2.2.2.1 n p hn hp
    obtain ⟨l1, l2, hl⟩ := List.append_of_mem k2
    rw [tS_child hW k1 hl]
    have hch := (h.1 p k1).2
    rw [hl, List.map_append, List.map_cons] at hch
    rw [← head_map]
    exact chS_head (chS_app hch).2
theorem cNs.c {M : xM} {φ ψ : Nat → Nat} {T : TT} (hW : tWF T) (h : cNs M φ ψ T) : cNc M φ ψ T := by
  refine ⟨fun n hn => ?_, ?_⟩
  · obtain ⟨b1, b2, b3, b4, b5, b6⟩ := h n hn
    refine ⟨⟨b1, b2, b3, b4⟩, ?_⟩
    have key : ∀ (l2 l1 : List Nat), tC T n = l1 ++ l2 → chS M (l2.head?.map φ) (l2.map φ) := by
      intro l2
      induction l2 with
      | nil => intro l1 _; rfl
      | cons x r ih =>
        intro l1 hl
        refine ⟨rfl, ?_⟩
        have hx := hW.2.2.2.2.1 n x hn (by rw [hl]; simp)
        have := (h x hx.1).2.2.2.2.2
        rw [tS_child hW hn hl] at this
        show chS M (xR M (φ x) 11) (r.map φ)
        rw [this]
        exact ih (l1 ++ [x]) (by rw [hl]; simp)
    have := key (tC T n) [] rfl
    rw [b5]; exact this
  · have := (h (tO T) hW.1.1).2.2.2.2.2
    rw [tS_root hW.1.2.1] at this
    exact this
/-- a chain with another end -/
theorem chS_relink {M M1 : xM} {t t1 : List Nat} {r1 : Option Nat} (ht : chS M1 r1 t1) : ∀ (s1 : List Nat) (r : Option Nat), chS M r (s1 ++ t) → s1.Nodup → (∀ x ∈ s1, xR M1 x 11 = if s1.getLast? = some x then r1 else xR M x 11) → chS M1 (if s1.getLast? = none then r1 else r) (s1 ++ t1)
  | [], r, _, _, _ => ht
  | [a], r, h, _, hx => by
    have h1 : xR M1 a 11 = r1 := by rw [hx a List.mem_cons_self]; simp
    refine ⟨h.1, ?_⟩
    rw [h1]; exact ht
  | a :: b :: s1, r, h, hd, hx => by
    obtain ⟨z, hz⟩ : ∃ z, (b :: s1).getLast? = some z := ⟨_, List.getLast?_eq_some_getLast (by simp)⟩
    have hlast : (a :: b :: s1).getLast? = some z := by rw [List.getLast?_cons_cons, hz]
    have haz : a ≠ z := fun q => (List.nodup_cons.mp hd).1 (q ▸ List.mem_of_getLast? hz)
    have ha : xR M1 a 11 = xR M a 11 := by
      rw [hx a List.mem_cons_self, hlast, if_neg (fun w => haz (Option.some.inj w).symm)]
    have ih := chS_relink ht (b :: s1) (xR M a 11) h.2 (List.nodup_cons.mp hd).2 (fun x hxm => by
      rw [hx x (List.mem_cons_of_mem _ hxm), hlast, hz])
    rw [hz, if_neg (by simp)] at ih
    rw [hlast, if_neg (by simp)]
    exact ⟨h.1, by rw [ha]; exact ih⟩
section CS
variable {φ ψ : Nat → Nat} {T : TT} {M : xM}
/-- different nodes lie at different addresses -/
def cInj (φ : Nat → Nat) (T : TT) : Prop := ∀ a b, tU T a = true → tU T b = true → φ a = φ b → a = b
theorem tA_used (hW : tWF T) : ∀ (f n : Nat), tU T n = true → ∀ x ∈ tA T f n, tU T x = true
  | 0, n, hn, x, hx => by
    simp only [tA, List.mem_singleton] at hx
    rw [hx]; exact hn
  | f + 1, n, hn, x, hx => by
    simp only [tA, List.mem_cons] at hx
    rcases hx with rfl | hx
    · exact hn
    · cases hp : tP T n with
      | none => rw [hp] at hx; cases hx
      | some p => rw [hp] at hx; exact tA_used hW f p (hW.2.2.2.1 n p hn hp).1 x hx
theorem map_mem_inj (hi : cInj φ T) {l : List Nat} (hl : ∀ x ∈ l, tU T x = true) {n : Nat} (hn : tU T n = true) : φ n ∈ l.map φ ↔ n ∈ l := by
  constructor
  · intro h
    obtain ⟨x, hx, e⟩ := List.mem_map.mp h
    rw [← hi x n (hl x hx) hn e]; exact hx
  · exact fun h => List.mem_map.mpr ⟨n, h, rfl⟩
theorem fr_c (hW : tWF T) (hi : cInj φ T) (h : cNc M φ ψ T) {n : Nat} (hn : tU T n = true) : cNc (frs M ((tA T 12 n).map φ)) φ ψ (tFr T n) := by
  obtain ⟨e1, e2, e3, e4, e5⟩ := frs_same ((tA T 12 n).map φ) M
  refine ⟨fun x hx => ?_, ?_⟩
  · obtain ⟨⟨⟨b1, b1b, b1c, b1d⟩, ⟨b2, b2b⟩, ⟨i2, i3, i4, i5, i6, i7, i8⟩, b4⟩, b5⟩ := h.1 x hx
    have hmem := map_mem_inj hi (tA_used hW 12 n hn) (n := x) hx
    have hF : ∀ j, j ≠ 7 → j ≠ 8 → xI (frs M ((tA T 12 n).map φ)) (φ x) j = xI M (φ x) j := fun j h7 h8 => by
      rw [frs_I, if_neg (fun q => h7 q.2), if_neg (fun q => h8 q.2)]
    have hps : ∀ j, xI (frs M ((tA T 12 n).map φ)) (ψ (φ x)) j = xI M (ψ (φ x)) j := fun j => by
      have hno : ψ (φ x) ∉ (tA T 12 n).map φ := fun q => by
        obtain ⟨y, hy, e⟩ := List.mem_map.mp q
        have hk := (h.1 y (tA_used hW 12 n hn y hy)).1.1.1.2
        rw [e, b1c.2] at hk; omega
      rw [frs_I, if_neg (fun q => hno q.1), if_neg (fun q => hno q.1)]
    refine ⟨⟨⟨?_, by rw [e5]; exact b1b, ?_, by rw [e3]; exact b1d⟩, ⟨?_, fun i hi2 => ?_⟩, ⟨?_, ?_, by rw [e4]; exact i4, ?_, ?_, ?_, ?_⟩, by rw [e5]; exact b4⟩, ?_⟩
    · exact ⟨by rw [e1]; exact b1.1, by rw [e2]; exact b1.2⟩
    · exact ⟨by rw [e1]; exact b1c.1, by rw [e2]; exact b1c.2⟩
    · rw [hF 1 (by decide) (by decide)]; exact b2
    · rw [hps]; exact b2b i hi2
    · rw [hF 2 (by decide) (by decide)]; exact i2
    · rw [hF 3 (by decide) (by decide)]; exact i3
    · rw [hF 5 (by decide) (by decide)]; exact i5
    · rw [hF 6 (by decide) (by decide)]; exact i6
    · show _ = nI (if x ∈ tA T 12 n then 0 else tG T x)
      rw [frs_I]
      by_cases hm : x ∈ tA T 12 n
      · rw [if_pos ⟨hmem.mpr hm, rfl⟩, if_pos hm]; rfl
      · rw [if_neg (fun q => hm (hmem.mp q.1)), if_neg (fun q => hm (hmem.mp q.1)), if_neg hm]; exact i7
    · show _ = (if (if x ∈ tA T 12 n then true else tR T x) = true then (1 : Int32) else 0)
      rw [frs_I]
      by_cases hm : x ∈ tA T 12 n
      · rw [if_neg (fun q => absurd q.2 (by decide)), if_pos ⟨hmem.mpr hm, rfl⟩, if_pos hm]; rfl
      · rw [if_neg (fun q => hm (hmem.mp q.1)), if_neg (fun q => hm (hmem.mp q.1)), if_neg hm]; exact i8
    · rw [e5]
      exact chS_fr b5 (fun a _ => by rw [e5])
  · rw [e5]; exact h.2
theorem sv_c (hi : cInj φ T) (h : cNc M φ ψ T) {n : Nat} (hn : tU T n = true) (v : Option Int64) : cNc (xsJ (xsI M (φ n) 3 (if v.isSome = true then 1 else 0)) (φ n) 4 (v.getD 0)) φ ψ (tSv T n v) := by
  refine ⟨fun x hx => ?_, h.2⟩
  obtain ⟨⟨⟨b1, b1b, b1c, b1d⟩, ⟨b2, b2b⟩, ⟨i2, i3, i4, i5, i6, i7, i8⟩, b4⟩, b5⟩ := h.1 x hx
  have hk := (h.1 n hn).1.1.1.2
  have hps : ψ (φ x) ≠ φ n := ne_of_kind b1c.2 hk (by decide)
  have hF : ∀ j, j ≠ 3 → xI (xsJ (xsI M (φ n) 3 (if v.isSome = true then 1 else 0)) (φ n) 4 (v.getD 0)) (φ x) j = xI M (φ x) j := fun j h3 => by
    rw [xI_sJ, xI_sI, if_neg (fun q => h3 q.2)]
  refine ⟨⟨⟨b1, b1b, b1c, b1d⟩, ⟨by rw [hF 1 (by decide)]; exact b2, fun i hi2 => by rw [xI_sJ, xI_sI, if_neg (fun q => hps q.1)]; exact b2b i hi2⟩, ⟨by rw [hF 2 (by decide)]; exact i2, ?_, ?_, by rw [hF 5 (by decide)]; exact i5, by rw [hF 6 (by decide)]; exact i6, by rw [hF 7 (by decide)]; exact i7, by rw [hF 8 (by decide)]; exact i8⟩, b4⟩, b5⟩
  · show xI (xsJ (xsI M (φ n) 3 _) (φ n) 4 _) (φ x) 3 = if (va_up (tV T) n v x).isSome = true then 1 else 0
    rw [xI_sJ, xI_sI]
    by_cases hxn : x = n
    · subst hxn; rw [if_pos ⟨rfl, rfl⟩, va_up_self]
    · rw [if_neg (fun q => hxn (hi x n hx hn q.1)), va_up_ne _ _ hxn]; exact i3
  · show xJ (xsJ (xsI M (φ n) 3 _) (φ n) 4 _) (φ x) 4 = (va_up (tV T) n v x).getD 0
    rw [xJ_sJ, xJ_sI]
    by_cases hxn : x = n
    · subst hxn; rw [if_pos ⟨rfl, rfl⟩, va_up_self]
    · rw [if_neg (fun q => hxn (hi x n hx hn q.1)), va_up_ne _ _ hxn]; exact i4
/-- a node's cell that is in no tree yet -/
def cNew (M : xM) (ψ : Nat → Nat) (q b : Nat) (p : List Nat) (v : Option Int64) : Prop :=
  (xat M q 1 ∧ xR M q 0 = some (ψ q) ∧ xat M (ψ q) 9 ∧ xN M (ψ q) = 12) ∧ (xI M q 1 = nI p.length ∧ ∀ i, i < p.length → xI M (ψ q) i = nI (p.getD i 0)) ∧
  (xI M q 2 = 1 ∧ xI M q 3 = (if v.isSome = true then 1 else 0) ∧ xJ M q 4 = v.getD 0 ∧ xI M q 5 = 0 ∧ xI M q 6 = nI b ∧ xI M q 7 = 0 ∧ xI M q 8 = 0) ∧ xR M q 10 = none
theorem add_c (hW : tWF T) (hi : cInj φ T) (h : cNc M φ ψ T) {s c b q : Nat} {p : List Nat} {v : Int64} (hs : tU T s = true) (hc : tU T c = false) (hq : ∀ n, tU T n = true → φ n ≠ q) (hn : cNew M ψ q b p (some v)) {M1 : xM}
    (hg : gainP M M1 (φ s) q (((tC T s).takeWhile (fun x => decide (tB T x < b))).map φ) (((tC T s).dropWhile (fun x => decide (tB T x < b))).map φ) (tC T s).length (tF T s)) : cNc M1 (va_up φ c q) ψ (tAdd T s c b p v) := by
  obtain ⟨⟨g1, g2, g3, g4⟩, gI, gR⟩ := hg
  have hsc : s ≠ c := fun z => by rw [z, hc] at hs; cases hs
  have huc : ∀ x, tU T x = true → x ≠ c := fun x hx z => by rw [z, hc] at hx; cases hx
  have hφ : ∀ x, tU T x = true → va_up φ c q x = φ x := fun x hx => va_up_ne _ _ (huc x hx)
  have hmapφ : ∀ (l : List Nat), (∀ x ∈ l, tU T x = true) → l.map (va_up φ c q) = l.map φ := fun l hl => List.map_congr_left (fun x hx => hφ x (hl x hx))
  have hCu : ∀ n, tU T n = true → ∀ x ∈ tC T n, tU T x = true := fun n hn2 x hx => (hW.2.2.2.2.1 n x hn2 hx).1
  have hks := (h.1 s hs).1.1.1.2
  have hsq : φ s ≠ q := hq s hs
  have hsplit : (tC T s).takeWhile (fun x => decide (tB T x < b)) ++ (tC T s).dropWhile (fun x => decide (tB T x < b)) = tC T s := List.takeWhile_append_dropWhile
  have hnd := tC_nodup hW hs
  have hq11 : ∀ a, a ≠ q → ((tC T s).takeWhile (fun x => decide (tB T x < b))).map φ ≠ [] ∨ True := fun _ _ => Or.inr trivial
  -- the new chain of s
  have hchain : chS M1 (xR M1 (φ s) 10) (((tC T s).takeWhile (fun x => decide (tB T x < b))).map φ ++ q :: ((tC T s).dropWhile (fun x => decide (tB T x < b))).map φ) := by
    have hold := (h.1 s hs).2
    rw [← hsplit, List.map_append] at hold
    have htw : ∀ x ∈ (tC T s).takeWhile (fun x => decide (tB T x < b)), x ∈ tC T s := fun x hx => (List.takeWhile_sublist _).subset hx
    have hdw : ∀ x ∈ (tC T s).dropWhile (fun x => decide (tB T x < b)), x ∈ tC T s := fun x hx => (List.dropWhile_sublist _).subset hx
    have hnd1 : (((tC T s).takeWhile (fun x => decide (tB T x < b))).map φ).Nodup := by
      refine List.pairwise_map.mpr ((hnd.sublist (List.takeWhile_sublist _)).imp_of_mem (fun {x y} hx hy hne e => hne (hi x y (hCu s hs x (htw x hx)) (hCu s hs y (htw y hy)) e)))
    have hdisj : ∀ y ∈ (tC T s).dropWhile (fun x => decide (tB T x < b)), ((tC T s).takeWhile (fun x => decide (tB T x < b))).map φ |>.getLast? ≠ some (φ y) := fun y hy e => by
      obtain ⟨z, hz, e2⟩ := List.mem_map.mp (List.mem_of_getLast? e)
      have e3 := hi z y (hCu s hs z (htw z hz)) (hCu s hs y (hdw y hy)) e2
      rw [← hsplit] at hnd
      exact (List.nodup_append.mp hnd).2.2 z hz y hy e3
    have hr1 : xR M1 q 11 = (((tC T s).dropWhile (fun x => decide (tB T x < b))).map φ).head? := by
      rw [gR, if_neg (fun w => hsq w.2.1.symm), if_neg (fun w => ?_), if_pos ⟨rfl, rfl⟩]
      obtain ⟨z, hz, e2⟩ := List.mem_map.mp (List.mem_of_getLast? w.1)
      exact hq z (hCu s hs z (htw z hz)) e2
    have htail : chS M1 (some q) (q :: ((tC T s).dropWhile (fun x => decide (tB T x < b))).map φ) := by
      refine ⟨rfl, ?_⟩
      rw [hr1]
      have h2 := chS_app hold
      rw [← chS_head h2]
      refine chS_fr h2 (fun a ha => ?_)
      obtain ⟨y, hy, rfl⟩ := List.mem_map.mp ha
      have hyq := hq y (hCu s hs y (hdw y hy))
      rw [gR, if_neg (fun w => absurd w.2.2 (by decide)), if_neg (fun w => hdisj y hy w.1), if_neg (fun w => hyq w.1), if_neg (fun w => hyq w.1)]
    have := chS_relink htail _ _ hold hnd1 (fun x hx => ?_)
    · have he : xR M1 (φ s) 10 = if (((tC T s).takeWhile (fun x => decide (tB T x < b))).map φ).getLast? = none then some q else xR M (φ s) 10 := by
        rw [gR]
        by_cases hz : (((tC T s).takeWhile (fun x => decide (tB T x < b))).map φ).getLast? = none
        · rw [if_pos ⟨hz, rfl, rfl⟩, if_pos hz]
        · rw [if_neg (fun w => hz w.1), if_neg (fun w => absurd w.2 (by decide)), if_neg (fun w => hsq w.1), if_neg (fun w => hsq w.1), if_neg hz]
      rw [he]; exact this
    · obtain ⟨y, hy, rfl⟩ := List.mem_map.mp hx
      have hyq := hq y (hCu s hs y (htw y hy))
      rw [gR, if_neg (fun w => absurd w.2.2 (by decide))]
      by_cases hz : (((tC T s).takeWhile (fun x => decide (tB T x < b))).map φ).getLast? = some (φ y)
      · rw [if_pos ⟨hz, rfl⟩, if_pos hz]
      · rw [if_neg (fun w => hz w.1), if_neg (fun w => hyq w.1), if_neg (fun w => hyq w.1), if_neg hz]
  refine ⟨fun x hx => ?_, ?_⟩
  · by_cases hxc : x = c
    · subst hxc
      obtain ⟨⟨n1, n2, n3, n4⟩, ⟨n5, n6⟩, ⟨k2, k3, k4, k5, k6, k7, k8⟩, n10⟩ := hn
      have hqs : q ≠ φ s := Ne.symm hsq
      have hψs : ψ q ≠ φ s := ne_of_kind n3.2 hks (by decide)
      have hqI : ∀ j, xI M1 q j = xI M q j := fun j => by rw [gI, if_neg (fun w => hqs w.1), if_neg (fun w => hqs w.1)]
      have e0 : va_up φ x q x = q := va_up_self _ _ _
      have eX : tX (tAdd T s x b p v) x = p := va_up_self _ _ _
      have eV : tV (tAdd T s x b p v) x = some v := va_up_self _ _ _
      have eF : tF (tAdd T s x b p v) x = 1 := by show va_up (va_up (tF T) x 1) s _ x = 1; rw [va_up_ne _ _ (Ne.symm hsc), va_up_self]
      have eC : tC (tAdd T s x b p v) x = [] := by show va_up (va_up (tC T) x []) s _ x = []; rw [va_up_ne _ _ (Ne.symm hsc), va_up_self]
      have eB : tB (tAdd T s x b p v) x = b := va_up_self _ _ _
      have eG : tG (tAdd T s x b p v) x = 0 := va_up_self _ _ _
      have eR : tR (tAdd T s x b p v) x = false := va_up_self _ _ _
      have eP : tP (tAdd T s x b p v) x = some s := va_up_self _ _ _
      have eR9 : xR M1 q 9 = some (φ s) := by
        rw [gR, if_neg (fun w => hqs w.2.1), if_neg (fun w => absurd w.2 (by decide)), if_neg (fun w => absurd w.2 (by decide)), if_pos ⟨rfl, rfl⟩]
      have eR10 : xR M1 q 10 = none := by
        rw [gR, if_neg (fun w => hqs w.2.1), if_neg (fun w => absurd w.2 (by decide)), if_neg (fun w => absurd w.2 (by decide)), if_neg (fun w => absurd w.2 (by decide))]; exact n10
      have eR0 : xR M1 q 0 = some (ψ q) := by
        rw [gR, if_neg (fun w => hqs w.2.1), if_neg (fun w => absurd w.2 (by decide)), if_neg (fun w => absurd w.2 (by decide)), if_neg (fun w => absurd w.2 (by decide))]; exact n2
      refine ⟨?_, ?_⟩
      · unfold cB
        rw [e0, eX, eV, eF, eC, eB, eG, eR, eP]
        refine ⟨⟨⟨by rw [g1]; exact n1.1, by rw [g2]; exact n1.2⟩, eR0, ⟨by rw [g1]; exact n3.1, by rw [g2]; exact n3.2⟩, by rw [g3]; exact n4⟩, ⟨by rw [hqI]; exact n5, fun i hi2 => by rw [gI, if_neg (fun w => hψs w.1), if_neg (fun w => hψs w.1)]; exact n6 i hi2⟩, ⟨by rw [hqI]; exact k2, by rw [hqI]; exact k3, by rw [g4]; exact k4, by rw [hqI]; exact k5, by rw [hqI]; exact k6, by rw [hqI]; exact k7, by rw [hqI]; exact k8⟩, ?_⟩
        rw [eR9, Option.map_some, hφ s hs]
      · rw [e0, eC, eR10]; rfl
    · have hxu : tU T x = true := by
        have : tU (tAdd T s c b p v) x = if x = c then true else tU T x := rfl
        rw [this, if_neg hxc] at hx; exact hx
      obtain ⟨⟨⟨b1, b1b, b1c, b1d⟩, ⟨b2, b2b⟩, ⟨i2, i3, i4, i5, i6, i7, i8⟩, b4⟩, b5⟩ := h.1 x hxu
      have hxq := hq x hxu
      have hps : ψ (φ x) ≠ φ s := ne_of_kind b1c.2 hks (by decide)
      have e0 := hφ x hxu
      have hF : ∀ j, j ≠ 2 → j ≠ 5 → xI M1 (φ x) j = xI M (φ x) j := fun j h2 h5 => by rw [gI, if_neg (fun w => h2 w.2), if_neg (fun w => h5 w.2)]
      have eX : tX (tAdd T s c b p v) x = tX T x := va_up_ne _ _ hxc
      have eV : tV (tAdd T s c b p v) x = tV T x := va_up_ne _ _ hxc
      have eB : tB (tAdd T s c b p v) x = tB T x := va_up_ne _ _ hxc
      have eG : tG (tAdd T s c b p v) x = tG T x := va_up_ne _ _ hxc
      have eR : tR (tAdd T s c b p v) x = tR T x := va_up_ne _ _ hxc
      have eP : tP (tAdd T s c b p v) x = tP T x := va_up_ne _ _ hxc
      have eC : tC (tAdd T s c b p v) x = if x = s then lIns (tB T) b c (tC T s) else tC T x := by
        show (if x = s then _ else if x = c then _ else _) = _
        rw [if_neg hxc]
      have eF : tF (tAdd T s c b p v) x = if x = s then fGrow (tF T s) ((tC T s).length + 1) else tF T x := by
        show (if x = s then _ else if x = c then _ else _) = _
        rw [if_neg hxc]
      have eR9 : ∀ j, j ≠ 10 → j ≠ 11 → xR M1 (φ x) j = xR M (φ x) j := fun j h10 h11 => by
        rw [gR, if_neg (fun w => h10 w.2.2), if_neg (fun w => h11 w.2), if_neg (fun w => hxq w.1), if_neg (fun w => hxq w.1)]
      refine ⟨?_, ?_⟩
      · unfold cB
        rw [e0, eX, eV, eB, eG, eR, eP]
        refine ⟨⟨⟨by rw [g1]; exact b1.1, by rw [g2]; exact b1.2⟩, by rw [eR9 0 (by decide) (by decide)]; exact b1b, ⟨by rw [g1]; exact b1c.1, by rw [g2]; exact b1c.2⟩, by rw [g3]; exact b1d⟩, ⟨by rw [hF 1 (by decide) (by decide)]; exact b2, fun i hi2 => by rw [gI, if_neg (fun w => hps w.1), if_neg (fun w => hps w.1)]; exact b2b i hi2⟩, ⟨?_, by rw [hF 3 (by decide) (by decide)]; exact i3, by rw [g4]; exact i4, ?_, by rw [hF 6 (by decide) (by decide)]; exact i6, by rw [hF 7 (by decide) (by decide)]; exact i7, by rw [hF 8 (by decide) (by decide)]; exact i8⟩, ?_⟩
        · rw [gI, eF]
          by_cases hxs : x = s
          · subst hxs; rw [if_pos ⟨rfl, rfl⟩, if_pos rfl]
          · rw [if_neg (fun w => hxs (hi x s hxu hs w.1)), if_neg (fun w => absurd w.2 (by decide)), if_neg hxs]; exact i2
        · rw [gI, eC, if_neg (fun w => absurd w.2 (by decide))]
          by_cases hxs : x = s
          · subst hxs; rw [if_pos ⟨rfl, rfl⟩, if_pos rfl, lIns_len]
          · rw [if_neg (fun w => hxs (hi x s hxu hs w.1)), if_neg hxs]; exact i5
        · rw [eR9 9 (by decide) (by decide), b4]
          cases hp : tP T x with
          | none => rfl
          | some y => rw [Option.map_some, Option.map_some, hφ y (hW.2.2.2.1 x y hxu hp).1]
      · rw [e0, eC]
        by_cases hxs : x = s
        · subst hxs
          rw [if_pos rfl]
          have : (lIns (tB T) b c (tC T x)).map (va_up φ c q) = ((tC T x).takeWhile (fun x => decide (tB T x < b))).map φ ++ q :: ((tC T x).dropWhile (fun x => decide (tB T x < b))).map φ := by
            unfold lIns
            rw [List.map_append, List.map_cons, va_up_self, hmapφ _ (fun y hy => hCu x hs y ((List.takeWhile_sublist _).subset hy)), hmapφ _ (fun y hy => hCu x hs y ((List.dropWhile_sublist _).subset hy))]
          rw [this]; exact hchain
        · rw [if_neg hxs, hmapφ _ (hCu x hxu)]
          have e10 : xR M1 (φ x) 10 = xR M (φ x) 10 := by
            rw [gR, if_neg (fun w => hxs (hi x s hxu hs w.2.1)), if_neg (fun w => absurd w.2 (by decide)), if_neg (fun w => hxq w.1), if_neg (fun w => hxq w.1)]
          rw [e10]
          refine chS_fr b5 (fun a ha => ?_)
          obtain ⟨y, hy, rfl⟩ := List.mem_map.mp ha
          have hyu := hCu x hxu y hy
          rw [gR, if_neg (fun w => absurd w.2.2 (by decide)), if_neg (fun w => ?_), if_neg (fun w => hq y hyu w.1), if_neg (fun w => hq y hyu w.1)]
          obtain ⟨z, hz, e2⟩ := List.mem_map.mp (List.mem_of_getLast? w.1)
          have hzs := (List.takeWhile_sublist _).subset hz
          have e3 := hi z y (hCu s hs z hzs) hyu e2
          have k1 := (hW.2.2.2.2.1 s z hs hzs).2
          have k2 := (hW.2.2.2.2.1 x y hxu hy).2
          rw [e3, k2] at k1
          exact hxs (Option.some.inj k1)
  · show xR M1 (va_up φ c q (tO T)) 11 = none
    have ho := hW.1.1
    rw [hφ _ ho, gR, if_neg (fun w => absurd w.2.2 (by decide)), if_neg (fun w => ?_), if_neg (fun w => hq _ ho w.1), if_neg (fun w => hq _ ho w.1)]
    · exact h.2
    · obtain ⟨z, hz, e2⟩ := List.mem_map.mp (List.mem_of_getLast? w.1)
      have hzs := (List.takeWhile_sublist _).subset hz
      have e3 := hi z _ (hCu s hs z hzs) ho e2
      have k1 := (hW.2.2.2.2.1 s z hs hzs).2
      rw [e3, hW.1.2.1] at k1
      cases k1
end CS
