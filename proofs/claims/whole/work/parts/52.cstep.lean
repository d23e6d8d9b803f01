/-! THE CLASS'S CELLS under the steps of the abstract tree. -/
def cB (M : xM) (φ ψ : Nat → Nat) (T : TT) (n : Nat) : Prop :=
  (xat M (φ n) 1 ∧ xR M (φ n) 0 = some (ψ (φ n)) ∧ xat M (ψ (φ n)) 9 ∧ xN M (ψ (φ n)) = 12) ∧
  (xI M (φ n) 1 = nI (tX T n).length ∧ ∀ i, i < (tX T n).length → xI M (ψ (φ n)) i = nI ((tX T n).getD i 0)) ∧
  (xI M (φ n) 2 = nI (tF T n) ∧ xI M (φ n) 3 = (if (tV T n).isSome = true then 1 else 0) ∧ xJ M (φ n) 4 = (tV T n).getD 0 ∧ xI M (φ n) 5 = nI (tC T n).length ∧ xI M (φ n) 6 = nI (tB T n) ∧ xI M (φ n) 7 = nI (tG T n) ∧ xI M (φ n) 8 = (if tR T n = true then 1 else 0)) ∧
  xR M (φ n) 9 = (tP T n).map φ
/-- the same as cNs, the children as chains -/
def cNc (M : xM) (φ ψ : Nat → Nat) (T : TT) : Prop := (∀ n, tU T n = true → cB M φ ψ T n ∧ chS M (xR M (φ n) 10) ((tC T n).map φ)) ∧ xR M (φ (tO T)) 11 = none
theorem head_map (f : Nat → Nat) (l : List Nat) : (l.map f).head? = l.head?.map f := by cases l <;> rfl
theorem cNc.s {M : xM} {φ ψ : Nat → Nat} {T : TT} (hW : tWF T) (h : cNc M φ ψ T) : cNs M φ ψ T := by
  intro n hn
  obtain ⟨⟨b1, b2, b3, b4⟩, b5⟩ := h.1 n hn
  refine ⟨b1, b2, b3, b4, by rw [chS_head b5, head_map], ?_⟩
  cases hp : tP T n with
  | none =>
    have hr : n = tO T := by
      apply Classical.byContradiction
      intro hne
      obtain ⟨q, hq2, -⟩ := hW.2.2.1 n hn hne
      rw [hp] at hq2; cases hq2
    rw [tS_root hp, hr]; exact h.2
  | some p =>
    obtain ⟨k1, k2, k3⟩ := hW.2.2.2.1 n p hn hp
    obtain ⟨l1, l2, hl⟩ := List.append_of_mem k2
    rw [tS_child hW k1 hl]
    have hch := (h.1 p k1).2
    rw [hl, List.map_append, List.map_cons] at hch
    rw [← head_map]
    exact chS_head (chS_app hch).2
theorem cNs.c {M : xM} {φ ψ : Nat → Nat} {T : TT} (hW : tWF T) (h : cNs M φ ψ T) : cNc M φ ψ T := by
  refine ⟨fun n hn => ?_, ?_⟩
  · obtain ⟨b1, b2, b3, b4, b5, b6⟩ := h n hn
    refine ⟨⟨b1, b2, b3, b4⟩, ?_⟩
    have key : ∀ (l2 l1 : List Nat), tC T n = l1 ++ l2 → chS M (l2.head?.map φ) (l2.map φ) := by
      intro l2
      induction l2 with
      | nil => intro l1 _; rfl
      | cons x r ih =>
        intro l1 hl
        refine ⟨rfl, ?_⟩
        have hx := hW.2.2.2.2.1 n x hn (by rw [hl]; simp)
        have := (h x hx.1).2.2.2.2.2
        rw [tS_child hW hn hl] at this
        show chS M (xR M (φ x) 11) (r.map φ)
        rw [this]
        exact ih (l1 ++ [x]) (by rw [hl]; simp)
    have := key (tC T n) [] rfl
    rw [b5]; exact this
  · have := (h (tO T) hW.1.1).2.2.2.2.2
    rw [tS_root hW.1.2.1] at this
    exact this
/-- a chain with another end -/
theorem chS_relink {M M1 : xM} {t t1 : List Nat} {r1 : Option Nat} (ht : chS M1 r1 t1) : ∀ (s1 : List Nat) (r : Option Nat), chS M r (s1 ++ t) → s1.Nodup → (∀ x ∈ s1, xR M1 x 11 = if s1.getLast? = some x then r1 else xR M x 11) → chS M1 (if s1.getLast? = none then r1 else r) (s1 ++ t1)
  | [], r, _, _, _ => ht
  | [a], r, h, _, hx => by
    have h1 : xR M1 a 11 = r1 := by rw [hx a List.mem_cons_self]; simp
    refine ⟨h.1, ?_⟩
    rw [h1]; exact ht
  | a :: b :: s1, r, h, hd, hx => by
    obtain ⟨z, hz⟩ : ∃ z, (b :: s1).getLast? = some z := ⟨_, List.getLast?_eq_some_getLast (by simp)⟩
    have hlast : (a :: b :: s1).getLast? = some z := by rw [List.getLast?_cons_cons, hz]
    have haz : a ≠ z := fun q => (List.nodup_cons.mp hd).1 (q ▸ List.mem_of_getLast? hz)
    have ha : xR M1 a 11 = xR M a 11 := by
      rw [hx a List.mem_cons_self, hlast, if_neg (fun w => haz (Option.some.inj w).symm)]
    have ih := chS_relink ht (b :: s1) (xR M a 11) h.2 (List.nodup_cons.mp hd).2 (fun x hxm => by
      rw [hx x (List.mem_cons_of_mem _ hxm), hlast, hz])
    rw [hz, if_neg (by simp)] at ih
    rw [hlast, if_neg (by simp)]
    exact ⟨h.1, by rw [ha]; exact ih⟩
section CS
variable {φ ψ : Nat → Nat} {T : TT} {M : xM}
/-- different nodes lie at different addresses -/
def cInj (φ : Nat → Nat) (T : TT) : Prop := ∀ a b, tU T a = true → tU T b = true → φ a = φ b → a = b
theorem tA_used (hW : tWF T) : ∀ (f n : Nat), tU T n = true → ∀ x ∈ tA T f n, tU T x = true
  | 0, n, hn, x, hx => by
    simp only [tA, List.mem_singleton] at hx
    rw [hx]; exact hn
  | f + 1, n, hn, x, hx => by
    simp only [tA, List.mem_cons] at hx
    rcases hx with rfl | hx
    · exact hn
    · cases hp : tP T n with
      | none => rw [hp] at hx; cases hx
      | some p => rw [hp] at hx; exact tA_used hW f p (hW.2.2.2.1 n p hn hp).1 x hx
theorem map_mem_inj (hi : cInj φ T) {l : List Nat} (hl : ∀ x ∈ l, tU T x = true) {n : Nat} (hn : tU T n = true) : φ n ∈ l.map φ ↔ n ∈ l := by
  constructor
  · intro h
    obtain ⟨x, hx, e⟩ := List.mem_map.mp h
    rw [← hi x n (hl x hx) hn e]; exact hx
  · exact fun h => List.mem_map.mpr ⟨n, h, rfl⟩
theorem fr_c (hW : tWF T) (hi : cInj φ T) (h : cNc M φ ψ T) {n : Nat} (hn : tU T n = true) : cNc (frs M ((tA T 12 n).map φ)) φ ψ (tFr T n) := by
  obtain ⟨e1, e2, e3, e4, e5⟩ := frs_same ((tA T 12 n).map φ) M
  refine ⟨fun x hx => ?_, ?_⟩
  · obtain ⟨⟨⟨b1, b1b, b1c, b1d⟩, ⟨b2, b2b⟩, ⟨i2, i3, i4, i5, i6, i7, i8⟩, b4⟩, b5⟩ := h.1 x hx
    have hmem := map_mem_inj hi (tA_used hW 12 n hn) (n := x) hx
    have hF : ∀ j, j ≠ 7 → j ≠ 8 → xI (frs M ((tA T 12 n).map φ)) (φ x) j = xI M (φ x) j := fun j h7 h8 => by
      rw [frs_I, if_neg (fun q => h7 q.2), if_neg (fun q => h8 q.2)]
    have hps : ∀ j, xI (frs M ((tA T 12 n).map φ)) (ψ (φ x)) j = xI M (ψ (φ x)) j := fun j => by
      have hno : ψ (φ x) ∉ (tA T 12 n).map φ := fun q => by
        obtain ⟨y, hy, e⟩ := List.mem_map.mp q
        have hk := (h.1 y (tA_used hW 12 n hn y hy)).1.1.1.2
        rw [e, b1c.2] at hk; omega
      rw [frs_I, if_neg (fun q => hno q.1), if_neg (fun q => hno q.1)]
    refine ⟨⟨⟨?_, by rw [e5]; exact b1b, ?_, by rw [e3]; exact b1d⟩, ⟨?_, fun i hi2 => ?_⟩, ⟨?_, ?_, by rw [e4]; exact i4, ?_, ?_, ?_, ?_⟩, by rw [e5]; exact b4⟩, ?_⟩
    · exact ⟨by rw [e1]; exact b1.1, by rw [e2]; exact b1.2⟩
    · exact ⟨by rw [e1]; exact b1c.1, by rw [e2]; exact b1c.2⟩
    · rw [hF 1 (by decide) (by decide)]; exact b2
    · rw [hps]; exact b2b i hi2
    · rw [hF 2 (by decide) (by decide)]; exact i2
    · rw [hF 3 (by decide) (by decide)]; exact i3
    · rw [hF 5 (by decide) (by decide)]; exact i5
    · rw [hF 6 (by decide) (by decide)]; exact i6
    · show _ = nI (if x ∈ tA T 12 n then 0 else tG T x)
      rw [frs_I]
      by_cases hm : x ∈ tA T 12 n
      · rw [if_pos ⟨hmem.mpr hm, rfl⟩, if_pos hm]; rfl
      · rw [if_neg (fun q => hm (hmem.mp q.1)), if_neg (fun q => hm (hmem.mp q.1)), if_neg hm]; exact i7
    · show _ = (if (if x ∈ tA T 12 n then true else tR T x) = true then (1 : Int32) else 0)
      rw [frs_I]
      by_cases hm : x ∈ tA T 12 n
      · rw [if_neg (fun q => absurd q.2 (by decide)), if_pos ⟨hmem.mpr hm, rfl⟩, if_pos hm]; rfl
      · rw [if_neg (fun q => hm (hmem.mp q.1)), if_neg (fun q => hm (hmem.mp q.1)), if_neg hm]; exact i8
    · rw [e5]
      exact chS_fr b5 (fun a _ => by rw [e5])
  · rw [e5]; exact h.2
theorem sv_c (hi : cInj φ T) (h : cNc M φ ψ T) {n : Nat} (hn : tU T n = true) (v : Option Int64) : cNc (xsJ (xsI M (φ n) 3 (if v.isSome = true then 1 else 0)) (φ n) 4 (v.getD 0)) φ ψ (tSv T n v) := by
  refine ⟨fun x hx => ?_, h.2⟩
  obtain ⟨⟨⟨b1, b1b, b1c, b1d⟩, ⟨b2, b2b⟩, ⟨i2, i3, i4, i5, i6, i7, i8⟩, b4⟩, b5⟩ := h.1 x hx
  have hk := (h.1 n hn).1.1.1.2
  have hps : ψ (φ x) ≠ φ n := ne_of_kind b1c.2 hk (by decide)
  have hF : ∀ j, j ≠ 3 → xI (xsJ (xsI M (φ n) 3 (if v.isSome = true then 1 else 0)) (φ n) 4 (v.getD 0)) (φ x) j = xI M (φ x) j := fun j h3 => by
    rw [xI_sJ, xI_sI, if_neg (fun q => h3 q.2)]
  refine ⟨⟨⟨b1, b1b, b1c, b1d⟩, ⟨by rw [hF 1 (by decide)]; exact b2, fun i hi2 => by rw [xI_sJ, xI_sI, if_neg (fun q => hps q.1)]; exact b2b i hi2⟩, ⟨by rw [hF 2 (by decide)]; exact i2, ?_, ?_, by rw [hF 5 (by decide)]; exact i5, by rw [hF 6 (by decide)]; exact i6, by rw [hF 7 (by decide)]; exact i7, by rw [hF 8 (by decide)]; exact i8⟩, b4⟩, chS_fr b5 (fun _ _ => rfl)⟩
  · show xI (xsJ (xsI M (φ n) 3 _) (φ n) 4 _) (φ x) 3 = if (va_up (tV T) n v x).isSome = true then 1 else 0
    rw [xI_sJ, xI_sI]
    by_cases hxn : x = n
    · subst hxn; rw [if_pos ⟨rfl, rfl⟩, va_up_self]
    · rw [if_neg (fun q => hxn (hi x n hx hn q.1)), va_up_ne _ _ hxn]; exact i3
  · show xJ (xsJ (xsI M (φ n) 3 _) (φ n) 4 _) (φ x) 4 = (va_up (tV T) n v x).getD 0
    rw [xJ_sJ, xJ_sI]
    by_cases hxn : x = n
    · subst hxn; rw [if_pos ⟨rfl, rfl⟩, va_up_self]
    · rw [if_neg (fun q => hxn (hi x n hx hn q.1)), va_up_ne _ _ hxn]; exact i4
end CS
