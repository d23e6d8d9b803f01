/-! One node for another among the children of its parent; cutting a node in two. -/
theorem tw_split {s : Nat} : ∀ {l : List Nat}, s ∈ l → ∃ l2, l = l.takeWhile (fun x => decide (x ≠ s)) ++ s :: l2
  | [], h => by cases h
  | x :: l, h => by
    by_cases hx : x = s
    · subst hx
      refine ⟨l, ?_⟩
      rw [List.takeWhile_cons_of_neg (by simp)]; rfl
    · rcases List.mem_cons.mp h with z | z
      · exact absurd z.symm hx
      · obtain ⟨l2, h2⟩ := tw_split z
        refine ⟨l2, ?_⟩
        rw [List.takeWhile_cons_of_pos (by simpa using hx), List.cons_append, ← h2]
/-- the children ahead of a node in its parent -/
def tBf (T : TT) (s : Nat) : List Nat := match tP T s with | none => [] | some p => (tC T p).takeWhile (fun x => decide (x ≠ s))
def tW (φ : Nat → Nat) (T : TT) (s : Nat) : Option (Nat × List Nat) := (tP T s).map (fun p => (φ p, (tBf T s).map φ))
theorem lRep_split {s a : Nat} {l1 l2 : List Nat} (hd : (l1 ++ s :: l2).Nodup) : lRep s a (l1 ++ s :: l2) = l1 ++ a :: l2 := by
  obtain ⟨h1, h2, h3⟩ := List.nodup_append.mp hd
  have e : ∀ l : List Nat, (∀ x ∈ l, x ≠ s) → l.map (fun x => if x = s then a else x) = l := fun l hl => by
    conv => rhs; rw [← List.map_id l]
    exact List.map_congr_left (fun x hx => by rw [if_neg (hl x hx)]; rfl)
  unfold lRep
  rw [List.map_append, List.map_cons, if_pos rfl, e l1 (fun x hx z => h3 x hx s List.mem_cons_self z), e l2 (fun x hx z => (List.nodup_cons.mp h2).1 (z ▸ hx))]
theorem yield_ch {M M1 : xM} {a o p : Nat} {s1 s2 : List Nat} (hy : yieldP M M1 a o (some (p, s1))) (hs : chS M (xR M p 10) (s1 ++ a :: s2)) (hnd : (s1 ++ a :: s2).Nodup) (ho : o ∉ s1 ++ a :: s2) (hop : o ≠ p) : chS M1 (xR M1 p 10) (s1 ++ o :: s2) := by
  obtain ⟨-, -, eR⟩ := hy
  simp only at eR
  obtain ⟨d1, d2, d3⟩ := List.nodup_append.mp hnd
  have ho1 : ∀ x ∈ s1, x ≠ o := fun x hx z => ho (List.mem_append_left _ (z ▸ hx))
  have ho2 : ∀ x ∈ s2, x ≠ o := fun x hx z => ho (List.mem_append_right _ (List.mem_cons_of_mem _ (z ▸ hx)))
  have hl : ∀ x, x ∉ s1 → s1.getLast? ≠ some x := fun x hx z => hx (List.mem_of_getLast? z)
  have e11 : xR M1 o 11 = xR M a 11 := by
    rw [eR, if_neg (fun z => absurd z.2.2 (by decide)), if_neg (fun z => hl o (fun w => ho1 o w rfl) z.1), if_pos ⟨rfl, rfl⟩]
  have htail : chS M1 (some o) (o :: s2) := by
    refine ⟨rfl, ?_⟩
    rw [e11]
    have h2 := (chS_app hs).2
    refine chS_fr h2 (fun x hx => ?_)
    have hx1 : x ∉ s1 := fun z => d3 x z x (List.mem_cons_of_mem _ hx) rfl
    rw [eR, if_neg (fun z => absurd z.2.2 (by decide)), if_neg (fun z => hl x hx1 z.1), if_neg (fun z => ho2 x hx z.1), if_neg (fun z => ho2 x hx z.1)]
  have := chS_relink htail s1 (xR M p 10) hs d1 (fun x hx => by
    rw [eR, if_neg (fun z => absurd z.2.2 (by decide))]
    by_cases hz : s1.getLast? = some x
    · rw [if_pos ⟨hz, rfl⟩, if_pos hz]
    · rw [if_neg (fun z => hz z.1), if_neg (fun z => ho1 x hx z.1), if_neg (fun z => ho1 x hx z.1), if_neg hz])
  have he : xR M1 p 10 = if s1.getLast? = none then some o else xR M p 10 := by
    rw [eR]
    by_cases hz : s1.getLast? = none
    · rw [if_pos ⟨hz, rfl, rfl⟩, if_pos hz]
    · rw [if_neg (fun w => hz w.1), if_neg (fun w => absurd w.2 (by decide)), if_neg (fun w => hop w.1.symm), if_neg (fun w => hop w.1.symm), if_neg hz]
  rw [he]; exact this
section CU
variable {l : Launch} {g : xG} {M : xM} {Q : Option Value → xM → Prop} {φ ψ : Nat → Nat} {T : TT} {t nd ky : Nat} {KK sp : List Nat}
/-- what the references are behind yieldTo, by the tree -/
theorem yield_T (hW : tWF T) (hi : cInj φ T) (h : cNc M φ ψ T) {s o : Nat} {M1 : xM} (hs : tU T s = true) (hos : o ≠ φ s) (hoc : ∀ p, tP T s = some p → o ≠ φ p ∧ ∀ y ∈ tC T p, φ y ≠ o) (hy : yieldP M M1 (φ s) o (tW φ T s)) :
    (∀ x j, x ≠ o → j ≠ 10 → j ≠ 11 → xR M1 x j = xR M x j) ∧ (∀ j, xR M1 o j = if j = 11 then xR M (φ s) 11 else if j = 9 then xR M (φ s) 9 else xR M o j) ∧
    (∀ x, x ≠ o → (∀ p, tP T s = some p → x ≠ φ p) → xR M1 x 10 = xR M x 10) ∧ (∀ x, x ≠ o → (∀ p, tP T s = some p → x ∉ (tC T p).map φ) → xR M1 x 11 = xR M x 11) ∧
    (∀ p, tP T s = some p → chS M1 (xR M1 (φ p) 10) ((lRep s (220 + s) (tC T p)).map (va_up φ (220 + s) o))) := by
  cases hp : tP T s with
  | none =>
    have ew : tW φ T s = none := by simp [tW, hp]
    rw [ew] at hy
    obtain ⟨-, -, eR⟩ := hy
    simp only at eR
    refine ⟨fun x j h1 _ _ => ?_, fun j => ?_, fun x h1 _ => ?_, fun x h1 _ => ?_, fun p hp2 => by cases hp2⟩
    · rw [eR, if_neg (fun z => h1 z.1), if_neg (fun z => h1 z.1)]
    · rw [eR]
      by_cases h11 : j = 11
      · simp [h11]
      · by_cases h9 : j = 9
        · simp [h9]
        · simp [h11, h9]
    · rw [eR, if_neg (fun z => h1 z.1), if_neg (fun z => h1 z.1)]
    · rw [eR, if_neg (fun z => h1 z.1), if_neg (fun z => h1 z.1)]
  | some p =>
    obtain ⟨p1, p2, p3⟩ := hW.2.2.2.1 s p hs hp
    obtain ⟨o1, o2⟩ := hoc p hp
    have ebf : tBf T s = (tC T p).takeWhile (fun x => decide (x ≠ s)) := by simp [tBf, hp]
    have ew : tW φ T s = some (φ p, (tBf T s).map φ) := by simp [tW, hp]
    obtain ⟨l2, hl⟩ := tw_split p2
    rw [← ebf] at hl
    rw [ew] at hy
    have hCu : ∀ y ∈ tC T p, tU T y = true := fun y hy2 => (hW.2.2.2.2.1 p y p1 hy2).1
    have hnd := tC_nodup hW p1
    have hndφ : ((tC T p).map φ).Nodup := List.pairwise_map.mpr (hnd.imp_of_mem (fun {x y} hx hy2 hne e => hne (hi x y (hCu x hx) (hCu y hy2) e)))
    have hch := (h.1 p p1).2
    have hom : o ∉ (tC T p).map φ := fun z => by
      obtain ⟨y, hy2, e⟩ := List.mem_map.mp z
      exact o2 y hy2 e
    have hmap : (tC T p).map φ = (tBf T s).map φ ++ φ s :: l2.map φ := by
      conv => lhs; rw [hl]
      rw [List.map_append, List.map_cons]
    have hc5 : chS M1 (xR M1 (φ p) 10) ((tBf T s).map φ ++ o :: l2.map φ) := yield_ch hy (by rw [← hmap]; exact hch) (by rw [← hmap]; exact hndφ) (by rw [← hmap]; exact hom) o1
    obtain ⟨-, -, eR⟩ := hy
    simp only at eR
    refine ⟨fun x j h1 h10 h11 => ?_, fun j => ?_, fun x h1 h2 => ?_, fun x h1 h2 => ?_, fun p' hp2 => ?_⟩
    · rw [eR, if_neg (fun z => h10 z.2.2), if_neg (fun z => h11 z.2), if_neg (fun z => h1 z.1), if_neg (fun z => h1 z.1)]
    · rw [eR, if_neg (fun z => o1 z.2.1), if_neg (fun z => ?_)]
      · by_cases h11 : j = 11
        · simp [h11]
        · by_cases h9 : j = 9
          · simp [h9]
          · simp [h11, h9]
      · obtain ⟨y, hy2, e⟩ := List.mem_map.mp (List.mem_of_getLast? z.1)
        exact o2 y (by rw [hl]; exact List.mem_append_left _ hy2) e
    · rw [eR, if_neg (fun z => h2 p rfl z.2.1), if_neg (fun z => absurd z.2 (by decide)), if_neg (fun z => h1 z.1), if_neg (fun z => h1 z.1)]
    · rw [eR, if_neg (fun z => absurd z.2.2 (by decide)), if_neg (fun z => ?_), if_neg (fun z => h1 z.1), if_neg (fun z => h1 z.1)]
      refine h2 p rfl ?_
      rw [hmap]
      exact List.mem_append_left _ (List.mem_of_getLast? z.1)
    · cases hp2
      have e220 : ∀ y ∈ tC T p, y ≠ 220 + s := fun y hy2 z => by have := (hW.2.1 y (hCu y hy2)).1; omega
      have : (lRep s (220 + s) (tC T p)).map (va_up φ (220 + s) o) = (tBf T s).map φ ++ o :: l2.map φ := by
        conv => lhs; rw [hl]
        rw [lRep_split (by rw [← hl]; exact hnd), List.map_append, List.map_cons, va_up_self]
        congr 1
        · exact List.map_congr_left (fun y hy2 => va_up_ne _ _ (e220 y (by rw [hl]; exact List.mem_append_left _ hy2)))
        · congr 1
          exact List.map_congr_left (fun y hy2 => va_up_ne _ _ (e220 y (by rw [hl]; exact List.mem_append_right _ (List.mem_cons_of_mem _ hy2))))
      rw [this]; exact hc5
theorem sX8_putInPlace (hW : tWF T) (hi : cInj φ T) (h : cNc M φ ψ T) {s o : Nat} (ht : xat M t 5) (hr : xR M t 2 = some (φ (tO T))) (hs : tU T s = true) (hoa : xat M o 1) (hos : o ≠ φ s) (hoc : ∀ p, tP T s = some p → o ≠ φ p ∧ ∀ y ∈ tC T p, φ y ≠ o)
    (hQ : ∀ M1, yieldP M M1 (φ s) o (tW φ T s) → Q none (if s = tO T then xsR M1 t 2 (some o) else M1)) : xSp l g mX8_putInPlace 0 0 [va_rf (some t), va_rf (some (φ s)), va_rf (some o)] M Q := by
  have hb := (h.1 s hs).1
  have hto : t ≠ o := ne_of_kind ht.2 hoa.2 (by decide)
  have key : ∀ M1, yieldP M M1 (φ s) o (tW φ T s) → none = (none : Option Value) ∧ (xat M1 t 5 ∧ ((¬ some (φ s) = (xR M1 t 2) → (Q none M1)) ∧ (some (φ s) = (xR M1 t 2) → (Q none (xsR M1 t 2 (some o)))))) := fun M1 hy => by
    have h2 : xR M1 t 2 = some (φ (tO T)) := by rw [(yield_T hW hi h hs hos hoc hy).1 t 2 hto (by decide) (by decide)]; exact hr
    have hq := hQ M1 hy
    refine ⟨rfl, ⟨by rw [hy.1.1]; exact ht.1, by rw [hy.1.2.1]; exact ht.2⟩, fun c => ?_, fun c => ?_⟩
    · rw [if_neg (fun z => c (by rw [h2, z]))] at hq; exact hq
    · have : s = tO T := hi s _ hs hW.1.1 (by rw [h2] at c; exact Option.some.inj c)
      rw [if_pos this] at hq; exact hq
  refine eX8_putInPlace _ _ _ (bX8_putInPlace_0 _ _ _ ⟨φ s, rfl, hb.1.1, ?_⟩)
  cases hp : tP T s with
  | none =>
    have ew : tW φ T s = none := by simp [tW, hp]
    exact sX3_yieldTo0 (Ne.symm hos) hb.1.1 hoa (by rw [hb.2.2.2, hp]; rfl) (fun M1 hy => key M1 (by rw [ew]; exact hy))
  | some p =>
    obtain ⟨p1, p2, p3⟩ := hW.2.2.2.1 s p hs hp
    obtain ⟨o1, o2⟩ := hoc p hp
    have ebf : tBf T s = (tC T p).takeWhile (fun x => decide (x ≠ s)) := by simp [tBf, hp]
    have ew : tW φ T s = some (φ p, (tBf T s).map φ) := by simp [tW, hp]
    obtain ⟨l2, hl⟩ := tw_split p2
    rw [← ebf] at hl
    have hCu : ∀ y ∈ tC T p, tU T y = true := fun y hy2 => (hW.2.2.2.2.1 p y p1 hy2).1
    have hmap : (tC T p).map φ = (tBf T s).map φ ++ φ s :: l2.map φ := by
      conv => lhs; rw [hl]
      rw [List.map_append, List.map_cons]
    have e6x : ∀ x, tU T x = true → (xI M (φ x) 6).toNatClampNeg = tB T x := fun x hx => by
      have := (h.1 x hx).1.2.2.1.2.2.2.2.1
      have hxb := (hW.2.1 x hx).2.1
      rw [this]; exact nI_clamp (by omega)
    refine sX3_yieldTo (p := φ p) (fun a => (xI M a 6).toNatClampNeg) (s1 := (tBf T s).map φ) (s2 := l2.map φ) (Ne.symm hos) (fun z => ?_) o1 hb.1.1 hoa (h.1 p p1).1.1.1 (by rw [hb.2.2.2, hp]; rfl) (by rw [← hmap]; exact (h.1 p p1).2) (fun x hx => ?_) (fun x hx => ?_) (fun M1 hy => key M1 (by rw [ew]; exact hy))
    · rw [← hmap] at z
      obtain ⟨y, hy2, e⟩ := List.mem_map.mp z
      exact o2 y hy2 e
    · rw [← hmap] at hx
      obtain ⟨y, hy, rfl⟩ := List.mem_map.mp hx
      have hy5 := (h.1 y (hCu y hy)).1
      have hyb := (hW.2.1 y (hCu y hy)).2.1
      exact ⟨hy5.1.1, by rw [e6x y (hCu y hy)]; exact hy5.2.2.1.2.2.2.2.1, by rw [e6x y (hCu y hy)]; exact hyb⟩
    · obtain ⟨y, hy, rfl⟩ := List.mem_map.mp hx
      have hym : y ∈ tC T p := by rw [hl]; exact List.mem_append_left _ hy
      show (xI M (φ y) 6).toNatClampNeg < (xI M (φ s) 6).toNatClampNeg
      rw [e6x y (hCu y hym), e6x s hs]
      have hsort := hW.2.2.2.2.2 p p1
      rw [hl, List.pairwise_append] at hsort
      exact hsort.2.2 y hy s List.mem_cons_self
end CU
