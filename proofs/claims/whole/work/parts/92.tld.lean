/-! A NODE THAT WAS READ, in the abstract tree. -/
/-- the next k free ids -/
def frI (U : Nat → Bool) : Nat → List Nat
  | 0 => []
  | k + 1 => ((List.range 220).find? (fun n => !U n)).getD 0 :: frI (va_up U (((List.range 220).find? (fun n => !U n)).getD 0) true) k
theorem fr1_ok {U : Nat → Bool} (h : (List.range 220).countP U < 220) : U (((List.range 220).find? (fun n => !U n)).getD 0) = false ∧ ((List.range 220).find? (fun n => !U n)).getD 0 < 220 := by
  cases hf : (List.range 220).find? (fun n => !U n) with
  | none =>
    exfalso
    have h1 := List.find?_eq_none.mp hf
    have h2 : (List.range 220).countP U = (List.range 220).length := List.countP_eq_length.mpr (fun x hx => by simpa using h1 x hx)
    rw [List.length_range] at h2
    omega
  | some c =>
    have h1 := List.find?_some hf
    have h2 := List.mem_range.mp (List.mem_of_find?_eq_some hf)
    exact ⟨by simpa using h1, h2⟩
theorem frI_ok : ∀ (k : Nat) (U : Nat → Bool), (List.range 220).countP U + k ≤ 220 → (frI U k).length = k ∧ (frI U k).Nodup ∧ ∀ c ∈ frI U k, U c = false ∧ c < 220
  | 0, U, _ => ⟨rfl, List.nodup_nil, fun c hc => by cases hc⟩
  | k + 1, U, h => by
    obtain ⟨h1, h2⟩ := fr1_ok (U := U) (by omega)
    have hc := cnt_up220 (p := U) (q := va_up U (((List.range 220).find? (fun n => !U n)).getD 0) true) h2 h1 (va_up_self _ _ _) (fun x hx => va_up_ne _ _ hx)
    obtain ⟨i1, i2, i3⟩ := frI_ok k (va_up U (((List.range 220).find? (fun n => !U n)).getD 0) true) (by omega)
    simp only [frI]
    generalize ((List.range 220).find? (fun n => !U n)).getD 0 = c0 at *
    have hno : c0 ∉ frI (va_up U c0 true) k := fun z => by have := (i3 _ z).1; rw [va_up_self] at this; cases this
    refine ⟨by rw [List.length_cons, i1], List.nodup_cons.mpr ⟨hno, i2⟩, fun c hc2 => ?_⟩
    rcases List.mem_cons.mp hc2 with e | hc2
    · rw [e]; exact ⟨h1, h2⟩
    · obtain ⟨j1, j2⟩ := i3 c hc2
      have hne : c ≠ c0 := fun z => hno (z ▸ hc2)
      rw [va_up_ne _ _ hne] at j1
      exact ⟨j1, j2⟩
def cAt (cids : List Nat) (cs : List (Nat × Nat)) (x : Nat) : Nat × Nat := cs.getD (cids.idxOf x) (0, 0)
def tLd (T : TT) (n F : Nat) (v : Option Int64) (X : List Nat) (cids : List Nat) (cs : List (Nat × Nat)) : TT :=
  ((fun x => decide (x ∈ cids) || tU T x), (fun x => if x ∈ cids then some n else tP T x), (fun x => if x ∈ cids then (cAt cids cs x).1 else tB T x), (fun x => if x = n then X else if x ∈ cids then [] else tX T x), (fun x => if x = n then v else if x ∈ cids then none else tV T x), (fun x => if x = n then F else if x ∈ cids then 1 else tF T x), (fun x => if x ∈ cids then (cAt cids cs x).2 else tG T x), (fun x => if x ∈ cids then false else tR T x), (fun x => if x = n then cids else if x ∈ cids then [] else tC T x), (fun x => if x ∈ cids then tL T n + X.length + 1 else tL T x), tO T)
/-- which children a node may get -/
def ldH (T : TT) (n : Nat) (X : List Nat) (cids : List Nat) (cs : List (Nat × Nat)) : Prop :=
  (tU T n = true ∧ tC T n = []) ∧ (tL T n + X.length ≤ 12 ∧ ∀ b ∈ X, b < 256) ∧ (cids.Nodup ∧ (∀ c ∈ cids, tU T c = false ∧ c < 220) ∧ cs.length = cids.length) ∧ (cs.Pairwise (fun a b => a.1 < b.1) ∧ ∀ c ∈ cs, c.1 < 256) ∧ (cids ≠ [] → tL T n + X.length + 1 ≤ 12)
section LD
variable {T : TT} {n F : Nat} {v : Option Int64} {X cids : List Nat} {cs : List (Nat × Nat)}
theorem map_cAt : ∀ (cids : List Nat) (cs : List (Nat × Nat)), cids.Nodup → cs.length = cids.length → cids.map (cAt cids cs) = cs
  | [], cs, _, h => by
    have : cs = [] := List.length_eq_zero_iff.mp h
    rw [this]; rfl
  | a :: r, [], _, h => by simp at h
  | a :: r, c :: cs, hd, h => by
    obtain ⟨d1, d2⟩ := List.nodup_cons.mp hd
    have ih := map_cAt r cs d2 (by simpa using h)
    rw [List.map_cons]
    congr 1
    · unfold cAt; simp [List.idxOf_cons]
    · conv => rhs; rw [← ih]
      refine List.map_congr_left (fun x hx => ?_)
      have hxa : ¬ a = x := fun z => d1 (z ▸ hx)
      have hb : (a == x) = false := by simpa using hxa
      unfold cAt
      simp [List.idxOf_cons, hb]
theorem tLd_u {x : Nat} : tU (tLd T n F v X cids cs) x = true ↔ x ∈ cids ∨ tU T x = true := by
  show (decide (x ∈ cids) || tU T x) = true ↔ _
  simp
theorem tLd_wf (hW : tWF T) (h : ldH T n X cids cs) : tWF (tLd T n F v X cids cs) := by
  obtain ⟨⟨hn, hC⟩, ⟨hL, hXb⟩, ⟨hnd, hids, hlen⟩, ⟨hsort, hb⟩, h12⟩ := h
  obtain ⟨w1, w2, w3, w4, w5, w6⟩ := id hW
  have hnc : n ∉ cids := fun z => by rw [(hids n z).1] at hn; cases hn
  have huc : ∀ x, tU T x = true → x ∉ cids := fun x hx z => by rw [(hids x z).1] at hx; cases hx
  have hcm : ∀ x ∈ cids, cAt cids cs x ∈ cs := fun x hx => by
    have := List.mem_map_of_mem (f := cAt cids cs) hx
    rw [map_cAt cids cs hnd hlen] at this; exact this
  refine ⟨⟨?_, ?_, ?_⟩, fun x hx => ?_, fun x hx hxo => ?_, fun x p hx hp => ?_, fun p c hp hc => ?_, fun p hp => ?_⟩
  · exact tLd_u.mpr (Or.inr w1.1)
  · show (if tO T ∈ cids then some n else tP T (tO T)) = none
    rw [if_neg (huc _ w1.1)]; exact w1.2.1
  · show (if tO T ∈ cids then tL T n + X.length + 1 else tL T (tO T)) = 0
    rw [if_neg (huc _ w1.1)]; exact w1.2.2
  · show x < 220 ∧ (if x ∈ cids then (cAt cids cs x).1 else tB T x) < 256 ∧ (∀ b ∈ (if x = n then X else if x ∈ cids then [] else tX T x), b < 256) ∧ (if x ∈ cids then tL T n + X.length + 1 else tL T x) + (if x = n then X else if x ∈ cids then [] else tX T x).length ≤ 12
    by_cases hxc : x ∈ cids
    · have hxn : x ≠ n := fun z => hnc (z ▸ hxc)
      rw [if_pos hxc, if_neg hxn, if_pos hxc, if_pos hxc]
      have hne : cids ≠ [] := fun z => by rw [z] at hxc; cases hxc
      exact ⟨(hids x hxc).2, hb _ (hcm x hxc), fun b hb2 => (by cases hb2), by have := h12 hne; simp; omega⟩
    · have hxu : tU T x = true := (tLd_u.mp hx).resolve_left hxc
      obtain ⟨a1, a2, a3, a4⟩ := w2 x hxu
      rw [if_neg hxc, if_neg hxc, if_neg hxc]
      by_cases hxn : x = n
      · rw [if_pos hxn, hxn]
        rw [hxn] at a1 a2
        exact ⟨a1, a2, hXb, hL⟩
      · rw [if_neg hxn]; exact ⟨a1, a2, a3, a4⟩
  · have hxo2 : x ≠ tO T := hxo
    by_cases hxc : x ∈ cids
    · refine ⟨n, ?_, ?_⟩
      · show (if x ∈ cids then some n else tP T x) = some n
        rw [if_pos hxc]
      · show x ∈ (if n = n then cids else _)
        rw [if_pos rfl]; exact hxc
    · have hxu : tU T x = true := (tLd_u.mp hx).resolve_left hxc
      obtain ⟨p, p1, p2⟩ := w3 x hxu hxo2
      have hpu := (w4 x p hxu p1).1
      refine ⟨p, ?_, ?_⟩
      · show (if x ∈ cids then some n else tP T x) = some p
        rw [if_neg hxc]; exact p1
      · show x ∈ (if p = n then cids else if p ∈ cids then [] else tC T p)
        by_cases hpn : p = n
        · rw [hpn, hC] at p2; cases p2
        · rw [if_neg hpn, if_neg (huc p hpu)]; exact p2
  · have hp1 : (if x ∈ cids then some n else tP T x) = some p := hp
    show tU (tLd T n F v X cids cs) p = true ∧ x ∈ (if p = n then cids else if p ∈ cids then [] else tC T p) ∧ (if x ∈ cids then tL T n + X.length + 1 else tL T x) = (if p ∈ cids then tL T n + X.length + 1 else tL T p) + (if p = n then X else if p ∈ cids then [] else tX T p).length + 1
    by_cases hxc : x ∈ cids
    · rw [if_pos hxc] at hp1
      have hpn : p = n := (Option.some.inj hp1).symm
      subst hpn
      rw [if_pos rfl, if_pos hxc, if_neg hnc, if_pos rfl]
      exact ⟨tLd_u.mpr (Or.inr hn), hxc, rfl⟩
    · rw [if_neg hxc] at hp1
      have hxu : tU T x = true := (tLd_u.mp hx).resolve_left hxc
      obtain ⟨p1, p2, p3⟩ := w4 x p hxu hp1
      have hpn : p ≠ n := fun z => by rw [z, hC] at p2; cases p2
      rw [if_neg hpn, if_neg (huc p p1), if_neg hxc, if_neg (huc p p1), if_neg hpn, if_neg (huc p p1)]
      exact ⟨tLd_u.mpr (Or.inr p1), p2, p3⟩
  · have hc1 : c ∈ (if p = n then cids else if p ∈ cids then [] else tC T p) := hc
    show tU (tLd T n F v X cids cs) c = true ∧ (if c ∈ cids then some n else tP T c) = some p
    by_cases hpn : p = n
    · rw [if_pos hpn] at hc1
      rw [if_pos hc1, hpn]
      exact ⟨tLd_u.mpr (Or.inl hc1), rfl⟩
    · rw [if_neg hpn] at hc1
      by_cases hpc : p ∈ cids
      · rw [if_pos hpc] at hc1; cases hc1
      · rw [if_neg hpc] at hc1
        have hpu : tU T p = true := (tLd_u.mp hp).resolve_left hpc
        obtain ⟨c1, c2⟩ := w5 p c hpu hc1
        rw [if_neg (huc c c1)]
        exact ⟨tLd_u.mpr (Or.inr c1), c2⟩
  · show List.Pairwise (fun x y => (if x ∈ cids then (cAt cids cs x).1 else tB T x) < (if y ∈ cids then (cAt cids cs y).1 else tB T y)) (if p = n then cids else if p ∈ cids then [] else tC T p)
    by_cases hpn : p = n
    · rw [if_pos hpn]
      have hm := map_cAt cids cs hnd hlen
      rw [← hm, List.pairwise_map] at hsort
      exact hsort.imp_of_mem (fun {x y} hx hy e => by rw [if_pos hx, if_pos hy]; exact e)
    · rw [if_neg hpn]
      by_cases hpc : p ∈ cids
      · rw [if_pos hpc]; exact List.Pairwise.nil
      · rw [if_neg hpc]
        have hpu : tU T p = true := (tLd_u.mp hp).resolve_left hpc
        exact (w6 p hpu).imp_of_mem (fun {x y} hx hy e => by rw [if_neg (huc x (w5 p x hpu hx).1), if_neg (huc y (w5 p y hpu hy).1)]; exact e)
theorem acc_sorted : ∀ (cs : List (Nat × Nat)) (nd : Nat) (tk : Nat → Bool) (la : Option Nat) (tk1 : Nat → Bool), acc nd tk la cs = some tk1 → cs.Pairwise (fun a b => a.1 < b.1) ∧ (∀ c ∈ cs, ∀ b, la = some b → b < c.1) ∧ ∀ c ∈ cs, 2 ≤ c.2
  | [], nd, tk, la, tk1, h => ⟨List.Pairwise.nil, fun c hc => (by cases hc), fun c hc => by cases hc⟩
  | (e, p) :: r, nd, tk, la, tk1, h => by
    unfold acc at h
    by_cases hc : nd < 200 ∧ (∀ b, la = some b → b < e) ∧ 2 ≤ p ∧ tk p = false
    · rw [if_pos hc] at h
      obtain ⟨i1, i2, i3⟩ := acc_sorted r (nd + 1) _ _ tk1 h
      refine ⟨List.pairwise_cons.mpr ⟨fun c hc2 => i2 c hc2 e rfl, i1⟩, fun c hc2 b hb => ?_, fun c hc2 => ?_⟩
      · rcases List.mem_cons.mp hc2 with rfl | hc2
        · exact hc.2.1 b hb
        · have := i2 c hc2 e rfl
          have := hc.2.1 b hb
          omega
      · rcases List.mem_cons.mp hc2 with rfl | hc2
        · exact hc.2.2.1
        · exact i3 c hc2
    · rw [if_neg hc] at h; cases h
end LD
