/-! SAVING, on the abstract tree. -/
/-- the pages that are taken, of those for nodes -/
def cTk (tk : Nat → Bool) : Nat := (List.range 256).countP (fun p => decide (2 ≤ p) && tk p)
/-- the least free page -/
def tLp (tk : Nat → Bool) : Nat := ((List.range 256).find? (fun p => decide (2 ≤ p) && !tk p)).getD 256
theorem tLp_eq {tk : Nat → Bool} {p : Nat} (h2 : 2 ≤ p) (h256 : p < 256) (hp : tk p = false) (hl : ∀ q, 2 ≤ q → q < p → tk q = true) : tLp tk = p := by
  unfold tLp
  have : (List.range 256).find? (fun p => decide (2 ≤ p) && !tk p) = some p := by
    rw [List.find?_eq_some_iff_append]
    refine ⟨by rw [hp]; simpa using h2, List.range p, (List.range (256 - p - 1)).map (fun x => p + 1 + x), ?_, fun q hq => ?_⟩
    · have e1 : List.range 256 = List.range p ++ (List.range (256 - p)).map (fun x => p + x) := by
        have := List.range_add (n := p) (m := 256 - p)
        rw [show p + (256 - p) = 256 by omega] at this
        exact this
      rw [e1]
      congr 1
      rw [show 256 - p = 1 + (256 - p - 1) by omega, List.range_add, List.map_append]
      simp [Nat.add_assoc]
    · have := List.mem_range.mp hq
      by_cases hq2 : 2 ≤ q
      · rw [hl q hq2 this]; simp
      · simp; omega
  rw [this]; rfl
set_option maxRecDepth 10000 in
theorem cTk_all : (List.range 256).countP (fun p => decide (2 ≤ p)) = 254 := by decide
theorem tLp_ok {tk : Nat → Bool} (h : cTk tk < 254) : 2 ≤ tLp tk ∧ tLp tk < 256 ∧ tk (tLp tk) = false := by
  unfold tLp
  cases hf : (List.range 256).find? (fun p => decide (2 ≤ p) && !tk p) with
  | none =>
    exfalso
    have h1 := List.find?_eq_none.mp hf
    have h2 : cTk tk = (List.range 256).countP (fun p => decide (2 ≤ p)) := by
      refine List.countP_congr (fun p hp => ?_)
      have := h1 p hp
      cases hd : decide (2 ≤ p) with
      | false => simp
      | true =>
        rw [hd] at this
        cases ht : tk p with
        | false => rw [ht] at this; exact absurd rfl this
        | true => simp
    rw [h2, cTk_all] at h
    omega
  | some p =>
    have h1 := List.find?_some hf
    have h2 := List.mem_range.mp (List.mem_of_find?_eq_some hf)
    simp only [Bool.and_eq_true, decide_eq_true_eq, Bool.not_eq_true'] at h1
    exact ⟨h1.1, h2, h1.2⟩
theorem cTk_up {tk : Nat → Bool} {p : Nat} (h2 : 2 ≤ p) (h256 : p < 256) (hp : tk p = false) : cTk (va_up tk p true) = cTk tk + 1 := by
  refine cnt_up (c := p) ?_ ?_ (fun x hx => ?_) (List.range 256) List.nodup_range (List.mem_range.mpr h256)
  · rw [hp]; simp
  · rw [va_up_self]; simpa using h2
  · rw [va_up_ne _ _ hx]
/-- the pages of a tree -/
def tTk (T : TT) : Nat → Bool := fun p => decide (2 ≤ p) && (tEs T).any (fun n => decide (tG T n = p))
theorem cTk_le (g : Nat → Nat) : ∀ (l : List Nat), (List.range 256).countP (fun p => decide (2 ≤ p) && l.any (fun n => decide (g n = p))) ≤ l.countP (fun n => decide (g n ≠ 0))
  | [] => by
    have : (List.range 256).countP (fun p => decide (2 ≤ p) && ([] : List Nat).any (fun n => decide (g n = p))) = 0 := by
      rw [List.countP_eq_zero]
      intro p _
      simp
    rw [this]; exact Nat.zero_le _
  | a :: l => by
    have ih := cTk_le g l
    rw [List.countP_cons]
    by_cases hg : g a = 0
    · have e : (List.range 256).countP (fun p => decide (2 ≤ p) && (a :: l).any (fun n => decide (g n = p))) = (List.range 256).countP (fun p => decide (2 ≤ p) && l.any (fun n => decide (g n = p))) := by
        refine List.countP_congr (fun p _ => ?_)
        rw [List.any_cons, hg]
        by_cases h2 : 2 ≤ p
        · have : ¬ 0 = p := by omega
          simp [this]
        · simp [h2]
      rw [e]; omega
    · have hs : ∀ s : List Nat, s.Nodup → s.countP (fun p => decide (2 ≤ p) && (a :: l).any (fun n => decide (g n = p))) ≤ s.countP (fun p => decide (2 ≤ p) && l.any (fun n => decide (g n = p))) + (if g a ∈ s then 1 else 0) := by
        intro s
        induction s with
        | nil => intro _; simp
        | cons p s ihs =>
          intro hd
          obtain ⟨d1, d2⟩ := List.nodup_cons.mp hd
          have i1 := ihs d2
          rw [List.countP_cons, List.countP_cons]
          by_cases hp : g a = p
          · have hn : g a ∉ s := by rw [hp]; exact d1
            rw [if_neg hn] at i1
            have e1 : (if g a ∈ p :: s then 1 else 0) = 1 := if_pos (by rw [hp]; exact List.mem_cons_self)
            rw [e1]
            have b1 : (if (decide (2 ≤ p) && (a :: l).any fun n => decide (g n = p)) = true then 1 else 0) ≤ 1 := by split <;> omega
            omega
          · have e : (decide (2 ≤ p) && (a :: l).any fun n => decide (g n = p)) = (decide (2 ≤ p) && l.any fun n => decide (g n = p)) := by
              rw [List.any_cons]
              simp [hp]
            rw [e]
            have hm : g a ∈ p :: s ↔ g a ∈ s := by
              constructor
              · intro z
                rcases List.mem_cons.mp z with z | z
                · exact absurd z hp
                · exact z
              · exact List.mem_cons_of_mem _
            by_cases hz : g a ∈ s
            · rw [if_pos hz] at i1
              rw [if_pos (hm.mpr hz)]
              omega
            · rw [if_neg hz] at i1
              rw [if_neg (fun w => hz (hm.mp w))]
              omega
      have h1 := hs (List.range 256) List.nodup_range
      have h2 : (if g a ∈ List.range 256 then 1 else 0) ≤ 1 := by split <;> omega
      have h3 : (if decide (g a ≠ 0) = true then 1 else 0) = 1 := by rw [if_pos (by simpa using hg)]
      rw [h3]
      omega
theorem cTk_tree (T : TT) : cTk (tTk T) ≤ (tEs T).countP (fun n => decide (tG T n ≠ 0)) := by
  have h := cTk_le (tG T) (tEs T)
  have e : cTk (tTk T) = (List.range 256).countP (fun p => decide (2 ≤ p) && (tEs T).any (fun n => decide (tG T n = p))) := by
    refine List.countP_congr (fun p _ => ?_)
    show (decide (2 ≤ p) && (decide (2 ≤ p) && (tEs T).any (fun n => decide (tG T n = p)))) = true ↔ _
    cases decide (2 ≤ p) <;> simp
  rw [e]; exact h
/-- what is at hand while a tree is saved: it, the pages taken, the disk, when power goes -/
abbrev SvS : Type := TT × (Nat → Bool) × (Nat → Nat) × Option Nat
/-- one node comes to the least free page -/
def svN (tr : Nat) (s : SvS) (n : Nat) : SvS := (tGs s.1 n (tLp s.2.1), va_up s.2.1 (tLp s.2.1) true, dkW s.2.2.1 (tLp s.2.1) (tPg (tGs s.1 n (tLp s.2.1)) n) s.2.2.2 tr, pwN s.2.2.2)
def svL (tr : Nat) : List Nat → SvS → Bool × SvS
  | [], s => (true, s)
  | n :: r, s => if tR s.1 n = true then (if s.2.2.2 = some 0 then (false, svN tr s n) else svL tr r (svN tr s n)) else svL tr r s
/-- saving: whether power stayed, and what there is then -/
def tSave (T Tc : TT) (D : Nat → Nat) (pw : Option Nat) (tr : Nat) (sq : Nat) : Bool × SvS :=
  if (svL tr (tPs T) (T, tTk Tc, D, pw)).1 = false then svL tr (tPs T) (T, tTk Tc, D, pw)
  else (decide ((svL tr (tPs T) (T, tTk Tc, D, pw)).2.2.2.2 ≠ some 0), ((svL tr (tPs T) (T, tTk Tc, D, pw)).2.1, (svL tr (tPs T) (T, tTk Tc, D, pw)).2.2.1, dkW (svL tr (tPs T) (T, tTk Tc, D, pw)).2.2.2.1 (sq % 2) (hdF (Int64.ofNat sq) (tG (svL tr (tPs T) (T, tTk Tc, D, pw)).2.1 (tO T)) (tKy T)) (svL tr (tPs T) (T, tTk Tc, D, pw)).2.2.2.2 tr, pwN (svL tr (tPs T) (T, tTk Tc, D, pw)).2.2.2.2))
