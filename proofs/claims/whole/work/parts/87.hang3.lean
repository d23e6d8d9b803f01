/-! HANGING children under a node that is read. -/
/-- a tree object, whatever its nodes are: its root, spare ones, counters -/
def tl0 (M : xM) (t : Nat) (KK : List Nat) (ψ : Nat → Nat) (r : Nat) (sp : List Nat) (nd ky : Nat) : Prop :=
  (xat M t 5 ∧ xR M t 2 = some r ∧ xI M t 3 = nI nd ∧ xI M t 4 = nI ky) ∧ (chS M (xR M t 1) sp ∧ sp.Nodup ∧ (∀ a ∈ sp, a ∈ KK) ∧ sp.length + nd = 200) ∧
  (∀ a ∈ KK, xat M a 1 ∧ xR M a 0 = some (ψ a) ∧ xat M (ψ a) 9 ∧ xN M (ψ a) = 12) ∧ (∀ a ∈ KK, ∀ b ∈ KK, ψ a = ψ b → a = b)
/-- the cells of a child that isn't read yet, but for its byte and page -/
def qN (M : xM) (a q : Nat) : Prop := xI M q 1 = 0 ∧ xI M q 2 = 1 ∧ xI M q 3 = 0 ∧ xJ M q 4 = 0 ∧ xI M q 5 = 0 ∧ xI M q 8 = 0 ∧ xR M q 9 = some a ∧ xR M q 10 = none
def hgS (M : xM) (t : Nat) (KK : List Nat) (ψ : Nat → Nat) (r a F : Nat) (v : Option Int64) (X : List Nat) (qs : List (Nat × Nat × Nat)) (sp : List Nat) (nd ky : Nat) : Prop :=
  tl0 M t KK ψ r sp nd ky ∧ nL M a (ψ a) F v X qs ∧ (∀ q ∈ qs, q.1 ∈ KK ∧ q.1 ∉ sp ∧ q.1 ≠ a ∧ qN M a q.1) ∧ (qs.map (fun q => q.1)).Nodup ∧ a ∈ KK ∧ a ∉ sp
/-- of a node on which children are hung only their number and the first change -/
def aK (M M1 : xM) (a : Nat) : Prop := (∀ j, j ≠ 5 → xI M1 a j = xI M a j) ∧ ∀ j, j ≠ 10 → xR M1 a j = xR M a j
theorem aK.trans {M M1 M2 : xM} {a : Nat} (h1 : aK M M1 a) (h2 : aK M1 M2 a) : aK M M2 a := ⟨fun j hj => (h2.1 j hj).trans (h1.1 j hj), fun j hj => (h2.2 j hj).trans (h1.2 j hj)⟩
theorem aK.rf {M : xM} {a : Nat} : aK M M a := ⟨fun _ _ => rfl, fun _ _ => rfl⟩
section HB
variable {l : Launch} {g : xG} {M : xM} {Q : Option Value → xM → Prop} {ψ : Nat → Nat} {t r a F nd ky e p q : Nat} {v : Option Int64} {X KK sp : List Nat} {qs : List (Nat × Nat × Nat)} {s d db w rb w2 rb2 ta tr : Nat} {D : Nat → Nat} {pw : Option Nat} {tk : Nat → Bool}
theorem sX8_take0 (h1 : xat M t 5) (h2 : xR M t 1 = some q) (h3 : xI M t 3 = nI nd) (h4 : xat M q 1) (hQ : Q (some (va_rf (some q))) (tkM M t q nd)) : xSp l g mX8_take 0 0 [va_rf (some t)] M Q := by
  have htq : t ≠ q := ne_of_kind h1.2 h4.2 (by decide)
  refine eX8_take _ (bX8_take_0 _ ⟨h1, fun c => absurd h2 (by rw [c]; simp), fun _ => ?_⟩)
  rw [h2]
  refine ⟨q, rfl, h4, ?_⟩
  refine sX3_reset h4 ⟨rfl, ?_, ?_⟩
  · exact ⟨by rw [rst_L]; exact h1.1, by rw [rst_K]; exact h1.2⟩
  · have e3 : xI (rst (xsR M t 1 (xR M q 11)) q) t 3 = nI nd := by rw [rst_I, if_neg (fun z => htq z.1), xI_sR]; exact h3
    rw [e3, nI_1]
    exact hQ
theorem sX8_take0N (h1 : xat M t 5) (h2 : xR M t 1 = none) (hQ : Q (some (va_rf none)) M) : xSp l g mX8_take 0 0 [va_rf (some t)] M Q := by
  refine eX8_take _ (bX8_take_0 _ ⟨h1, fun c => ?_, fun c => absurd h2 c⟩)
  rw [h2]; exact hQ
theorem tkI (x j : Nat) : xI (tkM M t q nd) x j = if x = t ∧ j = 3 then nI (nd + 1) else if x = q ∧ (1 ≤ j ∧ j ≤ 8 ∧ j ≠ 4) then (if j = 2 then 1 else 0) else xI M x j := by
  simp only [tkM]
  rw [xI_sI, rst_I, xI_sR]
theorem tkJ (x j : Nat) : xJ (tkM M t q nd) x j = if x = q ∧ j = 4 then 0 else xJ M x j := by
  simp only [tkM]
  rw [xJ_sI, rst_J, xJ_sR]
theorem tkR (x j : Nat) : xR (tkM M t q nd) x j = if x = q ∧ (9 ≤ j ∧ j ≤ 11) then none else if x = t ∧ j = 1 then xR M q 11 else xR M x j := by
  simp only [tkM]
  rw [xR_sI, rst_R, xR_sR]
theorem sX6_hangBehind (h : hgS M t KK ψ r a F v X qs (q :: sp) nd ky) (hs : sto M s d db w rb w2 rb2 ta D pw tr tk) (he : e < 256) (hp : p < 256)
    (hQ : ∀ M1, hgS M1 t KK ψ r a F v X (qs ++ [(q, e, p)]) sp (nd + 1) ky → sto M1 s d db w rb w2 rb2 ta D pw tr (if 2 ≤ p ∧ tk p = false then va_up tk p true else tk) → xag (fun x => x = t ∨ x = a ∨ (x = q ∨ x ∈ qs.map (fun q => q.1)) ∨ x = ta) M M1 → aK M M1 a → Q (some (.int (if 2 ≤ p ∧ tk p = false then 1 else 0))) M1) :
    xSp l g mX6_hangBehind 0 0 [va_rf (some s), va_rf (qs.map (fun q => q.1)).getLast?, va_rf (some q), va_rf (some a), .int (nI e), .int (nI p)] (tkM M t q nd) Q := by
  obtain ⟨⟨⟨t1, t2, t3, t4⟩, ⟨c1, c2, c3, c4⟩, k1, k2⟩, hn, hq, hnd, haK, hasp⟩ := id h
  obtain ⟨⟨n1, n2, n3, n4⟩, ⟨m1, m2⟩, ⟨i2, i3, i4, i5⟩, ch, hch, x12, x256⟩ := id hn
  obtain ⟨q1, q2⟩ := List.nodup_cons.mp c2
  have hqK := c3 q List.mem_cons_self
  have hqa : xat M q 1 := (k1 q hqK).1
  have htq : t ≠ q := ne_of_kind t1.2 hqa.2 (by decide)
  have hta : t ≠ a := ne_of_kind t1.2 n1.2 (by decide)
  have haq : a ≠ q := fun z => hasp (by rw [z]; exact List.mem_cons_self)
  have hqs : ∀ c ∈ qs, c.1 ≠ q := fun c hc z => (hq c hc).2.1 (by rw [z]; exact List.mem_cons_self)
  have hqst : ∀ c ∈ qs, c.1 ≠ t := fun c hc => ne_of_kind (hch c hc).1.2 t1.2 (by decide)
  have hag := tk_ag (M := M) (t := t) (nd := nd) q
  have hat : ∀ x k, xat M x k → xat (tkM M t q nd) x k := fun x k z => hag.at.mpr z
  -- the world behind hangBehind, but for the page
  obtain ⟨M3, hM3, eL, eK, eN, eJ, eI, eR⟩ : ∃ M3 : xM, (∀ {Q1 : Option Value → xM → Prop}, Q1 none M3 → xSp l g mX3_setNextOf 0 0 [va_rf (some a), va_rf (qs.map (fun q => q.1)).getLast?, va_rf (some q)] (xsR (xsI (xsI (tkM M t q nd) q 6 (nI e)) q 7 (nI p)) q 9 (some a)) Q1) ∧ xL M3 = xL M ∧ xK M3 = xK M ∧ xN M3 = xN M ∧ (∀ x j, xJ M3 x j = xJ (tkM M t q nd) x j) ∧ (∀ x j, xI M3 x j = if x = q ∧ j = 7 then nI p else if x = q ∧ j = 6 then nI e else xI (tkM M t q nd) x j) ∧
      (∀ x j, xR M3 x j = if (qs.map (fun q => q.1)).getLast? = none ∧ x = a ∧ j = 10 then some q else if (qs.map (fun q => q.1)).getLast? = some x ∧ j = 11 then some q else if x = q ∧ j = 9 then some a else xR (tkM M t q nd) x j) := by
    have eS : xL (tkM M t q nd) = xL M ∧ xK (tkM M t q nd) = xK M ∧ xN (tkM M t q nd) = xN M := ⟨hag.1.1, hag.1.2.1, hag.1.2.2.1⟩
    cases hl : (qs.map (fun q => q.1)).getLast? with
    | none =>
      refine ⟨xsR (xsR (xsI (xsI (tkM M t q nd) q 6 (nI e)) q 7 (nI p)) q 9 (some a)) a 10 (some q), fun hQ1 => eX3_setNextOf _ _ _ (bX3_setNextOf_0 _ _ _ ⟨fun z => absurd rfl z, fun _ => ⟨hat _ _ n1, hQ1⟩⟩), by rw [xL_sR, xL_sR, xL_sI, xL_sI]; exact eS.1, by rw [xK_sR, xK_sR, xK_sI, xK_sI]; exact eS.2.1, by rw [xN_sR, xN_sR, xN_sI, xN_sI]; exact eS.2.2, fun x j => rfl, fun x j => ?_, fun x j => ?_⟩
      · rw [xI_sR, xI_sR, xI_sI, xI_sI]
      · rw [xR_sR, xR_sR, xR_sI, xR_sI]
        by_cases hz : x = a ∧ j = 10
        · rw [if_pos hz, if_pos ⟨rfl, hz⟩]
        · rw [if_neg hz, if_neg (show ¬ ((none : Option Nat) = none ∧ x = a ∧ j = 10) from fun w => hz w.2), if_neg (show ¬ ((none : Option Nat) = some x ∧ j = 11) from fun w => by cases w.1)]
    | some b =>
      obtain ⟨c, hc, ec⟩ := List.mem_map.mp (List.mem_of_getLast? hl)
      refine ⟨xsR (xsR (xsI (xsI (tkM M t q nd) q 6 (nI e)) q 7 (nI p)) q 9 (some a)) b 11 (some q), fun hQ1 => eX3_setNextOf _ _ _ (bX3_setNextOf_0 _ _ _ ⟨fun _ => ⟨b, rfl, hat _ _ (by rw [← ec]; exact (hch c hc).1), hQ1⟩, fun z => by cases z⟩), by rw [xL_sR, xL_sR, xL_sI, xL_sI]; exact eS.1, by rw [xK_sR, xK_sR, xK_sI, xK_sI]; exact eS.2.1, by rw [xN_sR, xN_sR, xN_sI, xN_sI]; exact eS.2.2, fun x j => rfl, fun x j => ?_, fun x j => ?_⟩
      · rw [xI_sR, xI_sR, xI_sI, xI_sI]
      · rw [xR_sR, xR_sR, xR_sI, xR_sI]
        by_cases hz : x = b ∧ j = 11
        · rw [if_pos hz, if_neg (show ¬ (some b = none ∧ x = a ∧ j = 10) from fun w => by cases w.1), if_pos (show some b = some x ∧ j = 11 from ⟨by rw [hz.1], hz.2⟩)]
        · rw [if_neg hz, if_neg (show ¬ (some b = none ∧ x = a ∧ j = 10) from fun w => by cases w.1), if_neg (show ¬ (some b = some x ∧ j = 11) from fun w => hz ⟨(Option.some.inj w.1).symm, w.2⟩)]
  have hat3 : ∀ x k, xat M x k → xat M3 x k := fun x k z => ⟨by rw [eL]; exact z.1, by rw [eK]; exact z.2⟩
  have e5 : xI M3 a 5 = nI qs.length := by
    rw [eI, if_neg (fun z => haq z.1), if_neg (fun z => haq z.1), tkI, if_neg (fun z => hta z.1.symm), if_neg (fun z => haq z.1)]; exact i5
  have hs3 : xat M3 s 3 := hat3 _ _ hs.1.1
  refine eX6_hangBehind _ _ _ _ _ _ (bX6_hangBehind_0 _ _ _ _ _ _ ⟨q, rfl, hat _ _ hqa, a, rfl, hat _ _ n1, hM3 ⟨rfl, hat3 _ _ n1, hs3, ?_⟩⟩)
  rw [e5, nI_1]
  -- all cells of that world
  have gI : ∀ x j, xI (xsI M3 a 5 (nI (qs.length + 1))) x j = if x = a ∧ j = 5 then nI (qs.length + 1) else if x = q ∧ j = 7 then nI p else if x = q ∧ j = 6 then nI e else if x = t ∧ j = 3 then nI (nd + 1) else if x = q ∧ (1 ≤ j ∧ j ≤ 8 ∧ j ≠ 4) then (if j = 2 then 1 else 0) else xI M x j := fun x j => by rw [xI_sI, eI, tkI]
  have gJ : ∀ x j, xJ (xsI M3 a 5 (nI (qs.length + 1))) x j = if x = q ∧ j = 4 then 0 else xJ M x j := fun x j => by rw [xJ_sI, eJ, tkJ]
  have gR : ∀ x j, xR (xsI M3 a 5 (nI (qs.length + 1))) x j = if (qs.map (fun q => q.1)).getLast? = none ∧ x = a ∧ j = 10 then some q else if (qs.map (fun q => q.1)).getLast? = some x ∧ j = 11 then some q else if x = q ∧ j = 9 then some a else if x = q ∧ (9 ≤ j ∧ j ≤ 11) then none else if x = t ∧ j = 1 then xR M q 11 else xR M x j := fun x j => by rw [xR_sI, eR, tkR]
  have hlast : ∀ x, (qs.map (fun q => q.1)).getLast? = some x → ∃ c ∈ qs, c.1 = x := fun x hx => by
    obtain ⟨c, hc, ec⟩ := List.mem_map.mp (List.mem_of_getLast? hx)
    exact ⟨c, hc, ec⟩
  have gS : xL (xsI M3 a 5 (nI (qs.length + 1))) = xL M ∧ xK (xsI M3 a 5 (nI (qs.length + 1))) = xK M ∧ xN (xsI M3 a 5 (nI (qs.length + 1))) = xN M := ⟨eL, eK, eN⟩
  generalize xsI M3 a 5 (nI (qs.length + 1)) = M4 at *
  have hat4 : ∀ x k, xat M x k → xat M4 x k := fun x k z => ⟨by rw [gS.1]; exact z.1, by rw [gS.2.1]; exact z.2⟩
  have gR0 : ∀ x, xR M4 x 0 = xR M x 0 := fun x => by
    rw [gR, if_neg (fun z => absurd z.2.2 (by decide)), if_neg (fun z => absurd z.2 (by decide)), if_neg (fun z => absurd z.2 (by decide)), if_neg (fun z => by omega), if_neg (fun z => absurd z.2 (by decide))]
  have hx40 : xag (fun x => x = t ∨ x = a ∨ (x = q ∨ x ∈ qs.map (fun q => q.1)) ∨ x = ta) M M4 := by
    refine ⟨⟨gS.1, gS.2.1, gS.2.2, gR0⟩, fun x hx => ?_⟩
    have x1 : x ≠ t := fun z => hx (Or.inl z)
    have x2 : x ≠ q := fun z => hx (Or.inr (Or.inr (Or.inl (Or.inl z))))
    have x3 : x ≠ a := fun z => hx (Or.inr (Or.inl z))
    have x4 : (qs.map (fun q => q.1)).getLast? ≠ some x := fun z => hx (Or.inr (Or.inr (Or.inl (Or.inr (List.mem_of_getLast? z)))))
    refine ⟨fun j => ?_, fun j => ?_, fun j => ?_⟩
    · rw [gI, if_neg (fun z => x3 z.1), if_neg (fun z => x2 z.1), if_neg (fun z => x2 z.1), if_neg (fun z => x1 z.1), if_neg (fun z => x2 z.1)]
    · rw [gJ, if_neg (fun z => x2 z.1)]
    · rw [gR, if_neg (fun z => x3 z.2.1), if_neg (fun z => x4 z.1), if_neg (fun z => x2 z.1), if_neg (fun z => x2 z.1), if_neg (fun z => x1 z.1)]
  have hx4 : xag (fun x => RG t KK ψ x ∨ x = ta) M M4 := hx40.mono (fun x z => by
    rcases z with z | z | (z | z) | z
    · rw [z]; exact Or.inl RGt
    · rw [z]; exact Or.inl (RGk haK)
    · rw [z]; exact Or.inl (RGk hqK)
    · obtain ⟨c, hc, ec⟩ := List.mem_map.mp z
      rw [← ec]; exact Or.inl (RGk (hq c hc).1)
    · exact Or.inr z)
  have hx4G : xag (RG t KK ψ) M M4 := by
    refine ⟨hx40.1, fun x hx => ?_⟩
    by_cases hxt : x = ta
    · have x1 : x ≠ t := fun z => hx (by rw [z]; exact RGt)
      have x2 : x ≠ q := fun z => hx (by rw [z]; exact RGk hqK)
      have x3 : x ≠ a := fun z => hx (by rw [z]; exact RGk haK)
      have x4 : (qs.map (fun q => q.1)).getLast? ≠ some x := fun z => by
        obtain ⟨c, hc, ec⟩ := hlast x z
        exact hx (by rw [← ec]; exact RGk (hq c hc).1)
      refine ⟨fun j => ?_, fun j => ?_, fun j => ?_⟩
      · rw [gI, if_neg (fun z => x3 z.1), if_neg (fun z => x2 z.1), if_neg (fun z => x2 z.1), if_neg (fun z => x1 z.1), if_neg (fun z => x2 z.1)]
      · rw [gJ, if_neg (fun z => x2 z.1)]
      · rw [gR, if_neg (fun z => x3 z.2.1), if_neg (fun z => x4 z.1), if_neg (fun z => x2 z.1), if_neg (fun z => x2 z.1), if_neg (fun z => x1 z.1)]
    · exact hx4.2 x (fun z => z.elim hx hxt)
  have hRGs : ∀ {x k : Nat}, xat M x k → k ≠ 5 → k ≠ 1 → k ≠ 9 → ¬ RG t KK ψ x := fun {x k} hx h5 h1 h9 z => by
    rcases z with z | z | ⟨b, hb, z⟩
    · exact ne_of_kind hx.2 t1.2 h5 z
    · exact ne_of_kind hx.2 (k1 _ z).1.2 h1 rfl
    · exact ne_of_kind hx.2 (k1 _ hb).2.2.1.2 h9 z
  have hs4 : sto M4 s d db w rb w2 rb2 ta D pw tr tk := by
    obtain ⟨⟨a1, a2, a3, a4, a5⟩, b, ⟨f1, c1⟩, ⟨f2, c2⟩, ⟨e1, e2, e3⟩, g1⟩ := id hs
    exact hs.ag hx4G (hRGs a1 (by decide) (by decide) (by decide)) (hRGs b.1.1 (by decide) (by decide) (by decide)) (hRGs b.1.2.2.1 (by decide) (by decide) (by decide)) (hRGs c1.1.2.2.1 (by decide) (by decide) (by decide)) (hRGs c2.1.2.2.1 (by decide) (by decide) (by decide)) (hRGs e1 (by decide) (by decide) (by decide))
  -- the state then
  have hpa : ψ a ≠ a := ne_of_kind n3.2 n1.2 (by decide)
  have hpq : ψ a ≠ q := ne_of_kind n3.2 hqa.2 (by decide)
  have hpt : ψ a ≠ t := ne_of_kind n3.2 t1.2 (by decide)
  have hI4a : ∀ j, j ≠ 5 → xI M4 a j = xI M a j := fun j hj => by
    rw [gI, if_neg (fun z => hj z.2), if_neg (fun z => haq z.1), if_neg (fun z => haq z.1), if_neg (fun z => hta z.1.symm), if_neg (fun z => haq z.1)]
  have hIc : ∀ c ∈ qs, ∀ j, xI M4 c.1 j = xI M c.1 j := fun c hc j => by
    rw [gI, if_neg (fun z => (hq c hc).2.2.1 z.1), if_neg (fun z => hqs c hc z.1), if_neg (fun z => hqs c hc z.1), if_neg (fun z => hqst c hc z.1), if_neg (fun z => hqs c hc z.1)]
  have hRc : ∀ c ∈ qs, ∀ j, j ≠ 11 → xR M4 c.1 j = xR M c.1 j := fun c hc j hj => by
    rw [gR, if_neg (fun z => (hq c hc).2.2.1 z.2.1), if_neg (fun z => hj z.2), if_neg (fun z => hqs c hc z.1), if_neg (fun z => hqs c hc z.1), if_neg (fun z => hqst c hc z.1)]
  have hq6 : xI M4 q 6 = nI e := by rw [gI, if_neg (fun z => haq z.1.symm), if_neg (fun z => absurd z.2 (by decide)), if_pos ⟨rfl, rfl⟩]
  have hq7 : xI M4 q 7 = nI p := by rw [gI, if_neg (fun z => haq z.1.symm), if_pos ⟨rfl, rfl⟩]
  have hqj : ∀ j, 1 ≤ j → j ≤ 8 → j ≠ 4 → j ≠ 6 → j ≠ 7 → xI M4 q j = if j = 2 then 1 else 0 := fun j j1 j2 j3 j4 j5 => by
    rw [gI, if_neg (fun z => haq z.1.symm), if_neg (fun z => j5 z.2), if_neg (fun z => j4 z.2), if_neg (fun z => htq z.1.symm), if_pos ⟨rfl, j1, j2, j3⟩]
  have hnoq : (qs.map (fun q => q.1)).getLast? ≠ some q := fun z => by
    obtain ⟨c, hc, ec⟩ := hlast q z
    exact hqs c hc ec
  have hqR11 : xR M4 q 11 = none := by rw [gR, if_neg (fun z => absurd z.2.2 (by decide)), if_neg (fun z => hnoq z.1), if_neg (fun z => absurd z.2 (by decide)), if_pos ⟨rfl, by omega⟩]
  have hH4 : hgS M4 t KK ψ r a F v X (qs ++ [(q, e, p)]) sp (nd + 1) ky := by
    refine ⟨⟨⟨hat4 _ _ t1, ?_, ?_, ?_⟩, ⟨?_, q2, fun x hx => c3 x (List.mem_cons_of_mem _ hx), ?_⟩, fun x hx => ?_, k2⟩, ⟨⟨hat4 _ _ n1, by rw [gR0]; exact n2, hat4 _ _ n3, by rw [gS.2.2]; exact n4⟩, ⟨by rw [hI4a 1 (by decide)]; exact m1, fun i hi => ?_⟩, ⟨by rw [hI4a 2 (by decide)]; exact i2, by rw [hI4a 3 (by decide)]; exact i3, by rw [gJ, if_neg (fun z => haq z.1)]; exact i4, ?_⟩, ?_, fun c hc => ?_, x12, x256⟩, fun c hc => ?_, ?_, haK, fun z => hasp (List.mem_cons_of_mem _ z)⟩
    · rw [gR, if_neg (fun z => absurd z.2.2 (by decide)), if_neg (fun z => absurd z.2 (by decide)), if_neg (fun z => absurd z.2 (by decide)), if_neg (fun z => by omega), if_neg (fun z => absurd z.2 (by decide))]; exact t2
    · rw [gI, if_neg (fun z => absurd z.2 (by decide)), if_neg (fun z => absurd z.2 (by decide)), if_neg (fun z => absurd z.2 (by decide)), if_pos ⟨rfl, rfl⟩]
    · rw [gI, if_neg (fun z => absurd z.2 (by decide)), if_neg (fun z => absurd z.2 (by decide)), if_neg (fun z => absurd z.2 (by decide)), if_neg (fun z => absurd z.2 (by decide)), if_neg (fun z => htq z.1)]; exact t4
    · have e1 : xR M4 t 1 = xR M q 11 := by
        rw [gR, if_neg (fun z => absurd z.2.2 (by decide)), if_neg (fun z => absurd z.2 (by decide)), if_neg (fun z => absurd z.2 (by decide)), if_neg (fun z => by omega), if_pos ⟨rfl, rfl⟩]
      rw [e1]
      refine chS_fr c1.2 (fun x hx => ?_)
      have hxq : x ≠ q := fun z => q1 (z ▸ hx)
      rw [gR, if_neg (fun z => absurd z.2.2 (by decide)), if_neg (fun z => ?_), if_neg (fun z => hxq z.1), if_neg (fun z => hxq z.1), if_neg (fun z => absurd z.2 (by decide))]
      obtain ⟨c, hc, ec⟩ := hlast x z.1
      exact (hq c hc).2.1 (by rw [ec]; exact List.mem_cons_of_mem _ hx)
    · rw [List.length_cons] at c4; omega
    · obtain ⟨d1, d2, d3, d4⟩ := k1 x hx
      exact ⟨hat4 _ _ d1, by rw [gR0]; exact d2, hat4 _ _ d3, by rw [gS.2.2]; exact d4⟩
    · rw [gI, if_neg (fun z => hpa z.1), if_neg (fun z => hpq z.1), if_neg (fun z => hpq z.1), if_neg (fun z => hpt z.1), if_neg (fun z => hpq z.1)]; exact m2 i hi
    · rw [gI, if_pos ⟨rfl, rfl⟩]; simp
    · rw [List.map_append]
      have htail : chS M4 (some q) [q] := ⟨rfl, hqR11⟩
      have hch0 : chS M (xR M a 10) (qs.map (fun q => q.1) ++ []) := by rw [List.append_nil]; exact ch
      have := chS_relink htail (qs.map (fun q => q.1)) (xR M a 10) hch0 hnd (fun x hx => by
        obtain ⟨c, hc, ec⟩ := List.mem_map.mp hx
        rw [gR, if_neg (fun z => absurd z.2.2 (by decide))]
        by_cases hz : (qs.map (fun q => q.1)).getLast? = some x
        · rw [if_pos ⟨hz, rfl⟩, if_pos hz]
        · rw [if_neg (fun z => hz z.1), if_neg hz, ← ec, if_neg (fun z => absurd z.2 (by decide)), if_neg (fun z => hqs c hc z.1), if_neg (fun z => absurd z.2 (by decide))])
      have he10 : xR M4 a 10 = if (qs.map (fun q => q.1)).getLast? = none then some q else xR M a 10 := by
        rw [gR]
        by_cases hz : (qs.map (fun q => q.1)).getLast? = none
        · rw [if_pos ⟨hz, rfl, rfl⟩, if_pos hz]
        · rw [if_neg (fun w => hz w.1), if_neg (fun w => absurd w.2 (by decide)), if_neg (fun w => absurd w.2 (by decide)), if_neg (fun w => haq w.1), if_neg (fun w => hta w.1.symm), if_neg hz]
      rw [he10]; exact this
    · rcases List.mem_append.mp hc with hc | hc
      · obtain ⟨f1, f2, f3, f4⟩ := hch c hc
        exact ⟨hat4 _ _ f1, by rw [hIc c hc]; exact f2, by rw [hIc c hc]; exact f3, f4⟩
      · rw [List.mem_singleton.mp hc]
        exact ⟨hat4 _ _ hqa, hq6, hq7, he, hp⟩
    · rcases List.mem_append.mp hc with hc | hc
      · obtain ⟨f1, f2, f3, f4, f5, f6, f7, f8, f9, f10, f11⟩ := hq c hc
        exact ⟨f1, fun z => f2 (List.mem_cons_of_mem _ z), f3, by rw [hIc c hc]; exact f4, by rw [hIc c hc]; exact f5, by rw [hIc c hc]; exact f6, by rw [gJ, if_neg (fun z => hqs c hc z.1)]; exact f7, by rw [hIc c hc]; exact f8, by rw [hIc c hc]; exact f9, by rw [hRc c hc _ (by decide)]; exact f10, by rw [hRc c hc _ (by decide)]; exact f11⟩
      · rw [List.mem_singleton.mp hc]
        refine ⟨hqK, q1, Ne.symm haq, hqj 1 (by omega) (by omega) (by omega) (by omega) (by omega), hqj 2 (by omega) (by omega) (by omega) (by omega) (by omega), hqj 3 (by omega) (by omega) (by omega) (by omega) (by omega), by rw [gJ, if_pos ⟨rfl, rfl⟩], hqj 5 (by omega) (by omega) (by omega) (by omega) (by omega), hqj 8 (by omega) (by omega) (by omega) (by omega) (by omega), ?_, ?_⟩
        · rw [gR, if_neg (fun z => absurd z.2.2 (by decide)), if_neg (fun z => absurd z.2 (by decide)), if_pos ⟨rfl, rfl⟩]
        · rw [gR, if_neg (fun z => haq z.2.1.symm), if_neg (fun z => absurd z.2 (by decide)), if_neg (fun z => absurd z.2 (by decide)), if_pos ⟨rfl, by omega⟩]
    · rw [List.map_append, List.nodup_append]
      refine ⟨hnd, by simp, fun x hx y hy z => ?_⟩
      obtain ⟨c, hc, ec⟩ := List.mem_map.mp hx
      have hy2 : y = q := by simpa using hy
      exact hqs c hc (by rw [ec, z, hy2])
  refine sX6_takePage hs4 hp (fun M5 s5 x5 => ⟨_, rfl, ?_, ?_⟩)
  · split
    · exact Or.inr rfl
    · exact Or.inl rfl
  have hta5 : ∀ {x k : Nat}, xat M4 x k → k ≠ 11 → ¬ x = ta := fun hx hk => ne_of_kind hx.2 hs4.2.2.2.2.1.1.2 hk
  have haK4 : aK M M4 a := ⟨hI4a, fun j hj => by rw [gR, if_neg (fun z => hj z.2.2), if_neg (fun z => (hlast a z.1).elim (fun c hc => (hq c hc.1).2.2.1 hc.2)), if_neg (fun z => haq z.1), if_neg (fun z => haq z.1), if_neg (fun z => hta z.1.symm)]⟩
  obtain ⟨y1, y2, y3⟩ := x5.2 a (hta5 (hat4 _ _ n1) (by decide))
  refine hQ M5 ?_ s5 (hx40.trans (x5.mono (fun x z => Or.inr (Or.inr (Or.inr z))))) (haK4.trans ⟨fun j _ => y1 j, fun j _ => y3 j⟩)
  obtain ⟨⟨⟨t1', t2', t3', t4'⟩, ⟨c1', c2', c3', c4'⟩, k1', k2'⟩, hn', hq', hnd', haK', hasp'⟩ := id hH4
  obtain ⟨p1, p2, p3⟩ := x5.2 t (hta5 t1' (by decide))
  refine ⟨⟨⟨x5.at.mpr t1', by rw [p3]; exact t2', by rw [p1]; exact t3', by rw [p1]; exact t4'⟩, ⟨?_, c2', c3', c4'⟩, fun x hx => ?_, k2'⟩, hn'.ag x5 (hta5 hn'.1.1 (by decide)) (hta5 hn'.1.2.2.1 (by decide)) (fun c hc => hta5 (hn'.2.2.2.2.1 c hc).1 (by decide)), fun c hc => ?_, hnd', haK', hasp'⟩
  · rw [p3]; exact chS_fr c1' (fun x hx => (x5.2 x (hta5 (k1' x (c3' x hx)).1 (by decide))).2.2 11)
  · obtain ⟨d1, d2, d3, d4⟩ := k1' x hx
    exact ⟨x5.at.mpr d1, by rw [x5.1.2.2.2]; exact d2, x5.at.mpr d3, by rw [x5.1.2.2.1]; exact d4⟩
  · obtain ⟨f1, f2, f3, f4⟩ := hq' c hc
    obtain ⟨r1, r2, r3⟩ := x5.2 c.1 (hta5 (k1' c.1 f1).1 (by decide))
    refine ⟨f1, f2, f3, ?_⟩
    simpa only [qN, r1, r2, r3] using f4
end HB
