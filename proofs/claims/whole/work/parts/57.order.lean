/-! The bytes of a node's key; which keys begin with a row, which come before it. -/
def tKf (T : TT) : Nat → Nat → List Nat
  | 0, n => tX T n
  | f + 1, n => match tP T n with | none => tX T n | some p => tKf T f p ++ tB T n :: tX T n
def tKey (T : TT) (n : Nat) : List Nat := tKf T 12 n
/-- the bytes that lead to a node -/
def tPth (T : TT) (n : Nat) : List Nat := match tP T n with | none => [] | some p => tKey T p ++ [tB T n]
theorem tKf_fuel {T : TT} (hW : tWF T) : ∀ (f k n : Nat), tU T n = true → tL T n ≤ f → tKf T (f + k) n = tKf T f n
  | 0, k, n, hn, hf => by
    have hr : tP T n = none := by
      cases hp : tP T n with
      | none => rfl
      | some p =>
        have := (hW.2.2.2.1 n p hn hp).2.2
        omega
    cases k with
    | zero => rfl
    | succ k => rw [Nat.zero_add]; simp [tKf, hr]
  | f + 1, k, n, hn, hf => by
    rw [show f + 1 + k = (f + k) + 1 by omega]
    simp only [tKf]
    cases hp : tP T n with
    | none => rfl
    | some p =>
      obtain ⟨h1, h2, h3⟩ := hW.2.2.2.1 n p hn hp
      simp only [tKf_fuel hW f k p h1 (by omega)]
theorem tKey_eq {T : TT} (hW : tWF T) {n : Nat} (hn : tU T n = true) : tKey T n = tPth T n ++ tX T n := by
  unfold tKey tPth
  cases hp : tP T n with
  | none =>
    rw [show (12 : Nat) = 11 + 1 from rfl, tKf, hp]
    rfl
  | some p =>
    obtain ⟨h1, h2, h3⟩ := hW.2.2.2.1 n p hn hp
    have h4 := (hW.2.1 n hn).2.2.2
    have h5 : tKf T 12 p = tKf T 11 p := tKf_fuel hW 11 1 p h1 (by omega)
    have h6 : tKf T 12 n = tKf T 11 p ++ tB T n :: tX T n := by rw [show (12 : Nat) = 11 + 1 from rfl, tKf, hp]
    rw [h6, ← h5]
    show _ = (tKf T 12 p ++ [tB T n]) ++ tX T n
    rw [List.append_assoc]
    rfl
theorem tKf_len {T : TT} (hW : tWF T) : ∀ (f n : Nat), tU T n = true → tL T n ≤ f → (tKf T f n).length = tL T n + (tX T n).length
  | f, n, hn, hf => by
    cases hp : tP T n with
    | none =>
      have hr : tL T n = 0 := by
        have : n = tO T := by
          apply Classical.byContradiction
          intro hne
          obtain ⟨q, hq2, -⟩ := hW.2.2.1 n hn hne
          rw [hp] at hq2; cases hq2
        rw [this]; exact hW.1.2.2
      rw [hr, Nat.zero_add]
      cases f with
      | zero => rfl
      | succ f => simp only [tKf, hp]
    | some p =>
      obtain ⟨h1, h2, h3⟩ := hW.2.2.2.1 n p hn hp
      match f, hf with
      | 0, hf => omega
      | f + 1, hf =>
        simp only [tKf, hp, List.length_append, List.length_cons]
        rw [tKf_len hW f p h1 (by omega)]
        omega
theorem tKey_len {T : TT} (hW : tWF T) {n : Nat} (hn : tU T n = true) : (tKey T n).length = tL T n + (tX T n).length :=
  tKf_len hW 12 n hn (tX_le hW hn).2
theorem tPth_len {T : TT} (hW : tWF T) {n : Nat} (hn : tU T n = true) : (tPth T n).length = tL T n := by
  have h1 := tKey_len hW hn
  rw [tKey_eq hW hn, List.length_append] at h1
  omega
theorem tPth_child {T : TT} {n c : Nat} (hp : tP T c = some n) : tPth T c = tKey T n ++ [tB T c] := by
  simp only [tPth, hp]
theorem tE_key {T : TT} (hW : tWF T) : ∀ (f n : Nat), tU T n = true → ∀ x ∈ tE T f n, ∃ r, tKey T x = tPth T n ++ (tX T n ++ r)
  | 0, n, hn, x, hx => by
    simp only [tE, List.mem_singleton] at hx
    exact ⟨[], by rw [hx, tKey_eq hW hn, List.append_nil]⟩
  | f + 1, n, hn, x, hx => by
    simp only [tE, List.mem_cons, List.mem_flatMap] at hx
    rcases hx with rfl | ⟨d, hd, hx⟩
    · exact ⟨[], by rw [tKey_eq hW hn, List.append_nil]⟩
    · obtain ⟨h1, h2⟩ := hW.2.2.2.2.1 n d hn hd
      obtain ⟨r, hr⟩ := tE_key hW f d h1 x hx
      exact ⟨tB T d :: (tX T d ++ r), by rw [hr, tPth_child h2, tKey_eq hW hn]; simp⟩
theorem tKey_lt {T : TT} (hW : tWF T) : ∀ (f n : Nat), tU T n = true → ∀ b ∈ tKf T f n, b < 256
  | 0, n, hn, b, hb => (hW.2.1 n hn).2.2.1 b hb
  | f + 1, n, hn, b, hb => by
    simp only [tKf] at hb
    cases hp : tP T n with
    | none => rw [hp] at hb; exact (hW.2.1 n hn).2.2.1 b hb
    | some p =>
      rw [hp] at hb
      rcases List.mem_append.mp hb with hb | hb
      · exact tKey_lt hW f p (hW.2.2.2.1 n p hn hp).1 b hb
      · rcases List.mem_cons.mp hb with rfl | hb
        · exact (hW.2.1 n hn).2.1
        · exact (hW.2.1 n hn).2.2.1 b hb
theorem lcp_app (a b : List Nat) : ∀ p : List Nat, lcp (p ++ a) (p ++ b) = p.length + lcp a b
  | [] => by simp
  | x :: p => by
    simp only [List.cons_append, lcp, if_true, List.length_cons, lcp_app a b p]
    omega
theorem lcp_more : ∀ (x y r : List Nat), lcp x r < x.length ∨ lcp x r = r.length → lcp (x ++ y) r = lcp x r
  | [], y, [], _ => by simp [lcp_nil]
  | [], y, b :: r, h => by simp [lcp] at h
  | a :: x, y, [], _ => by simp [lcp_nil]
  | a :: x, y, b :: r, h => by
    simp only [List.cons_append, lcp] at h ⊢
    by_cases hab : a = b
    · simp only [if_pos hab, List.length_cons] at h ⊢
      rw [lcp_more x y r (by omega)]
    · simp only [if_neg hab]
theorem lcp_ne : ∀ (x r : List Nat), lcp x r < x.length → lcp x r < r.length → x.getD (lcp x r) 0 ≠ r.getD (lcp x r) 0
  | [], r, h, _ => by simp [lcp] at h
  | a :: x, [], _, h => by simp [lcp] at h
  | a :: x, b :: r, h1, h2 => by
    by_cases hab : a = b
    · simp only [lcp, if_pos hab, List.length_cons] at h1 h2 ⊢
      simpa using lcp_ne x r (by omega) (by omega)
    · simp only [lcp, if_neg hab]
      simpa using hab
theorem lcp_take : ∀ (x r : List Nat), x.take (lcp x r) = r.take (lcp x r)
  | [], r => by simp [lcp]
  | a :: x, [] => by simp [lcp]
  | a :: x, b :: r => by
    by_cases hab : a = b
    · subst hab
      simp only [lcp, if_true, List.take_succ_cons, lcp_take x r]
    · simp [lcp, if_neg hab]
/-- the row a comes before the row b -/
def kbf (a b : List Nat) : Bool := decide (lcp a b < b.length ∧ (lcp a b = a.length ∨ a.getD (lcp a b) 0 < b.getD (lcp a b) 0))
/-- the row a begins with the row b -/
def kbg (a b : List Nat) : Bool := decide (lcp a b = b.length)
theorem gDa (p q : List Nat) (i : Nat) : (p ++ q).getD (p.length + i) 0 = q.getD i 0 := by
  simp only [List.getD_eq_getElem?_getD]
  rw [List.getElem?_append_right (by omega)]
  simp
theorem kbf_app (p a b : List Nat) : kbf (p ++ a) (p ++ b) = kbf a b := by
  unfold kbf
  rw [lcp_app, gDa, gDa]
  congr 1
  simp only [List.length_append]
  apply propext
  constructor
  · rintro ⟨h1, h2⟩; exact ⟨by omega, h2.imp (by omega) id⟩
  · rintro ⟨h1, h2⟩; exact ⟨by omega, h2.imp (by omega) id⟩
theorem kbg_app (p a b : List Nat) : kbg (p ++ a) (p ++ b) = kbg a b := by
  unfold kbg
  rw [lcp_app]
  congr 1
  simp only [List.length_append]
  apply propext
  omega
/-- where a child's byte differs from the row's -/
theorem lcp_off (x y r : List Nat) (b : Nat) (h : lcp x r = x.length) (hr : x.length < r.length) (hb : b ≠ r.getD x.length 0) : lcp (x ++ b :: y) r = x.length := by
  have e := lcp_take x r
  rw [h, List.take_length] at e
  have er : r = x ++ (r.getD x.length 0 :: r.drop (x.length + 1)) := by
    conv => lhs; rw [← List.take_append_drop x.length r, ← e, dropD hr]
  generalize r.getD x.length 0 = z at *
  rw [er, lcp_app]
  simp [lcp, if_neg hb]
theorem kbf_at {a b : List Nat} {m : Nat} (h : lcp a b = m) (h1 : m < b.length) (h2 : m < a.length) : kbf a b = decide (a.getD m 0 < b.getD m 0) := by
  unfold kbf
  rw [h]
  congr 1
  apply propext
  exact ⟨fun q => q.2.resolve_left (by omega), fun q => ⟨h1, Or.inr q⟩⟩
theorem gDl (p q : List Nat) {i : Nat} (h : i < p.length) : (p ++ q).getD i 0 = p.getD i 0 := by
  simp only [List.getD_eq_getElem?_getD]
  rw [List.getElem?_append_left h]
/-- the first node whose keys do not come before the one sought -/
def tFa (T : TT) (key : List Nat) (s m w : Nat) : Option Nat := if key.length ≤ w then some s else if m < (tX T s).length then (if key.getD w 0 < (tX T s).getD m 0 then some s else tH T 13 s) else match tK T s (key.getD w 0) with | some c => some c | none => tH T 13 s
theorem tK_none {T : TT} {n b : Nat} (h : tK T n b = none) : ∀ c ∈ tC T n, tB T c < b := by
  intro c hc
  have := List.find?_eq_none.mp h c hc
  simpa using this
theorem tK_some {T : TT} {n b k : Nat} (h : tK T n b = some k) : b ≤ tB T k ∧ ∃ l1 l2, tC T n = l1 ++ k :: l2 ∧ ∀ c ∈ l1, tB T c < b := by
  obtain ⟨h1, l1, l2, h2, h3⟩ := List.find?_eq_some_iff_append.mp h
  exact ⟨by simpa using h1, l1, l2, h2, fun c hc => by simpa using h3 c hc⟩
section AH
variable {T : TT} {key : List Nat}
/-- the nodes below a child, by its byte -/
theorem below_bf (hW : tWF T) {n u c f : Nat} (hn : tU T n = true) (hpt : key.take u = tPth T n) (hl : lcp (tX T n) (key.drop u) = (tX T n).length) (hw : u + (tX T n).length < key.length) (hc : c ∈ tC T n) (hb : tB T c ≠ key.getD (u + (tX T n).length) 0) : ∀ x ∈ tE T f c, kbf (tKey T x) key = decide (tB T c < key.getD (u + (tX T n).length) 0) ∧ kbg (tKey T x) key = false := by
  intro x hx
  obtain ⟨h1, h2⟩ := hW.2.2.2.2.1 n c hn hc
  obtain ⟨r, hr⟩ := tE_key hW f c h1 x hx
  rw [tPth_child h2, tKey_eq hW hn] at hr
  have hk : key = tPth T n ++ key.drop u := by rw [← hpt, List.take_append_drop]
  have hx2 : tKey T x = tPth T n ++ (tX T n ++ tB T c :: (tX T c ++ r)) := by rw [hr]; simp
  have hg : (key.drop u).getD (tX T n).length 0 = key.getD (u + (tX T n).length) 0 := getD_drop _ _ _
  have hlen : (tX T n).length < (key.drop u).length := by rw [List.length_drop]; omega
  have ho := lcp_off (tX T n) (tX T c ++ r) (key.drop u) (tB T c) hl hlen (by rw [hg]; exact hb)
  constructor
  · rw [hx2]
    conv => lhs; rw [hk]
    rw [kbf_app, kbf_at ho hlen (by simp), hg]
    congr 1
    rw [show (tX T n).length = (tX T n).length + 0 by omega, gDa]
    simp
  · rw [hx2]
    conv => lhs; rw [hk]
    rw [kbg_app]
    unfold kbg
    rw [ho]
    simp only [decide_eq_false_iff_not]
    omega
theorem at_bf (hW : tWF T) {n u : Nat} (hn : tU T n = true) (hpt : key.take u = tPth T n) (hl : lcp (tX T n) (key.drop u) = (tX T n).length) (hw : u + (tX T n).length < key.length) : kbf (tKey T n) key = true ∧ kbg (tKey T n) key = false := by
  have hk : key = tPth T n ++ key.drop u := by rw [← hpt, List.take_append_drop]
  have hlen : (tX T n).length < (key.drop u).length := by rw [List.length_drop]; omega
  constructor
  · rw [tKey_eq hW hn]
    conv => lhs; rw [hk]
    rw [kbf_app]
    simp [kbf, hl]; omega
  · rw [tKey_eq hW hn]
    conv => lhs; rw [hk]
    rw [kbg_app]
    unfold kbg
    rw [hl]
    simp only [decide_eq_false_iff_not]
    omega
theorem step_pth (hW : tWF T) {n u k : Nat} (hn : tU T n = true) (hpt : key.take u = tPth T n) (hl : lcp (tX T n) (key.drop u) = (tX T n).length) (hw : u + (tX T n).length < key.length) (hk : k ∈ tC T n) (hb : tB T k = key.getD (u + (tX T n).length) 0) : key.take (u + (tX T n).length + 1) = tPth T k := by
  obtain ⟨h1, h2⟩ := hW.2.2.2.2.1 n k hn hk
  rw [tPth_child h2, tKey_eq hW hn, hb, ← hpt]
  have e := lcp_take (tX T n) (key.drop u)
  rw [hl, List.take_length] at e
  rw [List.append_assoc]
  have hlen : (tX T n).length < (key.drop u).length := by rw [List.length_drop]; omega
  have e2 : (key.drop u).take (tX T n).length ++ [key.getD (u + (tX T n).length) 0] = (key.drop u).take ((tX T n).length + 1) := by
    rw [List.take_add_one, List.getElem?_eq_getElem hlen]
    simp [List.getD_eq_getElem?_getD, List.getElem?_eq_getElem (show u + (tX T n).length < key.length from hw)]
  rw [← e] at e2
  rw [e2]
  rw [show u + (tX T n).length + 1 = u + ((tX T n).length + 1) by omega, List.take_add]
theorem tH_child (hW : tWF T) {n k : Nat} {l1 l3 : List Nat} (hn : tU T n = true) (hl : tC T n = l1 ++ k :: l3) : tH T 13 k = (l3.head?).or (tH T 13 n) := by
  obtain ⟨h1, h2⟩ := hW.2.2.2.2.1 n k hn (by rw [hl]; simp)
  rw [tH_step hW h1, tS_child hW hn hl, h2]
  cases l3 <;> rfl
theorem fm_head {f : Nat} : ∀ (l : List Nat), (l.flatMap (tE T f)).head? = l.head?
  | [] => rfl
  | c :: l => by rw [List.flatMap_cons, List.head?_append, tE_head]; rfl
theorem ahead_split (hW : tWF T) : ∀ (f1 f2 n u : Nat), tU T n = true → 12 ≤ f1 + tL T n → 12 ≤ f2 + tL T n → u ≤ key.length → key.take u = tPth T n →
    ∃ l1 l2, tE T f2 n = l1 ++ l2 ∧ (∀ x ∈ l1, kbf (tKey T x) key = true) ∧ (∀ x ∈ l2, kbf (tKey T x) key = false) ∧ tFa T key (tSk T key f1 n u).1 (tSk T key f1 n u).2.1 (tSk T key f1 n u).2.2 = (l2.head?).or (tH T 13 n)
  | f1, f2, n, u, hn, hf1, hf2, hu, hpt => by
    have hle := lcp_le (tX T n) (key.drop u)
    rw [List.length_drop] at hle
    have hk : key = tPth T n ++ key.drop u := by rw [← hpt, List.take_append_drop]
    -- where the way ends here
    have hend : tSt T key n (lcp (tX T n) (key.drop u)) (u + lcp (tX T n) (key.drop u)) = none → tSk T key f1 n u = (n, lcp (tX T n) (key.drop u), u + lcp (tX T n) (key.drop u)) := fun hs => by
      cases f1 with
      | zero => rfl
      | succ f => simp only [tSk, hs]
    by_cases hA : key.length ≤ u + lcp (tX T n) (key.drop u)
    · rw [hend (by simp only [tSt, if_pos (Or.inr hA)])]
      refine ⟨[], tE T f2 n, rfl, fun x hx => by simp at hx, fun x hx => ?_, ?_⟩
      · obtain ⟨r, hr⟩ := tE_key hW f2 n hn x hx
        rw [hr]
        conv => lhs; rw [hk]
        rw [kbf_app]
        unfold kbf
        rw [lcp_more _ _ _ (Or.inr (by rw [List.length_drop]; omega))]
        simp only [decide_eq_false_iff_not]
        rintro ⟨q, -⟩
        rw [List.length_drop] at q
        omega
      · simp only [tFa, if_pos hA, tE_head]; rfl
    · by_cases hB : lcp (tX T n) (key.drop u) < (tX T n).length
      · rw [hend (by simp only [tSt, if_pos (Or.inl hB)])]
        have hlen : lcp (tX T n) (key.drop u) < (key.drop u).length := by rw [List.length_drop]; omega
        have hne := lcp_ne _ _ hB hlen
        rw [getD_drop] at hne
        have hall : ∀ x ∈ tE T f2 n, kbf (tKey T x) key = decide ((tX T n).getD (lcp (tX T n) (key.drop u)) 0 < key.getD (u + lcp (tX T n) (key.drop u)) 0) := fun x hx => by
          obtain ⟨r, hr⟩ := tE_key hW f2 n hn x hx
          rw [hr]
          conv => lhs; rw [hk]
          rw [kbf_app, kbf_at (lcp_more _ _ _ (Or.inl hB)) hlen (by rw [List.length_append]; omega), gDl _ _ hB, getD_drop]
        simp only [tFa, if_neg hA, if_pos hB]
        by_cases hlt : key.getD (u + lcp (tX T n) (key.drop u)) 0 < (tX T n).getD (lcp (tX T n) (key.drop u)) 0
        · refine ⟨[], tE T f2 n, rfl, fun x hx => by simp at hx, fun x hx => ?_, ?_⟩
          · rw [hall x hx]; simp only [decide_eq_false_iff_not]; omega
          · rw [if_pos hlt, tE_head]; rfl
        · refine ⟨tE T f2 n, [], by simp, fun x hx => ?_, fun x hx => by simp at hx, ?_⟩
          · rw [hall x hx]; simp only [decide_eq_true_eq]; omega
          · rw [if_neg hlt]; rfl
      · have hm : lcp (tX T n) (key.drop u) = (tX T n).length := by omega
        rw [hm] at hA
        have hw : u + (tX T n).length < key.length := by omega
        have hroot := at_bf hW hn hpt hm hw
        cases hK : tK T n (key.getD (u + (tX T n).length) 0) with
        | none =>
          have hall := tK_none hK
          have hs : tSt T key n (lcp (tX T n) (key.drop u)) (u + lcp (tX T n) (key.drop u)) = none := by
            rw [hm]; simp only [tSt]; rw [if_neg (by omega)]; simp only [tKb, hK]
          rw [hend hs, hm]
          refine ⟨tE T f2 n, [], by simp, fun x hx => ?_, fun x hx => by simp at hx, ?_⟩
          · cases f2 with
            | zero =>
              simp only [tE, List.mem_singleton] at hx
              rw [hx]; exact hroot.1
            | succ f2 =>
              simp only [tE, List.mem_cons, List.mem_flatMap] at hx
              rcases hx with rfl | ⟨d, hd, hx⟩
              · exact hroot.1
              · have := hall d hd
                rw [(below_bf hW hn hpt hm hw hd (by omega) x hx).1]
                simpa using this
          · simp only [tFa, if_neg hA, if_neg (Nat.lt_irrefl _), hK]; rfl
        | some k =>
          obtain ⟨hge, l1, l3, hl, hlt⟩ := tK_some hK
          have hkm : k ∈ tC T n := by rw [hl]; simp
          obtain ⟨k1, k2⟩ := hW.2.2.2.2.1 n k hn hkm
          have k3 := (hW.2.2.2.1 k n k1 k2).2.2
          have k4 := (hW.2.1 k k1).2.2.2
          obtain ⟨f2, rfl⟩ : ∃ j, f2 = j + 1 := ⟨f2 - 1, by omega⟩
          have hsort := hW.2.2.2.2.2 n hn
          rw [hl, List.pairwise_append, List.pairwise_cons] at hsort
          have hgt : ∀ c ∈ l3, tB T k < tB T c := hsort.2.1.1
          have hin : ∀ c, c ∈ l1 ∨ c ∈ l3 → c ∈ tC T n := fun c hc => by
            rw [hl]; rcases hc with hc | hc
            · exact List.mem_append_left _ hc
            · exact List.mem_append_right _ (List.mem_cons_of_mem _ hc)
          have hlo : ∀ x ∈ n :: l1.flatMap (tE T f2), kbf (tKey T x) key = true := fun x hx => by
            rcases List.mem_cons.mp hx with rfl | hx
            · exact hroot.1
            · obtain ⟨d, hd, hx⟩ := List.mem_flatMap.mp hx
              have := hlt d hd
              rw [(below_bf hW hn hpt hm hw (hin d (Or.inl hd)) (by omega) x hx).1]
              simpa using this
          have hhi : ∀ x ∈ l3.flatMap (tE T f2), kbf (tKey T x) key = false := fun x hx => by
            obtain ⟨d, hd, hx⟩ := List.mem_flatMap.mp hx
            have := hgt d hd
            rw [(below_bf hW hn hpt hm hw (hin d (Or.inr hd)) (by omega) x hx).1]
            simp only [decide_eq_false_iff_not]; omega
          by_cases hb : tB T k = key.getD (u + (tX T n).length) 0
          · have hs : tSt T key n (lcp (tX T n) (key.drop u)) (u + lcp (tX T n) (key.drop u)) = some k := by
              rw [hm]; simp only [tSt]; rw [if_neg (by omega)]; simp only [tKb, hK, if_pos hb]
            obtain ⟨f1, rfl⟩ : ∃ j, f1 = j + 1 := ⟨f1 - 1, by omega⟩
            obtain ⟨m1, m2, e1, e2, e3, e4⟩ := ahead_split hW f1 f2 k (u + (tX T n).length + 1) k1 (by omega) (by omega) (by omega) (step_pth hW hn hpt hm hw hkm hb)
            refine ⟨n :: l1.flatMap (tE T f2) ++ m1, m2 ++ l3.flatMap (tE T f2), ?_, fun x hx => ?_, fun x hx => ?_, ?_⟩
            · simp only [tE, hl, List.flatMap_append, List.flatMap_cons, e1]
              simp
            · rcases List.mem_append.mp hx with hx | hx
              · exact hlo x hx
              · exact e2 x hx
            · rcases List.mem_append.mp hx with hx | hx
              · exact e3 x hx
              · exact hhi x hx
            · simp only [tSk, hs]
              rw [hm, e4, tH_child hW hn hl, List.head?_append, fm_head]
              cases m2.head? <;> rfl
          · have hs : tSt T key n (lcp (tX T n) (key.drop u)) (u + lcp (tX T n) (key.drop u)) = none := by
              rw [hm]; simp only [tSt]; rw [if_neg (by omega)]; simp only [tKb, hK, if_neg hb]
            rw [hend hs, hm]
            refine ⟨n :: l1.flatMap (tE T f2), (k :: l3).flatMap (tE T f2), by simp only [tE, hl, List.flatMap_append]; simp, hlo, fun x hx => ?_, ?_⟩
            · rw [List.flatMap_cons] at hx
              rcases List.mem_append.mp hx with hx | hx
              · rw [(below_bf hW hn hpt hm hw hkm hb x hx).1]
                simp only [decide_eq_false_iff_not]; omega
              · exact hhi x hx
            · simp only [tFa, if_neg hA, if_neg (Nat.lt_irrefl _), hK]
              rw [fm_head]; rfl
theorem with_split (hW : tWF T) : ∀ (f1 f2 n u : Nat), tU T n = true → 12 ≤ f1 + tL T n → 12 ≤ f2 + tL T n → u ≤ key.length → key.take u = tPth T n →
    ((tSk T key f1 n u).2.2 < key.length → ∀ x ∈ tE T f2 n, kbg (tKey T x) key = false) ∧
    ((tSk T key f1 n u).2.2 = key.length → ∃ l1 l3 f3, tE T f2 n = l1 ++ (tE T f3 (tSk T key f1 n u).1 ++ l3) ∧ 12 ≤ f3 + tL T (tSk T key f1 n u).1 ∧ (∀ x, x ∈ l1 ∨ x ∈ l3 → kbg (tKey T x) key = false) ∧ (∀ x ∈ tE T f3 (tSk T key f1 n u).1, kbg (tKey T x) key = true) ∧ (l3.head?).or (tH T 13 n) = tH T 13 (tSk T key f1 n u).1)
  | f1, f2, n, u, hn, hf1, hf2, hu, hpt => by
    have hle := lcp_le (tX T n) (key.drop u)
    rw [List.length_drop] at hle
    have hk : key = tPth T n ++ key.drop u := by rw [← hpt, List.take_append_drop]
    have hend : tSt T key n (lcp (tX T n) (key.drop u)) (u + lcp (tX T n) (key.drop u)) = none → tSk T key f1 n u = (n, lcp (tX T n) (key.drop u), u + lcp (tX T n) (key.drop u)) := fun hs => by
      cases f1 with
      | zero => rfl
      | succ f => simp only [tSk, hs]
    by_cases hA : key.length ≤ u + lcp (tX T n) (key.drop u)
    · rw [hend (by simp only [tSt, if_pos (Or.inr hA)])]
      refine ⟨fun q => absurd q (by simp only; omega), fun _ => ⟨[], [], f2, by simp, hf2, fun x hx => by simp at hx, fun x hx => ?_, rfl⟩⟩
      obtain ⟨r, hr⟩ := tE_key hW f2 n hn x hx
      rw [hr]
      conv => lhs; rw [hk]
      rw [kbg_app]
      unfold kbg
      rw [lcp_more _ _ _ (Or.inr (by rw [List.length_drop]; omega)), List.length_drop]
      simp only [decide_eq_true_eq]; omega
    · by_cases hB : lcp (tX T n) (key.drop u) < (tX T n).length
      · rw [hend (by simp only [tSt, if_pos (Or.inl hB)])]
        refine ⟨fun _ x hx => ?_, fun q => absurd q (by simp only; omega)⟩
        obtain ⟨r, hr⟩ := tE_key hW f2 n hn x hx
        rw [hr]
        conv => lhs; rw [hk]
        rw [kbg_app]
        unfold kbg
        rw [lcp_more _ _ _ (Or.inl hB), List.length_drop]
        simp only [decide_eq_false_iff_not]; omega
      · have hm : lcp (tX T n) (key.drop u) = (tX T n).length := by omega
        rw [hm] at hA
        have hw : u + (tX T n).length < key.length := by omega
        have hroot := at_bf hW hn hpt hm hw
        have hoff : ∀ (f c : Nat), c ∈ tC T n → tB T c ≠ key.getD (u + (tX T n).length) 0 → ∀ x ∈ tE T f c, kbg (tKey T x) key = false := fun f c hc hb x hx => (below_bf hW hn hpt hm hw hc hb x hx).2
        cases hs : tSt T key n (lcp (tX T n) (key.drop u)) (u + lcp (tX T n) (key.drop u)) with
        | none =>
          rw [hend hs, hm]
          refine ⟨fun _ x hx => ?_, fun q => absurd q (by simp only; omega)⟩
          have hnb : ∀ c ∈ tC T n, tB T c ≠ key.getD (u + (tX T n).length) 0 := fun c hc hb => by
            rw [hm] at hs
            simp only [tSt] at hs
            rw [if_neg (by omega)] at hs
            simp only [tKb] at hs
            cases hK : tK T n (key.getD (u + (tX T n).length) 0) with
            | none => have := tK_none hK c hc; omega
            | some k =>
              rw [hK] at hs
              obtain ⟨hge, l1, l3, hl, hlt⟩ := tK_some hK
              have hne : tB T k ≠ key.getD (u + (tX T n).length) 0 := fun z => by simp only [if_pos z] at hs; cases hs
              have hsort := hW.2.2.2.2.2 n hn
              rw [hl, List.pairwise_append, List.pairwise_cons] at hsort
              rw [hl] at hc
              rcases List.mem_append.mp hc with hc | hc
              · have := hlt c hc; omega
              · rcases List.mem_cons.mp hc with rfl | hc
                · exact hne hb
                · have := hsort.2.1.1 c hc; omega
          cases f2 with
          | zero =>
            simp only [tE, List.mem_singleton] at hx
            rw [hx]; exact hroot.2
          | succ f2 =>
            simp only [tE, List.mem_cons, List.mem_flatMap] at hx
            rcases hx with rfl | ⟨d, hd, hx⟩
            · exact hroot.2
            · exact hoff f2 d hd (hnb d hd) x hx
        | some k =>
          have hs2 := hs
          rw [hm] at hs
          simp only [tSt] at hs
          rw [if_neg (by omega)] at hs
          simp only [tKb] at hs
          cases hK : tK T n (key.getD (u + (tX T n).length) 0) with
          | none => rw [hK] at hs; cases hs
          | some k0 =>
            rw [hK] at hs
            obtain ⟨hge, l1, l3, hl, hlt⟩ := tK_some hK
            by_cases hb : tB T k0 = key.getD (u + (tX T n).length) 0
            · simp only [if_pos hb] at hs
              cases hs
              have hkm : k ∈ tC T n := by rw [hl]; simp
              obtain ⟨k1, k2⟩ := hW.2.2.2.2.1 n k hn hkm
              have k3 := (hW.2.2.2.1 k n k1 k2).2.2
              have k4 := (hW.2.1 k k1).2.2.2
              obtain ⟨f2, rfl⟩ : ∃ j, f2 = j + 1 := ⟨f2 - 1, by omega⟩
              obtain ⟨f1, rfl⟩ : ∃ j, f1 = j + 1 := ⟨f1 - 1, by omega⟩
              have hsort := hW.2.2.2.2.2 n hn
              rw [hl, List.pairwise_append, List.pairwise_cons] at hsort
              have hin : ∀ c, c ∈ l1 ∨ c ∈ l3 → c ∈ tC T n := fun c hc => by
                rw [hl]; rcases hc with hc | hc
                · exact List.mem_append_left _ hc
                · exact List.mem_append_right _ (List.mem_cons_of_mem _ hc)
              have hlo : ∀ x ∈ n :: l1.flatMap (tE T f2), kbg (tKey T x) key = false := fun x hx => by
                rcases List.mem_cons.mp hx with rfl | hx
                · exact hroot.2
                · obtain ⟨d, hd, hx⟩ := List.mem_flatMap.mp hx
                  have := hlt d hd
                  exact hoff f2 d (hin d (Or.inl hd)) (by omega) x hx
              have hhi : ∀ x ∈ l3.flatMap (tE T f2), kbg (tKey T x) key = false := fun x hx => by
                obtain ⟨d, hd, hx⟩ := List.mem_flatMap.mp hx
                have := hsort.2.1.1 d hd
                exact hoff f2 d (hin d (Or.inr hd)) (by omega) x hx
              have ih := with_split hW f1 f2 k (u + (tX T n).length + 1) k1 (by omega) (by omega) (by omega) (step_pth hW hn hpt hm hw hkm hb)
              have hsk : tSk T key (f1 + 1) n u = tSk T key f1 k (u + (tX T n).length + 1) := by
                simp only [tSk, hs2]; rw [hm]
              rw [hsk]
              refine ⟨fun q x hx => ?_, fun q => ?_⟩
              · simp only [tE, hl, List.flatMap_append, List.flatMap_cons, List.mem_cons, List.mem_append] at hx
                rcases hx with rfl | hx | hx | hx
                · exact hroot.2
                · exact hlo x (List.mem_cons_of_mem _ hx)
                · exact ih.1 q x hx
                · exact hhi x hx
              · obtain ⟨m1, m3, f3, e1, e2, e3, e4, e5⟩ := ih.2 q
                refine ⟨n :: l1.flatMap (tE T f2) ++ m1, m3 ++ l3.flatMap (tE T f2), f3, ?_, e2, fun x hx => ?_, e4, ?_⟩
                · simp only [tE, hl, List.flatMap_append, List.flatMap_cons, e1]
                  simp
                · rcases hx with hx | hx
                  · rcases List.mem_append.mp hx with hx | hx
                    · exact hlo x hx
                    · exact e3 x (Or.inl hx)
                  · rcases List.mem_append.mp hx with hx | hx
                    · exact e3 x (Or.inr hx)
                    · exact hhi x hx
                · rw [← e5, tH_child hW hn hl, List.head?_append, fm_head]
                  cases m3.head? <;> rfl
            · simp only [if_neg hb] at hs; cases hs
end AH
