/-! Going through the tree: counts, the n-th node, the i-th key, the depth. -/
def tEs (T : TT) : List Nat := tE T 13 (tO T)
theorem tE_used {T : TT} (hW : tWF T) : ∀ (f n : Nat), tU T n = true → ∀ m ∈ tE T f n, tU T m = true
  | 0, n, hn, m, hm => by
    simp only [tE, List.mem_singleton] at hm
    rw [hm]; exact hn
  | f + 1, n, hn, m, hm => by
    simp only [tE, List.mem_cons, List.mem_flatMap] at hm
    rcases hm with rfl | ⟨c, hc, hm⟩
    · exact hn
    · exact tE_used hW f c (hW.2.2.2.2.1 n c hn hc).1 m hm
theorem tWk_suf {T : TT} : ∀ (l1 l2 : List Nat) (e : Option Nat), tWk T (l1 ++ l2) e → tWk T l2 e
  | [], _, _, h => h
  | [n], [], _, _ => trivial
  | [n], m :: r, _, h => h.2
  | n :: m :: r, l2, e, h => tWk_suf (m :: r) l2 e h.2
theorem tWk_head {T : TT} {n : Nat} {r : List Nat} (h : tWk T (n :: r) none) : tN T n = r.head? := by
  cases r with
  | nil => exact h
  | cons m r => exact h.1
theorem tEs_at {T : TT} (hW : tWF T) {l1 r : List Nat} {n : Nat} (h : tEs T = l1 ++ n :: r) : tU T n = true ∧ tN T n = r.head? := by
  have hw := tE_walk hW 13 (tO T) hW.1.1 (by omega)
  rw [tH_root _ hW.1.2.1] at hw
  refine ⟨tE_used hW 13 (tO T) hW.1.1 n ?_, tWk_head (tWk_suf l1 (n :: r) none ?_)⟩
  · show n ∈ tEs T
    rw [h]; simp
  · rw [← h]; exact hw
theorem tEs_head (T : TT) : (tEs T).head? = some (tO T) := tE_head T 13 (tO T)
section TV
variable {l : Launch} {g : xG} {M : xM} {Q : Option Value → xM → Prop} {φ ψ : Nat → Nat} {T : TT}
theorem bnf {b : Bool} (h : ¬ b = false) : b = true := by cases b <;> simp_all
theorem z01 {b : Bool} : ((if b = true then (1 : Int32) else 0) = 0) ↔ b = false := by cases b <;> simp
theorem fresh_loop (hW : tWF T) (hc : cNs M φ ψ T) (a0 : Nat) : ∀ (l2 l1 : List Nat) (s : Nat), tEs T = l1 ++ l2 → Q (some (.int (nI (s + l2.countP (tR T))))) M → xWp l g mX8_freshNodes 0 0 7 [(1, va_rf (some a0)), (1, .int (nI s)), (1, va_rf (l2.head?.map φ))] [] (0, 0) M Q
  | [], l1, s, _, hQ => bX8_freshNodes_7 _ _ _ ⟨fun _ => hQ, fun c => absurd rfl c⟩
  | n :: r, l1, s, hl, hQ => by
    obtain ⟨hu, hn⟩ := tEs_at hW hl
    obtain ⟨⟨h1, -⟩, -, ⟨-, -, -, -, -, -, h8⟩, -⟩ := hc n hu
    refine bX8_freshNodes_7 _ _ _ ⟨fun c => (by cases c), fun _ => ⟨φ n, rfl, h1, fun c => ?_, fun c => ?_⟩⟩
    · rw [h8, z01] at c
      refine sX3_following hW hc hu ⟨_, rfl, ?_⟩
      rw [hn, Int32.add_zero]
      refine fresh_loop hW hc a0 r (l1 ++ [n]) s (by rw [hl]; simp) ?_
      rw [List.countP_cons_of_neg (by rw [c]; decide)] at hQ
      exact hQ
    · rw [h8, z01] at c
      refine sX3_following hW hc hu ⟨_, rfl, ?_⟩
      rw [hn, nI_1]
      refine fresh_loop hW hc a0 r (l1 ++ [n]) (s + 1) (by rw [hl]; simp) ?_
      rw [List.countP_cons_of_pos (by simpa using c)] at hQ
      rw [show s + 1 + List.countP (tR T) r = s + (List.countP (tR T) r + 1) by omega]
      exact hQ
theorem sX8_freshNodes (hW : tWF T) (hc : cNs M φ ψ T) {t : Nat} (ht : xat M t 5) (hr : xR M t 2 = some (φ (tO T))) (hQ : Q (some (.int (nI ((tEs T).countP (tR T))))) M) : xSp l g mX8_freshNodes 0 0 [va_rf (some t)] M Q := by
  refine eX8_freshNodes _ (bX8_freshNodes_0 _ ⟨ht, ?_⟩)
  rw [hr]
  have h := fresh_loop (l := l) (g := g) (Q := Q) hW hc t (tEs T) [] 0 rfl (by rw [Nat.zero_add]; exact hQ)
  rw [tEs_head] at h
  exact h
theorem pages_loop (hW : tWF T) (hG : ∀ n, tU T n = true → tG T n < 256) (hc : cNs M φ ψ T) (a0 : Nat) : ∀ (l2 l1 : List Nat) (s : Nat), tEs T = l1 ++ l2 → Q (some (.int (nI (s + l2.countP (fun n => decide (tG T n ≠ 0)))))) M → xWp l g mX8_nodesOnPages 0 0 7 [(1, va_rf (some a0)), (1, .int (nI s)), (1, va_rf (l2.head?.map φ))] [] (0, 0) M Q
  | [], l1, s, _, hQ => bX8_nodesOnPages_7 _ _ _ ⟨fun _ => hQ, fun c => absurd rfl c⟩
  | n :: r, l1, s, hl, hQ => by
    obtain ⟨hu, hn⟩ := tEs_at hW hl
    have hg := hG n hu
    obtain ⟨⟨h1, -⟩, -, ⟨-, -, -, -, -, h7, -⟩, -⟩ := hc n hu
    refine bX8_nodesOnPages_7 _ _ _ ⟨fun c => (by cases c), fun _ => ⟨φ n, rfl, h1, fun c => ?_, fun c => ?_⟩⟩
    · have c1 := neq c h7 (b := 0) rfl
      refine sX3_following hW hc hu ⟨_, rfl, ?_⟩
      rw [hn, Int32.add_zero]
      refine pages_loop hW hG hc a0 r (l1 ++ [n]) s (by rw [hl]; simp) ?_
      rw [List.countP_cons_of_neg (by simp [c1])] at hQ
      exact hQ
    · have c1 := nne c h7 (b := 0) rfl
      refine sX3_following hW hc hu ⟨_, rfl, ?_⟩
      rw [hn, nI_1]
      refine pages_loop hW hG hc a0 r (l1 ++ [n]) (s + 1) (by rw [hl]; simp) ?_
      rw [List.countP_cons_of_pos (by simp [c1])] at hQ
      rw [show s + 1 + List.countP (fun n => decide (tG T n ≠ 0)) r = s + (List.countP (fun n => decide (tG T n ≠ 0)) r + 1) by omega]
      exact hQ
theorem sX8_nodesOnPages (hW : tWF T) (hG : ∀ n, tU T n = true → tG T n < 256) (hc : cNs M φ ψ T) {t : Nat} (ht : xat M t 5) (hr : xR M t 2 = some (φ (tO T))) (hQ : Q (some (.int (nI ((tEs T).countP (fun n => decide (tG T n ≠ 0)))))) M) : xSp l g mX8_nodesOnPages 0 0 [va_rf (some t)] M Q := by
  refine eX8_nodesOnPages _ (bX8_nodesOnPages_0 _ ⟨ht, ?_⟩)
  rw [hr]
  have h := pages_loop (l := l) (g := g) (Q := Q) hW hG hc t (tEs T) [] 0 rfl (by rw [Nat.zero_add]; exact hQ)
  rw [tEs_head] at h
  exact h
theorem format_loop (hW : tWF T) (hF : ∀ n, tU T n = true → tF T n < 5) (hc : cNs M φ ψ T) (a0 : Nat) {w : Nat} (hw : w < 100) : ∀ (l2 l1 : List Nat) (s : Nat), tEs T = l1 ++ l2 → Q (some (.int (nI (s + l2.countP (fun n => decide (tF T n = w)))))) M → xWp l g mX8_nodesOfFormat 0 0 7 [(1, va_rf (some a0)), (1, .int (nI w)), (1, .int (nI s)), (1, va_rf (l2.head?.map φ))] [] (0, 0) M Q
  | [], l1, s, _, hQ => bX8_nodesOfFormat_7 _ _ _ _ ⟨fun _ => hQ, fun c => absurd rfl c⟩
  | n :: r, l1, s, hl, hQ => by
    obtain ⟨hu, hn⟩ := tEs_at hW hl
    have hg := hF n hu
    obtain ⟨⟨h1, -⟩, -, ⟨h2, -⟩, -⟩ := hc n hu
    refine bX8_nodesOfFormat_7 _ _ _ _ ⟨fun c => (by cases c), fun _ => ⟨φ n, rfl, h1, fun c => ?_, fun c => ?_⟩⟩
    · have c1 := nne c h2 rfl
      refine sX3_following hW hc hu ⟨_, rfl, ?_⟩
      rw [hn, Int32.add_zero]
      refine format_loop hW hF hc a0 hw r (l1 ++ [n]) s (by rw [hl]; simp) ?_
      rw [List.countP_cons_of_neg (by simp [c1])] at hQ
      exact hQ
    · have c1 := neq c h2 rfl
      refine sX3_following hW hc hu ⟨_, rfl, ?_⟩
      rw [hn, nI_1]
      refine format_loop hW hF hc a0 hw r (l1 ++ [n]) (s + 1) (by rw [hl]; simp) ?_
      rw [List.countP_cons_of_pos (by simp [c1])] at hQ
      rw [show s + 1 + List.countP (fun n => decide (tF T n = w)) r = s + (List.countP (fun n => decide (tF T n = w)) r + 1) by omega]
      exact hQ
theorem sX8_nodesOfFormat (hW : tWF T) (hF : ∀ n, tU T n = true → tF T n < 5) (hc : cNs M φ ψ T) {t w : Nat} (hw : w < 100) (ht : xat M t 5) (hr : xR M t 2 = some (φ (tO T))) (hQ : Q (some (.int (nI ((tEs T).countP (fun n => decide (tF T n = w)))))) M) : xSp l g mX8_nodesOfFormat 0 0 [va_rf (some t), .int (nI w)] M Q := by
  refine eX8_nodesOfFormat _ _ (bX8_nodesOfFormat_0 _ _ ⟨ht, ?_⟩)
  rw [hr]
  have h := format_loop (l := l) (g := g) (Q := Q) hW hF hc t hw (tEs T) [] 0 rfl (by rw [Nat.zero_add]; exact hQ)
  rw [tEs_head] at h
  exact h
theorem tLv_le (T : TT) : ∀ (f n : Nat), tLv T f n ≤ f + 1
  | 0, _ => Nat.le_refl _
  | f + 1, n => by
    simp only [tLv]
    cases tP T n with
    | none => simp
    | some p => have := tLv_le T f p; simp only; omega
theorem depth_loop (hW : tWF T) (hc : cNs M φ ψ T) (a0 : Nat) : ∀ (l2 l1 : List Nat) (s : Nat), s < 1000 → tEs T = l1 ++ l2 → Q (some (.int (nI (l2.foldl (fun x n => Nat.max x (tLv T 12 n)) s)))) M → xWp l g mX8_depth 0 0 7 [(1, va_rf (some a0)), (1, .int (nI s)), (1, va_rf (l2.head?.map φ))] [] (0, 0) M Q
  | [], l1, s, _, _, hQ => bX8_depth_7 _ _ _ ⟨fun _ => hQ, fun c => absurd rfl c⟩
  | n :: r, l1, s, hs, hl, hQ => by
    obtain ⟨hu, hn⟩ := tEs_at hW hl
    have hv := tLv_le T 12 n
    have h1 := (hc n hu).1.1
    refine bX8_depth_7 _ _ _ ⟨fun c => (by cases c), fun _ => ⟨φ n, rfl, h1, sX3_level hW hc hu ⟨_, rfl, h1, sX3_following hW hc hu ⟨_, rfl, ?_⟩⟩⟩⟩
    rw [hn]
    have e : (if nI s < nI (tLv T 12 n) then nI (tLv T 12 n) else nI s) = nI (Nat.max s (tLv T 12 n)) := by
      by_cases hlt : s < tLv T 12 n
      · rw [if_pos (nI_lt hlt (by omega)), show Nat.max s (tLv T 12 n) = tLv T 12 n from Nat.max_eq_right (by omega)]
      · rw [if_neg (nI_nlt (by omega) (by omega)), show Nat.max s (tLv T 12 n) = s from Nat.max_eq_left (by omega)]
    rw [e]
    refine depth_loop hW hc a0 r (l1 ++ [n]) _ ?_ (by rw [hl]; simp) hQ
    have : Nat.max s (tLv T 12 n) ≤ 999 := Nat.max_le.mpr ⟨by omega, by omega⟩
    omega
theorem sX8_depth (hW : tWF T) (hc : cNs M φ ψ T) {t : Nat} (ht : xat M t 5) (hr : xR M t 2 = some (φ (tO T))) (hQ : Q (some (.int (nI ((tEs T).foldl (fun x n => Nat.max x (tLv T 12 n)) 0)))) M) : xSp l g mX8_depth 0 0 [va_rf (some t)] M Q := by
  refine eX8_depth _ (bX8_depth_0 _ ⟨ht, ?_⟩)
  rw [hr]
  have h := depth_loop (l := l) (g := g) (Q := Q) hW hc t (tEs T) [] 0 (by omega) rfl hQ
  rw [tEs_head] at h
  exact h
theorem nodeNo_loop (hW : tWF T) (hc : cNs M φ ψ T) (a0 : Nat) (x1 : Int32) : ∀ (l2 l1 : List Nat) (k : Nat), k < 2 ^ 31 → tEs T = l1 ++ l2 → Q (some (va_rf (l2[k]?.map φ))) M → xWp l g mX8_nodeNumber 0 0 7 [(1, va_rf (some a0)), (1, .int x1), (1, .int (nI k)), (1, va_rf (l2.head?.map φ))] [] (0, 0) M Q
  | [], l1, k, _, _, hQ => bX8_nodeNumber_7 _ _ _ _ ⟨fun _ => (by simpa using hQ), fun c => absurd rfl c⟩
  | n :: r, l1, k, hk, hl, hQ => by
    obtain ⟨hu, hn⟩ := tEs_at hW hl
    have h1 := (hc n hu).1.1
    refine bX8_nodeNumber_7 _ _ _ _ ⟨fun c => (by cases c), fun _ => ⟨fun c => (nneg c rfl).elim, fun _ => ⟨fun c => ⟨φ n, rfl, h1, sX3_following hW hc hu ⟨_, rfl, ?_⟩⟩, fun c => ?_⟩⟩⟩
    · have c1 := nne c rfl (b := 0) rfl
      obtain ⟨k, rfl⟩ : ∃ j, k = j + 1 := ⟨k - 1, by omega⟩
      rw [hn, pk_m1]
      exact nodeNo_loop hW hc a0 x1 r (l1 ++ [n]) k (by omega) (by rw [hl]; simp) (by simpa using hQ)
    · have c1 := neq c rfl (b := 0) rfl
      subst c1
      exact hQ
theorem sX8_nodeNumber (hW : tWF T) (hc : cNs M φ ψ T) {t k : Nat} (hk : k < 2 ^ 31) (ht : xat M t 5) (hr : xR M t 2 = some (φ (tO T))) (hQ : Q (some (va_rf ((tEs T)[k]?.map φ))) M) : xSp l g mX8_nodeNumber 0 0 [va_rf (some t), .int (nI k)] M Q := by
  refine eX8_nodeNumber _ _ (bX8_nodeNumber_0 _ _ ⟨ht, ?_⟩)
  rw [hr]
  have h := nodeNo_loop (l := l) (g := g) (Q := Q) hW hc t (nI k) (tEs T) [] k hk rfl hQ
  rw [tEs_head] at h
  exact h
theorem sX8_nodeNumberN {t : Nat} {x : Int32} (hx : x < 0) (ht : xat M t 5) (hQ : Q (some (va_rf none)) M) : xSp l g mX8_nodeNumber 0 0 [va_rf (some t), .int x] M Q :=
  eX8_nodeNumber _ _ (bX8_nodeNumber_0 _ _ ⟨ht, bX8_nodeNumber_7 _ _ _ _ ⟨fun _ => hQ, fun _ => ⟨fun _ => hQ, fun c => absurd hx c⟩⟩⟩)
/-- the k-th of those with a value -/
theorem keyNo_loop (hW : tWF T) (hc : cNs M φ ψ T) (a0 : Nat) (x1 : Int32) : ∀ (l2 l1 : List Nat) (k : Nat), k < 2 ^ 31 → tEs T = l1 ++ l2 → Q (some (va_rf ((l2.filter (fun n => (tV T n).isSome))[k]?.map φ))) M → xWp l g mX8_keyNumber 0 0 7 [(1, va_rf (some a0)), (1, .int x1), (1, .int (nI k)), (1, va_rf (l2.head?.map φ))] [] (0, 0) M Q
  | [], l1, k, _, _, hQ => bX8_keyNumber_7 _ _ _ _ ⟨fun _ => (by simpa using hQ), fun c => absurd rfl c⟩
  | n :: r, l1, k, hk, hl, hQ => by
    obtain ⟨hu, hn⟩ := tEs_at hW hl
    obtain ⟨⟨h1, -⟩, -, ⟨-, h3, -⟩, -⟩ := hc n hu
    refine bX8_keyNumber_7 _ _ _ _ ⟨fun c => (by cases c), fun _ => ⟨fun c => (nneg c rfl).elim, fun _ => ⟨φ n, rfl, h1, fun c => ⟨fun _ => ?_, fun c2 => absurd c c2⟩, fun c => ⟨fun c2 => ⟨fun c3 => absurd c3 c, fun _ => ?_⟩, fun c2 => ?_⟩⟩⟩⟩
    · rw [h3, z01] at c
      refine sX3_following hW hc hu ⟨_, rfl, ?_⟩
      rw [hn, Int32.sub_zero]
      refine keyNo_loop hW hc a0 x1 r (l1 ++ [n]) k hk (by rw [hl]; simp) ?_
      rw [List.filter_cons_of_neg (by rw [c]; decide)] at hQ
      exact hQ
    · rw [h3, z01] at c
      have c1 := nne c2 rfl (b := 0) rfl
      obtain ⟨k, rfl⟩ : ∃ j, k = j + 1 := ⟨k - 1, by omega⟩
      refine sX3_following hW hc hu ⟨_, rfl, ?_⟩
      rw [hn, nI_pred]
      refine keyNo_loop hW hc a0 x1 r (l1 ++ [n]) k (by omega) (by rw [hl]; simp) ?_
      rw [List.filter_cons_of_pos (p := fun n => (tV T n).isSome) (bnf c)] at hQ
      simpa using hQ
    · rw [h3, z01] at c
      have c1 := neq c2 rfl (b := 0) rfl
      subst c1
      rw [List.filter_cons_of_pos (p := fun n => (tV T n).isSome) (bnf c)] at hQ
      exact hQ
theorem sX8_keyNumber (hW : tWF T) (hc : cNs M φ ψ T) {t k : Nat} (hk : k < 2 ^ 31) (ht : xat M t 5) (hr : xR M t 2 = some (φ (tO T))) (hQ : Q (some (va_rf (((tEs T).filter (fun n => (tV T n).isSome))[k]?.map φ))) M) : xSp l g mX8_keyNumber 0 0 [va_rf (some t), .int (nI k)] M Q := by
  refine eX8_keyNumber _ _ (bX8_keyNumber_0 _ _ ⟨ht, ?_⟩)
  rw [hr]
  have h := keyNo_loop (l := l) (g := g) (Q := Q) hW hc t (nI k) (tEs T) [] k hk rfl hQ
  rw [tEs_head] at h
  exact h
theorem sX8_keyNumberN {t : Nat} {x : Int32} (hx : x < 0) (ht : xat M t 5) (hQ : Q (some (va_rf none)) M) : xSp l g mX8_keyNumber 0 0 [va_rf (some t), .int x] M Q :=
  eX8_keyNumber _ _ (bX8_keyNumber_0 _ _ ⟨ht, bX8_keyNumber_7 _ _ _ _ ⟨fun _ => hQ, fun _ => ⟨fun _ => hQ, fun c => absurd hx c⟩⟩⟩)
/-- the nodes of a list ahead of one -/
def lto (l : List Nat) (e : Option Nat) : List Nat := l.takeWhile (fun n => decide (some n ≠ e))
theorem between_loop (hW : tWF T) (hc : cNs M φ ψ T) (hinj : ∀ a b, tU T a = true → tU T b = true → φ a = φ b → a = b) (r0 : Option Nat) (e : Option Nat) (he : ∀ x, e = some x → tU T x = true) : ∀ (l2 l1 : List Nat) (s : Nat), tEs T = l1 ++ l2 → Q (some (.int (nI (s + (lto l2 e).countP (fun n => (tV T n).isSome))))) M → xWp l g mX8_keysBetween 0 0 4 [(1, va_rf r0), (1, va_rf (e.map φ)), (1, .int (nI s)), (1, va_rf (l2.head?.map φ))] [] (0, 0) M Q
  | [], l1, s, _, hQ => bX8_keysBetween_4 _ _ _ _ ⟨fun _ => hQ, fun c => absurd rfl c⟩
  | n :: r, l1, s, hl, hQ => by
    obtain ⟨hu, hn⟩ := tEs_at hW hl
    obtain ⟨⟨h1, -⟩, -, ⟨-, h3, -⟩, -⟩ := hc n hu
    have heq : (some (φ n) = e.map φ) ↔ some n = e := by
      constructor
      · intro q
        cases e with
        | none => cases q
        | some x =>
          have := hinj n x hu (he x rfl) (by simpa using q)
          rw [this]
      · intro q; rw [← q]; rfl
    refine bX8_keysBetween_4 _ _ _ _ ⟨fun c => (by cases c), fun _ => ⟨fun c => ?_, fun c => ⟨φ n, rfl, h1, fun c2 => ?_, fun c2 => ?_⟩⟩⟩
    · have c1 := heq.mp c
      simp only [lto] at hQ
      rw [List.takeWhile_cons_of_neg (by simp [c1])] at hQ
      simpa using hQ
    · have c1 : some n ≠ e := fun q => c (heq.mpr q)
      rw [h3, z01] at c2
      refine sX3_following hW hc hu ⟨_, rfl, ?_⟩
      rw [hn, Int32.add_zero]
      refine between_loop hW hc hinj r0 e he r (l1 ++ [n]) s (by rw [hl]; simp) ?_
      simp only [lto] at hQ ⊢
      rw [List.takeWhile_cons_of_pos (by simp [c1]), List.countP_cons_of_neg (by rw [c2]; decide)] at hQ
      exact hQ
    · have c1 : some n ≠ e := fun q => c (heq.mpr q)
      rw [h3, z01] at c2
      refine sX3_following hW hc hu ⟨_, rfl, ?_⟩
      rw [hn, nI_1]
      refine between_loop hW hc hinj r0 e he r (l1 ++ [n]) (s + 1) (by rw [hl]; simp) ?_
      simp only [lto] at hQ ⊢
      rw [List.takeWhile_cons_of_pos (by simp [c1]), List.countP_cons_of_pos (p := fun n => (tV T n).isSome) (bnf c2)] at hQ
      rw [show ∀ z : Nat, s + 1 + z = s + (z + 1) by intro z; omega]
      exact hQ
end TV
