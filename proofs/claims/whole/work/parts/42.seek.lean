/-! Worlds that are the same; keys on the tape; the way of a key. -/
theorem xM_ext {M N : xM} (h1 : xL M = xL N) (h2 : xK M = xK N) (h3 : xN M = xN N) (h4 : ∀ a k, xI M a k = xI N a k) (h5 : ∀ a k, xJ M a k = xJ N a k) (h6 : ∀ a k, xR M a k = xR N a k) : M = N := by
  obtain ⟨a1, a2, a3, a4, a5, a6⟩ := M
  obtain ⟨b1, b2, b3, b4, b5, b6⟩ := N
  have e1 : a1 = b1 := h1
  have e2 : a2 = b2 := h2
  have e3 : a3 = b3 := h3
  have e4 : a4 = b4 := funext fun a => funext fun k => h4 a k
  have e5 : a5 = b5 := funext fun a => funext fun k => h5 a k
  have e6 : a6 = b6 := funext fun a => funext fun k => h6 a k
  subst e1 e2 e3 e4 e5 e6
  rfl
theorem xsI_same (M : xM) (a k : Nat) (v w : Int32) : xsI (xsI M a k v) a k w = xsI M a k w := by
  refine xM_ext rfl rfl rfl (fun b j => ?_) (fun _ _ => rfl) (fun _ _ => rfl)
  simp only [xI_sI]
  by_cases h : b = a ∧ j = k <;> simp [h]
theorem xsR_same (M : xM) (a k : Nat) (v w : Option Nat) : xsR (xsR M a k v) a k w = xsR M a k w := by
  refine xM_ext rfl rfl rfl (fun _ _ => rfl) (fun _ _ => rfl) (fun b j => ?_)
  simp only [xR_sR]
  by_cases h : b = a ∧ j = k <;> simp [h]
theorem xsI_comm (M : xM) {a k b j : Nat} (v w : Int32) (h : a ≠ b ∨ k ≠ j) : xsI (xsI M a k v) b j w = xsI (xsI M b j w) a k v := by
  refine xM_ext rfl rfl rfl (fun c i => ?_) (fun _ _ => rfl) (fun _ _ => rfl)
  simp only [xI_sI]
  by_cases h1 : c = b ∧ i = j
  · by_cases h2 : c = a ∧ i = k
    · exfalso
      rcases h with h | h
      · exact h (h2.1.symm.trans h1.1)
      · exact h (h2.2.symm.trans h1.2)
    · simp [h1, h2]
      intro h3 h4
      exact absurd ⟨h1.1.trans h3, h1.2.trans h4⟩ h2
  · simp [h1]
theorem xsI_sR (M : xM) (a k b j : Nat) (v : Option Nat) (w : Int32) : xsI (xsR M a k v) b j w = xsR (xsI M b j w) a k v := rfl
theorem xsR_sI (M : xM) (a k b j : Nat) (v : Option Nat) (w : Int32) : xsR (xsI M b j w) a k v = xsI (xsR M a k v) b j w := rfl
/-- the cells of a tree's nodes are as they were -/
theorem cNs_fr {M M1 : xM} {φ ψ : Nat → Nat} {T : TT} (h : cNs M φ ψ T) (hL : xL M1 = xL M) (hK : xK M1 = xK M) (hN : xN M1 = xN M) (hf : ∀ n, tU T n = true → (∀ k, xI M1 (φ n) k = xI M (φ n) k) ∧ (∀ k, xJ M1 (φ n) k = xJ M (φ n) k) ∧ (∀ k, xR M1 (φ n) k = xR M (φ n) k) ∧ ∀ k, xI M1 (ψ (φ n)) k = xI M (ψ (φ n)) k) : cNs M1 φ ψ T := by
  intro n hn
  obtain ⟨f1, f2, f3, f4⟩ := hf n hn
  have := h n hn
  simpa only [cN, xat, hL, hK, hN, f1, f2, f3, f4] using this
theorem ne_of_kind {M : xM} {a b x y : Nat} (h1 : xK M a = x) (h2 : xK M b = y) (h : x ≠ y) : a ≠ b := fun q => h (by rw [← h1, ← h2, q])
theorem cNs_I {M : xM} {φ ψ : Nat → Nat} {T : TT} (h : cNs M φ ψ T) {t c k : Nat} {v : Int32} (ht : xK M t = c) (h1 : c ≠ 1) (h9 : c ≠ 9) : cNs (xsI M t k v) φ ψ T := by
  refine cNs_fr h rfl rfl rfl (fun n hn => ?_)
  obtain ⟨⟨g1, g2, g3, g4⟩, -⟩ := h n hn
  have e1 := ne_of_kind g1.2 ht (Ne.symm h1)
  have e2 := ne_of_kind g3.2 ht (Ne.symm h9)
  exact ⟨fun j => by rw [xI_sI, if_neg (fun q => e1 q.1)], fun _ => rfl, fun _ => rfl, fun j => by rw [xI_sI, if_neg (fun q => e2 q.1)]⟩
theorem cNs_R {M : xM} {φ ψ : Nat → Nat} {T : TT} (h : cNs M φ ψ T) {t c k : Nat} {v : Option Nat} (ht : xK M t = c) (h1 : c ≠ 1) : cNs (xsR M t k v) φ ψ T := by
  refine cNs_fr h rfl rfl rfl (fun n hn => ?_)
  obtain ⟨⟨g1, g2, g3, g4⟩, -⟩ := h n hn
  have e1 := ne_of_kind g1.2 ht (Ne.symm h1)
  exact ⟨fun _ => rfl, fun _ => rfl, fun j => by rw [xR_sR, if_neg (fun q => e1 q.1)], fun _ => rfl⟩
/-- what is on the tape -/
def tpR (M : xM) (tp tb : Nat) (key : List Nat) : Prop := tpOk M tp tb ∧ xI M tp 1 = nI key.length ∧ key.length ≤ 64 ∧ (∀ i, i < key.length → xI M tb i = nI (key.getD i 0)) ∧ ∀ b ∈ key, b < 256
theorem tpR_fr {M M1 : xM} {tp tb : Nat} {key : List Nat} (h : tpR M tp tb key) (hL : xL M1 = xL M) (hK : xK M1 = xK M) (hN : xN M1 = xN M) (h1 : xI M1 tp 1 = xI M tp 1) (h2 : xR M1 tp 0 = xR M tp 0) (h3 : ∀ i, xI M1 tb i = xI M tb i) : tpR M1 tp tb key := by
  simpa only [tpR, tpOk, xat, hL, hK, hN, h1, h2, h3] using h
theorem tpR_I {M : xM} {tp tb : Nat} {key : List Nat} (h : tpR M tp tb key) {t c k : Nat} {v : Int32} (ht : xK M t = c) (h4 : c ≠ 4) (h9 : c ≠ 9) : tpR (xsI M t k v) tp tb key := by
  obtain ⟨⟨g1, g2, g3, g4⟩, -⟩ := id h
  have e1 := ne_of_kind g1.2 ht (Ne.symm h4)
  have e2 := ne_of_kind g3.2 ht (Ne.symm h9)
  exact tpR_fr h rfl rfl rfl (by rw [xI_sI, if_neg (fun q => e1 q.1)]) rfl (fun i => by rw [xI_sI, if_neg (fun q => e2 q.1)])
theorem tpR_R {M : xM} {tp tb : Nat} {key : List Nat} (h : tpR M tp tb key) {t c k : Nat} {v : Option Nat} (ht : xK M t = c) (h4 : c ≠ 4) : tpR (xsR M t k v) tp tb key := by
  obtain ⟨⟨g1, g2, g3, g4⟩, -⟩ := id h
  have e1 := ne_of_kind g1.2 ht (Ne.symm h4)
  exact tpR_fr h rfl rfl rfl rfl (by rw [xR_sR, if_neg (fun q => e1 q.1)]) (fun _ => rfl)
/-- how many bytes two rows have in common -/
def lcp : List Nat → List Nat → Nat
  | a :: x, b :: y => if a = b then lcp x y + 1 else 0
  | _, _ => 0
theorem lcp_nil (x : List Nat) : lcp x [] = 0 := by cases x <;> rfl
theorem lcp_le : ∀ x y : List Nat, lcp x y ≤ x.length ∧ lcp x y ≤ y.length
  | [], y => ⟨Nat.zero_le _, Nat.zero_le _⟩
  | a :: x, [] => ⟨Nat.zero_le _, Nat.zero_le _⟩
  | a :: x, b :: y => by
    have h := lcp_le x y
    simp only [lcp, List.length_cons]
    split <;> omega
theorem dropD {x : List Nat} {k : Nat} (h : k < x.length) : x.drop k = x.getD k 0 :: x.drop (k + 1) := by
  rw [List.drop_eq_getElem_cons h]
  simp [List.getD_eq_getElem?_getD, List.getElem?_eq_getElem h]
theorem getD_lt {x : List Nat} {k : Nat} (hx : ∀ b ∈ x, b < 256) : x.getD k 0 < 256 := by
  rw [List.getD_eq_getElem?_getD]
  cases h : x[k]? with
  | none => simp
  | some b => exact hx b (List.mem_of_getElem? h)
section SK
variable {l : Launch} {g : xG} {M : xM} {Q : Option Value → xM → Prop} {φ ψ : Nat → Nat} {T : TT}
theorem tp_byteAt {tp tb : Nat} {key : List Nat} (h : tpR M tp tb key) {j : Nat} (hj : j < 2 ^ 31) (hQ : Q (some (.int (if j < key.length then nI (key.getD j 0) else -1))) M) : xSp l g mX7_byteAt 0 0 [va_rf (some tp), .int (nI j)] M Q := by
  obtain ⟨h1, h2, h3, h4, h5⟩ := h
  refine sX7_byteAt h1 h2 h3 hj ?_
  by_cases hlt : j < key.length
  · rw [if_pos hlt] at hQ ⊢; rw [h4 j hlt]; exact hQ
  · rw [if_neg hlt] at hQ ⊢; exact hQ
theorem matching_loop (hW : tWF T) (hc : cNs M φ ψ T) {n tp tb fr : Nat} {key : List Nat} (hn : tU T n = true) (ht : tpR M tp tb key) (hfr : fr ≤ 64) : ∀ (d k : Nat), (tX T n).length = k + d → Q (some (.int (nI (k + lcp ((tX T n).drop k) (key.drop (fr + k)))))) M → xWp l g mX3_matching 0 0 2 [(1, va_rf (some (φ n))), (1, va_rf (some tp)), (1, .int (nI fr)), (1, .int (nI k))] [] (0, 0) M Q
  | d, k, hk, hQ => by
    have hx := (tX_le hW hn).1
    have hb := (hW.2.1 n hn).2.2.1
    obtain ⟨⟨h1, -⟩, ⟨h5, -⟩, -, -⟩ := hc n hn
    refine bX3_matching_2 _ _ _ _ ⟨h1, fun c => ?_, fun c => ?_⟩
    · have c1 := nle c h5 rfl
      have : (tX T n).drop k = [] := List.drop_eq_nil_of_le c1
      rw [this] at hQ
      exact hQ
    · have c1 := nnle c h5 rfl
      match d, hk with
      | 0, hk => omega
      | d + 1, hk =>
        refine sX3_prefixAt hW hc hn (by omega) ⟨_, rfl, tp, rfl, ht.1.1, ?_⟩
        rw [nI_add]
        refine tp_byteAt ht (by omega) ⟨_, rfl, fun c2 => ?_, fun c2 => ?_⟩
        · rw [dropD c1] at hQ
          by_cases hlt : fr + k < key.length
          · rw [if_pos hlt] at c2
            rw [dropD hlt] at hQ
            have c3 : (tX T n).getD k 0 ≠ key.getD (fr + k) 0 := fun q => c2 (by rw [q])
            simp only [lcp, if_neg c3] at hQ
            exact hQ
          · rw [List.drop_eq_nil_of_le (by omega : key.length ≤ fr + k), lcp_nil] at hQ
            exact hQ
        · have hv : (tX T n).getD k 0 < 256 := getD_lt hb
          by_cases hlt : fr + k < key.length
          · rw [if_pos hlt] at c2
            have hw : key.getD (fr + k) 0 < 256 := getD_lt ht.2.2.2.2
            have c3 := neq c2 rfl rfl
            rw [nI_1]
            refine matching_loop hW hc hn ht hfr d (k + 1) (by omega) ?_
            rw [dropD c1, dropD hlt] at hQ
            simp only [lcp, if_pos c3] at hQ
            rw [show k + 1 + lcp (List.drop (k + 1) (tX T n)) (List.drop (fr + (k + 1)) key) = k + (lcp (List.drop (k + 1) (tX T n)) (List.drop (fr + k + 1) key) + 1) by rw [← Nat.add_assoc]; omega]
            exact hQ
          · exfalso
            rw [if_neg hlt] at c2
            have : nI ((tX T n).getD k 0) < 0 := by rw [c2]; decide
            exact nneg this rfl
theorem sX3_matching (hW : tWF T) (hc : cNs M φ ψ T) {n tp tb fr : Nat} {key : List Nat} (hn : tU T n = true) (ht : tpR M tp tb key) (hfr : fr ≤ 64) (hQ : Q (some (.int (nI (lcp (tX T n) (key.drop fr))))) M) : xSp l g mX3_matching 0 0 [va_rf (some (φ n)), va_rf (some tp), .int (nI fr)] M Q := by
  refine eX3_matching _ _ _ (bX3_matching_0 _ _ _ (matching_loop hW hc hn ht hfr (tX T n).length 0 (by omega) ?_))
  rw [List.drop_zero, Nat.add_zero, Nat.zero_add]
  exact hQ
/-- where a key's way goes on -/
def tSt (T : TT) (key : List Nat) (n m u : Nat) : Option Nat := if m < (tX T n).length ∨ key.length ≤ u then none else tKb T n (key.getD u 0)
theorem sX8_stepFrom (hW : tWF T) (hc : cNs M φ ψ T) {t n m u tp tb : Nat} {key : List Nat} (hn : tU T n = true) (ht : tpR M tp tb key) (hta : xat M t 5) (hm : xI M t 6 = nI m) (hm12 : m ≤ 12) (hu : xI M t 7 = nI u) (hu64 : u ≤ 64)
    (hQ : Q (some (va_rf ((tSt T key n m u).map φ))) (match tSt T key n m u with | none => M | some _ => xsI M t 7 (nI (u + 1)))) : xSp l g mX8_stepFrom 0 0 [va_rf (some t), va_rf (some (φ n)), va_rf (some tp)] M Q := by
  have hx := (tX_le hW hn).1
  obtain ⟨⟨h1, -⟩, ⟨h5, -⟩, -, -⟩ := hc n hn
  refine eX8_stepFrom _ _ _ (bX8_stepFrom_0 _ _ _ ⟨hta, φ n, rfl, h1, fun c => ?_, fun c => ⟨tp, rfl, ht.1.1, fun c2 => ?_, fun c2 => ?_⟩⟩)
  · have c1 := nlt c hm h5
    have e : tSt T key n m u = none := by simp only [tSt, if_pos (Or.inl c1)]
    rw [e] at hQ; exact hQ
  · have c1 := nnlt c hm h5
    have c3 := nlt c2 hu ht.2.1 (by omega) (by have := ht.2.2.1; omega)
    rw [hu]
    refine tp_byteAt ht (by omega) ⟨_, rfl, h1, ?_⟩
    rw [if_pos c3]
    have hw : key.getD u 0 < 256 := getD_lt ht.2.2.2.2
    have e : tSt T key n m u = tKb T n (key.getD u 0) := by simp only [tSt]; rw [if_neg (by omega)]
    rw [e] at hQ
    refine sX3_childBy hW hc hn (by omega) ⟨_, rfl, fun c4 => ?_, fun c4 => ⟨hta, ?_⟩⟩
    · cases hk : tKb T n (key.getD u 0) with
      | none => rw [hk] at hQ; exact hQ
      | some k => rw [hk] at c4; cases c4
    · cases hk : tKb T n (key.getD u 0) with
      | none => rw [hk] at c4; exact absurd rfl c4
      | some k => rw [hk] at hQ; rw [hu, nI_1]; exact hQ
  · have c1 := nnlt c hm h5
    have c3 := nnlt c2 hu ht.2.1 (by omega) (by have := ht.2.2.1; omega)
    have e : tSt T key n m u = none := by simp only [tSt, if_pos (Or.inr c3)]
    rw [e] at hQ; exact hQ
/-- the end of a key's way: the node, how much of its prefix, how much of the key -/
def tSk (T : TT) (key : List Nat) : Nat → Nat → Nat → Nat × Nat × Nat
  | 0, n, u => (n, lcp (tX T n) (key.drop u), u + lcp (tX T n) (key.drop u))
  | f + 1, n, u => match tSt T key n (lcp (tX T n) (key.drop u)) (u + lcp (tX T n) (key.drop u)) with
    | none => (n, lcp (tX T n) (key.drop u), u + lcp (tX T n) (key.drop u))
    | some c => tSk T key f c (u + lcp (tX T n) (key.drop u) + 1)
theorem tSt_in (hW : tWF T) {key : List Nat} {n m u k : Nat} (hn : tU T n = true) (h : tSt T key n m u = some k) : k ∈ tC T n ∧ tU T k = true ∧ tL T k = tL T n + (tX T n).length + 1 ∧ u < key.length ∧ ¬ m < (tX T n).length := by
  unfold tSt at h
  split at h
  next => cases h
  next hc =>
    unfold tKb at h
    split at h
    next => cases h
    next x hx =>
      split at h
      next hb =>
        cases h
        have h1 := (tK_mem hx).1
        have h2 := hW.2.2.2.2.1 n k hn h1
        exact ⟨h1, h2.1, (hW.2.2.2.1 k n h2.1 h2.2).2.2, by omega, by omega⟩
      next => cases h
/-- the three fields in which a tree keeps where a way ended -/
def sk3 (M : xM) (t : Nat) (s : Option Nat) (m u : Int32) : xM := xsI (xsI (xsR M t 5 s) t 6 m) t 7 u
theorem sk3_3 (M : xM) (t : Nat) (s s' : Option Nat) (m u m' u' : Int32) : sk3 (sk3 M t s m u) t s' m' u' = sk3 M t s' m' u' := by
  refine xM_ext rfl rfl rfl (fun a k => ?_) (fun _ _ => rfl) (fun a k => ?_)
  · simp only [sk3, xI_sI, xI_sR]
    by_cases h7 : a = t ∧ k = 7
    · simp [h7]
    · by_cases h6 : a = t ∧ k = 6
      · simp [h6]
      · simp [h7, h6]
  · simp only [sk3, xR_sI, xR_sR]
    by_cases h5 : a = t ∧ k = 5 <;> simp [h5]
theorem sk3_cNs (hc : cNs M φ ψ T) {t : Nat} {s : Option Nat} {m u : Int32} (ht : xK M t = 5) : cNs (sk3 M t s m u) φ ψ T :=
  cNs_I (cNs_I (cNs_R hc ht (by decide)) (M := xsR M t 5 s) (c := 5) ht (by decide) (by decide)) (M := xsI (xsR M t 5 s) t 6 m) (c := 5) ht (by decide) (by decide)
theorem sk3_tpR {tp tb : Nat} {key : List Nat} (h : tpR M tp tb key) {t : Nat} {s : Option Nat} {m u : Int32} (ht : xK M t = 5) : tpR (sk3 M t s m u) tp tb key :=
  tpR_I (tpR_I (tpR_R h ht (by decide)) (M := xsR M t 5 s) (c := 5) ht (by decide) (by decide)) (M := xsI (xsR M t 5 s) t 6 m) (c := 5) ht (by decide) (by decide)
theorem seek_loop (hW : tWF T) (hc : cNs M φ ψ T) {t tp tb : Nat} {key : List Nat} (ht : tpR M tp tb key) (hta : xat M t 5) : ∀ (f n u : Nat) (s : Option Nat) (m0 : Int32), tU T n = true → 12 ≤ f + tL T n → u ≤ key.length →
    Q none (sk3 M t (some (φ (tSk T key f n u).1)) (nI (tSk T key f n u).2.1) (nI (tSk T key f n u).2.2)) → xWp l g mX8_seek 0 0 10 [(1, va_rf (some t)), (1, va_rf (some tp)), (1, va_rf (some (φ n)))] [] (0, 0) (sk3 M t s m0 (nI u)) Q
  | f, n, u, s, m0, hn, hf, hu, hQ => by
    have hx := (tX_le hW hn).1
    have h64 := ht.2.2.1
    have hl := lcp_le (tX T n) (key.drop u)
    rw [List.length_drop] at hl
    refine bX8_seek_10 _ _ _ ⟨fun c => (by cases c), fun _ => ⟨hta, φ n, rfl, (hc n hn).1.1, ?_⟩⟩
    have e1 : xsR (sk3 M t s m0 (nI u)) t 5 (some (φ n)) = sk3 M t (some (φ n)) m0 (nI u) := by
      simp only [sk3, xsR_sI, xsR_same]
    have e2 : xI (sk3 M t (some (φ n)) m0 (nI u)) t 7 = nI u := by simp [sk3, xI_sI]
    rw [e1, e2]
    refine sX3_matching hW (sk3_cNs hc hta.2) hn (sk3_tpR ht hta.2) (by omega) ⟨_, rfl, hta, ?_⟩
    have e3 : ∀ v : Int32, xsI (sk3 M t (some (φ n)) m0 (nI u)) t 6 v = sk3 M t (some (φ n)) v (nI u) := by
      intro v
      simp only [sk3]
      rw [xsI_comm _ _ _ (Or.inr (by decide)), xsI_same]
    have e4 : ∀ v w x : Int32, xsI (sk3 M t (some (φ n)) v w) t 7 x = sk3 M t (some (φ n)) v x := by
      intro v w x
      simp only [sk3]
      rw [xsI_same]
    have e5 : ∀ v : Int32, xI (sk3 M t (some (φ n)) v (nI u)) t 7 = nI u := by intro v; simp [sk3, xI_sI]
    have e6 : ∀ v : Int32, xI (sk3 M t (some (φ n)) v (nI u)) t 6 = v := by intro v; simp [sk3, xI_sI]
    rw [e3, e4, e5, e6, nI_add]
    refine sX8_stepFrom (m := lcp (tX T n) (key.drop u)) (u := u + lcp (tX T n) (key.drop u)) hW (sk3_cNs hc hta.2) hn (sk3_tpR ht hta.2) hta (by simp [sk3, xI_sI]) (by omega) (by simp [sk3, xI_sI]) (by omega) ⟨_, rfl, ?_⟩
    cases hs : tSt T key n (lcp (tX T n) (key.drop u)) (u + lcp (tX T n) (key.drop u)) with
    | none =>
      refine bX8_seek_10 _ _ _ ⟨fun _ => ?_, fun c => absurd rfl c⟩
      cases f with
      | zero => exact hQ
      | succ f => simp only [tSk, hs] at hQ; exact hQ
    | some k =>
      obtain ⟨k1, k2, k3, k4, k5⟩ := tSt_in hW hn hs
      have k6 := (hW.2.1 k k2).2.2.2
      match f, hf, hQ with
      | 0, hf, _ => omega
      | f + 1, hf, hQ =>
        simp only [e4]
        simp only [tSk, hs] at hQ
        exact seek_loop hW hc ht hta f k _ _ _ k2 (by omega) (by omega) hQ
theorem sX8_seek (hW : tWF T) (hc : cNs M φ ψ T) {t tp tb : Nat} {key : List Nat} (ht : tpR M tp tb key) (hta : xat M t 5) (hr : xR M t 2 = some (φ (tO T)))
    (hQ : Q none (sk3 M t (some (φ (tSk T key 12 (tO T) 0).1)) (nI (tSk T key 12 (tO T) 0).2.1) (nI (tSk T key 12 (tO T) 0).2.2))) : xSp l g mX8_seek 0 0 [va_rf (some t), va_rf (some tp)] M Q := by
  refine eX8_seek _ _ (bX8_seek_0 _ _ ⟨hta, ?_⟩)
  have e1 : xR (xsI M t 7 0) t 2 = some (φ (tO T)) := hr
  rw [e1]
  have e2 : xsI M t 7 0 = sk3 M t (xR M t 5) (xI M t 6) (nI 0) := by
    refine xM_ext rfl rfl rfl (fun a k => ?_) (fun _ _ => rfl) (fun a k => ?_)
    · simp only [sk3, xI_sI, xI_sR]
      by_cases h7 : a = t ∧ k = 7
      · simp [h7]; rfl
      · by_cases h6 : a = t ∧ k = 6
        · simp [h6]
        · simp [h7, h6]
    · simp only [sk3, xR_sI, xR_sR]
      by_cases h5 : a = t ∧ k = 5 <;> simp [h5]
  rw [e2]
  exact seek_loop hW hc ht hta 12 (tO T) 0 _ _ hW.1.1 (by omega) (Nat.zero_le _) hQ
end SK
