/-! A TREE OF THE CLASS: its object, its nodes, its chain of spare nodes. nd and ky: what its counters hold. -/
def tCnt (T : TT) : Nat := (List.range 220).countP (tU T)
def tKy (T : TT) : Nat := (List.range 220).countP (fun n => tU T n && (tV T n).isSome)
theorem cnt_up {p q : Nat → Bool} {c : Nat} (hp : p c = false) (hq : q c = true) (ho : ∀ x, x ≠ c → q x = p x) : ∀ (s : List Nat), s.Nodup → c ∈ s → s.countP q = s.countP p + 1
  | [], _, h => by cases h
  | x :: s, hd, h => by
    obtain ⟨h1, h2⟩ := List.nodup_cons.mp hd
    by_cases hx : x = c
    · subst hx
      have he : s.countP q = s.countP p := List.countP_congr (fun y hy => by rw [ho y (fun z => h1 (z ▸ hy))])
      rw [List.countP_cons_of_pos hq, List.countP_cons_of_neg (by rw [hp]; decide), he]
    · have hs : c ∈ s := by
        rcases List.mem_cons.mp h with rfl | h
        · exact absurd rfl hx
        · exact h
      have ih := cnt_up hp hq ho s h2 hs
      rw [List.countP_cons, List.countP_cons, ih, ho x hx]
      omega
theorem cnt_up220 {p q : Nat → Bool} {c : Nat} (hc : c < 220) (hp : p c = false) (hq : q c = true) (ho : ∀ x, x ≠ c → q x = p x) : (List.range 220).countP q = (List.range 220).countP p + 1 :=
  cnt_up hp hq ho _ List.nodup_range (List.mem_range.mpr hc)
def cTr (M : xM) (t : Nat) (KK : List Nat) (φ ψ : Nat → Nat) (T : TT) (sp : List Nat) (nd ky : Nat) : Prop :=
  (xat M t 5 ∧ xR M t 2 = some (φ (tO T)) ∧ xI M t 3 = nI nd ∧ xI M t 4 = nI ky) ∧
  (cNc M φ ψ T ∧ cInj φ T ∧ ∀ n, tU T n = true → φ n ∈ KK) ∧
  (chS M (xR M t 1) sp ∧ sp.Nodup ∧ (∀ a ∈ sp, a ∈ KK ∧ ∀ n, tU T n = true → φ n ≠ a) ∧ sp.length + nd = 200) ∧
  (∀ a ∈ KK, xat M a 1 ∧ xR M a 0 = some (ψ a) ∧ xat M (ψ a) 9 ∧ xN M (ψ a) = 12) ∧ (∀ a ∈ KK, ∀ b ∈ KK, ψ a = ψ b → a = b)
theorem cNc_ag {P : Nat → Prop} {M M1 : xM} {φ ψ : Nat → Nat} {T : TT} (hW : tWF T) (h : cNc M φ ψ T) (hx : xag P M M1) (hp : ∀ n, tU T n = true → ¬ P (φ n) ∧ ¬ P (ψ (φ n))) : cNc M1 φ ψ T := by
  obtain ⟨⟨e1, e2, e3, -⟩, e4⟩ := hx
  refine ⟨fun n hn => ?_, ?_⟩
  · obtain ⟨f1, f2, f3⟩ := e4 _ (hp n hn).1
    obtain ⟨f4, -, -⟩ := e4 _ (hp n hn).2
    obtain ⟨b, c⟩ := h.1 n hn
    refine ⟨?_, ?_⟩
    · simpa only [cB, xat, e1, e2, e3, f1, f2, f3, f4] using b
    · rw [f3]
      refine chS_fr c (fun a ha => ?_)
      obtain ⟨y, hy, rfl⟩ := List.mem_map.mp ha
      exact (e4 _ (hp y (hW.2.2.2.2.1 n y hn hy).1).1).2.2 11
  · rw [(e4 _ (hp _ hW.1.1).1).2.2]; exact h.2
theorem rst_L (M : xM) (a : Nat) : xL (rst M a) = xL M := by simp only [rst, xL_sI, xL_sJ, xL_sR]
theorem rst_K (M : xM) (a : Nat) : xK (rst M a) = xK M := by simp only [rst, xK_sI, xK_sJ, xK_sR]
theorem rst_N (M : xM) (a : Nat) : xN (rst M a) = xN M := by simp only [rst, xN_sI, xN_sJ, xN_sR]
section TK
variable {l : Launch} {g : xG} {M : xM} {Q : Option Value → xM → Prop} {φ ψ : Nat → Nat} {T : TT} {t nd ky : Nat} {KK sp : List Nat}
/-- the world behind take -/
def tkM (M : xM) (t q nd : Nat) : xM := xsI (rst (xsR M t 1 (xR M q 11)) q) t 3 (nI (nd + 1))
theorem sX8_take {q : Nat} (h : cTr M t KK φ ψ T (q :: sp) nd ky) (hQ : Q (some (va_rf (some q))) (tkM M t q nd)) : xSp l g mX8_take 0 0 [va_rf (some t)] M Q := by
  obtain ⟨⟨h1, h2, h3, h4⟩, -, ⟨c1, c2, c3, c4⟩, k1, -⟩ := h
  have hq := (k1 q (c3 q List.mem_cons_self).1).1
  have htq : t ≠ q := ne_of_kind h1.2 hq.2 (by decide)
  have hr : xR M t 1 = some q := c1.1
  refine eX8_take _ (bX8_take_0 _ ⟨h1, fun c => ?_, fun c => ⟨q, hr, hq, ?_⟩⟩)
  · rw [hr] at c; cases c
  · rw [hr]
    refine sX3_reset hq ⟨rfl, ?_, ?_⟩
    · simp only [xat, rst_L, rst_K, xL_sR, xK_sR]; exact h1
    have e : xI (rst (xsR M t 1 (xR M q 11)) q) t 3 = nI nd := by
      rw [rst_I, if_neg (fun z => htq z.1), xI_sR]; exact h3
    rw [e, nI_1]
    exact hQ
theorem sX8_takeN (h : cTr M t KK φ ψ T [] nd ky) (hQ : Q (some (va_rf none)) M) : xSp l g mX8_take 0 0 [va_rf (some t)] M Q := by
  obtain ⟨⟨h1, -⟩, -, ⟨c1, -⟩, -⟩ := h
  have hr : xR M t 1 = none := c1
  refine eX8_take _ (bX8_take_0 _ ⟨h1, fun c => ?_, fun c => absurd hr c⟩)
  rw [hr]; exact hQ
theorem tk_ag (q : Nat) : xag (fun a => a = t ∨ a = q) M (tkM M t q nd) := by
  refine ⟨⟨by simp only [tkM, xL_sI, rst_L, xL_sR], by simp only [tkM, xK_sI, rst_K, xK_sR], by simp only [tkM, xN_sI, rst_N, xN_sR], fun a => by simp only [tkM]; rw [xR_sI, rst_R, if_neg (fun z => by omega), xR_sR, if_neg (fun z => absurd z.2 (by decide))]⟩, fun a ha => ⟨fun k => ?_, fun k => ?_, fun k => ?_⟩⟩
  · have h1 : a ≠ t := fun z => ha (Or.inl z)
    have h2 : a ≠ q := fun z => ha (Or.inr z)
    simp only [tkM]
    rw [xI_sI, if_neg (fun z => h1 z.1), rst_I, if_neg (fun z => h2 z.1), xI_sR]
  · have h2 : a ≠ q := fun z => ha (Or.inr z)
    simp only [tkM]
    rw [xJ_sI, rst_J, if_neg (fun z => h2 z.1), xJ_sR]
  · have h1 : a ≠ t := fun z => ha (Or.inl z)
    have h2 : a ≠ q := fun z => ha (Or.inr z)
    simp only [tkM]
    rw [xR_sI, rst_R, if_neg (fun z => h2 z.1), xR_sR, if_neg (fun z => h1 z.1)]
theorem tk_c (hW : tWF T) {q : Nat} (h : cTr M t KK φ ψ T (q :: sp) nd ky) : cTr (tkM M t q nd) t KK φ ψ T sp (nd + 1) ky ∧ cNew (tkM M t q nd) ψ q 0 [] none ∧ xR (tkM M t q nd) q 9 = none ∧ xR (tkM M t q nd) q 11 = none := by
  obtain ⟨⟨h1, h2, h3, h4⟩, ⟨n1, n2, n3⟩, ⟨c1, c2, c3, c4⟩, k1, k2⟩ := h
  obtain ⟨hqK, hqn⟩ := c3 q List.mem_cons_self
  obtain ⟨q1, q2, q3, q4⟩ := k1 q hqK
  have htq : t ≠ q := ne_of_kind h1.2 q1.2 (by decide)
  have hag := tk_ag (M := M) (t := t) (nd := nd) q
  have eI : ∀ x j, xI (tkM M t q nd) x j = if x = t ∧ j = 3 then nI (nd + 1) else if x = q ∧ (1 ≤ j ∧ j ≤ 8 ∧ j ≠ 4) then (if j = 2 then 1 else 0) else xI M x j := fun x j => by
    simp only [tkM]
    rw [xI_sI, rst_I, xI_sR]
  have eR : ∀ x j, xR (tkM M t q nd) x j = if x = q ∧ (9 ≤ j ∧ j ≤ 11) then none else if x = t ∧ j = 1 then xR M q 11 else xR M x j := fun x j => by
    simp only [tkM]
    rw [xR_sI, rst_R, xR_sR]
  have hqs : q ∉ sp := (List.nodup_cons.mp c2).1
  have hat : ∀ a c, xat M a c → xat (tkM M t q nd) a c := fun a c z => (hag.at).mpr z
  have hN : ∀ a, xN (tkM M t q nd) a = xN M a := fun a => by rw [hag.1.2.2.1]
  refine ⟨⟨⟨hat _ _ h1, ?_, ?_, ?_⟩, ⟨cNc_ag hW n1 hag (fun n hn => ?_), n2, n3⟩, ⟨?_, (List.nodup_cons.mp c2).2, fun a ha => c3 a (List.mem_cons_of_mem _ ha), by simp only [List.length_cons] at c4; omega⟩, fun a ha => ?_, k2⟩, ⟨⟨hat _ _ q1, ?_, hat _ _ q3, by rw [hN]; exact q4⟩, ⟨?_, fun i hi => absurd hi (by simp)⟩, ⟨?_, ?_, ?_, ?_, ?_, ?_, ?_⟩, ?_⟩, ?_, ?_⟩
  · rw [eR, if_neg (fun z => htq z.1), if_neg (fun z => absurd z.2 (by decide))]; exact h2
  · rw [eI, if_pos ⟨rfl, rfl⟩]
  · rw [eI, if_neg (fun z => absurd z.2 (by decide)), if_neg (fun z => htq z.1)]; exact h4
  · have hb := (n1.1 n hn).1.1
    refine ⟨fun z => ?_, fun z => ?_⟩
    · rcases z with z | z
      · exact ne_of_kind hb.1.2 h1.2 (by decide) z
      · exact hqn n hn z
    · rcases z with z | z
      · exact ne_of_kind hb.2.2.1.2 h1.2 (by decide) z
      · exact ne_of_kind hb.2.2.1.2 q1.2 (by decide) z
  · rw [eR, if_neg (fun z => htq z.1), if_pos ⟨rfl, rfl⟩]
    refine chS_fr c1.2 (fun a ha => ?_)
    have haq : a ≠ q := fun z => hqs (z ▸ ha)
    rw [eR, if_neg (fun z => haq z.1), if_neg (fun z => absurd z.2 (by decide))]
  · obtain ⟨a1, a2, a3, a4⟩ := k1 a ha
    refine ⟨hat _ _ a1, ?_, hat _ _ a3, by rw [hN]; exact a4⟩
    rw [eR, if_neg (fun z => absurd z.2 (by omega)), if_neg (fun z => absurd z.2 (by decide))]; exact a2
  · rw [eR, if_neg (fun z => absurd z.2 (by omega)), if_neg (fun z => absurd z.2 (by decide))]; exact q2
  · rw [eI, if_neg (fun z => htq z.1.symm), if_pos ⟨rfl, by omega, by omega, by omega⟩]; rfl
  · rw [eI, if_neg (fun z => htq z.1.symm), if_pos ⟨rfl, by omega, by omega, by omega⟩]; rfl
  · rw [eI, if_neg (fun z => htq z.1.symm), if_pos ⟨rfl, by omega, by omega, by omega⟩]; rfl
  · simp only [tkM]
    rw [xJ_sI, rst_J, if_pos ⟨rfl, rfl⟩]; rfl
  · rw [eI, if_neg (fun z => htq z.1.symm), if_pos ⟨rfl, by omega, by omega, by omega⟩]; rfl
  · rw [eI, if_neg (fun z => htq z.1.symm), if_pos ⟨rfl, by omega, by omega, by omega⟩]; rfl
  · rw [eI, if_neg (fun z => htq z.1.symm), if_pos ⟨rfl, by omega, by omega, by omega⟩]; rfl
  · rw [eI, if_neg (fun z => htq z.1.symm), if_pos ⟨rfl, by omega, by omega, by omega⟩]; rfl
  · rw [eR, if_pos ⟨rfl, by omega⟩]
  · rw [eR, if_pos ⟨rfl, by omega⟩]
  · rw [eR, if_pos ⟨rfl, by omega⟩]
/-- the world behind release -/
def rlM (M : xM) (t q nd : Nat) : xM := xsI (xsR (xsR M q 11 (xR M t 1)) t 1 (some q)) t 3 (nI nd)
theorem sX8_release {q : Nat} (ht : xat M t 5) (h3 : xI M t 3 = nI (nd + 1)) (hq : xat M q 1) (hQ : Q none (rlM M t q nd)) : xSp l g mX8_release 0 0 [va_rf (some t), va_rf (some q)] M Q := by
  refine eX8_release _ _ (bX8_release_0 _ _ ⟨ht, q, rfl, hq, ?_⟩)
  rw [xI_sR, xI_sR, h3, nI_pred]
  exact hQ
end TK
