/-! A page, a mark of a node; trees that are alike; settle. -/
def tRs (T : TT) (n : Nat) (b : Bool) : TT := (tU T, tP T, tB T, tX T, tV T, tF T, tG T, va_up (tR T) n b, tC T, tL T, tO T)
def tGs (T : TT) (n p : Nat) : TT := (tU T, tP T, tB T, tX T, tV T, tF T, va_up (tG T) n p, tR T, tC T, tL T, tO T)
def tSet (T : TT) : TT := (tU T, tP T, tB T, tX T, tV T, tF T, tG T, (fun _ => false), tC T, tL T, tO T)
theorem tRs_wf {T : TT} (h : tWF T) (n : Nat) (b : Bool) : tWF (tRs T n b) := tWF_same h rfl rfl rfl rfl rfl rfl rfl
theorem tGs_wf {T : TT} (h : tWF T) (n p : Nat) : tWF (tGs T n p) := tWF_same h rfl rfl rfl rfl rfl rfl rfl
theorem tSet_wf {T : TT} (h : tWF T) : tWF (tSet T) := tWF_same h rfl rfl rfl rfl rfl rfl rfl
theorem tSet_inv {T : TT} (h : tInv T) : tInv (tSet T) := h
theorem tE_congr {S T : TT} (h : tC S = tC T) : ∀ (f n : Nat), tE S f n = tE T f n
  | 0, n => rfl
  | f + 1, n => by
    simp only [tE]
    rw [h]
    congr 1
    exact congrArg (fun q => (tC T n).flatMap q) (funext (fun x => tE_congr h f x))
theorem tEs_congr {S T : TT} (h : tC S = tC T) (hO : tO S = tO T) : tEs S = tEs T := by unfold tEs; rw [hO]; exact tE_congr h 13 _
/-- trees that are alike where they are used -/
def tAl (S T : TT) : Prop := (tU S = tU T ∧ tP S = tP T ∧ tC S = tC T ∧ tL S = tL T ∧ tO S = tO T) ∧ ∀ n, tU T n = true → tB S n = tB T n ∧ tX S n = tX T n ∧ tV S n = tV T n ∧ tF S n = tF T n ∧ tG S n = tG T n ∧ tR S n = tR T n
section ST5
variable {l : Launch} {g : xG} {M : xM} {Q : Option Value → xM → Prop} {φ ψ : Nat → Nat} {T : TT} {t nd ky : Nat} {KK sp : List Nat}
theorem cNc.al {S : TT} (h : cNc M φ ψ T) (hs : tAl S T) : cNc M φ ψ S := by
  obtain ⟨⟨u1, u2, u3, u4, u5⟩, u6⟩ := hs
  refine ⟨fun n hn => ?_, by rw [u5]; exact h.2⟩
  rw [u1] at hn
  obtain ⟨a1, a2, a3, a4, a5, a6⟩ := u6 n hn
  have := h.1 n hn
  unfold cB at this ⊢
  rw [a1, a2, a3, a4, a5, a6, u2, u3]
  exact this
theorem cTr.al {S : TT} (h : cTr M t KK φ ψ T sp nd ky) (hs : tAl S T) : cTr M t KK φ ψ S sp nd ky := by
  obtain ⟨⟨h1, h2, h3, h4⟩, ⟨n1, n2, n3⟩, ⟨c1, c2, c3, c4⟩, k1, k2⟩ := h
  have hU := hs.1.1
  have hO := hs.1.2.2.2.2
  exact ⟨⟨h1, by rw [hO]; exact h2, h3, h4⟩, ⟨n1.al hs, by unfold cInj; rw [hU]; exact n2, by rw [hU]; exact n3⟩, ⟨c1, c2, by rw [hU]; exact c3, c4⟩, k1, k2⟩
theorem rs_c (hi : cInj φ T) (h : cNc M φ ψ T) {n : Nat} (hn : tU T n = true) (b : Bool) : cNc (xsI M (φ n) 8 (if b = true then 1 else 0)) φ ψ (tRs T n b) := by
  refine ⟨fun x hx => ?_, h.2⟩
  obtain ⟨⟨⟨b1, b1b, b1c, b1d⟩, ⟨b2, b2b⟩, ⟨i2, i3, i4, i5, i6, i7, i8⟩, b4⟩, b5⟩ := h.1 x hx
  have hps : ψ (φ x) ≠ φ n := ne_of_kind b1c.2 (h.1 n hn).1.1.1.2 (by decide)
  have hF : ∀ j, j ≠ 8 → xI (xsI M (φ n) 8 (if b = true then 1 else 0)) (φ x) j = xI M (φ x) j := fun j h3 => by
    rw [xI_sI, if_neg (fun q => h3 q.2)]
  refine ⟨⟨⟨b1, b1b, b1c, b1d⟩, ⟨by rw [hF 1 (by decide)]; exact b2, fun i hi2 => by rw [xI_sI, if_neg (fun q => hps q.1)]; exact b2b i hi2⟩, ⟨by rw [hF 2 (by decide)]; exact i2, by rw [hF 3 (by decide)]; exact i3, i4, by rw [hF 5 (by decide)]; exact i5, by rw [hF 6 (by decide)]; exact i6, by rw [hF 7 (by decide)]; exact i7, ?_⟩, b4⟩, chS_fr b5 (fun a _ => rfl)⟩
  show xI (xsI M (φ n) 8 _) (φ x) 8 = if va_up (tR T) n b x = true then 1 else 0
  rw [xI_sI]
  by_cases hxn : x = n
  · subst hxn; rw [if_pos ⟨rfl, rfl⟩, va_up_self]
  · rw [if_neg (fun q => hxn (hi x n hx hn q.1)), va_up_ne _ _ hxn]; exact i8
theorem gs_c (hi : cInj φ T) (h : cNc M φ ψ T) {n : Nat} (hn : tU T n = true) (p : Nat) : cNc (xsI M (φ n) 7 (nI p)) φ ψ (tGs T n p) := by
  refine ⟨fun x hx => ?_, h.2⟩
  obtain ⟨⟨⟨b1, b1b, b1c, b1d⟩, ⟨b2, b2b⟩, ⟨i2, i3, i4, i5, i6, i7, i8⟩, b4⟩, b5⟩ := h.1 x hx
  have hps : ψ (φ x) ≠ φ n := ne_of_kind b1c.2 (h.1 n hn).1.1.1.2 (by decide)
  have hF : ∀ j, j ≠ 7 → xI (xsI M (φ n) 7 (nI p)) (φ x) j = xI M (φ x) j := fun j h3 => by
    rw [xI_sI, if_neg (fun q => h3 q.2)]
  refine ⟨⟨⟨b1, b1b, b1c, b1d⟩, ⟨by rw [hF 1 (by decide)]; exact b2, fun i hi2 => by rw [xI_sI, if_neg (fun q => hps q.1)]; exact b2b i hi2⟩, ⟨by rw [hF 2 (by decide)]; exact i2, by rw [hF 3 (by decide)]; exact i3, i4, by rw [hF 5 (by decide)]; exact i5, by rw [hF 6 (by decide)]; exact i6, ?_, by rw [hF 8 (by decide)]; exact i8⟩, b4⟩, chS_fr b5 (fun a _ => rfl)⟩
  show xI (xsI M (φ n) 7 _) (φ x) 7 = nI (va_up (tG T) n p x)
  rw [xI_sI]
  by_cases hxn : x = n
  · subst hxn; rw [if_pos ⟨rfl, rfl⟩, va_up_self]
  · rw [if_neg (fun q => hxn (hi x n hx hn q.1)), va_up_ne _ _ hxn]; exact i7
theorem cTr.rs (hW : tWF T) (h : cTr M t KK φ ψ T sp nd ky) {n : Nat} (hn : tU T n = true) (b : Bool) : cTr (xsI M (φ n) 8 (if b = true then 1 else 0)) t KK φ ψ (tRs T n b) sp nd ky ∧ xag (RG t KK ψ) M (xsI M (φ n) 8 (if b = true then 1 else 0)) :=
  h.no hW (xag_I M ⟨n, hn, Or.inl rfl⟩) (fun _ => rfl) (rs_c h.2.1.2.1 h.2.1.1 hn b) rfl rfl
theorem cTr.gs (hW : tWF T) (h : cTr M t KK φ ψ T sp nd ky) {n : Nat} (hn : tU T n = true) (p : Nat) : cTr (xsI M (φ n) 7 (nI p)) t KK φ ψ (tGs T n p) sp nd ky ∧ xag (RG t KK ψ) M (xsI M (φ n) 7 (nI p)) :=
  h.no hW (xag_I M ⟨n, hn, Or.inl rfl⟩) (fun _ => rfl) (gs_c h.2.1.2.1 h.2.1.1 hn p) rfl rfl
theorem fold_rs (T : TT) : ∀ (s : List Nat) (S : TT), tAl (s.foldl (fun S n => tRs S n false) S) (tU S, tP S, tB S, tX S, tV S, tF S, tG S, (fun x => if x ∈ s then false else tR S x), tC S, tL S, tO S)
  | [], S => ⟨⟨rfl, rfl, rfl, rfl, rfl⟩, fun n hn => ⟨rfl, rfl, rfl, rfl, rfl, by show tR S n = if n ∈ ([] : List Nat) then false else tR S n; rw [if_neg (by simp)]⟩⟩
  | a :: s, S => by
    obtain ⟨⟨u1, u2, u3, u4, u5⟩, u6⟩ := fold_rs T s (tRs S a false)
    refine ⟨⟨u1, u2, u3, u4, u5⟩, fun n hn => ?_⟩
    obtain ⟨a1, a2, a3, a4, a5, a6⟩ := u6 n hn
    refine ⟨a1, a2, a3, a4, a5, a6.trans ?_⟩
    show (if n ∈ s then false else va_up (tR S) a false n) = if n ∈ a :: s then false else tR S n
    by_cases h1 : n ∈ s
    · rw [if_pos h1, if_pos (List.mem_cons_of_mem _ h1)]
    · rw [if_neg h1]
      by_cases h2 : n = a
      · rw [h2, va_up_self, if_pos List.mem_cons_self]
      · rw [va_up_ne _ _ h2, if_neg (fun z => (List.mem_cons.mp z).elim h2 h1)]
theorem settle_loop (hW : tWF T) : ∀ (l2 l1 : List Nat) (S : TT) (M : xM), tWF S → tEs S = l1 ++ l2 → cTr M t KK φ ψ S sp nd ky → (∀ M1, cTr M1 t KK φ ψ (l2.foldl (fun S n => tRs S n false) S) sp nd ky → xag (RG t KK ψ) M M1 → Q none M1) → xWp l g mX8_settle 0 0 5 [(1, va_rf (some t)), (1, va_rf (l2.head?.map φ))] [] (0, 0) M Q
  | [], l1, S, M, hS, hl, h, hQ => bX8_settle_5 _ _ ⟨fun _ => hQ M h xag.rf, fun z => absurd rfl z⟩
  | n :: r, l1, S, M, hS, hl, h, hQ => by
    obtain ⟨hn, hN⟩ := tEs_at hS hl
    obtain ⟨q1, q2⟩ := h.rs hS hn false
    have hS1 := tRs_wf hS n false
    have hl1 : tEs (tRs S n false) = l1 ++ n :: r := (tEs_congr (S := tRs S n false) (T := S) rfl rfl).trans hl
    have hN1 := (tEs_at hS1 hl1).2
    refine bX8_settle_5 _ _ ⟨fun z => (by cases z), fun _ => ⟨φ n, rfl, (h.2.1.1.1 n hn).1.1.1, ?_⟩⟩
    refine sX3_following hS1 (q1.ns hS1) hn ⟨_, rfl, ?_⟩
    rw [hN1]
    exact settle_loop hW r (l1 ++ [n]) (tRs S n false) _ hS1 (by rw [hl1]; simp) q1 (fun M1 r1 r2 => hQ M1 r1 (q2.trans r2))
theorem sX8_settle (hW : tWF T) (h : cTr M t KK φ ψ T sp nd ky) (hQ : ∀ M1, cTr M1 t KK φ ψ (tSet T) sp nd ky → xag (RG t KK ψ) M M1 → Q none M1) : xSp l g mX8_settle 0 0 [va_rf (some t)] M Q := by
  refine eX8_settle _ (bX8_settle_0 _ ⟨h.1.1, ?_⟩)
  have e : xR M t 2 = (tEs T).head?.map φ := by rw [tEs_head]; exact h.1.2.1
  rw [e]
  refine settle_loop hW (tEs T) [] T M hW rfl h (fun M1 r1 r2 => hQ M1 (r1.al ?_) r2)
  obtain ⟨⟨u1, u2, u3, u4, u5⟩, u6⟩ := fold_rs T (tEs T) T
  refine ⟨⟨u1.symm, u2.symm, u3.symm, u4.symm, u5.symm⟩, fun n hn => ?_⟩
  rw [u1] at hn
  have hn1 : tU T n = true := hn
  obtain ⟨a1, a2, a3, a4, a5, a6⟩ := u6 n hn1
  refine ⟨a1.symm, a2.symm, a3.symm, a4.symm, a5.symm, ?_⟩
  rw [a6]
  show false = if n ∈ tEs T then false else tR T n
  rw [if_pos ((tEs_mem hW).mpr hn1)]
end ST5
