/-! THE STORE: its pages, saving. -/
theorem tC_cnt {T : TT} (hW : tWF T) {n : Nat} (hn : tU T n = true) : (tC T n).length ≤ tCnt T := by
  have h1 := cnt_same (fun x => decide (x ∈ tC T n)) (tC T n) (List.range 220) (tC_nodup hW hn) List.nodup_range (fun x hx => by
    have hx1 : x ∈ tC T n := by simpa using hx
    exact ⟨fun _ => List.mem_range.mpr (hW.2.1 x (hW.2.2.2.2.1 n x hn hx1).1).1, fun _ => hx1⟩)
  have h2 : (tC T n).countP (fun x => decide (x ∈ tC T n)) = (tC T n).length := List.countP_eq_length.mpr (fun x hx => by simpa using hx)
  rw [← h2, h1]
  exact List.countP_mono_left (fun x _ hx => (hW.2.2.2.2.1 n x hn (by simpa using hx)).1)
/-- the store of the class -/
def sto (M : xM) (s d db w rb w2 rb2 ta : Nat) (D : Nat → Nat) (pw : Option Nat) (tr : Nat) (tk : Nat → Bool) : Prop :=
  (xat M s 3 ∧ xR M s 0 = some d ∧ xR M s 1 = some w ∧ xR M s 2 = some w2 ∧ xR M s 3 = some ta) ∧ dkR M d db D pw tr ∧ (∃ f, rwR M w rb f) ∧ (∃ f, rwR M w2 rb2 f) ∧ (xat M ta 11 ∧ xN M ta = 256 ∧ ∀ p, p < 256 → xI M ta p = if tk p = true then 1 else 0) ∧ (rb ≠ rb2 ∧ rb ≠ db ∧ rb2 ≠ db)
/-- the store's cells that change -/
def RS (d db rb rb2 ta a : Nat) : Prop := a = d ∨ a = db ∨ a = rb ∨ a = rb2 ∨ a = ta
section SV
variable {l : Launch} {g : xG} {M : xM} {Q : Option Value → xM → Prop} {φ ψ : Nat → Nat} {T : TT} {t nd ky n p : Nat} {KK sp : List Nat} {s d db w rb w2 rb2 ta tr : Nat} {D : Nat → Nat} {pw : Option Nat} {tk : Nat → Bool}
theorem RG_k (h : cTr M t KK φ ψ T sp nd ky) {x k : Nat} (hx : xK M x = k) (h5 : k ≠ 5) (h1 : k ≠ 1) (h9 : k ≠ 9) : ¬ RG t KK ψ x := fun z => by
  rcases z with z | z | ⟨b, hb, z⟩
  · exact ne_of_kind hx h.1.1.2 h5 z
  · exact ne_of_kind hx (h.2.2.2.1 _ z).1.2 h1 rfl
  · exact ne_of_kind hx (h.2.2.2.1 _ hb).2.2.1.2 h9 z
theorem sto.ag {P : Nat → Prop} {M1 : xM} (h : sto M s d db w rb w2 rb2 ta D pw tr tk) (hx : xag P M M1) (hs : ¬ P s) (h1 : ¬ P d) (h2 : ¬ P db) (h3 : ¬ P rb) (h4 : ¬ P rb2) (h5 : ¬ P ta) : sto M1 s d db w rb w2 rb2 ta D pw tr tk := by
  obtain ⟨⟨a1, a2, a3, a4, a5⟩, b, ⟨f1, c1⟩, ⟨f2, c2⟩, ⟨e1, e2, e3⟩, g1⟩ := h
  obtain ⟨q1, q2, q3⟩ := hx.2 s hs
  exact ⟨⟨hx.at.mpr a1, by rw [q3]; exact a2, by rw [q3]; exact a3, by rw [q3]; exact a4, by rw [q3]; exact a5⟩, b.ag hx h1 h2, ⟨f1, c1.ag hx h3⟩, ⟨f2, c2.ag hx h4⟩, ⟨hx.at.mpr e1, by rw [hx.1.2.2.1]; exact e2, fun p hp => by rw [(hx.2 ta h5).1]; exact e3 p hp⟩, g1⟩
theorem sto.rg {M1 : xM} (h : sto M s d db w rb w2 rb2 ta D pw tr tk) (hc : cTr M t KK φ ψ T sp nd ky) (hx : xag (RG t KK ψ) M M1) : sto M1 s d db w rb w2 rb2 ta D pw tr tk := by
  obtain ⟨⟨a1, a2, a3, a4, a5⟩, b, ⟨f1, c1⟩, ⟨f2, c2⟩, ⟨e1, e2, e3⟩, g1⟩ := id h
  exact h.ag hx (RG_k hc a1.2 (by decide) (by decide) (by decide)) (RG_k hc b.1.1.2 (by decide) (by decide) (by decide)) (RG_k hc b.1.2.2.1.2 (by decide) (by decide) (by decide)) (RG_k hc c1.1.2.2.1.2 (by decide) (by decide) (by decide)) (RG_k hc c2.1.2.2.1.2 (by decide) (by decide) (by decide)) (RG_k hc e1.2 (by decide) (by decide) (by decide))
theorem sto.no (h : sto M s d db w rb w2 rb2 ta D pw tr tk) (hc : cTr M t KK φ ψ T sp nd ky) : ∀ a, RS d db rb rb2 ta a → ¬ RG t KK ψ a := fun a z => by
  obtain ⟨⟨a1, a2, a3, a4, a5⟩, b, ⟨f1, c1⟩, ⟨f2, c2⟩, ⟨e1, e2, e3⟩, g1⟩ := h
  rcases z with z | z | z | z | z
  · rw [z]; exact RG_k hc b.1.1.2 (by decide) (by decide) (by decide)
  · rw [z]; exact RG_k hc b.1.2.2.1.2 (by decide) (by decide) (by decide)
  · rw [z]; exact RG_k hc c1.1.2.2.1.2 (by decide) (by decide) (by decide)
  · rw [z]; exact RG_k hc c2.1.2.2.1.2 (by decide) (by decide) (by decide)
  · rw [z]; exact RG_k hc e1.2 (by decide) (by decide) (by decide)
/-- another disk, another first row -/
theorem sto.dk {M1 : xM} {D1 : Nat → Nat} {pw1 : Option Nat} (h : sto M s d db w rb w2 rb2 ta D pw tr tk) (hx : xag (fun a => a = d ∨ a = db) M M1) (hd : dkR M1 d db D1 pw1 tr) : sto M1 s d db w rb w2 rb2 ta D1 pw1 tr tk := by
  obtain ⟨⟨a1, a2, a3, a4, a5⟩, b, ⟨f1, c1⟩, ⟨f2, c2⟩, ⟨e1, e2, e3⟩, g1, g2, g3⟩ := h
  have hs : ¬ (s = d ∨ s = db) := fun z => z.elim (ne_of_kind a1.2 b.1.1.2 (by decide)) (ne_of_kind a1.2 b.1.2.2.1.2 (by decide))
  have hr1 : ¬ (rb = d ∨ rb = db) := fun z => z.elim (ne_of_kind c1.1.2.2.1.2 b.1.1.2 (by decide)) g2
  have hr2 : ¬ (rb2 = d ∨ rb2 = db) := fun z => z.elim (ne_of_kind c2.1.2.2.1.2 b.1.1.2 (by decide)) g3
  have ht : ¬ (ta = d ∨ ta = db) := fun z => z.elim (ne_of_kind e1.2 b.1.1.2 (by decide)) (ne_of_kind e1.2 b.1.2.2.1.2 (by decide))
  obtain ⟨q1, q2, q3⟩ := hx.2 s hs
  exact ⟨⟨hx.at.mpr a1, by rw [q3]; exact a2, by rw [q3]; exact a3, by rw [q3]; exact a4, by rw [q3]; exact a5⟩, hd, ⟨f1, c1.ag hx hr1⟩, ⟨f2, c2.ag hx hr2⟩, ⟨hx.at.mpr e1, by rw [hx.1.2.2.1]; exact e2, fun p hp => by rw [(hx.2 ta ht).1]; exact e3 p hp⟩, g1, g2, g3⟩
theorem sto.rw1 {M1 : xM} {f : Nat → Nat} (h : sto M s d db w rb w2 rb2 ta D pw tr tk) (hx : xag (fun a => a = rb) M M1) (hr : rwR M1 w rb f) : sto M1 s d db w rb w2 rb2 ta D pw tr tk := by
  obtain ⟨⟨a1, a2, a3, a4, a5⟩, b, ⟨f1, c1⟩, ⟨f2, c2⟩, ⟨e1, e2, e3⟩, g1, g2, g3⟩ := h
  have hs : ¬ s = rb := ne_of_kind a1.2 c1.1.2.2.1.2 (by decide)
  have ht : ¬ ta = rb := ne_of_kind e1.2 c1.1.2.2.1.2 (by decide)
  obtain ⟨q1, q2, q3⟩ := hx.2 s hs
  exact ⟨⟨hx.at.mpr a1, by rw [q3]; exact a2, by rw [q3]; exact a3, by rw [q3]; exact a4, by rw [q3]; exact a5⟩, b.ag hx (ne_of_kind b.1.1.2 c1.1.2.2.1.2 (by decide)) (Ne.symm g2), ⟨f, hr⟩, ⟨f2, c2.ag hx (Ne.symm g1)⟩, ⟨hx.at.mpr e1, by rw [hx.1.2.2.1]; exact e2, fun p hp => by rw [(hx.2 ta ht).1]; exact e3 p hp⟩, g1, g2, g3⟩
theorem sto.rw2 {M1 : xM} {f : Nat → Nat} (h : sto M s d db w rb w2 rb2 ta D pw tr tk) (hx : xag (fun a => a = rb2) M M1) (hr : rwR M1 w2 rb2 f) : sto M1 s d db w rb w2 rb2 ta D pw tr tk := by
  obtain ⟨⟨a1, a2, a3, a4, a5⟩, b, ⟨f1, c1⟩, ⟨f2, c2⟩, ⟨e1, e2, e3⟩, g1, g2, g3⟩ := h
  have hs : ¬ s = rb2 := ne_of_kind a1.2 c2.1.2.2.1.2 (by decide)
  have ht : ¬ ta = rb2 := ne_of_kind e1.2 c2.1.2.2.1.2 (by decide)
  obtain ⟨q1, q2, q3⟩ := hx.2 s hs
  exact ⟨⟨hx.at.mpr a1, by rw [q3]; exact a2, by rw [q3]; exact a3, by rw [q3]; exact a4, by rw [q3]; exact a5⟩, b.ag hx (ne_of_kind b.1.1.2 c2.1.2.2.1.2 (by decide)) (Ne.symm g3), ⟨f1, c1.ag hx g1⟩, ⟨f, hr⟩, ⟨hx.at.mpr e1, by rw [hx.1.2.2.1]; exact e2, fun p hp => by rw [(hx.2 ta ht).1]; exact e3 p hp⟩, g1, g2, g3⟩
theorem sto.tup {p : Nat} (h : sto M s d db w rb w2 rb2 ta D pw tr tk) (b : Bool) : sto (xsI M ta p (if b = true then 1 else 0)) s d db w rb w2 rb2 ta D pw tr (va_up tk p b) := by
  obtain ⟨⟨a1, a2, a3, a4, a5⟩, bb, ⟨f1, c1⟩, ⟨f2, c2⟩, ⟨e1, e2, e3⟩, g1, g2, g3⟩ := h
  have hx : xag (fun a => a = ta) M (xsI M ta p (if b = true then 1 else 0)) := xag_I _ rfl
  have hkt : ∀ {x k : Nat}, xat M x k → k ≠ 11 → ¬ x = ta := fun hx2 hk => ne_of_kind hx2.2 e1.2 hk
  refine ⟨⟨a1, a2, a3, a4, a5⟩, bb.ag hx (hkt bb.1.1 (by decide)) (hkt bb.1.2.2.1 (by decide)), ⟨f1, c1.ag hx (hkt c1.1.2.2.1 (by decide))⟩, ⟨f2, c2.ag hx (hkt c2.1.2.2.1 (by decide))⟩, ⟨e1, e2, fun q hq => ?_⟩, g1, g2, g3⟩
  rw [xI_sI]
  by_cases hqp : q = p
  · rw [if_pos ⟨rfl, hqp⟩, hqp, va_up_self]
  · rw [if_neg (fun z => hqp z.2), va_up_ne _ _ hqp]; exact e3 q hq
theorem sX6_takePage (h : sto M s d db w rb w2 rb2 ta D pw tr tk) (hp : p < 256) (hQ : ∀ M1, sto M1 s d db w rb w2 rb2 ta D pw tr (if 2 ≤ p ∧ tk p = false then va_up tk p true else tk) → xag (fun a => a = ta) M M1 → Q (some (.int (if 2 ≤ p ∧ tk p = false then 1 else 0))) M1) : xSp l g mX6_takePage 0 0 [va_rf (some s), .int (nI p)] M Q := by
  obtain ⟨⟨a1, a2, a3, a4, a5⟩, b, ⟨f1, c1⟩, ⟨f2, c2⟩, ⟨e1, e2, e3⟩, g1⟩ := id h
  refine eX6_takePage _ _ (bX6_takePage_0 _ _ ⟨fun c => ?_, fun c => ⟨a1, ta, a5, e1, fun c2 => ?_, fun _ => ⟨p, ⟨e1, rfl, by rw [e2]; exact hp, by rw [e2]; omega⟩, fun c3 => ⟨p, ⟨e1, rfl, by rw [e2]; exact hp, by rw [e2]; omega⟩, ?_⟩, fun c3 => ?_⟩⟩⟩)
  · have k := nlt c rfl (b := 2) rfl
    have := hQ M
    rw [if_neg (by omega), if_neg (by omega)] at this
    exact this h xag.rf
  · exfalso
    rw [e2] at c2
    have := nle c2 rfl rfl
    omega
  · have k := nnlt c rfl (b := 2) rfl
    rw [e3 p hp] at c3
    have kf := z01.mp c3
    have := hQ (xsI M ta p 1)
    rw [if_pos ⟨k, kf⟩, if_pos ⟨k, kf⟩] at this
    exact this (h.tup true) (xag_I _ rfl)
  · rw [e3 p hp] at c3
    have kf := bnf (fun z => c3 (z01.mpr z))
    have := hQ M
    rw [if_neg (fun z => by rw [kf] at z; cases z.2), if_neg (fun z => by rw [kf] at z; cases z.2)] at this
    exact this h xag.rf
theorem least_loop (hc : cTk tk < 254) {M0 : xM} (hcont : ∀ M1, sto M1 s d db w rb w2 rb2 ta D pw tr (va_up tk (tLp tk) true) → xag (fun a => a = ta) M0 M1 → Q (some (.int (nI (tLp tk)))) M1) : ∀ (k p : Nat) (M1 : xM), tLp tk = p + k → 2 ≤ p → (∀ q, 2 ≤ q → q < p → tk q = true) → sto M1 s d db w rb w2 rb2 ta D pw tr tk → xag (fun a => a = ta) M0 M1 → xWp l g mX6_takeLeastPage 0 0 2 [(1, va_rf (some s)), (1, .int (nI p))] [] (0, 0) M1 Q := by
  obtain ⟨o1, o2, o3⟩ := tLp_ok hc
  intro k
  induction k with
  | zero =>
    intro p M1 hk hp hl h hx
    have hp2 : tLp tk = p := by omega
    rw [hp2] at hcont o2 o3
    refine bX6_takeLeastPage_2 _ _ ⟨h.1.1, ta, h.1.2.2.2.2, h.2.2.2.2.1.1, fun c => ?_, fun _ => sX6_takePage h o2 (fun M2 r1 r2 => ⟨_, rfl, ?_⟩)⟩
    · exfalso
      rw [h.2.2.2.2.1.2.1] at c
      have := nle c rfl rfl
      omega
    · rw [if_pos ⟨hp, o3⟩] at r1 ⊢
      exact ⟨fun c => absurd c (by decide), fun _ => hcont M2 r1 (hx.trans r2)⟩
  | succ k ih =>
    intro p M1 hk hp hl h hx
    have htp : tk p = true := by
      cases ht : tk p with
      | true => rfl
      | false =>
        have := tLp_eq hp (by omega) ht hl
        omega
    refine bX6_takeLeastPage_2 _ _ ⟨h.1.1, ta, h.1.2.2.2.2, h.2.2.2.2.1.1, fun c => ?_, fun _ => sX6_takePage h (by omega) (fun M2 r1 r2 => ⟨_, rfl, ?_⟩)⟩
    · exfalso
      rw [h.2.2.2.2.1.2.1] at c
      have := nle c rfl rfl
      omega
    · rw [if_neg (fun z => by rw [htp] at z; cases z.2)] at r1 ⊢
      refine ⟨fun _ => ?_, fun c => absurd rfl c⟩
      rw [nI_1]
      refine ih (p + 1) M2 (by omega) (by omega) (fun q q1 q2 => ?_) r1 (hx.trans r2)
      by_cases hq : q = p
      · rw [hq]; exact htp
      · exact hl q q1 (by omega)
theorem sX6_takeLeastPage (hc : cTk tk < 254) (h : sto M s d db w rb w2 rb2 ta D pw tr tk) (hQ : ∀ M1, sto M1 s d db w rb w2 rb2 ta D pw tr (va_up tk (tLp tk) true) → xag (fun a => a = ta) M M1 → Q (some (.int (nI (tLp tk)))) M1) : xSp l g mX6_takeLeastPage 0 0 [va_rf (some s)] M Q :=
  eX6_takeLeastPage _ (bX6_takeLeastPage_0 _ (least_loop hc hQ (tLp tk - 2) 2 M (by have := (tLp_ok hc).1; omega) (by omega) (fun q q1 q2 => by omega) h xag.rf))
theorem free_loop {M0 : xM} (hcont : ∀ M1, sto M1 s d db w rb w2 rb2 ta D pw tr (fun _ => false) → xag (fun a => a = ta) M0 M1 → Q none M1) : ∀ (k p : Nat) (M1 : xM) (tk : Nat → Bool), 256 = p + k → (∀ q, q < p → tk q = false) → sto M1 s d db w rb w2 rb2 ta D pw tr tk → xag (fun a => a = ta) M0 M1 → xWp l g mX6_freeAllPages 0 0 2 [(1, va_rf (some s)), (1, .int (nI p))] [] (0, 0) M1 Q
  | 0, p, M1, tk, hk, hl, h, hx => by
    have hp : p = 256 := by omega
    subst hp
    refine bX6_freeAllPages_2 _ _ ⟨h.1.1, ta, h.1.2.2.2.2, h.2.2.2.2.1.1, fun _ => hcont M1 ?_ hx, fun c => absurd (by rw [h.2.2.2.2.1.2.1]; exact Int32.le_refl _) c⟩
    obtain ⟨aa, b, c1, c2, ⟨e1, e2, e3⟩, g1⟩ := h
    exact ⟨aa, b, c1, c2, ⟨e1, e2, fun p hp => by rw [e3 p hp, hl p hp]⟩, g1⟩
  | k + 1, p, M1, tk, hk, hl, h, hx => by
    refine bX6_freeAllPages_2 _ _ ⟨h.1.1, ta, h.1.2.2.2.2, h.2.2.2.2.1.1, fun c => ?_, fun _ => ⟨p, ⟨h.2.2.2.2.1.1, rfl, by rw [h.2.2.2.2.1.2.1]; omega, by rw [h.2.2.2.2.1.2.1]; omega⟩, ?_⟩⟩
    · exfalso
      rw [h.2.2.2.2.1.2.1] at c
      have := nle c rfl rfl
      omega
    · rw [nI_1]
      refine free_loop hcont k (p + 1) _ (va_up tk p false) (by omega) (fun q hq => ?_) (h.tup (p := p) false) (hx.trans (xag_I _ rfl))
      by_cases hqp : q = p
      · rw [hqp, va_up_self]
      · rw [va_up_ne _ _ hqp]; exact hl q (by omega)
theorem sX6_freeAllPages (h : sto M s d db w rb w2 rb2 ta D pw tr tk) (hQ : ∀ M1, sto M1 s d db w rb w2 rb2 ta D pw tr (fun _ => false) → xag (fun a => a = ta) M M1 → Q none M1) : xSp l g mX6_freeAllPages 0 0 [va_rf (some s)] M Q :=
  eX6_freeAllPages _ (bX6_freeAllPages_0 _ (free_loop hQ 256 0 M tk rfl (fun q hq => by omega) h xag.rf))
theorem mark_loop (hW : tWF T) (hG : ∀ n, tU T n = true → tG T n < 256) {M0 : xM} (h0 : cTr M0 t KK φ ψ T sp nd ky) (hcont : ∀ M1, sto M1 s d db w rb w2 rb2 ta D pw tr (tTk T) → xag (fun a => a = ta) M0 M1 → Q none M1) : ∀ (l2 l1 : List Nat) (M1 : xM) (tk : Nat → Bool), tEs T = l1 ++ l2 → (∀ p, tk p = (decide (2 ≤ p) && l1.any (fun n => decide (tG T n = p)))) → sto M1 s d db w rb w2 rb2 ta D pw tr tk → xag (fun a => a = ta) M0 M1 → xWp l g mX6_markPagesOf 0 0 9 [(1, va_rf (some s)), (1, va_rf (some t)), (1, va_rf (l2.head?.map φ))] [] (0, 0) M1 Q
  | [], l1, M1, tk, hl, htk, h, hx => by
    rw [List.append_nil] at hl
    have e : tk = tTk T := by funext p; rw [htk, tTk, hl]
    rw [e] at h
    exact bX6_markPagesOf_9 _ _ _ ⟨fun _ => hcont M1 h hx, fun c => absurd rfl c⟩
  | n :: r, l1, M1, tk, hl, htk, h, hx => by
    obtain ⟨hn, hN⟩ := tEs_at hW hl
    have hno : ∀ a, a = ta → ¬ RG t KK ψ a := fun a z => by
      rw [z]
      have e1 := h.2.2.2.2.1.1.2
      rw [hx.1.2.1] at e1
      exact RG_k h0 e1 (by decide) (by decide) (by decide)
    have h1 := h0.ag hW hx hno
    have hb := (h1.2.1.1.1 n hn).1
    refine bX6_markPagesOf_9 _ _ _ ⟨fun z => (by cases z), fun _ => ⟨φ n, rfl, hb.1.1, h.1.1, ?_⟩⟩
    rw [hb.2.2.1.2.2.2.2.2.1]
    refine sX6_takePage h (hG n hn) (fun M2 r1 r2 => ⟨_, rfl, ?_⟩)
    have h2 := h0.ag hW (hx.trans r2) hno
    refine ⟨(h2.2.1.1.1 n hn).1.1.1, sX3_following hW (h2.ns hW) hn ⟨_, rfl, ?_⟩⟩
    rw [hN]
    refine mark_loop hW hG h0 hcont r (l1 ++ [n]) M2 _ (by rw [hl]; simp) (fun p => ?_) r1 (hx.trans r2)
    rw [List.any_append, List.any_cons, List.any_nil, Bool.or_false]
    by_cases hc : 2 ≤ tG T n ∧ tk (tG T n) = false
    · rw [if_pos hc]
      by_cases hp : p = tG T n
      · rw [hp, va_up_self]; simp [hc.1]
      · rw [va_up_ne _ _ hp, htk]
        have : ¬ tG T n = p := fun z => hp z.symm
        simp [this]
    · rw [if_neg hc, htk]
      by_cases hp : tG T n = p
      · by_cases h2 : 2 ≤ p
        · have ht : tk p = true := by
            cases ht : tk p with
            | true => rfl
            | false => exact absurd ⟨by rw [hp]; exact h2, by rw [hp]; exact ht⟩ hc
          rw [htk] at ht
          rw [ht]
          simp [h2, hp]
        · simp [h2]
      · simp [hp]
theorem sX6_markPagesOf (hW : tWF T) (hG : ∀ n, tU T n = true → tG T n < 256) (hc : cTr M t KK φ ψ T sp nd ky) (h : sto M s d db w rb w2 rb2 ta D pw tr tk) (hQ : ∀ M1, sto M1 s d db w rb w2 rb2 ta D pw tr (tTk T) → xag (fun a => a = ta) M M1 → Q none M1) : xSp l g mX6_markPagesOf 0 0 [va_rf (some s), va_rf (some t)] M Q := by
  refine eX6_markPagesOf _ _ (bX6_markPagesOf_0 _ _ ⟨h.1.1, sX6_freeAllPages h (fun M1 r1 x1 => ⟨rfl, ?_⟩)⟩)
  have hno : ∀ a, a = ta → ¬ RG t KK ψ a := fun a z => by rw [z]; exact RG_k hc h.2.2.2.2.1.1.2 (by decide) (by decide) (by decide)
  have h1 := hc.ag hW x1 hno
  refine ⟨t, rfl, h1.1.1, ?_⟩
  have e : xR M1 t 2 = (tEs T).head?.map φ := by rw [tEs_head]; exact h1.1.2.1
  rw [e]
  exact mark_loop hW hG h1 (fun M2 r2 x2 => hQ M2 r2 (x1.trans x2)) (tEs T) [] M1 _ rfl (fun p => by simp) r1 xag.rf
end SV
