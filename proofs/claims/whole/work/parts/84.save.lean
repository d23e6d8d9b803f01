/-! Saving in the class. -/
theorem tGs_i1 {T : TT} (h : tI1 T) {n p : Nat} (hp : p < 256) : tI1 (tGs T n p) := by
  intro x hx
  obtain ⟨a1, a2, a3, a4⟩ := h x hx
  refine ⟨a1, a2, ?_, a4⟩
  show va_up (tG T) n p x < 256
  by_cases hxn : x = n
  · rw [hxn, va_up_self]; exact hp
  · rw [va_up_ne _ _ hxn]; exact a3
theorem tPo_congr {S T : TT} (h : tC S = tC T) : ∀ (f n : Nat), tPo S f n = tPo T f n
  | 0, n => rfl
  | f + 1, n => by
    simp only [tPo]
    rw [h]
    congr 1
    exact congrArg (fun q => (tC T n).flatMap q) (funext (fun x => tPo_congr h f x))
theorem tPs_congr {S T : TT} (h : tC S = tC T) (hO : tO S = tO T) : tPs S = tPs T := by unfold tPs; rw [hO]; exact tPo_congr h 13 _
section SV2
variable {l : Launch} {g : xG} {M : xM} {Q : Option Value → xM → Prop} {φ ψ : Nat → Nat} {T : TT} {t nd ky n p : Nat} {KK sp : List Nat} {s d db w rb w2 rb2 ta tr : Nat} {D : Nat → Nat} {pw : Option Nat} {tk : Nat → Bool} {Q1 : Bool × SvS → Prop}
theorem sX6_saveNode (hW : tWF T) (h1 : tI1 T) (h200 : tCnt T ≤ 200) (hc : cTk tk < 254) (ht : cTr M t KK φ ψ T sp nd ky) (h : sto M s d db w rb w2 rb2 ta D pw tr tk) (hn : tU T n = true)
    (hQ : ∀ M1, cTr M1 t KK φ ψ (svN tr (T, tk, D, pw) n).1 sp nd ky → sto M1 s d db w rb w2 rb2 ta (svN tr (T, tk, D, pw) n).2.2.1 (svN tr (T, tk, D, pw) n).2.2.2 tr (svN tr (T, tk, D, pw) n).2.1 → xag (fun a => RG t KK ψ a ∨ RS d db rb rb2 ta a) M M1 → Q (some (.int (if pw = some 0 then 0 else 1))) M1) : xSp l g mX6_saveNode 0 0 [va_rf (some s), va_rf (some (φ n))] M Q := by
  obtain ⟨o1, o2, o3⟩ := tLp_ok hc
  refine eX6_saveNode _ _ (bX6_saveNode_0 _ _ ⟨h.1.1, sX6_takeLeastPage hc h (fun M1 r1 x1 => ⟨_, rfl, φ n, rfl, ?_⟩)⟩)
  have hnt : ∀ a, a = ta → ¬ RG t KK ψ a := fun a z => h.no ht a (by rw [z]; exact Or.inr (Or.inr (Or.inr (Or.inr rfl))))
  have t1 := ht.ag hW x1 hnt
  refine ⟨(t1.2.1.1.1 n hn).1.1.1, ?_⟩
  obtain ⟨t2, x2⟩ := t1.gs hW hn (tLp tk)
  have s2 := r1.rg t1 x2
  have hW2 := tGs_wf hW n (tLp tk)
  have i2 := tGs_i1 (n := n) h1 o2
  have hn2 : tU (tGs T n (tLp tk)) n = true := hn
  refine ⟨s2.1.1, ?_⟩
  rw [s2.1.2.2.1]
  obtain ⟨f, hf⟩ := s2.2.2.1
  have hno2 := s2.no t2
  have hrb : ¬ RG t KK ψ rb := hno2 rb (Or.inr (Or.inr (Or.inl rfl)))
  refine sX4_fill hW2 t2 hn2 hrb hf (i2 n hn).1 (i2 n hn).2.1 (fun c hc2 => (i2 c (hW.2.2.2.2.1 n c hn hc2).1).2.2.1) (Nat.le_trans (tC_cnt hW hn) h200) (fun M3 r3 x3 => ⟨rfl, ?_⟩)
  have s3 := s2.rw1 x3 r3
  have t3 := t2.ag hW2 x3 (fun a z => by rw [z]; exact hrb)
  refine ⟨s3.1.1, (t3.2.1.1.1 n hn2).1.1.1, d, s3.1.2.1, s3.2.1.1.1, ?_⟩
  have e7 : xI M3 (φ n) 7 = nI (tLp tk) := by
    rw [(t3.2.1.1.1 n hn2).1.2.2.1.2.2.2.2.2.1]
    show nI (va_up (tG T) n (tLp tk) n) = _
    rw [va_up_self]
  rw [s3.1.2.1, s3.1.2.2.1, e7]
  refine sX0_write s3.2.1 r3 o2 (fun M4 r4 x4 => ⟨_, rfl, ?_, ?_⟩)
  · split
    · exact Or.inl rfl
    · exact Or.inr rfl
  have s4 := s3.dk x4 r4
  have hdd : ∀ a, (a = d ∨ a = db) → ¬ RG t KK ψ a := fun a z => hno2 a (z.elim (fun e => Or.inl e) (fun e => Or.inr (Or.inl e)))
  have t4 := t3.ag hW2 x4 hdd
  exact hQ M4 t4 s4 ((x1.mono (fun a z => Or.inr (Or.inr (Or.inr (Or.inr (Or.inr z)))))).trans ((x2.mono (fun a z => Or.inl z)).trans ((x3.mono (fun a z => Or.inr (Or.inr (Or.inr (Or.inl z))))).trans (x4.mono (fun a z => Or.inr (z.elim (fun e => Or.inl e) (fun e => Or.inr (Or.inl e))))))))
/-- what is kept of a tree while it is saved -/
def svK (T S : TT) : Prop := tU S = tU T ∧ tP S = tP T ∧ tB S = tB T ∧ tX S = tX T ∧ tV S = tV T ∧ tF S = tF T ∧ tR S = tR T ∧ tC S = tC T ∧ tL S = tL T ∧ tO S = tO T
theorem svK.rf (T : TT) : svK T T := ⟨rfl, rfl, rfl, rfl, rfl, rfl, rfl, rfl, rfl, rfl⟩
theorem svK.gs {T S : TT} (h : svK T S) (n p : Nat) : svK T (tGs S n p) := h
theorem save_loop (hW : tWF T) (h200 : tCnt T ≤ 200) {x3 : Int32} {r1 r2 : Option Nat} {M0 : xM}
    (hend : ∀ M1 S D pw tk, svK T S → tI1 S → cTr M1 t KK φ ψ S sp nd ky → sto M1 s d db w rb w2 rb2 ta D pw tr tk → xag (fun a => RG t KK ψ a ∨ RS d db rb rb2 ta a) M0 M1 → Q1 (true, S, tk, D, pw) → xWp l g mX6_save 0 0 14 [(1, va_rf (some s)), (1, va_rf r1), (1, va_rf r2), (1, .int x3), (1, va_rf none)] [] (0, 0) M1 Q)
    (hlost : ∀ M1 S D pw tk, svK T S → tI1 S → cTr M1 t KK φ ψ S sp nd ky → sto M1 s d db w rb w2 rb2 ta D pw tr tk → xag (fun a => RG t KK ψ a ∨ RS d db rb rb2 ta a) M0 M1 → Q1 (false, S, tk, D, pw) → Q (some (.int 0)) M1) :
    ∀ (l2 l1 : List Nat) (M1 : xM) (S : TT) (D : Nat → Nat) (pw : Option Nat) (tk : Nat → Bool), tPs T = l1 ++ l2 → svK T S → tI1 S → cTr M1 t KK φ ψ S sp nd ky → sto M1 s d db w rb w2 rb2 ta D pw tr tk → cTk tk + l2.countP (tR T) ≤ 254 → xag (fun a => RG t KK ψ a ∨ RS d db rb rb2 ta a) M0 M1 → Q1 (svL tr l2 (S, tk, D, pw)) → xWp l g mX6_save 0 0 14 [(1, va_rf (some s)), (1, va_rf r1), (1, va_rf r2), (1, .int x3), (1, va_rf (l2.head?.map φ))] [] (0, 0) M1 Q
  | [], l1, M1, S, D, pw, tk, hl, hk, hI, ht, h, hcnt, hx, hq => hend M1 S D pw tk hk hI ht h hx hq
  | n :: r, l1, M1, S, D, pw, tk, hl, hk, hI, ht, h, hcnt, hx, hq => by
    have hWS : tWF S := tWF_same hW hk.1 hk.2.1 hk.2.2.1 hk.2.2.2.1 hk.2.2.2.2.2.2.2.1 hk.2.2.2.2.2.2.2.2.1 hk.2.2.2.2.2.2.2.2.2
    have hlS : tPs S = l1 ++ n :: r := (tPs_congr hk.2.2.2.2.2.2.2.1 hk.2.2.2.2.2.2.2.2.2).trans hl
    obtain ⟨hn, hN⟩ := tPs_at hWS hlS
    have hb := (ht.2.1.1.1 n hn).1
    have h200S : tCnt S ≤ 200 := by unfold tCnt; rw [hk.1]; exact h200
    have e8 := hb.2.2.1.2.2.2.2.2.2
    rw [List.countP_cons] at hcnt
    refine bX6_save_14 _ _ _ _ _ ⟨fun z => (by cases z), fun _ => ⟨φ n, rfl, hb.1.1, fun c => ?_, fun c => ?_⟩⟩
    · have hR := z01.mp (e8.symm.trans c)
      refine sX3_above hWS (ht.ns hWS) hn ⟨_, rfl, ?_⟩
      rw [hN]
      refine save_loop hW h200 hend hlost r (l1 ++ [n]) M1 S D pw tk (by rw [hl]; simp) hk hI ht h (by omega) hx ?_
      have e : svL tr (n :: r) (S, tk, D, pw) = svL tr r (S, tk, D, pw) := by
        show (if tR S n = true then _ else _) = _
        rw [if_neg (by rw [hR]; decide)]
      rw [← e]; exact hq
    · have hR := bnf (fun z => c (e8.trans (z01.mpr z)))
      have hRT : tR T n = true := by rw [← hk.2.2.2.2.2.2.1]; exact hR
      rw [if_pos hRT] at hcnt
      have hc254 : cTk tk < 254 := by omega
      obtain ⟨o1, o2, o3⟩ := tLp_ok hc254
      have hkN : svK T (svN tr (S, tk, D, pw) n).1 := hk
      have hIN : tI1 (svN tr (S, tk, D, pw) n).1 := tGs_i1 hI o2
      refine ⟨h.1.1, sX6_saveNode hWS hI h200S hc254 ht h hn (fun M2 t2 s2 x2 => ⟨_, rfl, fun c2 => ?_, fun c2 => ?_⟩)⟩
      · have hpw : ¬ pw = some 0 := fun z => c2 (by rw [if_pos z])
        have hW2 : tWF (svN tr (S, tk, D, pw) n).1 := tGs_wf hWS _ _
        have hl2 : tPs (svN tr (S, tk, D, pw) n).1 = l1 ++ n :: r := (tPs_congr (T := S) rfl rfl).trans hlS
        have hN2 := (tPs_at hW2 hl2).2
        refine ⟨(t2.2.1.1.1 n hn).1.1.1, sX3_above hW2 (t2.ns hW2) hn ⟨_, rfl, ?_⟩⟩
        rw [hN2]
        refine save_loop hW h200 hend hlost r (l1 ++ [n]) M2 _ _ _ _ (by rw [hl]; simp) hkN hIN t2 s2 ?_ (hx.trans x2) ?_
        · show cTk (va_up tk (tLp tk) true) + _ ≤ 254
          rw [cTk_up o1 o2 o3]; omega
        · have e : svL tr (n :: r) (S, tk, D, pw) = svL tr r (svN tr (S, tk, D, pw) n) := by
            show (if tR S n = true then (if pw = some 0 then _ else _) else _) = _
            rw [if_pos hR, if_neg hpw]
          rw [e] at hq; exact hq
      · have hpw : pw = some 0 := Classical.byContradiction (fun z => by rw [if_neg z] at c2; exact absurd c2 (by decide))
        have e : svL tr (n :: r) (S, tk, D, pw) = (false, svN tr (S, tk, D, pw) n) := by
          show (if tR S n = true then (if pw = some 0 then _ else _) else _) = _
          rw [if_pos hR, if_pos hpw]
        rw [e] at hq
        exact hlost M2 _ _ _ _ hkN hIN t2 s2 (hx.trans x2) hq
end SV2
