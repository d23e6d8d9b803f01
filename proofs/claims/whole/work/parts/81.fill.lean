/-! How a node stands on its page. -/
def pfxF (f : Nat → Nat) (X : List Nat) : Nat → Nat := fun x => if 11 ≤ x ∧ x < 11 + X.length then X.getD (x - 11) 0 else f x
/-- a child's entry -/
def tab1 (F k e p : Nat) (f : Nat → Nat) : Nat → Nat := if F = 4 then va_up f (24 + e) p else if F = 3 then va_up (va_up f (24 + e) (k + 1)) (280 + k) p else va_up (va_up f (24 + k) e) (24 + fRoom F + k) p
def tabF (F : Nat) : List (Nat × Nat) → Nat → (Nat → Nat) → (Nat → Nat)
  | [], _, f => f
  | (e, p) :: r, k, f => tabF F r (k + 1) (tab1 F k e p f)
def ndF (F : Nat) (v : Option Int64) (X : List Nat) (cs : List (Nat × Nat)) : Nat → Nat :=
  sealF (tabF F cs 0 (va_up (pfxF (va_up (setL (va_up (va_up (fun _ => 0) 0 F) 1 (if v.isSome = true then 1 else 0)) 2 (v.getD 0)) 10 X.length) X) 23 cs.length))
/-- the children of a node: their bytes and pages -/
def tCs (T : TT) (n : Nat) : List (Nat × Nat) := (tC T n).map (fun c => (tB T c, tG T c))
/-- what is written for a node -/
def tPg (T : TT) (n : Nat) : Nat → Nat := ndF (tF T n) (tV T n) (tX T n) (tCs T n)
section NF
variable {l : Launch} {g : xG} {M : xM} {Q : Option Value → xM → Prop} {φ ψ : Nat → Nat} {T : TT} {t nd ky w rb n : Nat} {KK sp : List Nat} {f : Nat → Nat}
theorem fRoom2 {F : Nat} (h : F ≠ 4) (h3 : F ≠ 3) (h1 : 1 ≤ F) (h5 : F ≤ 4) : fRoom F ≤ 16 := by
  have : F = 1 ∨ F = 2 := by omega
  rcases this with rfl | rfl <;> decide
theorem table_loop (hW : tWF T) {M0 : xM} (h0 : cTr M0 t KK φ ψ T sp nd ky) (hn : tU T n = true) (hrb : ¬ RG t KK ψ rb) (hF1 : 1 ≤ tF T n) (hF4 : tF T n ≤ 4) (hG : ∀ c ∈ tC T n, tG T c < 256) (h200 : (tC T n).length ≤ 200)
    (hcont : ∀ M1 f1, rwR M1 w rb f1 → f1 = tabF (tF T n) (tCs T n) 0 f → xag (fun a => a = rb) M0 M1 → Q none M1) :
    ∀ (l2 l1 : List Nat) (M1 : xM) (f1 : Nat → Nat), tC T n = l1 ++ l2 → rwR M1 w rb f1 → tabF (tF T n) (tCs T n) 0 f = tabF (tF T n) (l2.map (fun c => (tB T c, tG T c))) l1.length f1 → xag (fun a => a = rb) M0 M1 → xWp l g mX4_fillTable 0 0 7 [(1, va_rf (some w)), (1, va_rf (some (φ n))), (1, .int (nI l1.length)), (1, va_rf (l2.head?.map φ))] [] (0, 0) M1 Q
  | [], l1, M1, f1, hl, hr, hf, hx => bX4_fillTable_7 _ _ _ _ ⟨fun _ => hcont M1 f1 hr hf.symm hx, fun c => absurd rfl c⟩
  | c :: r, l1, M1, f1, hl, hr, hf, hx => by
    have h1 := h0.ag hW hx (fun a z => by rw [z]; exact hrb)
    have hb := (h1.2.1.1.1 n hn).1
    have hcm : c ∈ tC T n := by rw [hl]; simp
    have hcu := (hW.2.2.2.2.1 n c hn hcm).1
    have hcb := (h1.2.1.1.1 c hcu).1
    have hB := (hW.2.1 c hcu).2.1
    have hGc := hG c hcm
    have hlen : l1.length < 200 := by
      have : (tC T n).length = l1.length + (r.length + 1) := by rw [hl]; simp
      omega
    have eF : xI M1 (φ n) 2 = nI (tF T n) := hb.2.2.1.1
    have e6 : xI M1 (φ c) 6 = nI (tB T c) := hcb.2.2.1.2.2.2.2.1
    have e7 : xI M1 (φ c) 7 = nI (tG T c) := hcb.2.2.1.2.2.2.2.2.1
    have hnext : ∀ M2, xag (fun a => a = rb) M1 M2 → xR M2 (φ c) 11 = r.head?.map φ := fun M2 hx2 => by
      rw [(hx2.2 _ (fun z => hrb (by rw [← z]; exact RGk (h1.2.1.2.2 c hcu)))).2.2]
      have := (h1.2.1.1.s hW c hcu).2.2.2.2.2
      rw [this, tS_child hW hn hl]
    have hcr : φ c ≠ rb := fun z => hrb (by rw [← z]; exact RGk (h1.2.1.2.2 c hcu))
    have hnr : φ n ≠ rb := fun z => hrb (by rw [← z]; exact RGk (h1.2.1.2.2 n hn))
    have hl1 : tC T n = (l1 ++ [c]) ++ r := by rw [hl]; simp
    have hll : (l1 ++ [c]).length = l1.length + 1 := by simp
    have hcn : (0 : Nat) = 0 := rfl
    refine bX4_fillTable_7 _ _ _ _ ⟨fun z => (by cases z), fun _ => ⟨φ n, rfl, hb.1.1, fun c4 => ⟨fun c3 => ?_, fun c3 => ?_⟩, fun c4 => ?_⟩⟩
    · have k4 := nne c4 eF (b := 4) rfl
      have k3 := nne c3 eF (b := 3) rfl
      have hR16 := fRoom2 k4 k3 hF1 hF4
      refine ⟨φ c, rfl, hcb.1.1, w, rfl, hr.1.1, ?_⟩
      rw [e6, show (24 : Int32) = nI 24 from rfl, nI_add]
      have r2 := hr.up (i := 24 + l1.length) (b := tB T c) hB
      have h2 := h0.ag hW (hx.trans (xag_I (k := 24 + l1.length) (v := sB (tB T c)) M1 rfl)) (fun a z => by rw [z]; exact hrb)
      refine sX5_set hr (by omega) ⟨rfl, hb.1.1, ?_⟩
      rw [(h2.2.1.1.1 n hn).1.2.2.1.1]
      refine sX1_mostChildren hF1 hF4 ⟨_, rfl, hcb.1.1, r2.1.1, ?_⟩
      rw [(h2.2.1.1.1 c hcu).1.2.2.1.2.2.2.2.2.1, nI_add, nI_add]
      have r3 := r2.up (i := 24 + fRoom (tF T n) + l1.length) (b := tG T c) hGc
      refine sX5_set r2 (by omega) ⟨rfl, hcb.1.1, ?_⟩
      have hx3 : xag (fun a => a = rb) M1 (xsI (xsI M1 rb (24 + l1.length) (sB (tB T c))) rb (24 + fRoom (tF T n) + l1.length) (sB (tG T c))) := (xag_I (P := fun a => a = rb) _ rfl).trans (xag_I (P := fun a => a = rb) _ rfl)
      rw [hnext _ hx3, nI_1, ← hll]
      refine table_loop hW h0 hn hrb hF1 hF4 hG h200 hcont r (l1 ++ [c]) _ _ hl1 r3 ?_ (hx.trans hx3)
      rw [hf, List.map_cons, hll]
      show tabF (tF T n) _ (l1.length + 1) (tab1 (tF T n) l1.length (tB T c) (tG T c) f1) = _
      unfold tab1
      rw [if_neg k4, if_neg k3]
    · have k3 := neq c3 eF (b := 3) rfl
      refine ⟨φ c, rfl, hcb.1.1, w, rfl, hr.1.1, ?_⟩
      rw [e6, show (24 : Int32) = nI 24 from rfl, nI_add, nI_1]
      have r2 := hr.up (i := 24 + tB T c) (b := l1.length + 1) (by omega)
      have h2 := h0.ag hW (hx.trans (xag_I (k := 24 + tB T c) (v := sB (l1.length + 1)) M1 rfl)) (fun a z => by rw [z]; exact hrb)
      refine sX5_set hr (by omega) ⟨rfl, hcb.1.1, r2.1.1, ?_⟩
      rw [(h2.2.1.1.1 c hcu).1.2.2.1.2.2.2.2.2.1, show (280 : Int32) = nI 280 from rfl, nI_add]
      have r3 := r2.up (i := 280 + l1.length) (b := tG T c) hGc
      refine sX5_set r2 (by omega) ⟨rfl, hcb.1.1, ?_⟩
      have hx3 : xag (fun a => a = rb) M1 (xsI (xsI M1 rb (24 + tB T c) (sB (l1.length + 1))) rb (280 + l1.length) (sB (tG T c))) := (xag_I (P := fun a => a = rb) _ rfl).trans (xag_I (P := fun a => a = rb) _ rfl)
      rw [hnext _ hx3]
      have key := table_loop hW h0 hn hrb hF1 hF4 hG h200 hcont r (l1 ++ [c]) _ _ hl1 r3 (by
        rw [hf, List.map_cons, hll]
        show tabF (tF T n) _ (l1.length + 1) (tab1 (tF T n) l1.length (tB T c) (tG T c) f1) = _
        unfold tab1
        rw [if_neg (by omega), if_pos k3]) (hx.trans hx3)
      rw [hll] at key
      exact key
    · have k4 := neq c4 eF (b := 4) rfl
      refine ⟨φ c, rfl, hcb.1.1, w, rfl, hr.1.1, ?_⟩
      rw [e6, e7, show (24 : Int32) = nI 24 from rfl, nI_add]
      have r2 := hr.up (i := 24 + tB T c) (b := tG T c) hGc
      refine sX5_set hr (by omega) ⟨rfl, hcb.1.1, ?_⟩
      have hx3 : xag (fun a => a = rb) M1 (xsI M1 rb (24 + tB T c) (sB (tG T c))) := xag_I _ rfl
      rw [hnext _ hx3, nI_1, ← hll]
      refine table_loop hW h0 hn hrb hF1 hF4 hG h200 hcont r (l1 ++ [c]) _ _ hl1 r2 ?_ (hx.trans hx3)
      rw [hf, List.map_cons, hll]
      show tabF (tF T n) _ (l1.length + 1) (tab1 (tF T n) l1.length (tB T c) (tG T c) f1) = _
      unfold tab1
      rw [if_pos k4]
theorem sX4_fillTable (hW : tWF T) (h : cTr M t KK φ ψ T sp nd ky) (hn : tU T n = true) (hrb : ¬ RG t KK ψ rb) (hr : rwR M w rb f) (hF1 : 1 ≤ tF T n) (hF4 : tF T n ≤ 4) (hG : ∀ c ∈ tC T n, tG T c < 256) (h200 : (tC T n).length ≤ 200)
    (hQ : ∀ M1, rwR M1 w rb (tabF (tF T n) (tCs T n) 0 f) → xag (fun a => a = rb) M M1 → Q none M1) : xSp l g mX4_fillTable 0 0 [va_rf (some w), va_rf (some (φ n))] M Q := by
  have hb := h.2.1.1.1 n hn
  refine eX4_fillTable _ _ (bX4_fillTable_0 _ _ ⟨φ n, rfl, hb.1.1.1, ?_⟩)
  have e : xR M (φ n) 10 = (tC T n).head?.map φ := (h.2.1.1.s hW n hn).2.2.2.2.1
  rw [e]
  exact table_loop hW h hn hrb hF1 hF4 hG h200 (fun M1 f1 r1 e1 x1 => hQ M1 (e1 ▸ r1) x1) (tC T n) [] M f rfl hr rfl xag.rf
theorem pfill_loop (hW : tWF T) {M0 : xM} (h0 : cTr M0 t KK φ ψ T sp nd ky) (hn : tU T n = true) (hrb : ¬ RG t KK ψ rb)
    (hcont : ∀ M1, rwR M1 w rb (pfxF f (tX T n)) → xag (fun a => a = rb) M0 M1 → xWp l g mX4_fill 0 0 51 [(1, va_rf (some w)), (1, va_rf (some (φ n))), (1, .int (nI (tX T n).length))] [] (0, 0) M1 Q) :
    ∀ (d i : Nat) (M1 : xM), (tX T n).length = i + d → rwR M1 w rb (fun x => if 11 ≤ x ∧ x < 11 + i then (tX T n).getD (x - 11) 0 else f x) → xag (fun a => a = rb) M0 M1 → xWp l g mX4_fill 0 0 51 [(1, va_rf (some w)), (1, va_rf (some (φ n))), (1, .int (nI i))] [] (0, 0) M1 Q
  | 0, i, M1, hd, hr, hx => by
    have hi : i = (tX T n).length := by omega
    subst hi
    exact hcont M1 hr hx
  | d + 1, i, M1, hd, hr, hx => by
    have h1 := h0.ag hW hx (fun a z => by rw [z]; exact hrb)
    have hb := (h1.2.1.1.1 n hn).1
    have h12 := (tX_le hW hn).1
    have hg : (tX T n).getD i 0 < 256 := getD_lt (hW.2.1 n hn).2.2.1
    refine bX4_fill_51 _ _ _ ⟨φ n, rfl, hb.1.1, fun c => ?_, fun _ => ?_⟩
    · exfalso
      have := nle c hb.2.1.1 rfl
      omega
    · refine sX3_prefixAt hW (h1.ns hW) hn (by omega) ⟨_, rfl, w, rfl, hr.1.1, ?_⟩
      rw [show (11 : Int32) = nI 11 from rfl, nI_add]
      refine sX5_set hr (by omega) ⟨rfl, ?_⟩
      rw [nI_1]
      have r2 := hr.up (i := 11 + i) hg
      refine pfill_loop hW h0 hn hrb hcont d (i + 1) _ (by omega) ?_ (hx.trans (xag_I _ rfl))
      have e : va_up (fun x => if 11 ≤ x ∧ x < 11 + i then (tX T n).getD (x - 11) 0 else f x) (11 + i) ((tX T n).getD i 0) = fun x => if 11 ≤ x ∧ x < 11 + (i + 1) then (tX T n).getD (x - 11) 0 else f x := by
        funext x
        by_cases hxk : x = 11 + i
        · rw [hxk, va_up_self]
          show _ = if 11 ≤ 11 + i ∧ 11 + i < 11 + (i + 1) then (tX T n).getD (11 + i - 11) 0 else f (11 + i)
          rw [if_pos (by omega), Nat.add_sub_cancel_left]
        · rw [va_up_ne _ _ hxk]
          show (if 11 ≤ x ∧ x < 11 + i then (tX T n).getD (x - 11) 0 else f x) = if 11 ≤ x ∧ x < 11 + (i + 1) then (tX T n).getD (x - 11) 0 else f x
          by_cases h1 : 11 ≤ x ∧ x < 11 + i
          · rw [if_pos h1, if_pos (by omega)]
          · rw [if_neg h1, if_neg (by omega)]
      rw [e] at r2
      exact r2
theorem sX4_fill (hW : tWF T) (h : cTr M t KK φ ψ T sp nd ky) (hn : tU T n = true) (hrb : ¬ RG t KK ψ rb) (hr : rwR M w rb f) (hF1 : 1 ≤ tF T n) (hF4 : tF T n ≤ 4) (hG : ∀ c ∈ tC T n, tG T c < 256) (h200 : (tC T n).length ≤ 200)
    (hQ : ∀ M1, rwR M1 w rb (tPg T n) → xag (fun a => a = rb) M M1 → Q none M1) : xSp l g mX4_fill 0 0 [va_rf (some w), va_rf (some (φ n))] M Q := by
  have hno : ∀ a, a = rb → ¬ RG t KK ψ a := fun a z => by rw [z]; exact hrb
  have h12 := (tX_le hW hn).1
  refine eX4_fill _ _ (bX4_fill_0 _ _ ⟨w, rfl, hr.1.1, sX5_wipe hr (fun M1 r1 x1 => ⟨rfl, ?_⟩)⟩)
  have h1 := h.ag hW x1 hno
  have hb1 := (h1.2.1.1.1 n hn).1
  refine ⟨φ n, rfl, hb1.1.1, r1.1.1, ?_⟩
  rw [hb1.2.2.1.1]
  have r2 := r1.up (i := 0) (b := tF T n) (by omega)
  have x2 := x1.trans (xag_I (P := fun a => a = rb) (k := 0) (v := sB (tF T n)) M1 rfl)
  have h2 := h.ag hW x2 hno
  have hb2 := (h2.2.1.1.1 n hn).1
  refine sX5_set (i := 0) r1 (by omega) ⟨rfl, hb2.1.1, ?_⟩
  -- from the value on
  have tail : ∀ b : Nat, b = (if (tV T n).isSome = true then 1 else 0) → xat (xsI M1 rb 0 (sB (tF T n))) w 2 ∧ xSp l g mX5_set 0 0 [va_rf (some w), .int 1, .int (nI b)] (xsI M1 rb 0 (sB (tF T n))) (fun ρ19 M18 => ρ19 = none ∧ (xat M18 (φ n) 1 ∧ (xat M18 w 2 ∧ xSp l g mX5_setLong 0 0 [va_rf (some w), .int 2, .long (xJ M18 (φ n) 4)] M18 (fun ρ25 M24 => ρ25 = none ∧ (xat M24 (φ n) 1 ∧ (xat M24 w 2 ∧ xSp l g mX5_set 0 0 [va_rf (some w), .int 10, .int (xI M24 (φ n) 1)] M24 (fun ρ31 M30 => ρ31 = none ∧ xWp l g mX4_fill 0 0 51 [(1, va_rf (some w)), (1, va_rf (some (φ n))), (1, .int 0)] [] (0, 0) M30 Q))))))) := fun b hb => by
    have hb256 : b < 256 := by rw [hb]; split <;> omega
    have r3 := r2.up (i := 1) (b := b) hb256
    have x3 := x2.trans (xag_I (P := fun a => a = rb) (k := 1) (v := sB b) (xsI M1 rb 0 (sB (tF T n))) rfl)
    have h3 := h.ag hW x3 hno
    have hb3 := (h3.2.1.1.1 n hn).1
    refine ⟨r2.1.1, sX5_set (i := 1) r2 (by omega) ⟨rfl, hb3.1.1, r3.1.1, ?_⟩⟩
    rw [hb3.2.2.1.2.2.1]
    refine sX5_setLong (i := 2) r3 (by omega) (fun M4 r4 x4 => ⟨rfl, ?_⟩)
    have x4' := x3.trans x4
    have h4 := h.ag hW x4' hno
    have hb4 := (h4.2.1.1.1 n hn).1
    refine ⟨hb4.1.1, r4.1.1, ?_⟩
    rw [hb4.2.1.1]
    have r5 := r4.up (i := 10) (b := (tX T n).length) (by omega)
    have x5 := x4'.trans (xag_I (P := fun a => a = rb) (k := 10) (v := sB (tX T n).length) M4 rfl)
    have h5 := h.ag hW x5 hno
    refine sX5_set (i := 10) r4 (by omega) ⟨rfl, ?_⟩
    refine pfill_loop hW h5 hn hrb (fun M6 r6 x6 => ?_) (tX T n).length 0 _ (by omega) (by
      have e : (fun x => if 11 ≤ x ∧ x < 11 + 0 then (tX T n).getD (x - 11) 0 else va_up (setL (va_up (va_up (fun _ => 0) 0 (tF T n)) 1 b) 2 ((tV T n).getD 0)) 10 (tX T n).length x) = va_up (setL (va_up (va_up (fun _ => 0) 0 (tF T n)) 1 b) 2 ((tV T n).getD 0)) 10 (tX T n).length := by
        funext x; rw [if_neg (by omega)]
      rw [e]; exact r5) xag.rf
    have x6' := x5.trans x6
    have h6 := h.ag hW x6' hno
    have hb6 := (h6.2.1.1.1 n hn).1
    refine bX4_fill_51 _ _ _ ⟨φ n, rfl, hb6.1.1, fun _ => ⟨w, rfl, r6.1.1, ?_⟩, fun c => absurd (by rw [hb6.2.1.1]; exact Int32.le_refl _) c⟩
    rw [hb6.2.2.1.2.2.2.1]
    have r7 := r6.up (i := 23) (b := (tC T n).length) (by omega)
    have x7 := x6'.trans (xag_I (P := fun a => a = rb) (k := 23) (v := sB (tC T n).length) M6 rfl)
    have h7 := h.ag hW x7 hno
    refine sX5_set (i := 23) r6 (by omega) ⟨rfl, sX4_fillTable hW h7 hn hrb r7 hF1 hF4 hG h200 (fun M8 r8 x8 => ⟨rfl, r8.1.1, sX5_seal r8 (fun M9 r9 x9 => ⟨rfl, hQ M9 ?_ (x7.trans (x8.trans x9))⟩)⟩)⟩
    have el : (tCs T n).length = (tC T n).length := by unfold tCs; exact List.length_map ..
    unfold tPg ndF
    rw [el, ← hb]
    exact r9
  refine ⟨fun c => ?_, fun c => ?_⟩
  · have hv := z01.mp (hb2.2.2.1.2.1.symm.trans c)
    exact tail 0 (by rw [hv]; rfl)
  · have hv := bnf (fun z => c (hb2.2.2.1.2.1.trans (z01.mpr z)))
    exact tail 1 (by rw [if_pos hv])
end NF
