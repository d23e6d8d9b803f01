/-! The reference's put. -/
section RPP
variable {l : Launch} {g : xG} {M M0 M1 M2 M3 M4 M5 : xM} {Q : Option Value → xM → Prop} {y : Nat} {ad : Nat → Nat} {T T1 Tc : TT} {o n b c s m w a : Nat} {K W p : List Nat} {v : Int64} {P P1 : Nat → Nat → Prop} {dn : Bool} {D : Nat → Nat} {pw : Option Nat} {tr sq : Nat}
theorem tSv_self (h : tV T n = some v) : tSv T n (some v) = T := by
  unfold tSv
  have : va_up (tV T) n (some v) = tV T := by
    funext x
    by_cases hx : x = n
    · rw [hx, va_up_self, h]
    · rw [va_up_ne _ _ hx]
  rw [this]; rfl
theorem tFr_sv {z : Option Int64} : tSv (tFr T n) s z = tFr (tSv T s z) n := by
  unfold tFr
  rw [tA_same (S := tSv T s z) (T := T) rfl]
  rfl
theorem tFr_idem (h : ∀ x ∈ tA T 12 n, tG T x = 0 ∧ tR T x = true) : tFr T n = T := by
  unfold tFr
  have e1 : (fun x => if x ∈ tA T 12 n then 0 else tG T x) = tG T := by
    funext x
    by_cases hx : x ∈ tA T 12 n
    · rw [if_pos hx, (h x hx).1]
    · rw [if_neg hx]
  have e2 : (fun x => if x ∈ tA T 12 n then true else tR T x) = tR T := by
    funext x
    by_cases hx : x ∈ tA T 12 n
    · rw [if_pos hx, (h x hx).2]
    · rw [if_neg hx]
  rw [e1, e2]; rfl
theorem tFree_fr : tFree (tFr T n) = tFree T := by unfold tFree; rfl
theorem put_val {w2 w5 : Value} {x3 : Int32} (hW : tWF T) (hs : tU T s = true) (hS : rS M y ad) (hT : rT M ad 0 T) (e20 : xI M y 20 = nI s)
    (hQ : ∀ M1, rX (rLo y ad) M M1 → rT M1 ad 0 (tFr (tSv T s (some v)) s) → (∀ k, xI M1 y k = xI M y k) → Q (some (.int 1)) M1) : xWp l g mX10_put 0 0 206 [(1, va_rf (some y)), (2, .long v), (0, w2), (1, .int x3), (1, .int 0), (0, w5)] [] (0, 0) M Q := by
  have hs220 := (hW.2.1 s hs).1
  refine bX10_put_206 _ _ _ _ _ _ ⟨fun _ => ⟨hS.1, ?_⟩, fun z => absurd rfl z⟩
  rw [e20]
  have hx1 : rX (rN ad s) M (xsJ (xsI M (ad 9) s 1) (ad 10) s v) := (rX_I (Or.inl ⟨9, by decide, rfl, rfl⟩)).trans (rX_J (Or.inl ⟨10, by decide, rfl, rfl⟩))
  have hT1 := rT_v1 (v := v) hS hT hW hs
  refine sX10_give hS hs220 ⟨rfl, ?_⟩
  generalize xsJ (xsI M (ad 9) s 1) (ad 10) s v = M1 at hx1 hT1 ⊢
  have hS1 := hx1.sS hS
  have y1 : ∀ k, xI M1 y k = xI M y k := fun k => (hx1.2 _ _ (rN_y hS k)).1
  refine ⟨hS1.1, ?_⟩
  rw [y1 20, e20]
  exact sX10_freshen (tSv_wf hW s (some v)) hS1 hT1 hs (fun M2 hx2 hT2 => ⟨rfl, hQ M2 ((hx1.mono (rN_lo hs220)).trans (hx2.mono rFc_lo)) hT2 (fun k => (rFc_y hS1 hx2 k).trans (y1 k))⟩)
theorem rLo_p (hS : rS M y ad) (hx : rX (rLo y ad) M M1) (hP : rP M y ad K) : rP M1 y ad K := by
  have f2 : ¬ rLo y ad y 2 := fun z => by
    rcases z with (z | z) | z | ⟨j, hj, z, -⟩ | z
    · exact absurd z.2 (by decide)
    · exact hS.ny (j := 23) (by decide) z.symm
    · exact absurd z.2 (by decide)
    · exact hS.ny (RA_RL j hj) z.symm
    · exact hS.ny (j := 7) (by decide) z.1.symm
  have f1 : ∀ k, ¬ rLo y ad (ad 1) k := fun k z => by
    rcases z with (z | z) | z | ⟨j, hj, z, -⟩ | z
    · exact hS.ny (j := 1) (by decide) z.1
    · exact hS.na (i := 1) (j := 23) (by decide) (by decide) (by decide) z
    · exact hS.ny (j := 1) (by decide) z.1
    · exact hS.na (i := 1) (by decide) (RA_RL j hj) (fun q => by subst q; revert hj; decide) z
    · exact hS.na (i := 1) (j := 7) (by decide) (by decide) (by decide) z.1
  exact ⟨by rw [(hx.2 _ _ f2).1]; exact hP.1, hP.2.1, fun i hi => by rw [(hx.2 _ _ (f1 i)).1]; exact hP.2.2.1 i hi, hP.2.2.2⟩
/-- what put does where no key is found and there are keys -/
def tPutR (T : TT) (key : List Nat) (v : Int64) (s m w a c : Nat) : Int32 × TT :=
  if 200 < tCnt T + (if m < (tX T s).length then 1 else 0) + (if w < key.length then 1 else 0) then (-2, T)
  else if m < (tX T s).length then
    (1, if w < key.length then tFr (tAdd (tFr (tCut T s m a) s) a c (key.getD w 0) (key.drop (w + 1)) v) c else tSv (tFr (tCut T s m a) s) a (some v))
  else if w < key.length then (1, tFr (tAdd T s a (key.getD w 0) (key.drop (w + 1)) v) a)
  else (1, tFr (tSv T s (some v)) s)
theorem cut_idem (hW : tWF T) (hs : tU T s = true) (ha : tU T a = false) (ha220 : a < 220) (hm : m < (tX T s).length) : tFr (tSv (tFr (tCut T s m a) s) a (some v)) a = tSv (tFr (tCut T s m a) s) a (some v) := by
  refine tFr_idem (fun x hx => ?_)
  have hWc := tCut_wf hW hs ha ha220 hm
  have hsa : s ≠ a := fun z => by rw [z, ha] at hs; cases hs
  have h12 := (hW.2.1 s hs).2.2.2
  have hLa : tL (tCut T s m a) a = tL T s := by
    show va_up (va_up (tL T) a (tL T s)) s (tL T s + m + 1) a = tL T s
    rw [va_up_ne _ _ (Ne.symm hsa), va_up_self]
  have hua : tU (tCut T s m a) a = true := va_up_self _ _ _
  rw [tA_same (S := tSv (tFr (tCut T s m a) s) a (some v)) (T := tCut T s m a) rfl, tA_fuel hWc 11 1 a hua (by omega)] at hx
  have hin : x ∈ tA (tCut T s m a) 12 s := by
    have : tP (tCut T s m a) s = some a := va_up_self _ _ _
    show x ∈ s :: (match tP (tCut T s m a) s with | none => [] | some p => tA (tCut T s m a) 11 p)
    rw [this]
    exact List.mem_cons_of_mem _ hx
  constructor
  · show (if x ∈ tA (tCut T s m a) 12 s then 0 else tG (tCut T s m a) x) = 0
    rw [if_pos hin]
  · show (if x ∈ tA (tCut T s m a) 12 s then true else tR (tCut T s m a) x) = true
    rw [if_pos hin]
theorem put_206 {w2 w5 : Value} (hW : tWF T) (hI : tInv T) (hk : skOk T K s m w) (hK : K.length ≤ 12) (hS : rS M y ad) (hT : rT M ad 0 T) (hr : xI M y 14 = nI (tO T)) (hP : rP M y ad K) (e20 : xI M y 20 = nI s) (e21 : xI M y 21 = nI m) (e22 : xI M y 22 = nI w) (hc : tCnt T + (if m < (tX T s).length then 1 else 0) + (if w < K.length then 1 else 0) ≤ 200)
    (hQ : ∀ M1, rX (rLo y ad) M M1 → rT M1 ad 0 (tPutR T K v s m w (tFree T) (tFree (tCut T s m (tFree T)))).2 → xI M1 y 14 = nI (tO (tPutR T K v s m w (tFree T) (tFree (tCut T s m (tFree T)))).2) → xI M1 y 0 = xI M y 0 → Q (some (.int (tPutR T K v s m w (tFree T) (tFree (tCut T s m (tFree T)))).1)) M1) :
    ((¬ m < (tX T s).length → xWp l g mX10_put 0 0 206 [(1, va_rf (some y)), (2, .long v), (0, w2), (1, .int 0), (1, .int (if w < K.length then 1 else 0)), (0, w5)] [] (0, 0) M Q) ∧ (m < (tX T s).length → xSp l g mX10_cutInTwo 0 0 [va_rf (some y)] M (fun ρ3 M2 => ρ3 = none ∧ xWp l g mX10_put 0 0 206 [(1, va_rf (some y)), (2, .long v), (0, w2), (1, .int 1), (1, .int (if w < K.length then 1 else 0)), (0, w5)] [] (0, 0) M2 Q))) := by
  obtain ⟨k1, k2, k3, k4, k5, k6⟩ := hk
  have hF := hI.1 s k1
  have hroom : ∀ f, fRoom f ≤ 256 := fun f => by unfold fRoom; repeat (first | omega | split)
  have hCl : (tC T s).length < 1000 := by have := hroom (tF T s); omega
  unfold tPutR at hQ
  rw [if_neg (by omega)] at hQ
  refine ⟨fun hm => ?_, fun hm => ?_⟩
  · rw [if_neg hm] at hQ hc
    by_cases hw : w < K.length
    · rw [if_pos hw] at hQ hc ⊢
      refine put_leaf hW (by omega) k1 hF.2.1 hCl hw hK (by omega) (k5 hm hw) hS hT hP e20 e22 (fun M1 hx hT1 hy => hQ M1 hx hT1 ?_ (hy 0))
      rw [hy 14, hr]; rfl
    · rw [if_neg hw] at hQ ⊢
      refine put_val hW k1 hS hT e20 (fun M1 hx hT1 hy => hQ M1 hx hT1 ?_ (hy 0))
      rw [hy 14, hr]; rfl
  · rw [if_pos hm] at hQ hc
    have hcnt : tCnt T < 220 := by omega
    obtain ⟨f1, f2⟩ := tFree_ok hcnt
    have hWc := tCut_wf hW k1 f1 f2 hm
    have hsa : s ≠ tFree T := fun z => by rw [z, f1] at k1; cases k1
    refine sX10_cutInTwo hW hcnt k1 hm hS hT hr e20 e21 (fun M1 hx1 hT1 hr1 g20 hy1 => ⟨rfl, ?_⟩)
    have hS1 := hx1.sS hS
    have hua : tU (tCut T s m (tFree T)) (tFree T) = true := va_up_self _ _ _
    by_cases hw : w < K.length
    · rw [if_pos hw] at hQ hc ⊢
      have hCa : tC (tCut T s m (tFree T)) (tFree T) = [s] := if_pos rfl
      have hFa : tF (tCut T s m (tFree T)) (tFree T) = 1 := va_up_self _ _ _
      have hXa : tX (tCut T s m (tFree T)) (tFree T) = (tX T s).take m := by
        show va_up (va_up (tX T) _ _) s _ (tFree T) = _
        rw [va_up_ne _ _ (Ne.symm hsa), va_up_self]
      have hLa : tL (tCut T s m (tFree T)) (tFree T) = tL T s := by
        show va_up (va_up (tL T) _ _) s _ (tFree T) = _
        rw [va_up_ne _ _ (Ne.symm hsa), va_up_self]
      have hBs : tB (tCut T s m (tFree T)) s = (tX T s).getD m 0 := va_up_self _ _ _
      have := put_leaf (l := l) (g := g) (Q := Q) (v := v) (w2 := w2) (w5 := w5) (x3 := 1) (T := tFr (tCut T s m (tFree T)) s) (s := tFree T) (w := w) (K := K) (M := M1) (y := y) (ad := ad) (tFr_wf hWc s) (by rw [(cnt_fr _ _).1, (cnt_cut f1 f2).1]; omega) hua (by show tF (tCut T s m (tFree T)) (tFree T) ≤ 4; rw [hFa]; omega) (by show (tC (tCut T s m (tFree T)) (tFree T)).length < 1000; rw [hCa]; simp) hw hK (by show w = tL (tCut T s m (tFree T)) (tFree T) + (tX (tCut T s m (tFree T)) (tFree T)).length; rw [hLa, hXa, List.length_take]; omega) (fun x hx => by
          have hx2 : x ∈ tC (tCut T s m (tFree T)) (tFree T) := hx
          rw [hCa, List.mem_singleton] at hx2
          rw [hx2]
          show tB (tCut T s m (tFree T)) s ≠ _
          rw [hBs]; exact k6 hm hw) hS1 hT1 (rLo_p hS hx1 hP) g20 ((hy1 22 (by decide) (by decide)).trans e22) (fun M2 hx2 hT2 hy2 => ?_)
      · exact this
      · rw [tFree_fr] at hT2
        exact hQ M2 (hx1.trans hx2) hT2 (by rw [hy2 14, hr1]; rfl) (by rw [hy2 0]; exact hy1 0 (by decide) (by decide))
    · rw [if_neg hw] at hQ ⊢
      have := put_val (l := l) (g := g) (Q := Q) (v := v) (w2 := w2) (w5 := w5) (x3 := 1) (T := tFr (tCut T s m (tFree T)) s) (s := tFree T) (M := M1) (y := y) (ad := ad) (tFr_wf hWc s) hua hS1 hT1 g20 (fun M2 hx2 hT2 hy2 => ?_)
      · exact this
      · rw [cut_idem hW k1 f1 f2 hm] at hT2
        exact hQ M2 (hx1.trans hx2) hT2 (by rw [hy2 14, hr1]; rfl) (by rw [hy2 0]; exact hy1 0 (by decide) (by decide))
theorem put_177 {w2 w5 : Value} (hW : tWF T) (hI : tInv T) (hk : skOk T K s m w) (hK : K.length ≤ 12) (hS : rS M y ad) (hT : rT M ad 0 T) (hr : xI M y 14 = nI (tO T)) (hP : rP M y ad K) (e20 : xI M y 20 = nI s) (e21 : xI M y 21 = nI m) (e22 : xI M y 22 = nI w)
    (hQ : ∀ M1, rX (rLo y ad) M M1 → rT M1 ad 0 (tPutR T K v s m w (tFree T) (tFree (tCut T s m (tFree T)))).2 → xI M1 y 14 = nI (tO (tPutR T K v s m w (tFree T) (tFree (tCut T s m (tFree T)))).2) → xI M1 y 0 = xI M y 0 → Q (some (.int (tPutR T K v s m w (tFree T) (tFree (tCut T s m (tFree T)))).1)) M1) :
    xWp l g mX10_put 0 0 177 [(1, va_rf (some y)), (2, .long v), (0, w2), (1, .int (if m < (tX T s).length then 1 else 0)), (1, .int (if w < K.length then 1 else 0)), (0, w5)] [.int (if m < (tX T s).length then 1 else 0), .int (nI (tCnt T))] (0, 0) M Q := by
  have hcnt := (cnt_all T).1
  have go := fun hc => put_206 (l := l) (g := g) (w2 := w2) (w5 := w5) (v := v) (Q := Q) hW hI hk hK hS hT hr hP e20 e21 e22 hc hQ
  have ful : 200 < tCnt T + (if m < (tX T s).length then 1 else 0) + (if w < K.length then 1 else 0) → Q (some (.int (-2))) M := fun hc => by
    unfold tPutR at hQ
    rw [if_pos hc] at hQ
    exact hQ M rX.rf hT hr rfl
  have es : (nI (tCnt T) + (if m < (tX T s).length then 1 else 0)) = nI (tCnt T + (if m < (tX T s).length then 1 else 0)) := by
    by_cases hm : m < (tX T s).length
    · rw [if_pos hm, if_pos hm, nI_1]
    · rw [if_neg hm, if_neg hm, Int32.add_zero, Nat.add_zero]
  have hm1 : (if m < (tX T s).length then 1 else 0) ≤ 1 := by split <;> omega
  have mid : (tCnt T + (if m < (tX T s).length then 1 else 0) + (if w < K.length then 1 else 0) ≤ 200) → ((((if m < (tX T s).length then 1 else 0 : Int32) = 0) → xWp l g mX10_put 0 0 206 [(1, va_rf (some y)), (2, .long v), (0, w2), (1, .int (if m < (tX T s).length then 1 else 0)), (1, .int (if w < K.length then 1 else 0)), (0, w5)] [] (0, 0) M Q) ∧ (¬ ((if m < (tX T s).length then 1 else 0 : Int32) = 0) → (xat M y 7 ∧ xSp l g mX10_cutInTwo 0 0 [va_rf (some y)] M (fun ρ3 M2 => ρ3 = none ∧ xWp l g mX10_put 0 0 206 [(1, va_rf (some y)), (2, .long v), (0, w2), (1, .int (if m < (tX T s).length then 1 else 0)), (1, .int (if w < K.length then 1 else 0)), (0, w5)] [] (0, 0) M2 Q)))) := fun hc => by
    obtain ⟨g1, g2⟩ := go hc
    refine ⟨fun z => ?_, fun z => ?_⟩
    · have hm : ¬ m < (tX T s).length := fun q => by rw [if_pos q] at z; exact absurd z (by decide)
      rw [if_neg hm]
      exact g1 hm
    · have hm : m < (tX T s).length := Classical.byContradiction (fun q => by rw [if_neg q] at z; exact z rfl)
      rw [if_pos hm]
      exact ⟨hS.1, g2 hm⟩
  refine bX10_put_177 _ _ _ _ _ _ _ _ ⟨fun z => ⟨fun c => ?_, fun c => ?_⟩, fun z => ⟨fun c => ?_, fun c => ?_⟩⟩
  · have hw : ¬ w < K.length := fun q => by rw [if_pos q] at z; exact absurd z (by decide)
    rw [es, Int32.add_zero] at c
    have := nle c rfl (b := 200) rfl
    exact mid (by rw [if_neg hw]; omega)
  · have hw : ¬ w < K.length := fun q => by rw [if_pos q] at z; exact absurd z (by decide)
    rw [es, Int32.add_zero] at c
    have := nnle c rfl (b := 200) rfl
    exact ful (by rw [if_neg hw]; omega)
  · have hw : w < K.length := Classical.byContradiction (fun q => by rw [if_neg q] at z; exact z rfl)
    rw [es, nI_1] at c
    have := nle c rfl (b := 200) rfl
    exact mid (by rw [if_pos hw]; omega)
  · have hw : w < K.length := Classical.byContradiction (fun q => by rw [if_neg q] at z; exact z rfl)
    rw [es, nI_1] at c
    have := nnle c rfl (b := 200) rfl
    exact ful (by rw [if_pos hw]; omega)
end RPP
