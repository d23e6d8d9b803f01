/-! A node by its own cells and its children's; its page. -/
def nL (M : xM) (a pa F : Nat) (v : Option Int64) (X : List Nat) (qs : List (Nat × Nat × Nat)) : Prop :=
  (xat M a 1 ∧ xR M a 0 = some pa ∧ xat M pa 9 ∧ xN M pa = 12) ∧ (xI M a 1 = nI X.length ∧ ∀ i, i < X.length → xI M pa i = nI (X.getD i 0)) ∧ (xI M a 2 = nI F ∧ xI M a 3 = (if v.isSome = true then 1 else 0) ∧ xJ M a 4 = v.getD 0 ∧ xI M a 5 = nI qs.length) ∧ chS M (xR M a 10) (qs.map (fun q => q.1)) ∧ (∀ q ∈ qs, xat M q.1 1 ∧ xI M q.1 6 = nI q.2.1 ∧ xI M q.1 7 = nI q.2.2 ∧ q.2.1 < 256 ∧ q.2.2 < 256) ∧ X.length ≤ 12 ∧ (∀ b ∈ X, b < 256)
section NL
variable {l : Launch} {g : xG} {M : xM} {Q : Option Value → xM → Prop} {w rb a pa F : Nat} {v : Option Int64} {X : List Nat} {qs : List (Nat × Nat × Nat)} {f : Nat → Nat}
theorem nL.ag {P : Nat → Prop} {M1 : xM} (h : nL M a pa F v X qs) (hx : xag P M M1) (h1 : ¬ P a) (h2 : ¬ P pa) (h3 : ∀ q ∈ qs, ¬ P q.1) : nL M1 a pa F v X qs := by
  obtain ⟨⟨a1, a2, a3, a4⟩, ⟨b1, b2⟩, ⟨c1, c2, c3, c4⟩, d, e, f1, f2⟩ := h
  obtain ⟨p1, p2, p3⟩ := hx.2 a h1
  refine ⟨⟨hx.at.mpr a1, by rw [p3]; exact a2, hx.at.mpr a3, by rw [hx.1.2.2.1]; exact a4⟩, ⟨by rw [p1]; exact b1, fun i hi => by rw [(hx.2 pa h2).1]; exact b2 i hi⟩, ⟨by rw [p1]; exact c1, by rw [p1]; exact c2, by rw [p2]; exact c3, by rw [p1]; exact c4⟩, ?_, fun q hq => ?_, f1, f2⟩
  · rw [p3]
    refine chS_fr d (fun x hx2 => ?_)
    obtain ⟨q, hq, e⟩ := List.mem_map.mp hx2
    rw [← e]
    exact (hx.2 q.1 (h3 q hq)).2.2 11
  · obtain ⟨e1, e2, e3, e4⟩ := e q hq
    obtain ⟨r1, r2, r3⟩ := hx.2 q.1 (h3 q hq)
    exact ⟨hx.at.mpr e1, by rw [r1]; exact e2, by rw [r1]; exact e3, e4⟩
theorem nL.rwb (h : nL M a pa F v X qs) (hr : rwR M w rb f) {M1 : xM} (hx : xag (fun x => x = rb) M M1) : nL M1 a pa F v X qs :=
  h.ag hx (ne_of_kind h.1.1.2 hr.1.2.2.1.2 (by decide)) (ne_of_kind h.1.2.2.1.2 hr.1.2.2.1.2 (by decide)) (fun q hq => ne_of_kind (h.2.2.2.2.1 q hq).1.2 hr.1.2.2.1.2 (by decide))
theorem table_loopL {M0 : xM} (h0 : nL M0 a pa F v X qs) {f0 : Nat → Nat} (hr0 : rwR M0 w rb f0) (hF1 : 1 ≤ F) (hF4 : F ≤ 4) (h200 : qs.length ≤ 200)
    (hcont : ∀ M1 f1, rwR M1 w rb f1 → f1 = tabF F (qs.map (fun q => q.2)) 0 f → xag (fun x => x = rb) M0 M1 → Q none M1) :
    ∀ (l2 l1 : List (Nat × Nat × Nat)) (M1 : xM) (f1 : Nat → Nat) (r3 : Option Nat), qs = l1 ++ l2 → rwR M1 w rb f1 → tabF F (qs.map (fun q => q.2)) 0 f = tabF F (l2.map (fun q => q.2)) l1.length f1 → xag (fun x => x = rb) M0 M1 → chS M1 r3 (l2.map (fun q => q.1)) → xWp l g mX4_fillTable 0 0 7 [(1, va_rf (some w)), (1, va_rf (some a)), (1, .int (nI l1.length)), (1, va_rf r3)] [] (0, 0) M1 Q
  | [], l1, M1, f1, r3, hl, hr, hf, hx, hch => by
    have e : r3 = none := hch
    subst e
    exact bX4_fillTable_7 _ _ _ _ ⟨fun _ => hcont M1 f1 hr hf.symm hx, fun c => absurd rfl c⟩
  | c :: r, l1, M1, f1, r3, hl, hr, hf, hx, hch => by
    have h1 := h0.rwb hr0 hx
    have hch1 : r3 = some c.1 ∧ chS M1 (xR M1 c.1 11) (List.map (fun q : Nat × Nat × Nat => q.1) r) := hch
    obtain ⟨e3, hch2⟩ := hch1
    subst e3
    have hcm : c ∈ qs := by rw [hl]; simp
    obtain ⟨k1, e6, e7, hB, hGc⟩ := h1.2.2.2.2.1 c hcm
    have hlen : l1.length < 200 := by
      have : qs.length = l1.length + (r.length + 1) := by rw [hl]; simp
      omega
    have eF : xI M1 a 2 = nI F := h1.2.2.1.1
    have hcr : c.1 ≠ rb := ne_of_kind k1.2 hr.1.2.2.1.2 (by decide)
    have har : a ≠ rb := ne_of_kind h1.1.1.2 hr.1.2.2.1.2 (by decide)
    have hl1 : qs = (l1 ++ [c]) ++ r := by rw [hl]; simp
    have hll : (l1 ++ [c]).length = l1.length + 1 := by simp
    have hnext : ∀ M2, xag (fun x => x = rb) M1 M2 → chS M2 (xR M2 c.1 11) (r.map (fun q => q.1)) := fun M2 hx2 => by
      rw [(hx2.2 c.1 hcr).2.2]
      refine chS_fr hch2 (fun x hx3 => ?_)
      obtain ⟨q, hq, e⟩ := List.mem_map.mp hx3
      rw [← e]
      exact (hx2.2 q.1 (ne_of_kind (h1.2.2.2.2.1 q (by rw [hl]; exact List.mem_append_right _ (List.mem_cons_of_mem _ hq))).1.2 hr.1.2.2.1.2 (by decide))).2.2 11
    refine bX4_fillTable_7 _ _ _ _ ⟨fun z => (by cases z), fun _ => ⟨a, rfl, h1.1.1, fun c4 => ⟨fun c3 => ?_, fun c3 => ?_⟩, fun c4 => ?_⟩⟩
    · have k4 := nne c4 eF (b := 4) rfl
      have k3 := nne c3 eF (b := 3) rfl
      have hR16 := fRoom2 k4 k3 hF1 hF4
      refine ⟨c.1, rfl, k1, w, rfl, hr.1.1, ?_⟩
      rw [e6, show (24 : Int32) = nI 24 from rfl, nI_add]
      have r2 := hr.up (i := 24 + l1.length) (b := c.2.1) hB
      refine sX5_set hr (by omega) ⟨rfl, h1.1.1, ?_⟩
      have eF2 : xI (xsI M1 rb (24 + l1.length) (sB c.2.1)) a 2 = nI F := by rw [xI_sI, if_neg (fun z => har z.1)]; exact eF
      have e72 : xI (xsI M1 rb (24 + l1.length) (sB c.2.1)) c.1 7 = nI c.2.2 := by rw [xI_sI, if_neg (fun z => hcr z.1)]; exact e7
      rw [eF2]
      refine sX1_mostChildren hF1 hF4 ⟨_, rfl, k1, r2.1.1, ?_⟩
      rw [e72, nI_add, nI_add]
      have r3 := r2.up (i := 24 + fRoom F + l1.length) (b := c.2.2) hGc
      refine sX5_set r2 (by omega) ⟨rfl, k1, ?_⟩
      have hx3 : xag (fun x => x = rb) M1 (xsI (xsI M1 rb (24 + l1.length) (sB c.2.1)) rb (24 + fRoom F + l1.length) (sB c.2.2)) := (xag_I (P := fun x => x = rb) _ rfl).trans (xag_I (P := fun x => x = rb) _ rfl)
      rw [nI_1]
      have key := table_loopL h0 hr0 hF1 hF4 h200 hcont r (l1 ++ [c]) _ _ _ hl1 r3 (by
        rw [hf, List.map_cons, hll]
        show tabF F _ (l1.length + 1) (tab1 F l1.length c.2.1 c.2.2 f1) = _
        unfold tab1
        rw [if_neg k4, if_neg k3]) (hx.trans hx3) (hnext _ hx3)
      rw [hll] at key
      exact key
    · have k3 := neq c3 eF (b := 3) rfl
      refine ⟨c.1, rfl, k1, w, rfl, hr.1.1, ?_⟩
      rw [e6, show (24 : Int32) = nI 24 from rfl, nI_add, nI_1]
      have r2 := hr.up (i := 24 + c.2.1) (b := l1.length + 1) (by omega)
      refine sX5_set hr (by omega) ⟨rfl, k1, r2.1.1, ?_⟩
      have e72 : xI (xsI M1 rb (24 + c.2.1) (sB (l1.length + 1))) c.1 7 = nI c.2.2 := by rw [xI_sI, if_neg (fun z => hcr z.1)]; exact e7
      rw [e72, show (280 : Int32) = nI 280 from rfl, nI_add]
      have r3 := r2.up (i := 280 + l1.length) (b := c.2.2) hGc
      refine sX5_set r2 (by omega) ⟨rfl, k1, ?_⟩
      have hx3 : xag (fun x => x = rb) M1 (xsI (xsI M1 rb (24 + c.2.1) (sB (l1.length + 1))) rb (280 + l1.length) (sB c.2.2)) := (xag_I (P := fun x => x = rb) _ rfl).trans (xag_I (P := fun x => x = rb) _ rfl)
      have key := table_loopL h0 hr0 hF1 hF4 h200 hcont r (l1 ++ [c]) _ _ _ hl1 r3 (by
        rw [hf, List.map_cons, hll]
        show tabF F _ (l1.length + 1) (tab1 F l1.length c.2.1 c.2.2 f1) = _
        unfold tab1
        rw [if_neg (by omega), if_pos k3]) (hx.trans hx3) (hnext _ hx3)
      rw [hll] at key
      exact key
    · have k4 := neq c4 eF (b := 4) rfl
      refine ⟨c.1, rfl, k1, w, rfl, hr.1.1, ?_⟩
      rw [e6, e7, show (24 : Int32) = nI 24 from rfl, nI_add]
      have r2 := hr.up (i := 24 + c.2.1) (b := c.2.2) hGc
      refine sX5_set hr (by omega) ⟨rfl, k1, ?_⟩
      have hx3 : xag (fun x => x = rb) M1 (xsI M1 rb (24 + c.2.1) (sB c.2.2)) := xag_I _ rfl
      rw [nI_1]
      have key := table_loopL h0 hr0 hF1 hF4 h200 hcont r (l1 ++ [c]) _ _ _ hl1 r2 (by
        rw [hf, List.map_cons, hll]
        show tabF F _ (l1.length + 1) (tab1 F l1.length c.2.1 c.2.2 f1) = _
        unfold tab1
        rw [if_pos k4]) (hx.trans hx3) (hnext _ hx3)
      rw [hll] at key
      exact key
theorem pfill_loopL {M0 : xM} (h0 : nL M0 a pa F v X qs) {f0 : Nat → Nat} (hr0 : rwR M0 w rb f0)
    (hcont : ∀ M1, rwR M1 w rb (pfxF f X) → xag (fun x => x = rb) M0 M1 → xWp l g mX4_fill 0 0 51 [(1, va_rf (some w)), (1, va_rf (some a)), (1, .int (nI X.length))] [] (0, 0) M1 Q) :
    ∀ (d i : Nat) (M1 : xM), X.length = i + d → rwR M1 w rb (fun x => if 11 ≤ x ∧ x < 11 + i then X.getD (x - 11) 0 else f x) → xag (fun x => x = rb) M0 M1 → xWp l g mX4_fill 0 0 51 [(1, va_rf (some w)), (1, va_rf (some a)), (1, .int (nI i))] [] (0, 0) M1 Q
  | 0, i, M1, hd, hr, hx => by
    have hi : i = X.length := by omega
    subst hi
    exact hcont M1 hr hx
  | d + 1, i, M1, hd, hr, hx => by
    have h1 := h0.rwb hr0 hx
    have h12 := h1.2.2.2.2.2.1
    have hg : X.getD i 0 < 256 := getD_lt h1.2.2.2.2.2.2
    refine bX4_fill_51 _ _ _ ⟨a, rfl, h1.1.1, fun c => ?_, fun _ => ?_⟩
    · exfalso
      have := nle c h1.2.1.1 rfl
      omega
    · refine sX3_prefixAt0 h1.1.1 h1.1.2.1 h1.1.2.2.1 h1.1.2.2.2 h1.2.1.1 h12 (by omega) ⟨_, rfl, w, rfl, hr.1.1, ?_⟩
      rw [if_pos (by omega), h1.2.1.2 i (by omega), show (11 : Int32) = nI 11 from rfl, nI_add]
      refine sX5_set hr (by omega) ⟨rfl, ?_⟩
      rw [nI_1]
      have r2 := hr.up (i := 11 + i) hg
      refine pfill_loopL h0 hr0 hcont d (i + 1) _ (by omega) ?_ (hx.trans (xag_I _ rfl))
      have e : va_up (fun x => if 11 ≤ x ∧ x < 11 + i then X.getD (x - 11) 0 else f x) (11 + i) (X.getD i 0) = fun x => if 11 ≤ x ∧ x < 11 + (i + 1) then X.getD (x - 11) 0 else f x := by
        funext x
        by_cases hxk : x = 11 + i
        · rw [hxk, va_up_self]
          show _ = if 11 ≤ 11 + i ∧ 11 + i < 11 + (i + 1) then X.getD (11 + i - 11) 0 else f (11 + i)
          rw [if_pos (by omega), Nat.add_sub_cancel_left]
        · rw [va_up_ne _ _ hxk]
          show (if 11 ≤ x ∧ x < 11 + i then X.getD (x - 11) 0 else f x) = if 11 ≤ x ∧ x < 11 + (i + 1) then X.getD (x - 11) 0 else f x
          by_cases h1 : 11 ≤ x ∧ x < 11 + i
          · rw [if_pos h1, if_pos (by omega)]
          · rw [if_neg h1, if_neg (by omega)]
      rw [e] at r2
      exact r2
theorem sX4_fillL (h : nL M a pa F v X qs) (hr : rwR M w rb f) (hF1 : 1 ≤ F) (hF4 : F ≤ 4) (h200 : qs.length ≤ 200)
    (hQ : ∀ M1, rwR M1 w rb (ndF F v X (qs.map (fun q => q.2))) → xag (fun x => x = rb) M M1 → Q none M1) : xSp l g mX4_fill 0 0 [va_rf (some w), va_rf (some a)] M Q := by
  have h12 := h.2.2.2.2.2.1
  refine eX4_fill _ _ (bX4_fill_0 _ _ ⟨w, rfl, hr.1.1, sX5_wipe hr (fun M1 r1 x1 => ⟨rfl, ?_⟩)⟩)
  have h1 := h.rwb hr x1
  refine ⟨a, rfl, h1.1.1, r1.1.1, ?_⟩
  rw [h1.2.2.1.1]
  have r2 := r1.up (i := 0) (b := F) (by omega)
  have x2 := x1.trans (xag_I (P := fun x => x = rb) (k := 0) (v := sB F) M1 rfl)
  have h2 := h.rwb hr x2
  refine sX5_set (i := 0) r1 (by omega) ⟨rfl, h2.1.1, ?_⟩
  have tail : ∀ b : Nat, b = (if v.isSome = true then 1 else 0) → xat (xsI M1 rb 0 (sB F)) w 2 ∧ xSp l g mX5_set 0 0 [va_rf (some w), .int 1, .int (nI b)] (xsI M1 rb 0 (sB F)) (fun ρ19 M18 => ρ19 = none ∧ (xat M18 a 1 ∧ (xat M18 w 2 ∧ xSp l g mX5_setLong 0 0 [va_rf (some w), .int 2, .long (xJ M18 a 4)] M18 (fun ρ25 M24 => ρ25 = none ∧ (xat M24 a 1 ∧ (xat M24 w 2 ∧ xSp l g mX5_set 0 0 [va_rf (some w), .int 10, .int (xI M24 a 1)] M24 (fun ρ31 M30 => ρ31 = none ∧ xWp l g mX4_fill 0 0 51 [(1, va_rf (some w)), (1, va_rf (some a)), (1, .int 0)] [] (0, 0) M30 Q))))))) := fun b hb => by
    have hb256 : b < 256 := by rw [hb]; split <;> omega
    have r3 := r2.up (i := 1) (b := b) hb256
    have x3 := x2.trans (xag_I (P := fun x => x = rb) (k := 1) (v := sB b) (xsI M1 rb 0 (sB F)) rfl)
    have h3 := h.rwb hr x3
    refine ⟨r2.1.1, sX5_set (i := 1) r2 (by omega) ⟨rfl, h3.1.1, r3.1.1, ?_⟩⟩
    rw [h3.2.2.1.2.2.1]
    refine sX5_setLong (i := 2) r3 (by omega) (fun M4 r4 x4 => ⟨rfl, ?_⟩)
    have x4' := x3.trans x4
    have h4 := h.rwb hr x4'
    refine ⟨h4.1.1, r4.1.1, ?_⟩
    rw [h4.2.1.1]
    have r5 := r4.up (i := 10) (b := X.length) (by omega)
    have x5 := x4'.trans (xag_I (P := fun x => x = rb) (k := 10) (v := sB X.length) M4 rfl)
    have h5 := h.rwb hr x5
    refine sX5_set (i := 10) r4 (by omega) ⟨rfl, ?_⟩
    refine pfill_loopL h5 r5 (fun M6 r6 x6 => ?_) X.length 0 _ (by omega) (by
      have e : (fun x => if 11 ≤ x ∧ x < 11 + 0 then X.getD (x - 11) 0 else va_up (setL (va_up (va_up (fun _ => 0) 0 F) 1 b) 2 (v.getD 0)) 10 X.length x) = va_up (setL (va_up (va_up (fun _ => 0) 0 F) 1 b) 2 (v.getD 0)) 10 X.length := by
        funext x; rw [if_neg (by omega)]
      rw [e]; exact r5) xag.rf
    have x6' := x5.trans x6
    have h6 := h.rwb hr x6'
    refine bX4_fill_51 _ _ _ ⟨a, rfl, h6.1.1, fun _ => ⟨w, rfl, r6.1.1, ?_⟩, fun c => absurd (by rw [h6.2.1.1]; exact Int32.le_refl _) c⟩
    rw [h6.2.2.1.2.2.2]
    have r7 := r6.up (i := 23) (b := qs.length) (by omega)
    have x7 := x6'.trans (xag_I (P := fun x => x = rb) (k := 23) (v := sB qs.length) M6 rfl)
    have h7 := h.rwb hr x7
    refine sX5_set (i := 23) r6 (by omega) ⟨rfl, ?_⟩
    refine eX4_fillTable _ _ (bX4_fillTable_0 _ _ ⟨a, rfl, h7.1.1, ?_⟩)
    refine table_loopL (f := va_up (pfxF (va_up (setL (va_up (va_up (fun _ => 0) 0 F) 1 b) 2 (v.getD 0)) 10 X.length) X) 23 qs.length) h7 r7 hF1 hF4 h200 (fun M8 f8 r8 e8 x8 => ⟨rfl, r8.1.1, sX5_seal r8 (fun M9 r9 x9 => ⟨rfl, hQ M9 ?_ (x7.trans (x8.trans x9))⟩)⟩) qs [] _ _ _ rfl r7 rfl xag.rf h7.2.2.2.1
    unfold ndF
    rw [List.length_map, ← hb, ← e8]
    exact r9
  refine ⟨fun c => ?_, fun c => ?_⟩
  · have hv := z01.mp (h2.2.2.1.2.1.symm.trans c)
    exact tail 0 (by rw [hv]; rfl)
  · have hv := bnf (fun z => c (h2.2.2.1.2.1.trans (z01.mpr z)))
    exact tail 1 (by rw [if_pos hv])
end NL
