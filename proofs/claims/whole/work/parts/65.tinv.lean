/-! What stands in every tree is kept. -/
theorem fGrow_ok {f k : Nat} (h1 : 1 ≤ f) (h4 : f ≤ 4) (hk : k ≤ fRoom f) (hk2 : k + 1 ≤ 256) : 1 ≤ fGrow f (k + 1) ∧ fGrow f (k + 1) ≤ 4 ∧ k + 1 ≤ fRoom (fGrow f (k + 1)) := by
  have hf : f = 1 ∨ f = 2 ∨ f = 3 ∨ f = 4 := by omega
  rcases hf with rfl | rfl | rfl | rfl
  · have e1 : fRoom 1 = 4 := rfl
    have e2 : fRoom 2 = 16 := rfl
    rw [fGrow]
    by_cases hc : fRoom 1 < k + 1
    · rw [if_pos hc]; refine ⟨by omega, by omega, ?_⟩; show k + 1 ≤ fRoom 2; omega
    · rw [if_neg hc]; refine ⟨by omega, by omega, by omega⟩
  · have e1 : fRoom 2 = 16 := rfl
    have e2 : fRoom 3 = 48 := rfl
    rw [fGrow]
    by_cases hc : fRoom 2 < k + 1
    · rw [if_pos hc]; refine ⟨by omega, by omega, ?_⟩; show k + 1 ≤ fRoom 3; omega
    · rw [if_neg hc]; refine ⟨by omega, by omega, by omega⟩
  · have e1 : fRoom 3 = 48 := rfl
    have e2 : fRoom 4 = 256 := rfl
    rw [fGrow]
    by_cases hc : fRoom 3 < k + 1
    · rw [if_pos hc]; refine ⟨by omega, by omega, ?_⟩; show k + 1 ≤ fRoom 4; omega
    · rw [if_neg hc]; refine ⟨by omega, by omega, by omega⟩
  · have e1 : fRoom 4 = 256 := rfl
    rw [fGrow, if_neg (by omega)]; refine ⟨by omega, by omega, by omega⟩
theorem fShrink_ok {f k : Nat} (h1 : 1 ≤ f) (h4 : f ≤ 4) (hk : k ≤ fRoom f) : 1 ≤ fShrink f k ∧ fShrink f k ≤ 4 ∧ k ≤ fRoom (fShrink f k) := by
  by_cases hc : 1 < f ∧ k ≤ fLeast f
  · rw [fShrink, if_pos hc]
    refine ⟨by omega, by omega, ?_⟩
    have hf : f = 2 ∨ f = 3 ∨ f = 4 := by omega
    rcases hf with rfl | rfl | rfl
    · have e : fLeast 2 = 3 := rfl
      show k ≤ 4
      omega
    · have e : fLeast 3 = 12 := rfl
      show k ≤ 16
      omega
    · have e : fLeast 4 = 40 := rfl
      show k ≤ 48
      omega
  · rw [fShrink, if_neg hc]; exact ⟨h1, h4, hk⟩
theorem filt_split {l1 l2 : List Nat} {n : Nat} (h : (l1 ++ n :: l2).Nodup) : (l1 ++ n :: l2).filter (fun x => decide (x ≠ n)) = l1 ++ l2 := by
  obtain ⟨h1, h2, h3⟩ := List.nodup_append.mp h
  obtain ⟨h4, h5⟩ := List.nodup_cons.mp h2
  rw [List.filter_append, List.filter_cons_of_neg (by simp)]
  congr 1
  · exact List.filter_eq_self.mpr (fun x hx => by simpa using fun z => h3 x hx n List.mem_cons_self z)
  · exact List.filter_eq_self.mpr (fun x hx => by
    have : x ≠ n := fun z => h4 (by rw [← z]; exact hx)
    simpa using this)
def tI1 (T : TT) : Prop := ∀ n, tU T n = true → 1 ≤ tF T n ∧ tF T n ≤ 4 ∧ tG T n < 256 ∧ (tC T n).length ≤ fRoom (tF T n)
section TI
variable {T : TT}
theorem tFr_i1 (h : tI1 T) (s : Nat) : tI1 (tFr T s) := by
  intro n hn
  obtain ⟨a1, a2, a3, a4⟩ := h n hn
  refine ⟨a1, a2, ?_, a4⟩
  show (if n ∈ tA T 12 s then 0 else tG T n) < 256
  split <;> omega
theorem tAdd_i1 (h : tI1 T) {s c b : Nat} {p : List Nat} {v : Int64} (hs : tU T s = true) (hc : tU T c = false) (hk : (tC T s).length + 1 ≤ 256) : tI1 (tAdd T s c b p v) := by
  have hcs : c ≠ s := fun z => by rw [z, hs] at hc; cases hc
  intro n hn
  show 1 ≤ va_up (va_up (tF T) c 1) s (fGrow (tF T s) ((tC T s).length + 1)) n ∧ va_up (va_up (tF T) c 1) s (fGrow (tF T s) ((tC T s).length + 1)) n ≤ 4 ∧ va_up (tG T) c 0 n < 256 ∧ (va_up (va_up (tC T) c []) s (lIns (tB T) b c (tC T s)) n).length ≤ fRoom (va_up (va_up (tF T) c 1) s (fGrow (tF T s) ((tC T s).length + 1)) n)
  by_cases hns : n = s
  · subst hns
    obtain ⟨a1, a2, a3, a4⟩ := h n hs
    rw [va_up_self, va_up_self, va_up_ne _ _ (fun z => hcs z.symm), lIns_len]
    obtain ⟨b1, b2, b3⟩ := fGrow_ok a1 a2 a4 hk
    exact ⟨b1, b2, a3, b3⟩
  · rw [va_up_ne _ _ hns, va_up_ne _ _ hns]
    by_cases hnc : n = c
    · subst hnc
      rw [va_up_self, va_up_self, va_up_self]
      exact ⟨by omega, by omega, by omega, by simp⟩
    · rw [va_up_ne _ _ hnc, va_up_ne _ _ hnc, va_up_ne _ _ hnc]
      have : tU T n = true := by
        have h2 : va_up (tU T) c true n = true := hn
        rwa [va_up_ne _ _ hnc] at h2
      exact h n this
theorem tCut_i1 (h : tI1 T) {s m a : Nat} (ha : tU T a = false) : tI1 (tCut T s m a) := by
  intro n hn
  show 1 ≤ va_up (tF T) a 1 n ∧ va_up (tF T) a 1 n ≤ 4 ∧ va_up (tG T) a 0 n < 256 ∧ (if n = a then [s] else if tP T s = some n then lRep s a (tC T n) else tC T n).length ≤ fRoom (va_up (tF T) a 1 n)
  by_cases hna : n = a
  · subst hna
    rw [va_up_self, va_up_self, if_pos rfl]
    exact ⟨by omega, by omega, by omega, by show 1 ≤ 4; omega⟩
  · rw [va_up_ne _ _ hna, va_up_ne _ _ hna, if_neg hna]
    have hu : tU T n = true := by
      have h2 : va_up (tU T) a true n = true := hn
      rwa [va_up_ne _ _ hna] at h2
    obtain ⟨a1, a2, a3, a4⟩ := h n hu
    refine ⟨a1, a2, a3, ?_⟩
    split
    · rw [lRep_len]; exact a4
    · exact a4
theorem tDel_len (hW : tWF T) {n p : Nat} (hp : tU T p = true) (hn : n ∈ tC T p) : ((tC T p).filter (fun x => decide (x ≠ n))).length = (tC T p).length - 1 ∧ 1 ≤ (tC T p).length := by
  obtain ⟨l1, l2, hl⟩ := List.append_of_mem hn
  have hd := tC_nodup hW hp
  rw [hl] at hd ⊢
  rw [filt_split hd]
  simp only [List.length_append, List.length_cons]
  omega
theorem tDel_i1 (hW : tWF T) (h : tI1 T) {n p : Nat} (hpu : tU T p = true) (hn : n ∈ tC T p) : tI1 (tDel T n p) := by
  obtain ⟨e1, e2⟩ := tDel_len hW hpu hn
  intro x hx
  show 1 ≤ va_up (tF T) p (fShrink (tF T p) ((tC T p).length - 1)) x ∧ va_up (tF T) p (fShrink (tF T p) ((tC T p).length - 1)) x ≤ 4 ∧ tG T x < 256 ∧ (va_up (tC T) p ((tC T p).filter (fun x => decide (x ≠ n))) x).length ≤ fRoom (va_up (tF T) p (fShrink (tF T p) ((tC T p).length - 1)) x)
  by_cases hxp : x = p
  · subst hxp
    obtain ⟨a1, a2, a3, a4⟩ := h x hpu
    rw [va_up_self, va_up_self, e1]
    obtain ⟨b1, b2, b3⟩ := fShrink_ok (k := (tC T x).length - 1) a1 a2 (by omega)
    exact ⟨b1, b2, a3, b3⟩
  · rw [va_up_ne _ _ hxp, va_up_ne _ _ hxp]
    have h2 : va_up (tU T) n false x = true := hx
    by_cases hxn : x = n
    · subst hxn; rw [va_up_self] at h2; cases h2
    · rw [va_up_ne _ _ hxn] at h2; exact h x h2
theorem tJn_i1 (h : tI1 T) {u c : Nat} : tI1 (tJn T u c) := by
  intro x hx
  have h2 : va_up (tU T) u false x = true := hx
  have hxu : x ≠ u := fun z => by rw [z, va_up_self] at h2; cases h2
  rw [va_up_ne _ _ hxu] at h2
  obtain ⟨a1, a2, a3, a4⟩ := h x h2
  refine ⟨a1, a2, a3, ?_⟩
  show (if tP T u = some x then lRep u c (tC T x) else tC T x).length ≤ fRoom (tF T x)
  split
  · rw [lRep_len]; exact a4
  · exact a4
/-! counters -/
theorem cnt_add {s c b : Nat} {p : List Nat} {v : Int64} (hc : tU T c = false) (h2 : c < 220) : tCnt (tAdd T s c b p v) = tCnt T + 1 ∧ tKy (tAdd T s c b p v) = tKy T + 1 := by
  constructor
  · exact cnt_up220 h2 hc (va_up_self _ _ _) (fun x hx => va_up_ne _ _ hx)
  · refine cnt_up220 h2 (by rw [hc]; rfl) ?_ (fun x hx => ?_)
    · show (va_up (tU T) c true c && (va_up (tV T) c (some v) c).isSome) = true
      rw [va_up_self, va_up_self]; rfl
    · show (va_up (tU T) c true x && (va_up (tV T) c (some v) x).isSome) = _
      rw [va_up_ne _ _ hx, va_up_ne _ _ hx]
theorem cnt_cut {s m a : Nat} (hc : tU T a = false) (h2 : a < 220) : tCnt (tCut T s m a) = tCnt T + 1 ∧ tKy (tCut T s m a) = tKy T := by
  constructor
  · exact cnt_up220 h2 hc (va_up_self _ _ _) (fun x hx => va_up_ne _ _ hx)
  · refine List.countP_congr (fun x hx => ?_)
    show (va_up (tU T) a true x && (va_up (tV T) a none x).isSome) = true ↔ _
    by_cases hxa : x = a
    · subst hxa
      rw [va_up_self, va_up_self, hc]; simp
    · rw [va_up_ne _ _ hxa, va_up_ne _ _ hxa]
theorem cnt_sv1 {s : Nat} {v : Int64} (hs : tU T s = true) (h2 : s < 220) (hv : tV T s = none) : tKy (tSv T s (some v)) = tKy T + 1 := by
  refine cnt_up220 h2 (by rw [hv, hs]; rfl) ?_ (fun x hx => ?_)
  · show (tU T s && (va_up (tV T) s (some v) s).isSome) = true
    rw [va_up_self, hs]; rfl
  · show (tU T x && (va_up (tV T) s (some v) x).isSome) = _
    rw [va_up_ne _ _ hx]
theorem cnt_sv2 {s : Nat} {v : Int64} (hv : (tV T s).isSome = true) : tKy (tSv T s (some v)) = tKy T := by
  refine List.countP_congr (fun x hx => ?_)
  show (tU T x && (va_up (tV T) s (some v) x).isSome) = true ↔ _
  by_cases hxa : x = s
  · subst hxa; rw [va_up_self, hv]; simp
  · rw [va_up_ne _ _ hxa]
theorem cnt_sv0 {s : Nat} (hs : tU T s = true) (h2 : s < 220) (hv : (tV T s).isSome = true) : tKy T = tKy (tSv T s none) + 1 := by
  refine cnt_up220 h2 ?_ (by rw [hs, hv]; rfl) (fun x hx => ?_)
  · show (tU T s && (va_up (tV T) s none s).isSome) = false
    rw [va_up_self]; simp
  · show _ = (tU T x && (va_up (tV T) s none x).isSome)
    rw [va_up_ne _ _ hx]
theorem cnt_del {n p : Nat} (hn : tU T n = true) (h2 : n < 220) (hv : tV T n = none) : tCnt T = tCnt (tDel T n p) + 1 ∧ tKy (tDel T n p) = tKy T := by
  constructor
  · exact cnt_up220 h2 (va_up_self _ _ _) hn (fun x hx => (va_up_ne _ _ hx).symm)
  · refine List.countP_congr (fun x hx => ?_)
    show (va_up (tU T) n false x && (tV T x).isSome) = true ↔ _
    by_cases hxa : x = n
    · subst hxa; rw [va_up_self, hv]; simp
    · rw [va_up_ne _ _ hxa]
theorem cnt_jn {u c : Nat} (hn : tU T u = true) (h2 : u < 220) (hv : tV T u = none) : tCnt T = tCnt (tJn T u c) + 1 ∧ tKy (tJn T u c) = tKy T := by
  constructor
  · exact cnt_up220 h2 (va_up_self _ _ _) hn (fun x hx => (va_up_ne _ _ hx).symm)
  · refine List.countP_congr (fun x hx => ?_)
    show (va_up (tU T) u false x && (tV T x).isSome) = true ↔ _
    by_cases hxa : x = u
    · subst hxa; rw [va_up_self, hv]; simp
    · rw [va_up_ne _ _ hxa]
theorem used_ne {a x : Nat} {b : Bool} (h : va_up (tU T) a b x = true) (hx : x ≠ a) : tU T x = true := by rwa [va_up_ne _ _ hx] at h
theorem tInv_sv (hI : tInv T) (s : Nat) (v : Int64) : tInv (tSv T s (some v)) := by
  refine ⟨hI.1, fun n hn => ?_, hI.2.2⟩
  show (va_up (tV T) s (some v) n).isSome = true ∨ _
  by_cases hns : n = s
  · rw [hns, va_up_self]; exact Or.inl rfl
  · rw [va_up_ne _ _ hns]; exact hI.2.1 n hn
theorem tInv_fr (hI : tInv T) (s : Nat) : tInv (tFr T s) := ⟨tFr_i1 hI.1 s, hI.2.1, hI.2.2⟩
theorem tPutG_ok (hW : tWF T) (hI : tInv T) {key : List Nat} {v : Int64} {s m w a c : Nat} (h12 : key.length ≤ 12) (hb : ∀ b ∈ key, b < 256) (hS : skOk T key s m w)
    (ha : tCnt T < 220 → tU T a = false ∧ a < 220) (hc : m < (tX T s).length → w < key.length → tCnt T < 199 → tU (tCut T s m a) c = false ∧ c < 220) : tWF (tPutG T key v s m w a c).2 ∧ tInv (tPutG T key v s m w a c).2 := by
  obtain ⟨hs, hm, hw, hwl, hnb, hne⟩ := hS
  obtain ⟨ha1, ha2⟩ := ha (by have := hI.2.2; omega)
  have hsa : s ≠ a := fun z => by rw [z, ha1] at hs; cases hs
  have hcs := tC_len hW hs
  unfold tPutG
  by_cases c1 : w = key.length ∧ m = (tX T s).length ∧ (tV T s).isSome = true
  · rw [if_pos c1]
    dsimp only
    by_cases c2 : tV T s = some v
    · rw [if_pos c2]; exact ⟨hW, hI⟩
    · rw [if_neg c2]; exact ⟨tFr_wf (tSv_wf hW _ _) _, tInv_fr (tInv_sv hI _ _) _⟩
  rw [if_neg c1]
  by_cases c2 : tV T (tO T) = none ∧ tC T (tO T) = []
  · rw [if_pos c2]
    dsimp only
    refine ⟨tFr_wf (tSv_wf (tXf_wf hW rfl c2.2 hb h12 _) _ _) _, tInv_fr ⟨?_, ?_, ?_⟩ _⟩
    · intro n hn
      obtain ⟨b1, b2, b3, b4⟩ := hI.1 n hn
      show 1 ≤ va_up (tF T) (tO T) (tF T (tO T)) n ∧ va_up (tF T) (tO T) (tF T (tO T)) n ≤ 4 ∧ tG T n < 256 ∧ (tC T n).length ≤ fRoom (va_up (tF T) (tO T) (tF T (tO T)) n)
      by_cases hno : n = tO T
      · rw [hno, va_up_self]; rw [hno] at b1 b2 b3 b4; exact ⟨b1, b2, b3, b4⟩
      · rw [va_up_ne _ _ hno]; exact ⟨b1, b2, b3, b4⟩
    · intro n hn
      have hno := root_alone hW c2.2 n hn
      refine Or.inl ?_
      show (va_up (tV T) (tO T) (some v) n).isSome = true
      rw [hno, va_up_self]; rfl
    · exact hI.2.2
  rw [if_neg c2]
  by_cases c3 : 200 < tCnt T + (if m < (tX T s).length then 1 else 0) + (if w < key.length then 1 else 0)
  · rw [if_pos c3]; exact ⟨hW, hI⟩
  rw [if_neg c3]
  have hroot : tC T (tO T) = [] → (tV T (tO T)).isSome = true := by
    intro h
    cases hv : tV T (tO T) with
    | none => exact absurd ⟨hv, h⟩ c2
    | some x => rfl
  by_cases c4 : m < (tX T s).length
  · rw [if_pos c4] at c3 ⊢
    have hW1 := tFr_wf (tCut_wf hW hs ha1 ha2 c4) s
    have i1 := tFr_i1 (tCut_i1 (s := s) (m := m) hI.1 ha1) s
    have k1 := (cnt_cut (T := T) (s := s) (m := m) ha1 ha2).1
    -- the children and values of the cut tree
    have q2 : ∀ n, tU (tCut T s m a) n = true → n ≠ a → (tV (tCut T s m a) n).isSome = true ∨ 2 ≤ (tC (tCut T s m a) n).length := by
      intro n hn hna
      have hu := used_ne hn hna
      have e1 : tV (tCut T s m a) n = tV T n := va_up_ne _ _ hna
      have e2 : (tC (tCut T s m a) n).length = (tC T n).length := by
        show (if n = a then [s] else if tP T s = some n then lRep s a (tC T n) else tC T n).length = _
        rw [if_neg hna]
        split
        · rw [lRep_len]
        · rfl
      rw [e1, e2]
      rcases hI.2.1 n hu with h | h | h
      · exact Or.inl h
      · exact Or.inr h
      · rw [h.1]; exact Or.inl (hroot (h.1 ▸ h.2.1))
    have eCa : tC (tCut T s m a) a = [s] := by
      show (if a = a then [s] else _) = [s]
      rw [if_pos rfl]
    dsimp only
    by_cases c5 : w < key.length
    · rw [if_pos c5] at c3 ⊢
      obtain ⟨hc1, hc2⟩ := hc c4 c5 (by omega)
      have hca : c ≠ a := fun z => by
        rw [z] at hc1
        have : va_up (tU T) a true a = false := hc1
        rw [va_up_self] at this; cases this
      have hau : tU (tFr (tCut T s m a) s) a = true := va_up_self _ _ _
      have eXa : tX (tFr (tCut T s m a) s) a = (tX T s).take m := by
        show va_up (va_up (tX T) a ((tX T s).take m)) s _ a = _
        rw [va_up_ne _ _ (fun z => hsa z.symm), va_up_self]
      have eLa : tL (tFr (tCut T s m a) s) a = tL T s := by
        show va_up (va_up (tL T) a (tL T s)) s _ a = _
        rw [va_up_ne _ _ (fun z => hsa z.symm), va_up_self]
      have eBs : tB (tFr (tCut T s m a) s) s = (tX T s).getD m 0 := va_up_self _ _ _
      have eCa2 : tC (tFr (tCut T s m a) s) a = [s] := eCa
      have hlen : (tX (tFr (tCut T s m a) s) a).length = m := by rw [eXa, List.length_take]; omega
      have hWA := tAdd_wf hW1 (s := a) (c := c) (b := key.getD w 0) (p := key.drop (w + 1)) v hau hc1 hc2 (getD_lt hb) (fun x hx => hb x (List.mem_of_mem_drop hx))
        (by rw [eLa, hlen, List.length_drop]; omega) (by rw [eCa2]; intro x hx; rw [List.mem_singleton] at hx; rw [hx, eBs]; exact hne c4 c5)
      refine ⟨tFr_wf hWA _, tInv_fr ⟨tAdd_i1 i1 hau hc1 (by rw [eCa2]; simp), ?_, ?_⟩ _⟩
      · intro n hn
        have hn1 : va_up (tU (tFr (tCut T s m a) s)) c true n = true := hn
        have goal : (va_up (tV (tFr (tCut T s m a) s)) c (some v) n).isSome = true ∨ 2 ≤ (va_up (va_up (tC (tFr (tCut T s m a) s)) c []) a (lIns (tB (tFr (tCut T s m a) s)) (key.getD w 0) c (tC (tFr (tCut T s m a) s) a)) n).length := by
          by_cases hnc : n = c
          · rw [hnc, va_up_self]; exact Or.inl rfl
          · rw [va_up_ne _ _ hnc]
            by_cases hna : n = a
            · rw [hna, va_up_self, lIns_len, eCa2]; exact Or.inr (by simp)
            · rw [va_up_ne _ _ hna, va_up_ne _ _ hnc]
              exact q2 n (used_ne hn1 hnc) hna
        rcases goal with h | h
        · exact Or.inl h
        · exact Or.inr (Or.inl h)
      · have k2 := (cnt_add (T := tFr (tCut T s m a) s) (s := a) (c := c) (b := key.getD w 0) (p := key.drop (w + 1)) (v := v) hc1 hc2).1
        have k3 : tCnt (tFr (tCut T s m a) s) = tCnt (tCut T s m a) := rfl
        rw [k2, k3, k1]; omega
    · rw [if_neg c5] at c3 ⊢
      refine ⟨tSv_wf hW1 _ _, ⟨i1, ?_, ?_⟩⟩
      · intro n hn
        show (va_up (tV (tCut T s m a)) a (some v) n).isSome = true ∨ _
        by_cases hna : n = a
        · rw [hna, va_up_self]; exact Or.inl rfl
        · rw [va_up_ne _ _ hna]
          rcases q2 n hn hna with h | h
          · exact Or.inl h
          · exact Or.inr (Or.inl h)
      · have k3 : tCnt (tSv (tFr (tCut T s m a) s) a (some v)) = tCnt (tCut T s m a) := rfl
        rw [k3, k1]; omega
  rw [if_neg c4] at c3 ⊢
  have hml : m = (tX T s).length := by omega
  by_cases c5 : w < key.length
  · rw [if_pos c5] at c3 ⊢
    dsimp only
    have hWA := tAdd_wf hW (s := s) (c := a) (b := key.getD w 0) (p := key.drop (w + 1)) v hs ha1 ha2 (getD_lt hb) (fun x hx => hb x (List.mem_of_mem_drop hx))
        (by rw [List.length_drop]; omega) (hnb c4 c5)
    have hcl := tC_len (tAdd_wf hW (s := s) (c := a) (b := key.getD w 0) (p := key.drop (w + 1)) v hs ha1 ha2 (getD_lt hb) (fun x hx => hb x (List.mem_of_mem_drop hx))
        (by rw [List.length_drop]; omega) (hnb c4 c5)) (n := s) (by show va_up (tU T) a true s = true; rw [va_up_ne _ _ hsa]; exact hs)
    have e1 : tC (tAdd T s a (key.getD w 0) (key.drop (w + 1)) v) s = lIns (tB T) (key.getD w 0) a (tC T s) := va_up_self _ _ _
    rw [e1, lIns_len] at hcl
    refine ⟨tFr_wf hWA _, tInv_fr ⟨tAdd_i1 hI.1 hs ha1 hcl, ?_, ?_⟩ _⟩
    · intro n hn
      have hn1 : va_up (tU T) a true n = true := hn
      have goal : (va_up (tV T) a (some v) n).isSome = true ∨ 2 ≤ (va_up (va_up (tC T) a []) s (lIns (tB T) (key.getD w 0) a (tC T s)) n).length := by
        by_cases hna : n = a
        · rw [hna, va_up_self]; exact Or.inl rfl
        · rw [va_up_ne _ _ hna]
          have hu := used_ne hn1 hna
          by_cases hns : n = s
          · subst hns
            rw [va_up_self, lIns_len]
            rcases hI.2.1 n hu with h | h | h
            · exact Or.inl h
            · exact Or.inr (by omega)
            · rw [h.1]; exact Or.inl (hroot (h.1 ▸ h.2.1))
          · rw [va_up_ne _ _ hns, va_up_ne _ _ hna]
            rcases hI.2.1 n hu with h | h | h
            · exact Or.inl h
            · exact Or.inr h
            · rw [h.1]; exact Or.inl (hroot (h.1 ▸ h.2.1))
      rcases goal with h | h
      · exact Or.inl h
      · exact Or.inr (Or.inl h)
    · have k2 := (cnt_add (T := T) (s := s) (c := a) (b := key.getD w 0) (p := key.drop (w + 1)) (v := v) ha1 ha2).1
      rw [k2]; omega
  · rw [if_neg c5]
    exact ⟨tFr_wf (tSv_wf hW _ _) _, tInv_fr (tInv_sv hI _ _) _⟩
theorem tFree2_ok {s m a : Nat} (ha : tU T a = false) (ha2 : a < 220) (h : tCnt T < 199) : tU (tCut T s m a) (tFree (tCut T s m a)) = false ∧ tFree (tCut T s m a) < 220 := by
  apply tFree_ok
  rw [(cnt_cut (T := T) (s := s) (m := m) ha ha2).1]
  omega
theorem tPut_ok (hW : tWF T) (hI : tInv T) {key : List Nat} {v : Int64} (h12 : key.length ≤ 12) (hb : ∀ b ∈ key, b < 256) : tWF (tPut T key v).2 ∧ tInv (tPut T key v).2 :=
  have hf := tFree_ok (T := T) (by have := hI.2.2; omega)
  tPutG_ok hW hI h12 hb (tSe_sk hW key) (fun _ => hf) (fun _ _ h => tFree2_ok hf.1 hf.2 h)
end TI
