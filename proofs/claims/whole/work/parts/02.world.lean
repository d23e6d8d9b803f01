/-! THE WORLD: all cells of the class, of the reference and of the law, by address: their kind, length, ints, longs, references. -/
abbrev xM : Type := List Nat × (Nat → Nat) × (Nat → Nat) × (Nat → Nat → Int32) × (Nat → Nat → Int64) × (Nat → Nat → Option Nat)
def xL (M : xM) : List Nat := M.1
def xK (M : xM) : Nat → Nat := M.2.1
def xN (M : xM) : Nat → Nat := M.2.2.1
def xI (M : xM) : Nat → Nat → Int32 := M.2.2.2.1
def xJ (M : xM) : Nat → Nat → Int64 := M.2.2.2.2.1
def xR (M : xM) : Nat → Nat → Option Nat := M.2.2.2.2.2
def xu2 {α : Type} (f : Nat → Nat → α) (a k : Nat) (v : α) : Nat → Nat → α := fun b j => if b = a ∧ j = k then v else f b j
def xuz {α : Type} (f : Nat → Nat → α) (a : Nat) (v : α) : Nat → Nat → α := fun b j => if b = a then v else f b j
def xsI (M : xM) (a k : Nat) (v : Int32) : xM := (M.1, M.2.1, M.2.2.1, xu2 M.2.2.2.1 a k v, M.2.2.2.2.1, M.2.2.2.2.2)
def xsJ (M : xM) (a k : Nat) (v : Int64) : xM := (M.1, M.2.1, M.2.2.1, M.2.2.2.1, xu2 M.2.2.2.2.1 a k v, M.2.2.2.2.2)
def xsR (M : xM) (a k : Nat) (v : Option Nat) : xM := (M.1, M.2.1, M.2.2.1, M.2.2.2.1, M.2.2.2.2.1, xu2 M.2.2.2.2.2 a k v)
def xnew (M : xM) (q kd n : Nat) : xM := (M.1 ++ [q], va_up M.2.1 q kd, va_up M.2.2.1 q n, xuz M.2.2.2.1 q 0, xuz M.2.2.2.2.1 q 0, xuz M.2.2.2.2.2 q none)
/-- the kinds' fields: 0 int, 1 long, 2 reference, 3 boolean -/
def xF : Nat → List Nat
  | 0 => [2, 0, 0]
  | 1 => [2, 0, 0, 3, 1, 0, 0, 0, 3, 2, 2, 2, 2]
  | 2 => [2]
  | 3 => [2, 2, 2, 2]
  | 4 => [2, 0]
  | 5 => [2, 2, 2, 0, 0, 2, 0, 0]
  | 6 => [2, 2, 2, 2, 0, 3]
  | 7 => [0, 2, 0, 3, 2, 2, 2, 2, 2, 2, 2, 2, 2, 2, 0, 0, 1, 2, 0, 0, 0, 0, 0, 2, 0, 2, 2]
  | _ => []
def xV (M : xM) (a k t : Nat) : Value := if t = 1 then .long (xJ M a k) else if t = 2 then va_rf (xR M a k) else .int (xI M a k)
def xFs (M : xM) (a : Nat) (ts : List Nat) : List Value := ts.mapIdx (fun k t => xV M a k t)
abbrev xG : Type := va_G × (Nat → ClassId) × Nat × Nat
def xAr (M : xM) (a : Nat) : vp_A := (xN M a, if xK M a = 10 then .inr (.inl (xJ M a)) else if xK M a = 12 then .inr (.inr (.inr (.inr (xR M a)))) else .inl (xI M a))
def xE (g : xG) (M : xM) (a : Nat) : va_E := if xK M a < 8 then .inr (xK M a, xFs M a (xF (xK M a))) else .inl (g.2.1 (xK M a), xAr M a)
def xW (g : xG) (M : xM) : va_W := va_pl (xL M) (xE g M)
def xTy (g : xG) : List (ClassId × FieldType) := [(g.2.1 8, .byte), (g.2.1 9, .int), (g.2.1 10, .long), (g.2.1 11, .boolean), (g.2.1 12, .object "RadixPages$Node")]
/-- the heap holds the world, all of it in A -/
def xP (g : xG) (A : Nat → Prop) (M : xM) (H : Heap) : Prop := va_P g.1 vwCl (xW g M) H ∧ va_D A (xW g M)
theorem xK_sI (M : xM) (a k : Nat) (v : Int32) : xK (xsI M a k v) = xK M := rfl
theorem xK_sJ (M : xM) (a k : Nat) (v : Int64) : xK (xsJ M a k v) = xK M := rfl
theorem xK_sR (M : xM) (a k : Nat) (v : Option Nat) : xK (xsR M a k v) = xK M := rfl
theorem xN_sI (M : xM) (a k : Nat) (v : Int32) : xN (xsI M a k v) = xN M := rfl
theorem xN_sJ (M : xM) (a k : Nat) (v : Int64) : xN (xsJ M a k v) = xN M := rfl
theorem xN_sR (M : xM) (a k : Nat) (v : Option Nat) : xN (xsR M a k v) = xN M := rfl
theorem xL_sI (M : xM) (a k : Nat) (v : Int32) : xL (xsI M a k v) = xL M := rfl
theorem xL_sJ (M : xM) (a k : Nat) (v : Int64) : xL (xsJ M a k v) = xL M := rfl
theorem xL_sR (M : xM) (a k : Nat) (v : Option Nat) : xL (xsR M a k v) = xL M := rfl
theorem xI_sI (M : xM) (a k : Nat) (v : Int32) (b j : Nat) : xI (xsI M a k v) b j = if b = a ∧ j = k then v else xI M b j := rfl
theorem xI_sJ (M : xM) (a k : Nat) (v : Int64) : xI (xsJ M a k v) = xI M := rfl
theorem xI_sR (M : xM) (a k : Nat) (v : Option Nat) : xI (xsR M a k v) = xI M := rfl
theorem xJ_sI (M : xM) (a k : Nat) (v : Int32) : xJ (xsI M a k v) = xJ M := rfl
theorem xJ_sJ (M : xM) (a k : Nat) (v : Int64) (b j : Nat) : xJ (xsJ M a k v) b j = if b = a ∧ j = k then v else xJ M b j := rfl
theorem xJ_sR (M : xM) (a k : Nat) (v : Option Nat) : xJ (xsR M a k v) = xJ M := rfl
theorem xR_sI (M : xM) (a k : Nat) (v : Int32) : xR (xsI M a k v) = xR M := rfl
theorem xR_sJ (M : xM) (a k : Nat) (v : Int64) : xR (xsJ M a k v) = xR M := rfl
theorem xR_sR (M : xM) (a k : Nat) (v : Option Nat) (b j : Nat) : xR (xsR M a k v) b j = if b = a ∧ j = k then v else xR M b j := rfl
theorem xFs_get (M : xM) (a : Nat) (ts : List Nat) (k t : Nat) (h : ts[k]? = some t) : (xFs M a ts)[k]? = some (xV M a k t) := by
  simp [xFs, List.getElem?_mapIdx, h]
theorem xFs_len (M : xM) (a : Nat) (ts : List Nat) : (xFs M a ts).length = ts.length := by simp [xFs]
theorem xFs_set (M M' : xM) (a : Nat) (ts : List Nat) (k t : Nat) (v : Value) (h : ts[k]? = some t) (hv : xV M' a k t = v) (ho : ∀ j u, j ≠ k → ts[j]? = some u → xV M' a j u = xV M a j u) : (xFs M a ts).set k v = xFs M' a ts := by
  apply List.ext_getElem?
  intro j
  by_cases hj : k = j
  · subst hj
    have hl : k < (xFs M a ts).length := by rw [xFs_len]; exact (List.getElem?_eq_some_iff.mp h).1
    rw [List.getElem?_set_self hl, xFs_get M' a ts k t h, hv]
  · rw [List.getElem?_set_ne hj]
    simp only [xFs, List.getElem?_mapIdx]
    cases hu : ts[j]? with
    | none => rfl
    | some u => simp [ho j u (Ne.symm hj) hu]
theorem xE_off (g : xG) {M M' : xM} {b : Nat} (hK : xK M' = xK M) (hN : xN M' = xN M) (hI : ∀ j, xI M' b j = xI M b j) (hJ : ∀ j, xJ M' b j = xJ M b j) (hR : ∀ j, xR M' b j = xR M b j) : xE g M' b = xE g M b := by
  have h1 : xI M' b = xI M b := funext hI
  have h2 : xJ M' b = xJ M b := funext hJ
  have h3 : xR M' b = xR M b := funext hR
  simp only [xE, xAr, xFs, xV, hK, hN, h1, h2, h3]
theorem xW_set (g : xG) {A : Nat → Prop} {M M' : xM} {a k : Nat} {e : va_E} (hD : va_D A (xW g M)) (ha : a ∈ xL M) (hk : (xW g M)[k]? = some (a, xE g M a)) (hL : xL M' = xL M) (he : xE g M' a = e) (ho : ∀ b, b ≠ a → xE g M' b = xE g M b) : (xW g M).set k (a, e) = xW g M' := by
  have h := va_pl_set (X := []) (f := xE g M) (L := xL M) (a := a) (k := k) (e := e) hD ha hk
  simp only [List.nil_append] at h
  unfold xW
  rw [h, hL]
  unfold va_pl
  apply List.map_congr_left
  intro b _
  by_cases hb : b = a
  · subst hb; rw [va_up_self, he]
  · rw [va_up_ne _ _ hb, ho b hb]
theorem xW_get (g : xG) {M : xM} {a : Nat} (ha : a ∈ xL M) : ∃ k : Nat, (xW g M)[k]? = some (a, xE g M a) := va_pl_get (X := []) (f := xE g M) ha
theorem xE_obj (g : xG) {M : xM} {a ci : Nat} (hk : xK M a = ci) (hc : ci < 8) : xE g M a = .inr (ci, xFs M a (xF ci)) := by
  unfold xE; rw [hk, if_pos hc]
theorem xE_arr (g : xG) {M : xM} {a ci : Nat} (hk : xK M a = ci) (hc : ¬ ci < 8) : xE g M a = .inl (g.2.1 ci, xAr M a) := by
  unfold xE; rw [hk, if_neg hc]
theorem xV_sI (M : xM) (a k : Nat) (v : Int32) (b j t : Nat) (h : b ≠ a ∨ j ≠ k) : xV (xsI M a k v) b j t = xV M b j t := by
  have : ¬ (b = a ∧ j = k) := fun q => h.elim (fun z => z q.1) (fun z => z q.2)
  simp only [xV, xI_sI, xJ_sI, xR_sI, if_neg this]
theorem xV_sJ (M : xM) (a k : Nat) (v : Int64) (b j t : Nat) (h : b ≠ a ∨ j ≠ k) : xV (xsJ M a k v) b j t = xV M b j t := by
  have : ¬ (b = a ∧ j = k) := fun q => h.elim (fun z => z q.1) (fun z => z q.2)
  simp only [xV, xI_sJ, xJ_sJ, xR_sJ, if_neg this]
theorem xV_sR (M : xM) (a k : Nat) (v : Option Nat) (b j t : Nat) (h : b ≠ a ∨ j ≠ k) : xV (xsR M a k v) b j t = xV M b j t := by
  have : ¬ (b = a ∧ j = k) := fun q => h.elim (fun z => z q.1) (fun z => z q.2)
  simp only [xV, xI_sR, xJ_sR, xR_sR, if_neg this]
theorem xE_sI_ne (g : xG) (M : xM) (a k : Nat) (v : Int32) (b : Nat) (h : b ≠ a) : xE g (xsI M a k v) b = xE g M b :=
  xE_off g rfl rfl (fun j => by rw [xI_sI, if_neg (fun q => h q.1)]) (fun _ => rfl) (fun _ => rfl)
theorem xE_sJ_ne (g : xG) (M : xM) (a k : Nat) (v : Int64) (b : Nat) (h : b ≠ a) : xE g (xsJ M a k v) b = xE g M b :=
  xE_off g rfl rfl (fun _ => rfl) (fun j => by rw [xJ_sJ, if_neg (fun q => h q.1)]) (fun _ => rfl)
theorem xE_sR_ne (g : xG) (M : xM) (a k : Nat) (v : Option Nat) (b : Nat) (h : b ≠ a) : xE g (xsR M a k v) b = xE g M b :=
  xE_off g rfl rfl (fun _ => rfl) (fun _ => rfl) (fun j => by rw [xR_sR, if_neg (fun q => h q.1)])
