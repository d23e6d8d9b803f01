/-! THE DISK; how a head and a node stand on their pages. -/
def pwI : Option Nat → Int32
  | none => -1
  | some k => nI k
def pwN : Option Nat → Option Nat
  | none => none
  | some 0 => none
  | some (k + 1) => some k
/-- the disk's bytes behind n bytes that are written to the page p -/
def dkC (D : Nat → Nat) (p : Nat) (f : Nat → Nat) (n : Nat) : Nat → Nat := fun k => if 512 * p ≤ k ∧ k < 512 * p + n then f (k - 512 * p) else D k
def dkW (D : Nat → Nat) (p : Nat) (f : Nat → Nat) (pw : Option Nat) (tr : Nat) : Nat → Nat := if pw = some 0 then va_up (dkC D p f tr) (512 * p) 255 else dkC D p f 512
/-- the disk of the class: its bytes, when power goes, how much of that write stays -/
def dkR (M : xM) (d db : Nat) (D : Nat → Nat) (pw : Option Nat) (tr : Nat) : Prop :=
  (xat M d 0 ∧ xR M d 0 = some db ∧ xat M db 8 ∧ xN M db = 131072) ∧ (∀ k, k < 131072 → xI M db k = sB (D k)) ∧ (∀ k, D k < 256) ∧ (xI M d 1 = pwI pw ∧ xI M d 2 = nI tr ∧ tr < 512 ∧ ∀ k, pw = some k → k ≤ 1000)
theorem nI_mul (a b : Nat) : nI a * nI b = nI (a * b) := (Int32.ofNat_mul a b).symm
theorem nI_nm1 {k : Nat} (h : k < 2 ^ 31) : ¬ nI k ≤ -1 := fun z => nneg (Int32.lt_of_le_of_lt z (by decide)) rfl
theorem p512 (p : Nat) : nI p * 512 = nI (512 * p) := by
  rw [show (512 : Int32) = nI 512 from rfl, nI_mul, Nat.mul_comm]
section DK
variable {l : Launch} {g : xG} {M : xM} {Q : Option Value → xM → Prop} {d db w rb p i tr : Nat} {D f : Nat → Nat} {pw : Option Nat}
theorem dkR.ag {P : Nat → Prop} {M1 : xM} (h : dkR M d db D pw tr) (hx : xag P M M1) (h1 : ¬ P d) (h2 : ¬ P db) : dkR M1 d db D pw tr := by
  obtain ⟨⟨a1, a2, a3, a4⟩, a5, a6, a7, a8, a9⟩ := h
  exact ⟨⟨hx.at.mpr a1, by rw [hx.1.2.2.2]; exact a2, hx.at.mpr a3, by rw [hx.1.2.2.1]; exact a4⟩, fun i hi => by rw [(hx.2 db h2).1]; exact a5 i hi, a6, by rw [(hx.2 d h1).1]; exact a7, by rw [(hx.2 d h1).1]; exact a8, a9⟩
theorem sX0_has (hp : p < 256) (hi : i < 512) (hQ : Q (some (.int 1)) M) : xSp l g mX0_has 0 0 [.int (nI p), .int (nI i)] M Q := by
  refine eX0_has _ _ (bX0_has_0 _ _ ⟨fun c => (nneg c rfl).elim, fun _ => ⟨fun c => ?_, fun _ => ⟨fun c => (nneg c rfl).elim, fun _ => ⟨fun c => ?_, fun _ => hQ⟩⟩⟩⟩)
  · exfalso
    have := nle c (a := 256) rfl rfl
    omega
  · exfalso
    have := nle c (a := 512) rfl rfl
    omega
theorem sX0_byteAt (h : dkR M d db D pw tr) (hp : p < 256) (hi : i < 512) (hQ : Q (some (.int (nI (D (512 * p + i))))) M) : xSp l g mX0_byteAt 0 0 [va_rf (some d), .int (nI p), .int (nI i)] M Q := by
  obtain ⟨⟨a1, a2, a3, a4⟩, a5, a6, a7⟩ := h
  refine eX0_byteAt _ _ _ (bX0_byteAt_0 _ _ _ (sX0_has hp hi ⟨_, rfl, fun c => absurd c (by decide), fun _ => ⟨a1, db, a2, 512 * p + i, ⟨a3, by rw [p512, nI_add], by rw [a4]; omega, by rw [a4]; omega⟩, ?_⟩⟩))
  rw [a5 _ (by omega), sB_and (a6 _)]; exact hQ
theorem dkR.up (h : dkR M d db D pw tr) {k b : Nat} (hb : b < 256) : dkR (xsI M db k (sB b)) d db (va_up D k b) pw tr := by
  obtain ⟨⟨a1, a2, a3, a4⟩, a5, a6, a7, a8, a9⟩ := h
  have hne : d ≠ db := ne_of_kind a1.2 a3.2 (by decide)
  refine ⟨⟨a1, a2, a3, a4⟩, fun j hj => ?_, fun j => ?_, by rw [xI_sI, if_neg (fun z => hne z.1)]; exact a7, by rw [xI_sI, if_neg (fun z => hne z.1)]; exact a8, a9⟩
  · by_cases hji : j = k
    · rw [hji, va_up_self, xI_sI, if_pos ⟨rfl, rfl⟩]
    · rw [va_up_ne _ _ hji, xI_sI, if_neg (fun z => hji z.2)]; exact a5 j hj
  · by_cases hji : j = k
    · rw [hji, va_up_self]; exact hb
    · rw [va_up_ne _ _ hji]; exact a6 j
theorem sX0_setByte {b : Nat} (h : dkR M d db D pw tr) (hp : p < 256) (hi : i < 512) (hQ : Q none (xsI M db (512 * p + i) (sB b))) : xSp l g mX0_setByte 0 0 [va_rf (some d), .int (nI p), .int (nI i), .int (nI b)] M Q := by
  obtain ⟨⟨a1, a2, a3, a4⟩, a5, a6, a7⟩ := h
  refine eX0_setByte _ _ _ _ (bX0_setByte_0 _ _ _ _ (sX0_has hp hi ⟨_, rfl, fun c => absurd c (by decide), fun _ => ⟨a1, db, a2, 512 * p + i, ⟨a3, by rw [p512, nI_add], by rw [a4]; omega, by rw [a4]; omega⟩, ?_⟩⟩))
  rw [sB_set]; exact hQ
theorem sX0_read (h : dkR M d db D pw tr) (hr : rwR M w rb f) (hp : p < 256) (hQ : ∀ M1, rwR M1 w rb (fun i => D (512 * p + i)) → xag (fun a => a = rb) M M1 → Q none M1) : xSp l g mX0_read 0 0 [va_rf (some d), .int (nI p), va_rf (some w)] M Q := by
  obtain ⟨⟨a1, a2, a3, a4⟩, a5, a6, a7⟩ := h
  obtain ⟨⟨b1, b2, b3, b4⟩, b5, b6⟩ := hr
  have hx : xag (fun a => a = rb) M (xcp M db rb (512 * p) 0 512) := ⟨⟨rfl, rfl, rfl, fun _ => rfl⟩, fun a ha => ⟨fun k => by rw [xI_cp, if_neg ha], fun _ => rfl, fun _ => rfl⟩⟩
  refine eX0_read _ _ _ (bX0_read_0 _ _ _ (sX0_has (i := 0) hp (by omega) ⟨_, rfl, fun c => absurd c (by decide), fun _ => ⟨a1, w, rfl, b1, rb, b2, db, a2, 512 * p, 0, 512, a3, b3, p512 p, rfl, rfl, by omega, by omega, by omega, by rw [a4]; omega, by rw [b4]; omega, fun j hj => by rw [a5 _ (by omega)]; exact sB_fits (a6 _), ?_⟩⟩))
  refine hQ _ ⟨⟨b1, b2, b3, b4⟩, fun j hj => ?_, fun j => a6 _⟩ hx
  rw [xI_cp, if_pos rfl, if_pos (by omega), a5 _ (by omega), Nat.sub_zero]
theorem cp_dk {n : Nat} (h : dkR M d db D pw tr) (hr : rwR M w rb f) (hp : p < 256) (hn : n ≤ 512) : dkR (xcp M rb db 0 (512 * p) n) d db (dkC D p f n) pw tr := by
  obtain ⟨⟨a1, a2, a3, a4⟩, a5, a6, a7, a8, a9⟩ := h
  obtain ⟨⟨b1, b2, b3, b4⟩, b5, b6⟩ := hr
  have hne : d ≠ db := ne_of_kind a1.2 a3.2 (by decide)
  refine ⟨⟨a1, a2, a3, a4⟩, fun k hk => ?_, fun k => ?_, by rw [xI_cp, if_neg hne]; exact a7, by rw [xI_cp, if_neg hne]; exact a8, a9⟩
  · rw [xI_cp, if_pos rfl]
    unfold dkC
    by_cases hc : 512 * p ≤ k ∧ k < 512 * p + n
    · rw [if_pos hc, if_pos hc, Nat.zero_add]; exact b5 _ (by omega)
    · rw [if_neg hc, if_neg hc]; exact a5 k hk
  · unfold dkC
    split
    · exact b6 _
    · exact a6 _
theorem write52 {M0 : xM} {x : Int32} {r : Option Nat} (hp : p < 256) (hx0 : xag (fun a => a = d ∨ a = db) M0 M) (h : dkR M d db D pw tr) (hg : x = if pw = some 0 then 1 else 0) (hQ : ∀ M1, dkR M1 d db (if pw = some 0 then va_up D (512 * p) 255 else D) (pwN pw) tr → xag (fun a => a = d ∨ a = db) M0 M1 → Q (some (.int (if pw = some 0 then 0 else 1))) M1) : xWp l g mX0_write 0 0 52 [(1, va_rf (some d)), (1, .int (nI p)), (1, va_rf r), (1, .int x)] [] (0, 0) M Q := by
  obtain ⟨⟨a1, a2, a3, a4⟩, a5, a6, a7, a8, a9, a10⟩ := id h
  have hne : d ≠ db := ne_of_kind a1.2 a3.2 (by decide)
  have hset : ∀ (M1 : xM) (D1 : Nat → Nat) (k1 : Option Nat), dkR M1 d db D1 pw tr → (∀ k, k1 = some k → k ≤ 1000) → dkR (xsI M1 d 1 (pwI k1)) d db D1 k1 tr := fun M1 D1 k1 h1 hk => by
    obtain ⟨⟨c1, c2, c3, c4⟩, c5, c6, c7, c8, c9, c10⟩ := h1
    exact ⟨⟨c1, c2, c3, c4⟩, fun k hk2 => by rw [xI_sI, if_neg (fun z => hne z.1.symm)]; exact c5 k hk2, c6, by rw [xI_sI, if_pos ⟨rfl, rfl⟩], by rw [xI_sI, if_neg (fun z => absurd z.2 (by decide))]; exact c8, c9, hk⟩
  match pw, h, hg, hQ, a7, a10, hset with
  | none, h, hg, hQ, a7, a10, hset =>
    rw [if_neg (by simp)] at hg
    rw [if_neg (by simp), if_neg (by simp)] at hQ
    subst hg
    refine bX0_write_52 _ _ _ _ ⟨fun _ => ⟨a1, fun _ => ⟨fun c => absurd rfl c, fun _ => hQ M h hx0⟩, fun c => absurd (by rw [a7]; exact Int32.le_refl _) c⟩, fun c => absurd rfl c⟩
  | some 0, h, hg, hQ, a7, a10, hset =>
    rw [if_pos rfl] at hg
    rw [if_pos rfl, if_pos rfl] at hQ
    subst hg
    have h1 := h.up (k := 512 * p + 0) (b := 255) (by omega)
    refine bX0_write_52 _ _ _ _ ⟨fun c => absurd c (by decide), fun _ => ⟨a1, sX0_setByte (i := 0) (b := 255) h hp (by omega) ⟨rfl, a1, fun c => ?_, fun _ => ⟨fun _ => ?_, fun c => absurd c (by decide)⟩⟩⟩⟩
    · exfalso
      rw [h1.2.2.2.1] at c
      exact nI_nm1 (k := 0) (by omega) c
    · have e1 : xI (xsI M db (512 * p + 0) (sB 255)) d 1 - 1 = pwI none := by rw [h1.2.2.2.1]; decide
      rw [e1]
      exact hQ _ (hset _ _ none h1 (fun k hk => by cases hk)) (hx0.trans ((xag_I _ (Or.inr rfl)).trans (xag_I _ (Or.inl rfl))))
  | some (k + 1), h, hg, hQ, a7, a10, hset =>
    have hk := a10 (k + 1) rfl
    rw [if_neg (by simp)] at hg
    rw [if_neg (by simp), if_neg (by simp)] at hQ
    subst hg
    refine bX0_write_52 _ _ _ _ ⟨fun _ => ⟨a1, fun c => ?_, fun _ => ⟨fun c => absurd rfl c, fun _ => ?_⟩⟩, fun c => absurd rfl c⟩
    · exfalso
      rw [a7] at c
      exact nI_nm1 (k := k + 1) (by omega) c
    · have e1 : xI M d 1 - 1 = pwI (some k) := by rw [a7]; exact nI_pred k
      rw [e1]
      exact hQ _ (hset _ _ (some k) h (fun k2 hk2 => by cases hk2; omega)) (hx0.trans (xag_I _ (Or.inl rfl)))
theorem sX0_write (h : dkR M d db D pw tr) (hr : rwR M w rb f) (hp : p < 256) (hQ : ∀ M1, dkR M1 d db (dkW D p f pw tr) (pwN pw) tr → xag (fun a => a = d ∨ a = db) M M1 → Q (some (.int (if pw = some 0 then 0 else 1))) M1) : xSp l g mX0_write 0 0 [va_rf (some d), .int (nI p), va_rf (some w)] M Q := by
  obtain ⟨⟨a1, a2, a3, a4⟩, a5, a6, a7, a8, a9, a10⟩ := id h
  obtain ⟨⟨b1, b2, b3, b4⟩, b5, b6⟩ := id hr
  have hxc : ∀ n, xag (fun a => a = d ∨ a = db) M (xcp M rb db 0 (512 * p) n) := fun n => ⟨⟨rfl, rfl, rfl, fun _ => rfl⟩, fun a ha => ⟨fun k => by rw [xI_cp, if_neg (fun z => ha (Or.inr z))], fun _ => rfl, fun _ => rfl⟩⟩
  have hfits : ∀ j, j < 512 → fits .byte (.int (xI M rb (0 + j))) = true := fun j hj => by rw [Nat.zero_add, b5 j hj]; exact sB_fits (b6 j)
  have hz : xI M d 1 = 0 ↔ pw = some 0 := by
    rw [a7]
    constructor
    · intro c
      cases pw with
      | none => exact absurd c (by decide)
      | some k =>
        have := a10 k rfl
        have e := neq c (a := k) (b := 0) rfl rfl
        rw [e]
    · intro c; rw [c]; rfl
  refine eX0_write _ _ _ (bX0_write_0 _ _ _ ⟨a1, fun c => ?_, fun c => ?_⟩)
  · have hpw : ¬ pw = some 0 := fun z => c (hz.mpr z)
    refine bX0_write_12 _ _ _ _ _ (sX0_has (i := 0) hp (by omega) ⟨_, rfl, fun c => absurd c (by decide), fun _ => ⟨w, rfl, b1, a1, fun _ => ?_, fun c => absurd rfl c⟩⟩)
    refine ⟨db, a2, rb, b2, 0, 512 * p, 512, b3, a3, rfl, p512 p, rfl, by omega, by omega, by omega, by rw [b4]; omega, by rw [a4]; omega, hfits, ?_⟩
    refine write52 hp (hxc 512) (cp_dk h hr hp (by omega)) (by rw [if_neg hpw]) (fun M1 r1 r2 => hQ M1 ?_ r2)
    unfold dkW
    rw [if_neg hpw] at r1 ⊢
    exact r1
  · have hpw : pw = some 0 := hz.mp c
    refine bX0_write_12 _ _ _ _ _ (sX0_has (i := 0) hp (by omega) ⟨_, rfl, fun c => absurd c (by decide), fun _ => ⟨w, rfl, b1, a1, fun c => absurd c (by decide), fun _ => ?_⟩⟩)
    refine ⟨db, a2, rb, b2, 0, 512 * p, tr, b3, a3, rfl, p512 p, a8, by omega, by omega, by omega, by rw [b4]; omega, by rw [a4]; omega, fun j hj => hfits j (by omega), ?_⟩
    refine write52 hp (hxc tr) (cp_dk h hr hp (by omega)) (by rw [if_pos hpw]) (fun M1 r1 r2 => hQ M1 ?_ r2)
    unfold dkW
    rw [if_pos hpw] at r1 ⊢
    exact r1
/-- a head's page -/
def hdF (s : Int64) (r k : Nat) : Nat → Nat := sealF (va_up (va_up (va_up (setL (va_up (fun _ => 0) 0 1) 1 s) 9 r) 10 (k / 256)) 11 (k % 256))
theorem sX2_fill {s : Int64} {r k : Nat} (hr : rwR M w rb f) (h1 : r < 256) (h2 : k < 65536) (hQ : ∀ M1, rwR M1 w rb (hdF s r k) → xag (fun a => a = rb) M M1 → Q none M1) : xSp l g mX2_fill 0 0 [va_rf (some w), .long s, .int (nI r), .int (nI k)] M Q := by
  have e1 : nI k >>> (8 &&& 31 : Int32) = nI (k / 256) := pk_shrN (by omega) _ 8 (by decide)
  have e2 : nI k &&& 255 = nI (k % 256) := pk_andN (by omega) 8 (by decide)
  refine eX2_fill _ _ _ _ (bX2_fill_0 _ _ _ _ ⟨w, rfl, hr.1.1, sX5_wipe hr (fun M1 r1 x1 => ⟨rfl, r1.1.1, ?_⟩)⟩)
  have r2 := r1.up (i := 0) (b := 1) (by omega)
  refine sX5_set (i := 0) (b := 1) r1 (by omega) ⟨rfl, r2.1.1, ?_⟩
  refine sX5_setLong (i := 1) r2 (by omega) (fun M3 r3 x3 => ⟨rfl, r3.1.1, ?_⟩)
  have r4 := r3.up (i := 9) (b := r) h1
  refine sX5_set (i := 9) (b := r) r3 (by omega) ⟨rfl, r4.1.1, ?_⟩
  rw [e1]
  have r5 := r4.up (i := 10) (b := k / 256) (by omega)
  refine sX5_set (i := 10) (b := k / 256) r4 (by omega) ⟨rfl, r5.1.1, ?_⟩
  rw [e2]
  have r6 := r5.up (i := 11) (b := k % 256) (by omega)
  refine sX5_set (i := 11) (b := k % 256) r5 (by omega) ⟨rfl, r6.1.1, ?_⟩
  exact sX5_seal r6 (fun M7 r7 x7 => ⟨rfl, hQ M7 r7 (x1.trans ((xag_I (P := fun a => a = rb) _ rfl).trans (x3.trans ((xag_I (P := fun a => a = rb) _ rfl).trans ((xag_I (P := fun a => a = rb) _ rfl).trans ((xag_I (P := fun a => a = rb) _ rfl).trans x7))))))⟩)
end DK
