/-! The reference's write. -/
/-- what a write may change: the sheet, the disk, when power goes, whether it is down -/
def rWr (y : Nat) (ad : Nat → Nat) (a k : Nat) : Prop := a = ad 25 ∨ a = ad 17 ∨ (a = y ∧ (k = 18 ∨ k = 3))
section RWT
variable {l : Launch} {g : xG} {M M0 M1 : xM} {Q : Option Value → xM → Prop} {y : Nat} {ad : Nat → Nat} {f : Nat → Nat} {D : Nat → Nat} {pw : Option Nat} {tr : Nat}
theorem dkC_0 (D : Nat → Nat) (p : Nat) (f : Nat → Nat) : dkC D p f 0 = D := by
  funext k
  unfold dkC
  rw [if_neg (by omega)]
theorem dkC_s {D : Nat → Nat} {p k : Nat} {f : Nat → Nat} (x : Nat) : dkC D p f (k + 1) x = if x = 512 * p + k then f k else dkC D p f k x := by
  unfold dkC
  by_cases e : x = 512 * p + k
  · rw [if_pos (by omega), if_pos e, show x - 512 * p = k by omega]
  · rw [if_neg e]
    by_cases e2 : 512 * p ≤ x ∧ x < 512 * p + k
    · rw [if_pos e2, if_pos (by omega)]
    · rw [if_neg e2, if_neg (by omega)]
theorem write_loop {p n : Nat} {x2 : Int32} (hp : p < 256) (hn : n ≤ 512) (hS : rS M y ad) (hb : rB M ad f) (hD : ∀ k, k < 131072 → xI M (ad 17) k = nI (D k))
    (hcont : ∀ M1, rX (fun a _ => a = ad 17) M M1 → (∀ k, k < 131072 → xI M1 (ad 17) k = nI (dkC D p f n k)) → xWp l g mX10_write 0 0 48 [(1, va_rf (some y)), (1, .int (nI p)), (1, .int x2), (1, .int (nI n)), (1, .int (nI n))] [] (0, 0) M1 Q) :
    ∀ (d k : Nat) (M1 : xM), n = k + d → rX (fun a _ => a = ad 17) M M1 → (∀ x, x < 131072 → xI M1 (ad 17) x = nI (dkC D p f k x)) → xWp l g mX10_write 0 0 48 [(1, va_rf (some y)), (1, .int (nI p)), (1, .int x2), (1, .int (nI n)), (1, .int (nI k))] [] (0, 0) M1 Q
  | 0, k, M1, hd, hx, h => by
    have hk : k = n := by omega
    subst hk
    exact hcont M1 hx h
  | d + 1, k, M1, hd, hx, h => by
    have hS1 := hx.sS hS
    have e5 : 512 * nI p + nI k = nI (512 * p + k) := by rw [show (512 : Int32) = nI 512 from rfl, nI_mul, nI_add]
    refine bX10_write_48 _ _ _ _ _ ⟨fun c => ?_, fun _ => ⟨hS1.1, ad 25, (hS1.2.1 25 (by decide)).1, k, hS1.ai (j := 25) (by decide) (by show k < 512; omega), ad 17, (hS1.2.1 17 (by decide)).1, 512 * p + k, by rw [e5]; exact hS1.ai (j := 17) (by decide) (by show _ < 131072; omega), ?_⟩⟩
    · exfalso
      have := nle c rfl rfl
      omega
    · rw [nI_1, (hx.2 _ _ (fun z => hS.na (i := 25) (j := 17) (by decide) (by decide) (by decide) z)).1, hb.1 k (by omega)]
      refine write_loop hp hn hS hb hD hcont d (k + 1) _ (by omega) (hx.trans (rX_I rfl)) (fun x hx2 => ?_)
      rw [dkC_s]
      by_cases e : x = 512 * p + k
      · rw [xI_sI, if_pos ⟨rfl, e⟩, if_pos e]
      · rw [xI_sI, if_neg (fun z => e z.2), if_neg e]; exact h x hx2
theorem pw_0 (hpw : ∀ k, pw = some k → k ≤ 1000) : pwI pw = 0 ↔ pw = some 0 := by
  cases pw with
  | none => exact ⟨fun z => absurd z (by decide), fun z => by cases z⟩
  | some k =>
    have := hpw k rfl
    constructor
    · intro z
      have h : nI k = 0 := z
      rw [neq h rfl (b := 0) rfl]
    · intro z; cases z; rfl
theorem sX10_write {p : Nat} (hp : p < 256) (hS : rS M y ad) (hb : rB M ad f) (hD : ∀ k, k < 131072 → xI M (ad 17) k = nI (D k)) (h18 : xI M y 18 = pwI pw) (h19 : pw ≠ none → xI M y 19 = nI tr) (ht : tr < 512) (hpw : ∀ k, pw = some k → k ≤ 1000)
    (hQ : ∀ M1, rX (rWr y ad) M M1 → (∀ k, k < 131072 → xI M1 (ad 17) k = nI (dkW D p (sealF f) pw tr k)) → xI M1 y 3 = (if pw = some 0 then 1 else 0) → (pw ≠ some 0 → xI M1 y 18 = pwI (pwN pw)) → Q (some (.int (if pw = some 0 then 0 else 1))) M1) : xSp l g mX10_write 0 0 [va_rf (some y), .int (nI p)] M Q := by
  refine eX10_write _ _ (bX10_write_0 _ _ ⟨hS.1, ?_⟩)
  rw [(hS.2.1 25 (by decide)).1]
  refine sX10_sum (j := 25) (from0 := 0) (f := f) hS (by decide) (by decide) (by decide) (fun k hk => by rw [Nat.zero_add]; exact hb.1 k (by omega)) ⟨_, rfl, hS.1, ?_⟩
  refine sX10_number (i := 504) (n := 8) hS hb (by omega) (by omega) (fun M1 hx1 hb1 => ⟨rfl, ?_⟩)
  rw [setN_8] at hb1
  have hb1 : rB M1 ad (sealF f) := hb1
  have hS1 := hx1.sS hS
  have y1 : ∀ k, xI M1 y k = xI M y k := fun k => (hx1.2 _ _ (fun z => hS.ny (j := 25) (by decide) z.symm)).1
  have hD1 : ∀ k, k < 131072 → xI M1 (ad 17) k = nI (D k) := fun k hk => by rw [(hx1.2 _ _ (fun z => hS.na (i := 17) (j := 25) (by decide) (by decide) (by decide) z)).1]; exact hD k hk
  have hx1w : rX (rWr y ad) M M1 := hx1.mono (fun a k z => Or.inl z)
  have h18b : xI M1 y 18 = pwI pw := (y1 18).trans h18
  refine ⟨hS1.1, fun c => ⟨fun _ => ?_, fun z => absurd rfl z⟩, fun c => ⟨fun z => absurd z (by decide), fun _ => ?_⟩⟩
  · have hn0 : pw ≠ some 0 := fun z => c (by rw [h18b]; exact (pw_0 hpw).mpr z)
    rw [if_neg hn0, if_neg hn0] at hQ
    refine write_loop (n := 512) hp (Nat.le_refl _) hS1 hb1 hD1 (fun M2 hx2 hD2 => ?_) 512 0 M1 (by omega) rX.rf (fun x hx => by rw [dkC_0]; exact hD1 x hx)
    have hS2 := hx2.sS hS1
    have y2 : ∀ k, xI M2 y k = xI M1 y k := fun k => (hx2.2 _ _ (fun z => hS.ny (j := 17) (by decide) z.symm)).1
    have hx2w : rX (rWr y ad) M M2 := hx1w.trans (hx2.mono (fun a k z => Or.inr (Or.inl z)))
    have hdk : ∀ k, dkW D p (sealF f) pw tr k = dkC D p (sealF f) 512 k := fun k => by unfold dkW; rw [if_neg hn0]
    refine bX10_write_48 _ _ _ _ _ ⟨fun _ => ⟨fun _ => ?_, fun z => absurd rfl z⟩, fun z => absurd (Int32.le_refl _) z⟩
    refine bX10_write_97 _ _ _ _ _ ⟨hS2.1, fun c2 => ⟨Or.inl rfl, fun z => absurd rfl z, fun _ => ?_⟩, fun c2 => ⟨Or.inl rfl, fun z => absurd rfl z, fun _ => ?_⟩⟩
    · refine hQ _ (hx2w.trans (rX_I (Or.inr (Or.inr ⟨rfl, Or.inr rfl⟩)))) (fun k hk => ?_) (by rw [xI_sI, if_pos ⟨rfl, rfl⟩]) (fun _ => ?_)
      · rw [xI_sI, if_neg (fun z => hS.ny (j := 17) (by decide) z.1), hdk]; exact hD2 k hk
      · rw [xI_sI, if_neg (fun z => absurd z.2 (by decide)), y2 18, h18b]
        rw [y2 18, h18b] at c2
        cases hpw2 : pw with
        | none => rfl
        | some k =>
          exfalso
          rw [hpw2] at c2
          have := hpw k hpw2
          have h0 := nle (show nI k ≤ 0 from c2) rfl (b := 0) rfl
          exact hn0 (by rw [hpw2, show k = 0 by omega])
    · refine hQ _ (hx2w.trans ((rX_I (Or.inr (Or.inr ⟨rfl, Or.inl rfl⟩))).trans (rX_I (Or.inr (Or.inr ⟨rfl, Or.inr rfl⟩))))) (fun k hk => ?_) (by rw [xI_sI, if_pos ⟨rfl, rfl⟩]) (fun _ => ?_)
      · rw [xI_sI, if_neg (fun z => hS.ny (j := 17) (by decide) z.1), xI_sI, if_neg (fun z => hS.ny (j := 17) (by decide) z.1), hdk]; exact hD2 k hk
      · rw [xI_sI, if_neg (fun z => absurd z.2 (by decide)), xI_sI, if_pos ⟨rfl, rfl⟩, y2 18, h18b]
        rw [y2 18, h18b] at c2
        cases hpw2 : pw with
        | none => rw [hpw2] at c2; exact absurd (by decide) c2
        | some k =>
          cases k with
          | zero => exact absurd hpw2 hn0
          | succ k => show nI (k + 1) - 1 = nI k; exact nI_pred k
  · have h0 : pw = some 0 := (pw_0 hpw).mp (by rw [← h18b]; exact c)
    rw [if_pos h0, if_pos h0] at hQ
    rw [y1 19, h19 (by rw [h0]; exact fun z => by cases z)]
    refine write_loop (n := tr) hp (by omega) hS1 hb1 hD1 (fun M2 hx2 hD2 => ?_) tr 0 M1 (by omega) rX.rf (fun x hx => by rw [dkC_0]; exact hD1 x hx)
    have hS2 := hx2.sS hS1
    have y2 : ∀ k, xI M2 y k = xI M1 y k := fun k => (hx2.2 _ _ (fun z => hS.ny (j := 17) (by decide) z.symm)).1
    have hx2w : rX (rWr y ad) M M2 := hx1w.trans (hx2.mono (fun a k z => Or.inr (Or.inl z)))
    have e5 : 512 * nI p = nI (512 * p) := by rw [show (512 : Int32) = nI 512 from rfl, nI_mul]
    refine bX10_write_48 _ _ _ _ _ ⟨fun _ => ⟨fun z => absurd z (by decide), fun _ => ⟨hS2.1, ad 17, (hS2.2.1 17 (by decide)).1, 512 * p, by rw [e5]; exact hS2.ai (j := 17) (by decide) (by show _ < 131072; omega), ?_⟩⟩, fun z => absurd (Int32.le_refl _) z⟩
    have y3 : xI (xsI M2 (ad 17) (512 * p) 255) y 18 = 0 := by rw [xI_sI, if_neg (fun z => hS.ny (j := 17) (by decide) z.1.symm), y2 18]; exact c
    refine bX10_write_97 _ _ _ _ _ ⟨hS2.1, fun c2 => ⟨Or.inr rfl, fun _ => ?_, fun z => absurd z (by decide)⟩, fun c2 => absurd (by rw [y3]; exact Int32.le_refl _) c2⟩
    refine hQ _ (hx2w.trans ((rX_I (Or.inr (Or.inl rfl))).trans (rX_I (Or.inr (Or.inr ⟨rfl, Or.inr rfl⟩))))) (fun k hk => ?_) (by rw [xI_sI, if_pos ⟨rfl, rfl⟩]) (fun z => absurd h0 z)
    rw [xI_sI, if_neg (fun z => hS.ny (j := 17) (by decide) z.1)]
    unfold dkW
    rw [if_pos h0]
    by_cases e : k = 512 * p
    · rw [xI_sI, if_pos ⟨rfl, e⟩, e, va_up_self]; rfl
    · rw [xI_sI, if_neg (fun z => e z.2), va_up_ne _ _ e]; exact hD2 k hk
end RWT
