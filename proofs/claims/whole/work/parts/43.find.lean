/-! The node of a key; keys under what is on the tape; keys ahead of it. -/
section FD
variable {l : Launch} {g : xG} {M : xM} {Q : Option Value → xM → Prop} {φ ψ : Nat → Nat} {T : TT}
/-- where the key's way ends -/
def tSe (T : TT) (key : List Nat) : Nat × Nat × Nat := tSk T key 12 (tO T) 0
theorem tSk_ok (hW : tWF T) {key : List Nat} : ∀ (f n u : Nat), tU T n = true → 12 ≤ f + tL T n → u ≤ key.length →
    tU T (tSk T key f n u).1 = true ∧ (tSk T key f n u).2.1 ≤ (tX T (tSk T key f n u).1).length ∧ (tSk T key f n u).2.2 ≤ key.length
  | 0, n, u, hn, hf, hu => by
    have hl := lcp_le (tX T n) (key.drop u)
    rw [List.length_drop] at hl
    exact ⟨hn, hl.1, by simp only [tSk]; omega⟩
  | f + 1, n, u, hn, hf, hu => by
    have hl := lcp_le (tX T n) (key.drop u)
    rw [List.length_drop] at hl
    simp only [tSk]
    cases hs : tSt T key n (lcp (tX T n) (key.drop u)) (u + lcp (tX T n) (key.drop u)) with
    | none => exact ⟨hn, hl.1, by simp only; omega⟩
    | some k =>
      obtain ⟨k1, k2, k3, k4, k5⟩ := tSt_in hW hn hs
      exact tSk_ok hW f k _ k2 (by omega) (by omega)
theorem tSe_ok (hW : tWF T) (key : List Nat) : tU T (tSe T key).1 = true ∧ (tSe T key).2.1 ≤ (tX T (tSe T key).1).length ∧ (tSe T key).2.2 ≤ key.length := tSk_ok hW 12 (tO T) 0 hW.1.1 (by omega) (Nat.zero_le _)
/-- the world behind a search -/
def skM (M : xM) (t : Nat) (φ : Nat → Nat) (T : TT) (key : List Nat) : xM := sk3 M t (some (φ (tSe T key).1)) (nI (tSe T key).2.1) (nI (tSe T key).2.2)
theorem skM_R5 (t : Nat) (key : List Nat) : xR (skM M t φ T key) t 5 = some (φ (tSe T key).1) := by simp [skM, sk3, xR_sI, xR_sR]
theorem skM_I6 (t : Nat) (key : List Nat) : xI (skM M t φ T key) t 6 = nI (tSe T key).2.1 := by simp [skM, sk3, xI_sI]
theorem skM_I7 (t : Nat) (key : List Nat) : xI (skM M t φ T key) t 7 = nI (tSe T key).2.2 := by simp [skM, sk3, xI_sI]
/-- the node that has the key's value -/
def tFd (T : TT) (key : List Nat) : Option Nat := if (tSe T key).2.2 = key.length ∧ (tSe T key).2.1 = (tX T (tSe T key).1).length ∧ (tV T (tSe T key).1).isSome = true then some (tSe T key).1 else none
theorem sX8_nodeOf (hW : tWF T) (hc : cNs M φ ψ T) {t tp tb : Nat} {key : List Nat} (ht : tpR M tp tb key) (hta : xat M t 5) (hr : xR M t 2 = some (φ (tO T)))
    (hQ : Q (some (va_rf ((tFd T key).map φ))) (skM M t φ T key)) : xSp l g mX8_nodeOf 0 0 [va_rf (some t), va_rf (some tp)] M Q := by
  obtain ⟨hu, hm, hk⟩ := tSe_ok hW key
  have h64 := ht.2.2.1
  have hx := (tX_le hW hu).1
  have hc2 : cNs (skM M t φ T key) φ ψ T := sk3_cNs hc hta.2
  have ht2 : tpR (skM M t φ T key) tp tb key := sk3_tpR ht hta.2
  obtain ⟨⟨g1, -⟩, ⟨g5, -⟩, ⟨-, g3, -⟩, -⟩ := hc2 _ hu
  refine eX8_nodeOf _ _ (bX8_nodeOf_0 _ _ ⟨hta, sX8_seek hW hc ht hta hr ⟨rfl, hta, tp, rfl, ht.1.1, fun c => ?_, fun c => ⟨φ (tSe T key).1, skM_R5 t key, g1, fun c2 => ?_, fun c2 => ⟨fun c3 => ?_, fun c3 => ?_⟩⟩⟩⟩)
  · have c1 := nne c (skM_I7 t key) ht2.2.1
    rw [tFd, if_neg (fun q => c1 q.1)] at hQ
    exact ⟨fun _ => hQ, fun q => absurd rfl q⟩
  · have c1 := nne c2 (skM_I6 t key) g5
    rw [tFd, if_neg (fun q => c1 q.2.1)] at hQ
    exact ⟨fun _ => hQ, fun q => absurd rfl q⟩
  · have c1 : (tV T (tSe T key).1).isSome = false := z01.mp (g3.symm.trans c3)
    rw [tFd, if_neg (fun q => by rw [c1] at q; exact absurd q.2.2 (by decide))] at hQ
    exact ⟨fun _ => hQ, fun q => absurd rfl q⟩
  · have c1 : (tV T (tSe T key).1).isSome = true := bnf (fun q => c3 (g3.trans (z01.mpr q)))
    have c4 := neq c (skM_I7 t key) ht2.2.1 (by omega) (by omega)
    have c5 := neq c2 (skM_I6 t key) g5
    rw [tFd, if_pos ⟨c4, c5, c1⟩] at hQ
    refine ⟨fun q => absurd q (by decide), fun _ => ?_⟩
    have := skM_R5 (M := M) (φ := φ) (T := T) t key
    rw [show xR (sk3 M t (some (φ (tSk T key 12 (tO T) 0).fst)) (nI (tSk T key 12 (tO T) 0).snd.fst) (nI (tSk T key 12 (tO T) 0).snd.snd)) t 5 = some (φ (tSe T key).1) from this]
    exact hQ
end FD
