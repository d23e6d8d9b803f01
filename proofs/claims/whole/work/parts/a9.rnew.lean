/-! The reference's newNode, setPrefix, give. -/
/-- the cells of a new node -/
def rNw (M : xM) (ad : Nat → Nat) (c : Nat) (x1 x2 : Int32) : Prop := xI M (ad 4) c = 1 ∧ xI M (ad 5) c = x1 ∧ xI M (ad 6) c = x2 ∧ xI M (ad 8) c = 0 ∧ xI M (ad 9) c = 0 ∧ xJ M (ad 10) c = 0 ∧ xI M (ad 11) c = 1 ∧ xI M (ad 12) c = 0 ∧ xI M (ad 13) c = 1
/-- the cells of a node's prefix -/
def rXp (ad : Nat → Nat) (n a k : Nat) : Prop := (a = ad 8 ∧ k = n) ∨ (a = ad 7 ∧ 12 * n ≤ k ∧ k < 12 * n + 12)
theorem rXp_n {ad : Nat → Nat} {n : Nat} : ∀ a k, rXp ad n a k → rN ad n a k := fun a k h => by
  rcases h with h | h
  · exact Or.inl ⟨8, by decide, h.1, h.2⟩
  · exact Or.inr h
theorem tA_same {S T : TT} (h : tP S = tP T) : ∀ (f n : Nat), tA S f n = tA T f n
  | 0, _ => rfl
  | f + 1, n => by
    simp only [tA, h]
    cases tP T n with
    | none => rfl
    | some p => dsimp only; rw [tA_same h f p]
section RNN
variable {l : Launch} {g : xG} {M M0 M1 M2 : xM} {Q : Option Value → xM → Prop} {y : Nat} {ad : Nat → Nat} {T T1 Tc : TT} {o n b c : Nat} {K W : List Nat} {P P1 : Nat → Nat → Prop}
theorem rsk (hS : rS M0 y ad) {i j k k2 : Nat} {v : Int32} (hi : i ∈ RL9) (hj : j ∈ RL9) (h : i ≠ j) : xI (xsI M (ad j) k v) (ad i) k2 = xI M (ad i) k2 := by
  rw [xI_sI, if_neg (fun z => hS.na hi hj h z.1)]
theorem new_cells {x1 x2 : Int32} (hS : rS M0 y ad) : rNw (xsI (xsI (xsI (xsJ (xsI (xsI (xsI (xsI (xsI M (ad 4) c 1) (ad 5) c x1) (ad 6) c x2) (ad 8) c 0) (ad 9) c 0) (ad 10) c 0) (ad 11) c 1) (ad 12) c 0) (ad 13) c 1) ad c x1 x2 ∧ rX (rN ad c) M (xsI (xsI (xsI (xsJ (xsI (xsI (xsI (xsI (xsI M (ad 4) c 1) (ad 5) c x1) (ad 6) c x2) (ad 8) c 0) (ad 9) c 0) (ad 10) c 0) (ad 11) c 1) (ad 12) c 0) (ad 13) c 1) := by
  refine ⟨⟨?_, ?_, ?_, ?_, ?_, ?_, ?_, ?_, ?_⟩, ?_⟩
  · rw [rsk hS (i := 4) (j := 13) (by decide) (by decide) (by decide), rsk hS (i := 4) (j := 12) (by decide) (by decide) (by decide), rsk hS (i := 4) (j := 11) (by decide) (by decide) (by decide), xI_sJ, rsk hS (i := 4) (j := 9) (by decide) (by decide) (by decide), rsk hS (i := 4) (j := 8) (by decide) (by decide) (by decide), rsk hS (i := 4) (j := 6) (by decide) (by decide) (by decide), rsk hS (i := 4) (j := 5) (by decide) (by decide) (by decide), xI_sI, if_pos ⟨rfl, rfl⟩]
  · rw [rsk hS (i := 5) (j := 13) (by decide) (by decide) (by decide), rsk hS (i := 5) (j := 12) (by decide) (by decide) (by decide), rsk hS (i := 5) (j := 11) (by decide) (by decide) (by decide), xI_sJ, rsk hS (i := 5) (j := 9) (by decide) (by decide) (by decide), rsk hS (i := 5) (j := 8) (by decide) (by decide) (by decide), rsk hS (i := 5) (j := 6) (by decide) (by decide) (by decide), xI_sI, if_pos ⟨rfl, rfl⟩]
  · rw [rsk hS (i := 6) (j := 13) (by decide) (by decide) (by decide), rsk hS (i := 6) (j := 12) (by decide) (by decide) (by decide), rsk hS (i := 6) (j := 11) (by decide) (by decide) (by decide), xI_sJ, rsk hS (i := 6) (j := 9) (by decide) (by decide) (by decide), rsk hS (i := 6) (j := 8) (by decide) (by decide) (by decide), xI_sI, if_pos ⟨rfl, rfl⟩]
  · rw [rsk hS (i := 8) (j := 13) (by decide) (by decide) (by decide), rsk hS (i := 8) (j := 12) (by decide) (by decide) (by decide), rsk hS (i := 8) (j := 11) (by decide) (by decide) (by decide), xI_sJ, rsk hS (i := 8) (j := 9) (by decide) (by decide) (by decide), xI_sI, if_pos ⟨rfl, rfl⟩]
  · rw [rsk hS (i := 9) (j := 13) (by decide) (by decide) (by decide), rsk hS (i := 9) (j := 12) (by decide) (by decide) (by decide), rsk hS (i := 9) (j := 11) (by decide) (by decide) (by decide), xI_sJ, xI_sI, if_pos ⟨rfl, rfl⟩]
  · show (xJ (xsJ _ (ad 10) c 0)) (ad 10) c = 0
    rw [xJ_sJ, if_pos ⟨rfl, rfl⟩]
  · rw [rsk hS (i := 11) (j := 13) (by decide) (by decide) (by decide), rsk hS (i := 11) (j := 12) (by decide) (by decide) (by decide), xI_sI, if_pos ⟨rfl, rfl⟩]
  · rw [rsk hS (i := 12) (j := 13) (by decide) (by decide) (by decide), xI_sI, if_pos ⟨rfl, rfl⟩]
  · rw [xI_sI, if_pos ⟨rfl, rfl⟩]
  · exact ((rX_I (Or.inl ⟨4, by decide, rfl, rfl⟩)).trans ((rX_I (Or.inl ⟨5, by decide, rfl, rfl⟩)).trans ((rX_I (Or.inl ⟨6, by decide, rfl, rfl⟩)).trans ((rX_I (Or.inl ⟨8, by decide, rfl, rfl⟩)).trans ((rX_I (Or.inl ⟨9, by decide, rfl, rfl⟩)).trans ((rX_J (Or.inl ⟨10, by decide, rfl, rfl⟩)).trans ((rX_I (Or.inl ⟨11, by decide, rfl, rfl⟩)).trans ((rX_I (Or.inl ⟨12, by decide, rfl, rfl⟩)).trans (rX_I (Or.inl ⟨13, by decide, rfl, rfl⟩))))))))))
theorem sX10_newNode {x1 x2 : Int32} (hS : rS M y ad) (hT : rT M ad 0 T) (hcnt : tCnt T < 220) (hQ : ∀ M1, rX (rN ad (tFree T)) M M1 → rNw M1 ad (tFree T) x1 x2 → Q (some (.int (nI (tFree T)))) M1) : xSp l g mX10_newNode 0 0 [va_rf (some y), .int x1, .int x2] M Q := by
  obtain ⟨f1, f2⟩ := tFree_ok hcnt
  have loop : ∀ (d k : Nat), tFree T = k + d → xWp l g mX10_newNode 0 0 2 [(1, va_rf (some y)), (1, .int x1), (1, .int x2), (1, .int (nI k))] [] (0, 0) M Q := by
    intro d
    induction d with
    | zero =>
      intro k hk
      have hk : tFree T = k := by omega
      rw [hk] at f1 f2 hQ
      have h4 := (hT k f2).1
      rw [Nat.zero_add, f1] at h4
      refine bX10_newNode_2 _ _ _ _ ⟨hS.1, ad 4, (hS.2.1 4 (by decide)).1, k, hS.ai (j := 4) (by decide) (by show k < 440; omega), fun _ => ?_, fun z => absurd h4 z⟩
      refine ⟨k, hS.ai (j := 4) (by decide) (by show k < 440; omega), ad 5, (hS.2.1 5 (by decide)).1, k, hS.ai (j := 5) (by decide) (by show k < 440; omega), ad 6, (hS.2.1 6 (by decide)).1, k, hS.ai (j := 6) (by decide) (by show k < 440; omega), ad 8, (hS.2.1 8 (by decide)).1, k, hS.ai (j := 8) (by decide) (by show k < 440; omega), ad 9, (hS.2.1 9 (by decide)).1, k, hS.ai (j := 9) (by decide) (by show k < 440; omega), ad 10, (hS.2.1 10 (by decide)).1, k, hS.ai (j := 10) (by decide) (by show k < 440; omega), ad 11, (hS.2.1 11 (by decide)).1, k, hS.ai (j := 11) (by decide) (by show k < 440; omega), ad 12, (hS.2.1 12 (by decide)).1, k, hS.ai (j := 12) (by decide) (by show k < 440; omega), ad 13, (hS.2.1 13 (by decide)).1, k, hS.ai (j := 13) (by decide) (by show k < 440; omega), ?_⟩
      have := new_cells (M := M) (c := k) (x1 := x1) (x2 := x2) hS
      exact hQ _ this.2 this.1
    | succ d ih =>
      intro k hk
      have hu := tFree_first hcnt k (by omega)
      have h4 := (hT k (by omega)).1
      rw [Nat.zero_add, hu] at h4
      refine bX10_newNode_2 _ _ _ _ ⟨hS.1, ad 4, (hS.2.1 4 (by decide)).1, k, hS.ai (j := 4) (by decide) (by show k < 440; omega), fun z => ?_, fun _ => ?_⟩
      · rw [h4] at z; exact absurd z (by decide)
      · rw [nI_1]; exact ih (k + 1) (by omega)
  exact eX10_newNode _ _ _ (bX10_newNode_0 _ _ _ (loop (tFree T) 0 (by omega)))
theorem sX10_give {v : Int64} (hS : rS M y ad) (hn : n < 220) (hQ : Q none (xsJ (xsI M (ad 9) n 1) (ad 10) n v)) : xSp l g mX10_give 0 0 [va_rf (some y), .int (nI n), .long v] M Q :=
  eX10_give _ _ _ (bX10_give_0 _ _ _ ⟨hS.1, ad 9, (hS.2.1 9 (by decide)).1, n, hS.ai (j := 9) (by decide) (by show n < 440; omega), ad 10, (hS.2.1 10 (by decide)).1, n, hS.ai (j := 10) (by decide) (by show n < 440; omega), hQ⟩)
theorem setPrefix_loop {f : Nat} (hS : rS M y ad) (hP : rP M y ad K) (hn : n < 220) (hf : f ≤ K.length) (h12 : K.length ≤ f + 12)
    (hQ : ∀ M1, rX (rXp ad n) M M1 → xI M1 (ad 8) n = nI (K.drop f).length → (∀ i, i < (K.drop f).length → xI M1 (ad 7) (12 * n + i) = nI ((K.drop f).getD i 0)) → Q none M1) :
    ∀ (d i : Nat) (M1 : xM), K.length = f + i + d → rX (rXp ad n) M M1 → xI M1 (ad 8) n = nI (K.drop f).length → (∀ j, j < i → xI M1 (ad 7) (12 * n + j) = nI ((K.drop f).getD j 0)) → xWp l g mX10_setPrefix 0 0 14 [(1, va_rf (some y)), (1, .int (nI n)), (1, .int (nI f)), (1, .int (nI (f + i)))] [] (0, 0) M1 Q := by
  have hlen : (K.drop f).length = K.length - f := List.length_drop
  have h64 := hP.2.1
  have ny : ∀ k, ¬ rXp ad n y k := fun k z => by
    rcases z with z | z
    · exact hS.ny (j := 8) (by decide) z.1.symm
    · exact hS.ny (j := 7) (by decide) z.1.symm
  have n1 : ∀ k, ¬ rXp ad n (ad 1) k := fun k z => by
    rcases z with z | z
    · exact hS.na (i := 1) (j := 8) (by decide) (by decide) (by decide) z.1
    · exact hS.na (i := 1) (j := 7) (by decide) (by decide) (by decide) z.1
  intro d
  induction d with
  | zero =>
    intro i M1 hd hx h8 h7
    have hS1 := hx.sS hS
    have hP1 : xI M1 y 2 = nI K.length := by rw [(hx.2 _ _ (ny 2)).1]; exact hP.1
    refine bX10_setPrefix_14 _ _ _ _ ⟨hS1.1, fun _ => hQ M1 hx h8 (fun j hj => h7 j (by omega)), fun c => ?_⟩
    exfalso
    have := nnle c hP1 rfl
    omega
  | succ d ih =>
    intro i M1 hd hx h8 h7
    have hS1 := hx.sS hS
    have hP1 : xI M1 y 2 = nI K.length := by rw [(hx.2 _ _ (ny 2)).1]; exact hP.1
    have e7 : (12 * nI n) + nI (f + i) - nI f = nI (12 * n + i) := by
      rw [show (12 : Int32) = nI 12 from rfl, nI_mul, nI_add, show 12 * n + (f + i) = (12 * n + i) + f by omega, nI_sb]
    refine bX10_setPrefix_14 _ _ _ _ ⟨hS1.1, fun c => ?_, fun _ => ⟨ad 1, (hS1.2.1 1 (by decide)).1, f + i, hS1.ai (j := 1) (by decide) (by show f + i < 64; omega), ad 7, (hS1.2.1 7 (by decide)).1, 12 * n + i, by rw [e7]; exact hS1.ai (j := 7) (by decide) (by show 12 * n + i < 5280; omega), ?_⟩⟩
    · exfalso
      have := nle c hP1 rfl
      omega
    · rw [nI_1, show f + i + 1 = f + (i + 1) by omega, (hx.2 _ _ (n1 (f + i))).1, hP.2.2.1 (f + i) (by omega)]
      refine ih (i + 1) _ (by omega) (hx.trans (rX_I (Or.inr ⟨rfl, by omega, by omega⟩))) ?_ (fun j hj => ?_)
      · rw [rsk hS (i := 8) (j := 7) (by decide) (by decide) (by decide)]; exact h8
      · by_cases e : j = i
        · rw [xI_sI, if_pos ⟨rfl, by omega⟩, e, getD_drop]
        · rw [xI_sI, if_neg (fun z => by omega)]; exact h7 j (by omega)
theorem sX10_setPrefix {f : Nat} (hS : rS M y ad) (hP : rP M y ad K) (hn : n < 220) (hf : f ≤ K.length) (h12 : K.length ≤ f + 12)
    (hQ : ∀ M1, rX (rXp ad n) M M1 → xI M1 (ad 8) n = nI (K.drop f).length → (∀ i, i < (K.drop f).length → xI M1 (ad 7) (12 * n + i) = nI ((K.drop f).getD i 0)) → Q none M1) : xSp l g mX10_setPrefix 0 0 [va_rf (some y), .int (nI n), .int (nI f)] M Q := by
  have e : xI M y 2 - nI f = nI (K.drop f).length := by
    rw [hP.1, List.length_drop]
    have := nI_sb (K.length - f) f
    rw [show K.length - f + f = K.length by omega] at this
    exact this
  refine eX10_setPrefix _ _ _ (bX10_setPrefix_0 _ _ _ ⟨hS.1, ad 8, (hS.2.1 8 (by decide)).1, n, hS.ai (j := 8) (by decide) (by show n < 440; omega), ?_⟩)
  rw [e]
  exact setPrefix_loop hS hP hn hf h12 hQ (K.length - f) 0 _ (by omega) (rX_I (Or.inl ⟨rfl, rfl⟩)) (by rw [xI_sI, if_pos ⟨rfl, rfl⟩]) (fun j hj => by omega)
theorem sX10_room {f : Nat} (h1 : f < 2 ^ 31) (hQ : Q (some (.int (nI (fRoom f)))) M) : xSp l g mX10_room 0 0 [.int (nI f)] M Q := by
  unfold fRoom at hQ
  refine eX10_room _ (bX10_room_0 _ ⟨fun a => ⟨fun b => ⟨fun c => ?_, fun c => ?_⟩, fun b => ?_⟩, fun a => ?_⟩)
  · rw [if_neg (nne a rfl (b := 1) rfl), if_neg (nne b rfl (b := 2) rfl), if_neg (nne c rfl (b := 3) rfl)] at hQ; exact hQ
  · rw [if_neg (nne a rfl (b := 1) rfl), if_neg (nne b rfl (b := 2) rfl), if_pos (neq c rfl (b := 3) rfl)] at hQ; exact hQ
  · rw [if_neg (nne a rfl (b := 1) rfl), if_pos (neq b rfl (b := 2) rfl)] at hQ; exact hQ
  · rw [if_pos (neq a rfl (b := 1) rfl)] at hQ; exact hQ
end RNN
