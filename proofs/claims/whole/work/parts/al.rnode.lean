/-! The reference's cut, node, clear. -/
section RCL
variable {l : Launch} {g : xG} {M M0 M1 M2 M3 M4 M5 : xM} {Q : Option Value → xM → Prop} {y : Nat} {ad : Nat → Nat} {T T1 Tc : TT} {o n b c s m w a u f t k : Nat} {K W js : List Nat} {v : Int64} {P P1 : Nat → Nat → Prop} {dn dn1 : Bool} {D : Nat → Nat} {pw pw1 : Option Nat} {tr tr1 sq : Nat}
theorem sX10_cut (hA : aI T Tc sq) (hn : n ≤ K.length) (h : rR M y ad K dn T Tc D pw tr sq) (hQ : ∀ M1, rR M1 y ad (K.take n) dn T Tc D pw tr sq → xag (rG y ad) M M1 → xI M1 y 0 = 0 → Q (some (.int (nI K.length))) M1) : xSp l g mX10_cut 0 0 [va_rf (some y), .int (nI n)] M Q := by
  have hS := h.1
  have hP := h.2.1
  have h64 := hP.2.1
  have i1 : (0 : Int32) ≤ nI n ∧ nI n ≤ nI K.length := ⟨nn_ge (fun z => nneg z rfl), Int32.not_lt.mp (fun z => by have := nlt z rfl rfl; omega)⟩
  refine eX10_cut _ _ (bX10_cut_0 _ _ ⟨hS.1, ?_⟩)
  rw [hP.1]
  refine sX10_in (a := 0) ⟨_, rfl, fun c => ?_, fun _ => ⟨hS.1, fun _ => ?_, fun c => ?_⟩⟩
  · rw [if_pos i1] at c; exact absurd c (by decide)
  · have e2 : xI (xsI M y 0 0) y 2 = nI K.length := by rw [xI_sI, if_neg (fun z => absurd z.2 (by decide))]; exact hP.1
    rw [e2]
    have hx : rX (rYt y ad) (xsI M y 0 0) (xsI (xsI M y 0 0) y 2 (nI n)) := rX_I (Or.inr (Or.inl ⟨rfl, rfl⟩))
    have hl : (K.take n).length = n := by rw [List.length_take]; omega
    refine hQ _ ((h.th hA).tp hA hx ⟨by rw [xI_sI, if_pos ⟨rfl, rfl⟩, hl], by omega, fun i hi => ?_, fun b hb => hP.2.2.2 b (List.mem_of_mem_take hb)⟩) (((rX_I (Or.inl (Or.inl ⟨rfl, Or.inl rfl⟩))).trans hx).xa rYt_g) ?_
    · rw [hl] at hi
      rw [xI_sI, if_neg (fun z => hS.ny (j := 1) (by decide) z.1), xI_sI, if_neg (fun z => hS.ny (j := 1) (by decide) z.1), hP.2.2.1 i (by omega), List.getD_eq_getElem?_getD, List.getD_eq_getElem?_getD, List.getElem?_take_of_lt hi]
    · rw [xI_sI, if_neg (fun z => absurd z.2 (by decide)), xI_sI, if_pos ⟨rfl, rfl⟩]
  · rw [xI_sI, if_pos ⟨rfl, rfl⟩] at c; exact absurd (by decide) c
theorem ofNode_loop {i j : Nat} (hW : tWF T) (hI : tInv T) (hj : j ≤ 5) (hS : rS M y ad) (hT : rT M ad 0 T) (hr : xI M y 14 = nI (tO T)) {m : Nat} (hm : (tEs T)[i]? = some m) (hi : i < 2 ^ 31)
    (hQ : Q (some (.int (if nI j = 0 then nI (tF T m) else if nI j = 1 then nI (tC T m).length else if nI j = 2 then nI (tX T m).length else if nI j = 3 then (if (tV T m).isSome = true then 1 else 0) else if nI j = 4 then nI (tG T m) else nI (tL T m)))) M) :
    ∀ (r l1 : List Nat) (n : Nat), tEs T = l1 ++ n :: r → l1.length ≤ i → xWp l g mX10_ofNode 0 0 8 [(1, va_rf (some y)), (1, .int (nI i)), (1, .int (nI j)), (1, .int (nI n)), (1, .int (nI l1.length))] [] (0, 0) M Q := by
  intro r
  have last : ∀ (l1 r : List Nat) (n : Nat), tEs T = l1 ++ n :: r → l1.length = i → xWp l g mX10_ofNode 0 0 8 [(1, va_rf (some y)), (1, .int (nI i)), (1, .int (nI j)), (1, .int (nI n)), (1, .int (nI l1.length))] [] (0, 0) M Q := fun l1 r n he hl => by
    obtain ⟨hu, hN⟩ := tEs_at hW he
    have hn220 := (hW.2.1 n hu).1
    have hmn : n = m := by
      rw [he, ← hl] at hm
      simpa using hm
    subst hmn
    obtain ⟨c1, c2, c3, c4, c5, c6, c7, c8, c9⟩ := hT.d hW hu
    have ai : ∀ q ∈ RL9, n < rn q → xai M (ad q) (rk q) (nI n) n := fun q hq h => hS.ai hq h
    refine bX10_ofNode_8 _ _ _ _ _ ⟨fun _ => ⟨fun k => ⟨hS.1, ad 11, (hS.2.1 11 (by decide)).1, n, ai 11 (by decide) (by show n < 440; omega), ?_⟩, fun k => ⟨hS.1, sX10_children hS hT hW hu ⟨_, rfl, ?_⟩⟩, fun k => ⟨hS.1, ad 8, (hS.2.1 8 (by decide)).1, n, ai 8 (by decide) (by show n < 440; omega), ?_⟩, fun k => ⟨hS.1, ad 9, (hS.2.1 9 (by decide)).1, n, ai 9 (by decide) (by show n < 440; omega), fun z => ?_, fun z => ?_⟩, fun k => ⟨hS.1, ad 12, (hS.2.1 12 (by decide)).1, n, ai 12 (by decide) (by show n < 440; omega), ?_⟩, fun k => ⟨hS.1, sX10_lead hS hT hW hr hu ⟨_, rfl, ?_⟩⟩⟩, fun z => absurd (by rw [hl]; exact Int32.le_refl _) z⟩
    · rw [c7]; rw [if_pos k] at hQ; exact hQ
    · rw [if_neg (by rw [k]; decide), if_pos k] at hQ; exact hQ
    · rw [c3]; rw [if_neg (by rw [k]; decide), if_neg (by rw [k]; decide), if_pos k] at hQ; exact hQ
    · rw [if_neg (by rw [k]; decide), if_neg (by rw [k]; decide), if_neg (by rw [k]; decide), if_pos k] at hQ
      rw [c5] at z
      rw [z01.mp z] at hQ
      exact hQ
    · rw [if_neg (by rw [k]; decide), if_neg (by rw [k]; decide), if_neg (by rw [k]; decide), if_pos k] at hQ
      rw [c5] at z
      rw [bnf (fun q => z (z01.mpr q))] at hQ
      exact hQ
    · rw [c8]; rw [if_neg (by rw [k]; decide), if_neg (by rw [k]; decide), if_neg (by rw [k]; decide), if_neg (by rw [k]; decide), if_pos k] at hQ; exact hQ
    · rw [if_neg (show ¬ nI j = 0 from k 0 (by omega)), if_neg (show ¬ nI j = 1 from k 1 (by omega)), if_neg (show ¬ nI j = 2 from k 2 (by omega)), if_neg (show ¬ nI j = 3 from k 3 (by omega)), if_neg (show ¬ nI j = 4 from k 4 (by omega))] at hQ; exact hQ
  induction r with
  | nil =>
    intro l1 n he hl
    refine last l1 [] n he ?_
    have : i < (tEs T).length := by
      apply Classical.byContradiction
      intro z
      rw [List.getElem?_eq_none (by omega)] at hm; cases hm
    rw [he, List.length_append] at this
    simp at this
    omega
  | cons n2 r ih =>
    intro l1 n he hl
    by_cases e : l1.length = i
    · exact last l1 (n2 :: r) n he e
    · obtain ⟨hu, hN⟩ := tEs_at hW he
      refine bX10_ofNode_8 _ _ _ _ _ ⟨fun z => ?_, fun _ => ⟨hS.1, sX10_next hS hT hW hr hu ⟨_, rfl, ?_⟩⟩⟩
      · exfalso
        have := nle z rfl rfl
        omega
      · rw [hN, nI_1]
        have := ih (l1 ++ [n]) n2 (by rw [he]; simp) (by rw [List.length_append, List.length_singleton]; omega)
        rw [List.length_append, List.length_singleton] at this
        exact this
theorem sX10_node {i j : Int32} (hA : aI T Tc sq) (h : rR M y ad K dn T Tc D pw tr sq) (hQ : ∀ M1, rR M1 y ad K dn T Tc D pw tr sq → xag (rG y ad) M M1 → xI M1 y 0 = 0 → Q (some (.int (aNod dn T i j))) M1) : xSp l g mX10_node 0 0 [va_rf (some y), .int i, .int j] M Q := by
  have hR0 := h.th (v := 0) hA
  obtain ⟨hS, hP, h3, ⟨hT, hr⟩, -⟩ := id hR0
  have hW := hA.1.1
  have hc220 := (cnt_all T).1
  have hlen : (tEs T).length = tCnt T := by
    have := tEs_cnt hW (fun _ => true)
    rw [List.countP_eq_length.mpr (fun _ _ => rfl)] at this
    rw [this]; unfold tCnt
    congr 1; funext n; simp
  unfold aNod at hQ
  refine eX10_node _ _ _ (bX10_node_0 _ _ _ ⟨hS.1, fun c => ?_, fun c => ?_⟩)
  · have hdn := (dn0 h3).mp c
    rw [if_neg (by rw [hdn]; decide)] at hQ
    refine sX10_nodes hS hT ⟨_, rfl, sX10_in (a := 0) ⟨_, rfl, fun c2 => ?_, fun c2 => ?_⟩⟩
    · have hm : (if i < 0 then none else (tEs T)[i.toNatClampNeg]?) = none := by
        by_cases hi : i < 0
        · rw [if_pos hi]
        · obtain ⟨q, hq31, hq⟩ := nI_of hi
          subst hq
          rw [if_neg hi, nI_clamp hq31]
          have hn : ¬ q < tCnt T := fun z => by
            rw [if_pos ⟨nn_ge hi, (in_lt hq31 (by omega)).mpr z⟩] at c2
            exact absurd c2 (by decide)
          exact List.getElem?_eq_none (by omega)
      rw [hm] at hQ
      exact th_out hA h hQ
    · have hi : ¬ i < 0 := fun z => by
        rw [if_neg (fun q => Int32.not_lt.mpr q.1 z)] at c2
        exact c2 rfl
      obtain ⟨q, hq31, hq⟩ := nI_of hi
      subst hq
      have hl : q < tCnt T := Classical.byContradiction (fun z => by
        rw [if_neg (fun w => z ((in_lt hq31 (by omega)).mp w.2))] at c2
        exact c2 rfl)
      have hm2 : (tEs T)[q]? = some ((tEs T)[q]'(by omega)) := List.getElem?_eq_getElem _
      rw [if_neg hi, nI_clamp hq31, hm2] at hQ
      generalize (tEs T)[q]'(by omega) = m at hQ hm2
      refine sX10_in (a := 0) (b := 5) ⟨_, rfl, fun c3 => ?_, fun c3 => ⟨hS.1, ?_⟩⟩
      · have hj : ∀ k, k ≤ 5 → ¬ j = nI k := fun k hk z => by
          rw [z, if_pos ⟨nn_ge (fun w => nneg w rfl), Int32.not_lt.mp (fun w => by have := nlt w (a := 5) rfl rfl; omega)⟩] at c3
          exact absurd c3 (by decide)
        dsimp only at hQ
        rw [if_neg (show ¬ j = 0 from hj 0 (by omega)), if_neg (show ¬ j = 1 from hj 1 (by omega)), if_neg (show ¬ j = 2 from hj 2 (by omega)), if_neg (show ¬ j = 3 from hj 3 (by omega)), if_neg (show ¬ j = 4 from hj 4 (by omega)), if_neg (show ¬ j = 5 from hj 5 (by omega))] at hQ
        exact th_out hA h hQ
      · have hj : ¬ j < 0 := fun z => by
          rw [if_neg (fun w => Int32.not_lt.mpr w.1 z)] at c3
          exact c3 rfl
        obtain ⟨k, hk31, hk⟩ := nI_of hj
        subst hk
        have hk5 : k ≤ 5 := Classical.byContradiction (fun z => by
          rw [if_neg (fun w => by have := nle w.2 rfl (b := 5) rfl; omega)] at c3
          exact c3 rfl)
        obtain ⟨r, hes⟩ : ∃ r, tEs T = tO T :: r := by
          have := tEs_head T
          cases hh : tEs T with
          | nil => rw [hh] at this; cases this
          | cons a r => rw [hh] at this; simp at this; exact ⟨r, by rw [this]⟩
        refine eX10_ofNode _ _ _ (bX10_ofNode_0 _ _ _ ⟨hS.1, ?_⟩)
        rw [hr]
        refine ofNode_loop hW hA.1.2 hk5 hS hT hr hm2 (by omega) ⟨_, rfl, ?_⟩ r [] (tO T) hes (Nat.zero_le _)
        have e : (if nI k = 0 then nI (tF T m) else if nI k = 1 then nI (tC T m).length else if nI k = 2 then nI (tX T m).length else if nI k = 3 then (if (tV T m).isSome = true then 1 else 0) else if nI k = 4 then nI (tG T m) else if nI k = 5 then nI (tL T m) else -1) = (if nI k = 0 then nI (tF T m) else if nI k = 1 then nI (tC T m).length else if nI k = 2 then nI (tX T m).length else if nI k = 3 then (if (tV T m).isSome = true then 1 else 0) else if nI k = 4 then nI (tG T m) else nI (tL T m)) := by
          have : k = 0 ∨ k = 1 ∨ k = 2 ∨ k = 3 ∨ k = 4 ∨ k = 5 := by omega
          rcases this with z | z | z | z | z | z <;> subst z <;> rfl
        dsimp only at hQ
        rw [e] at hQ
        exact th_out hA h hQ
  · rw [if_pos (dn1 h3 c)] at hQ
    exact th_out hA h hQ
end RCL
