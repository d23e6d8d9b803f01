/-! drop. -/
section RM3
variable {l : Launch} {g : xG} {M : xM} {Q : Option Value → xM → Prop} {φ ψ : Nat → Nat} {T : TT} {t nd ky : Nat} {KK sp : List Nat}
theorem cnt_pos {T : TT} {x : Nat} (hx : tU T x = true) (h : x < 220) : 1 ≤ tCnt T := by
  have : 0 < (List.range 220).countP (tU T) := List.countP_pos_iff.mpr ⟨x, List.mem_range.mpr h, hx⟩
  exact this
theorem drop_aux {n : Nat} (hW : tWF T) (hI : tI1 T) (hn : tU T n = true) (hV : tV T n = none) (h : cTr M t KK φ ψ T sp (tCnt T) (tKy T)) (hQ : ∀ M1 sp1 T1, ((tC T n = [] → tP T n = none → T1 = tXf T n [] 1) ∧ (tC T n = [] → ∀ p, tP T n = some p → T1 = tJoin (tDel T n p) p) ∧ (tC T n ≠ [] → T1 = tJoin T n)) → cTr M1 t KK φ ψ T1 sp1 (tCnt T1) (tKy T1) → xag (RG t KK ψ) M M1 → Q (some (.int 1)) M1) :
    xat M (φ n) 1 ∧ (((xI M (φ n) 5) ≤ 0 → (((xR M (φ n) 9) = none → (Q (some (.int 1)) (xsI (xsI M (φ n) 1 0) (φ n) 2 1))) ∧ (¬ (xR M (φ n) 9) = none → (xSp l g mX8_detach 0 0 [va_rf (some t), va_rf (some (φ n)), va_rf (xR M (φ n) 9)] M (fun ρ22 M21 => ρ22 = none ∧ (Q (some (.int 1)) M21)))))) ∧ (¬ (xI M (φ n) 5) ≤ 0 → (xSp l g mX8_join 0 0 [va_rf (some t), va_rf (some (φ n))] M (fun ρ27 M26 => ρ27 = none ∧ (Q (some (.int 1)) M26))))) := by
  obtain ⟨⟨⟨b1, b1b, b1c, b1d⟩, ⟨b2, b2b⟩, ⟨i2, i3, i4, i5, i6, i7, i8⟩, b4⟩, b5⟩ := h.2.1.1.1 n hn
  have hcl := tC_len hW hn
  have hn220 := (hW.2.1 n hn).1
  refine ⟨b1, fun d1 => ⟨fun d2 => ?_, fun d2 => ?_⟩, fun d1 => ?_⟩
  · have e0 : (tC T n).length ≤ 0 := nle d1 i5 (b := 0) rfl
    have hc : tC T n = [] := List.length_eq_zero_iff.mp (by omega)
    have hp : tP T n = none := by
      rw [b4] at d2
      cases hp : tP T n with
      | none => rfl
      | some p => rw [hp] at d2; cases d2
    have hne : φ n ≠ ψ (φ n) := ne_of_kind b1.2 b1c.2 (by decide)
    have hcx : cNc (xsI (xsI M (φ n) 1 0) (φ n) 2 1) φ ψ (tXf T n [] 1) := by
      refine xf_c h.2.1.2.1 h.2.1.1 hn (h.ps hn) ⟨rfl, rfl, rfl, rfl, rfl⟩ (fun x j _ h1 h2 => by rw [xI_sI, if_neg h2, xI_sI, if_neg h1]) ?_ ?_ (fun i hi => absurd hi (by simp))
      · rw [xI_sI, if_neg (fun z => absurd z.2 (by decide)), xI_sI, if_pos ⟨rfl, rfl⟩]; rfl
      · rw [xI_sI, if_pos ⟨rfl, rfl⟩]; rfl
    have hxx : xag (fun a => ∃ x, tU T x = true ∧ (a = φ x ∨ a = ψ (φ x))) M (xsI (xsI M (φ n) 1 0) (φ n) 2 1) := (xag_I (P := fun a => ∃ x, tU T x = true ∧ (a = φ x ∨ a = ψ (φ x))) M ⟨n, hn, Or.inl rfl⟩).trans (xag_I (P := fun a => ∃ x, tU T x = true ∧ (a = φ x ∨ a = ψ (φ x))) _ ⟨n, hn, Or.inl rfl⟩)
    obtain ⟨w1, w2⟩ := h.no hW hxx (fun a => rfl) hcx rfl rfl
    exact hQ _ _ _ ⟨fun _ _ => rfl, fun _ p hp2 => (by rw [hp] at hp2; cases hp2), fun z => absurd hc z⟩ w1 w2
  · have e0 : (tC T n).length ≤ 0 := nle d1 i5 (b := 0) rfl
    have hc : tC T n = [] := List.length_eq_zero_iff.mp (by omega)
    cases hp : tP T n with
    | none => exact absurd (by rw [b4, hp]; rfl) d2
    | some p =>
      have e9 : xR M (φ n) 9 = some (φ p) := by rw [b4, hp]; rfl
      rw [e9]
      obtain ⟨p1, p2, p3⟩ := hW.2.2.2.1 n p hn hp
      have hpn : p ≠ n := fun z => by rw [z] at p3; omega
      have hF := hI p p1
      have kd := cnt_del (T := T) (n := n) (p := p) hn hn220 hV
      have hpu : tU (tDel T n p) p = true := by
        show va_up (tU T) n false p = true
        rw [va_up_ne _ _ hpn]; exact p1
      have k1 := cnt_pos hpu (hW.2.1 p p1).1
      obtain ⟨nd, hnd⟩ : ∃ nd, tCnt (tDel T n p) = nd + 1 := ⟨tCnt (tDel T n p) - 1, by omega⟩
      have hnd2 : tCnt T = nd + 2 := by omega
      rw [hnd2] at h
      have hsel : ∀ T1, T1 = tJoin (tDel T n p) p → ((tC T n = [] → tP T n = none → T1 = tXf T n [] 1) ∧ (tC T n = [] → ∀ p, tP T n = some p → T1 = tJoin (tDel T n p) p) ∧ (tC T n ≠ [] → T1 = tJoin T n)) := fun T1 e => ⟨fun _ z => (by rw [hp] at z; cases z), fun _ p2 z => (by rw [hp] at z; cases z; exact e), fun z => absurd hc z⟩
      refine sX8_detach hW h hn hp hc hF.1 hF.2.1 (fun z M1 r1 r2 => ⟨rfl, hQ M1 (φ n :: sp) _ (hsel _ z.symm) ?_ r2⟩) (fun c hc2 hv M1 r1 r2 => ⟨rfl, hQ M1 (φ p :: φ n :: sp) _ (hsel _ (tJoin_one hc2 hv).symm) ?_ r2⟩)
      · rw [hnd, kd.2]; exact r1
      · have kj := cnt_jn (T := tDel T n p) (u := p) (c := c) hpu (hW.2.1 p p1).1 hv
        have ea : tCnt (tFr (tJn (tDel T n p) p c) c) = nd := by
          have : tCnt (tFr (tJn (tDel T n p) p c) c) = tCnt (tJn (tDel T n p) p c) := rfl
          omega
        have eb : tKy (tFr (tJn (tDel T n p) p c) c) = tKy T := by
          have : tKy (tFr (tJn (tDel T n p) p c) c) = tKy (tJn (tDel T n p) p c) := rfl
          rw [this, kj.2, kd.2]
        rw [ea, eb]; exact r1
  · have e0 : 0 < (tC T n).length := nnle d1 i5 (b := 0) rfl
    have hc : tC T n ≠ [] := fun z => by rw [z] at e0; simp at e0
    have k1 := cnt_pos hn hn220
    obtain ⟨nd, hnd⟩ : ∃ nd, tCnt T = nd + 1 := ⟨tCnt T - 1, by omega⟩
    have h0 := h
    rw [hnd] at h
    have hsel : ∀ T1, T1 = tJoin T n → ((tC T n = [] → tP T n = none → T1 = tXf T n [] 1) ∧ (tC T n = [] → ∀ p, tP T n = some p → T1 = tJoin (tDel T n p) p) ∧ (tC T n ≠ [] → T1 = tJoin T n)) := fun T1 e => ⟨fun z => absurd z hc, fun z => absurd z hc, fun _ => e⟩
    refine sX8_join hW h hn (fun z => ⟨rfl, hQ M _ _ (hsel _ z.symm) h0 xag.rf⟩) (fun c hc2 hv M1 r1 r2 => ⟨rfl, hQ M1 (φ n :: sp) _ (hsel _ (tJoin_one hc2 hv).symm) ?_ r2⟩)
    have kj := cnt_jn (T := T) (u := n) (c := c) hn hn220 hv
    have ea : tCnt (tFr (tJn T n c) c) = nd := by
      have : tCnt (tFr (tJn T n c) c) = tCnt (tJn T n c) := rfl
      omega
    have eb : tKy (tFr (tJn T n c) c) = tKy T := by
      have : tKy (tFr (tJn T n c) c) = tKy (tJn T n c) := rfl
      rw [this, kj.2]
    rw [ea, eb]; exact r1
theorem tInv_sv0 {T : TT} {n : Nat} (hI : tInv T) : tI1 (tFr (tSv T n none) n) := tFr_i1 (T := tSv T n none) hI.1 n
theorem sX8_drop {tp tb : Nat} {key : List Nat} (hW : tWF T) (hI : tInv T) (h : cTr M t KK φ ψ T sp (tCnt T) (tKy T)) (htp : tpR M tp tb key)
    (hQ : ∀ M1 sp1, cTr M1 t KK φ ψ (tRem T key).2 sp1 (tCnt (tRem T key).2) (tKy (tRem T key).2) → xag (RG t KK ψ) M M1 → Q (some (.int (tRem T key).1)) M1) : xSp l g mX8_drop 0 0 [va_rf (some t), va_rf (some tp)] M Q := by
  have hx1 : xag (RG t KK ψ) M (skM M t φ T key) := (sk3_ag _ _ _).mono (fun x z => by rw [z]; exact RGt)
  have h2 : cTr (skM M t φ T key) t KK φ ψ T sp (tCnt T) (tKy T) := h.sk hW _ _ _
  refine eX8_drop _ _ (bX8_drop_0 _ _ ⟨h.1.1, sX8_nodeOf hW (h.ns hW) htp h.1.1 h.1.2.1 ⟨_, rfl, ?_⟩⟩)
  generalize skM M t φ T key = M2 at *
  unfold tRem at hQ
  cases hf : tFd T key with
  | none =>
    rw [hf] at hQ
    exact ⟨fun d => absurd rfl d, fun _ => hQ M2 sp h2 hx1⟩
  | some n =>
    rw [hf] at hQ
    dsimp only at hQ
    obtain ⟨f1, f2, f3, f4⟩ := tFd_some hf
    have hn : tU T n = true := by rw [f1]; exact (tSe_ok hW key).1
    rw [← f1] at f4
    have hn220 := (hW.2.1 n hn).1
    refine ⟨fun _ => ⟨φ n, rfl, (h2.2.1.1.1 n hn).1.1.1, ?_⟩, fun d => by cases d⟩
    have q1 : cTr (xsJ (xsI M2 (φ n) 3 0) (φ n) 4 0) t KK φ ψ (tSv T n none) sp (tCnt T) (tKy T) := (h2.sv hW hn none).1
    have q2 : xag (RG t KK ψ) M2 (xsJ (xsI M2 (φ n) 3 0) (φ n) 4 0) := (h2.sv hW hn none).2
    have hW1 := tSv_wf hW n none
    obtain ⟨q3, q4⟩ := q1.fr hW1 (n := n) hn
    have hW2 := tFr_wf hW1 n
    have kv := cnt_sv0 hn hn220 f4
    refine sX3_loseValue (h2.2.1.1.1 n hn).1.1.1 ⟨rfl, (q1.2.1.1.1 n hn).1.1.1, sX3_freshen hW1 (q1.ns hW1).pN (n := n) hn ⟨rfl, q3.1.1, ?_⟩⟩
    have e4 := q3.1.2.2.2
    have q5 := q3.ks hW2 (tKy (tSv T n none))
    have hx5 := ((hx1.trans (q2.trans q4)).trans (xag_I (k := 4) (v := nI (tKy (tSv T n none))) _ RGt))
    rw [show xI (frs (xsJ (xsI M2 (φ n) 3 0) (φ n) 4 0) ((tA (tSv T n none) 12 n).map φ)) t 4 - 1 = nI (tKy (tSv T n none)) by
      rw [show xI (frs (xsJ (xsI M2 (φ n) 3 0) (φ n) 4 0) ((tA (tSv T n none) 12 n).map φ)) t 4 = nI (tKy T) from e4, kv, nI_pred]]
    refine drop_aux (T := tFr (tSv T n none) n) hW2 (tInv_sv0 hI) hn (va_up_self _ _ _) q5 (fun M1 sp1 T1 hsel r1 r2 => ?_)
    have e : tRemG T n = T1 := by
      unfold tRemG
      obtain ⟨s1, s2, s3⟩ := hsel
      by_cases hc : tC T n = []
      · rw [if_pos hc]
        cases hp : tP T n with
        | none => exact (s1 hc hp).symm
        | some p => exact (s2 hc p hp).symm
      · rw [if_neg hc]; exact (s3 hc).symm
    rw [e] at hQ
    exact hQ M1 sp1 r1 (hx5.trans r2)
end RM3
