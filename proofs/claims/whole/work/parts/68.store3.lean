/-! store by a cut; store. -/
theorem cnt_fr (T : TT) (n : Nat) : tCnt (tFr T n) = tCnt T ∧ tKy (tFr T n) = tKy T := by
  constructor
  · unfold tCnt; rw [show tU (tFr T n) = tU T from rfl]
  · unfold tKy; rw [show tU (tFr T n) = tU T from rfl, show tV (tFr T n) = tV T from rfl]
theorem cnt_sv (T : TT) (n : Nat) (v : Option Int64) : tCnt (tSv T n v) = tCnt T := by
  unfold tCnt; rw [show tU (tSv T n v) = tU T from rfl]
theorem cnt_xf (T : TT) (n : Nat) (p : List Nat) (f : Nat) : tCnt (tXf T n p f) = tCnt T ∧ tKy (tXf T n p f) = tKy T := by
  constructor
  · unfold tCnt; rw [show tU (tXf T n p f) = tU T from rfl]
  · unfold tKy; rw [show tU (tXf T n p f) = tU T from rfl, show tV (tXf T n p f) = tV T from rfl]
section ST3
variable {l : Launch} {g : xG} {M : xM} {Q : Option Value → xM → Prop} {φ ψ : Nat → Nat} {T : TT} {t nd ky : Nat} {KK sp : List Nat}
theorem cNew_ag {P : Nat → Prop} {M1 : xM} {q b : Nat} {p : List Nat} {v : Option Int64} (h : cNew M ψ q b p v) (hx : xag P M M1) (h1 : ¬ P q) (h2 : ¬ P (ψ q)) : cNew M1 ψ q b p v := by
  obtain ⟨⟨e1, e2, e3, -⟩, e4⟩ := hx
  obtain ⟨f1, f2, f3⟩ := e4 q h1
  obtain ⟨f4, -, -⟩ := e4 _ h2
  simpa only [cNew, xat, e1, e2, e3, f1, f2, f3, f4] using h
theorem tpR_RG {tp tb : Nat} {key : List Nat} (htp : tpR M tp tb key) (h : cTr M t KK φ ψ T sp nd ky) (htb : ∀ a ∈ KK, ψ a ≠ tb) {M1 : xM} (hx : xag (RG t KK ψ) M M1) : tpR M1 tp tb key := by
  obtain ⟨⟨y1, y2, y3, y4⟩, y5, -⟩ := id htp
  obtain ⟨f1, f2, f3⟩ := hx.2 tp (fun z => by
    rcases z with z | z | ⟨b, hb, z⟩
    · exact ne_of_kind y1.2 h.1.1.2 (by decide) z
    · exact ne_of_kind y1.2 (h.2.2.2.1 _ z).1.2 (by decide) rfl
    · exact ne_of_kind y1.2 (h.2.2.2.1 _ hb).2.2.1.2 (by decide) z)
  obtain ⟨f4, -, -⟩ := hx.2 tb (fun z => by
    rcases z with z | z | ⟨b, hb, z⟩
    · exact ne_of_kind y3.2 h.1.1.2 (by decide) z
    · exact ne_of_kind y3.2 (h.2.2.2.1 _ z).1.2 (by decide) rfl
    · exact htb b hb z.symm)
  exact tpR_fr htp hx.1.1 hx.1.2.1 hx.1.2.2.1 (f1 1) (f3 0) f4
theorem tk_I {q k : Nat} (hk : k ≠ 3) (htq : t ≠ q) : xI (tkM M t q nd) t k = xI M t k := by
  simp only [tkM]
  rw [xI_sI, if_neg (fun z => hk z.2), rst_I, if_neg (fun z => htq z.1), xI_sR]
theorem tk_R {q k : Nat} (hk : k ≠ 1) (htq : t ≠ q) : xR (tkM M t q nd) t k = xR M t k := by
  simp only [tkM]
  rw [xR_sI, rst_R, if_neg (fun z => htq z.1), xR_sR, if_neg (fun z => hk z.2)]
theorem RN_RG {q : Nat} (hk : ∀ n, tU T n = true → φ n ∈ KK) (hq : q ∈ KK) {a : Nat} (h : RN t φ ψ T q a) : RG t KK ψ a := by
  rcases h with h | ⟨n, hn, h | h⟩ | h | h
  · rw [h]; exact RGt
  · rw [h]; exact RGk (hk n hn)
  · rw [h]; exact RGp (hk n hn)
  · rw [h]; exact RGk hq
  · rw [h]; exact RGp hq
theorem sX8_storeByCut {s m u a c tp tb : Nat} {key : List Nat} {v : Int64} (hW : tWF T) (h : cTr M t KK φ ψ T sp nd ky) (hs : tU T s = true) (h5 : xR M t 5 = some (φ s)) (h6 : xI M t 6 = nI m) (h7 : xI M t 7 = nI u)
    (ha : tU T a = false) (ha220 : a < 220) (hm : m < (tX T s).length) (hul : u = tL T s + m) (huk : u ≤ key.length) (hne : u < key.length → (tX T s).getD m 0 ≠ key.getD u 0) (hc : u < key.length → nd < 199 → tU (tCut T s m a) c = false ∧ c < 220)
    (htp : tpR M tp tb key) (htb : ∀ a ∈ KK, ψ a ≠ tb) (h12 : key.length ≤ 12)
    (hQ0 : 200 < nd + 1 + (if u < key.length then 1 else 0) → Q (some (.int (-2))) M)
    (hQ1 : ¬ 200 < nd + 2 → u < key.length → ∀ M1 φ1 sp1, cTr M1 t KK φ1 ψ (tFr (tAdd (tFr (tCut T s m a) s) a c (key.getD u 0) (key.drop (u + 1)) v) c) sp1 (nd + 2) (ky + 1) → xag (RG t KK ψ) M M1 → Q (some (.int 1)) M1)
    (hQ2 : ¬ 200 < nd + 1 → ¬ u < key.length → ∀ M1 φ1 sp1, cTr M1 t KK φ1 ψ (tSv (tFr (tCut T s m a) s) a (some v)) sp1 (nd + 1) (ky + 1) → xag (RG t KK ψ) M M1 → Q (some (.int 1)) M1) : xSp l g mX8_storeByCut 0 0 [va_rf (some t), va_rf (some tp), .long v] M Q := by
  have hsa : s ≠ a := fun z => by rw [z, ha] at hs; cases hs
  have hl200 := h.2.2.1.2.2.2
  have h3 := h.1.2.2.1
  have hk64 := htp.2.2.1
  have e1 : xI M t 3 + 1 = nI (nd + 1) := by rw [h3, nI_1]
  have e2 : xI M t 3 + 2 = nI (nd + 2) := by rw [h3]; exact nI_add nd 2
  have hW1 := tFr_wf (tCut_wf hW hs ha ha220 hm) s
  have hau : tU (tFr (tCut T s m a) s) a = true := va_up_self _ _ _
  refine eX8_storeByCut _ _ _ (bX8_storeByCut_0 _ _ _ ⟨h.1.1, tp, rfl, htp.1.1, fun c1 => ?_, fun c1 => ?_⟩)
  · have hu : u < key.length := by
      have := nne c1 h7 htp.2.1
      omega
    rw [if_pos hu] at hQ0
    refine bX8_storeByCut_16 _ _ _ _ _ _ _ _ _ ⟨fun _ => ⟨h.1.1, fun c2 => ?_, fun c2 => ?_⟩, fun z => absurd rfl z⟩
    · have c3 := nle c2 e2 (b := 200) rfl
      match sp, h, hl200 with
      | q1 :: q2 :: sp, h, hl200 =>
        obtain ⟨t1, t2, t3, t4⟩ := tk_c hW h
        obtain ⟨s1, s2, s3, s4⟩ := tk_c hW t1
        have hq1 := h.2.2.1.2.2.1 q1 List.mem_cons_self
        have hq2 := h.2.2.1.2.2.1 q2 (List.mem_cons_of_mem _ List.mem_cons_self)
        have hd := List.nodup_cons.mp h.2.2.1.2.1
        have hd2 := List.nodup_cons.mp hd.2
        have hq12 : q1 ≠ q2 := fun z => hd.1 (by rw [z]; exact List.mem_cons_self)
        have ka := h.2.2.2.1 q1 hq1.1
        have kb := h.2.2.2.1 q2 hq2.1
        have kb1 := t1.2.2.2.1 q2 hq2.1
        have htq1 : t ≠ q1 := ne_of_kind h.1.1.2 ka.1.2 (by decide)
        have htq2 : t ≠ q2 := ne_of_kind h.1.1.2 kb.1.2 (by decide)
        refine sX8_take h ⟨some q1, rfl, fun _ => ⟨t1.1.1, sX8_take t1 ⟨some q2, rfl, ?_⟩⟩, fun z => absurd rfl z⟩
        have n1 : cNew (tkM (tkM M t q1 nd) t q2 (nd + 1)) ψ q1 0 [] none := cNew_ag t2 (tk_ag q2) (fun z => z.elim (fun y => htq1 y.symm) hq12) (fun z => z.elim (ne_of_kind ka.2.2.1.2 h.1.1.2 (by decide)) (ne_of_kind ka.2.2.1.2 kb.1.2 (by decide)))
        have x5 : xR (tkM (tkM M t q1 nd) t q2 (nd + 1)) t 5 = some (φ s) := by rw [tk_R (by decide) htq2, tk_R (by decide) htq1]; exact h5
        have x6 : xI (tkM (tkM M t q1 nd) t q2 (nd + 1)) t 6 = nI m := by rw [tk_I (by decide) htq2, tk_I (by decide) htq1]; exact h6
        have x7 : xI (tkM (tkM M t q1 nd) t q2 (nd + 1)) t 7 = nI u := by rw [tk_I (by decide) htq2, tk_I (by decide) htq1]; exact h7
        have g1 : xag (RG t KK ψ) M (tkM (tkM M t q1 nd) t q2 (nd + 1)) := ((tk_ag (M := M) (t := t) (nd := nd) q1).mono (fun a z => z.elim (fun e => by rw [e]; exact RGt) (fun e => by rw [e]; exact RGk hq1.1))).trans ((tk_ag q2).mono (fun a z => z.elim (fun e => by rw [e]; exact RGt) (fun e => by rw [e]; exact RGk hq2.1)))
        have kb2 := s1.2.2.2.1 q2 hq2.1
        refine bX8_storeByCut_65 _ _ _ _ _ _ _ _ _ ⟨fun _ => ⟨s1.1.1, ?_⟩, fun z => by cases z⟩
        rw [x5]
        refine sX8_insertAbove hW s1 hq1.1 (fun z => hd.1 (List.mem_cons_of_mem _ z)) hq1.2 n1 hs ha ha220 hm x6 (fun M3 r1 r2 r3 => ⟨rfl, fun z => (by cases z), fun _ => ⟨r1.1.1, ?_⟩⟩)
        have hk := s1.2.1.2.2
        have n2 : cNew M3 ψ q2 0 [] none := by
          refine cNew_ag s2 r2 (fun z => ?_) (fun z => ?_)
          · rcases z with z | ⟨n, hn, z | z⟩ | z | z
            · exact htq2 z.symm
            · exact hq2.2 n hn z.symm
            · exact ne_of_kind kb2.1.2 (s1.2.2.2.1 _ (hk n hn)).2.2.1.2 (by decide) z
            · exact hq12 z.symm
            · exact ne_of_kind kb2.1.2 (s1.2.2.2.1 _ hq1.1).2.2.1.2 (by decide) z
          · rcases z with z | ⟨n, hn, z | z⟩ | z | z
            · exact ne_of_kind kb2.2.2.1.2 s1.1.1.2 (by decide) z
            · exact ne_of_kind kb2.2.2.1.2 (s1.2.2.2.1 _ (hk n hn)).1.2 (by decide) z
            · exact hq2.2 n hn (s1.2.2.2.2 _ hq2.1 _ (hk n hn) z).symm
            · exact ne_of_kind kb2.2.2.1.2 (s1.2.2.2.1 _ hq1.1).1.2 (by decide) z
            · exact hq12 (s1.2.2.2.2 _ hq2.1 _ hq1.1 z).symm
        have g2 := r2.mono (fun a z => RN_RG (KK := KK) hk hq1.1 z)
        have tp3 : tpR M3 tp tb key := tpR_RG htp h htb (g1.trans g2)
        obtain ⟨hc1, hc2⟩ := hc hu (by omega)
        have eXa : tX (tFr (tCut T s m a) s) a = (tX T s).take m := by
          show va_up (va_up (tX T) a ((tX T s).take m)) s _ a = _
          rw [va_up_ne _ _ (fun z => hsa z.symm), va_up_self]
        have eLa : tL (tFr (tCut T s m a) s) a = tL T s := by
          show va_up (va_up (tL T) a (tL T s)) s _ a = _
          rw [va_up_ne _ _ (fun z => hsa z.symm), va_up_self]
        have eBs : tB (tFr (tCut T s m a) s) s = (tX T s).getD m 0 := va_up_self _ _ _
        have eCa : tC (tFr (tCut T s m a) s) a = [s] := if_pos rfl
        have eFa : tF (tFr (tCut T s m a) s) a = 1 := va_up_self _ _ _
        have hlen : (tX (tFr (tCut T s m a) s) a).length = m := by rw [eXa, List.length_take]; omega
        have ep : va_up φ a q1 a = q1 := va_up_self _ _ _
        have hcu : tU (tFr (tCut T s m a) s) c = false := hc1
        have hqn2 : ∀ n, tU (tFr (tCut T s m a) s) n = true → va_up φ a q1 n ≠ q2 := by
          intro n hn
          by_cases hna : n = a
          · rw [hna, va_up_self]; exact hq12
          · rw [va_up_ne _ _ hna]; exact hq2.2 n (used_ne hn hna)
        have := sX8_hang (l := l) (g := g) (v := v) (Q := fun ρ16 M15 => ρ16 = none ∧ (Q (some (.int 1)) M15)) hW1 r1 hq2.1 hd2.1 hqn2 n2 hau hcu hc2 (by rw [eFa]; omega) (by rw [eFa]; omega) tp3 htb h12 hu (r3.trans x7) (by rw [eLa, hlen, List.length_drop]; omega)
          (by rw [eCa]; intro x hx; rw [List.mem_singleton] at hx; rw [hx, eBs]; exact hne hu)
          (fun M4 w1 w2 => ⟨rfl, hQ1 (by omega) hu M4 _ _ w1 (g1.trans (g2.trans w2))⟩)
        rw [ep] at this
        exact this
      | [q1], h, hl200 => simp at hl200; omega
      | [], h, hl200 => simp at hl200; omega
    · have c3 := nnle c2 e2 (b := 200) rfl
      exact hQ0 (by omega)
  · have hu : ¬ u < key.length := by
      have := neq c1 h7 htp.2.1
      omega
    rw [if_neg hu] at hQ0
    refine bX8_storeByCut_16 _ _ _ _ _ _ _ _ _ ⟨fun z => (by cases z), fun _ => ⟨h.1.1, fun c2 => ?_, fun c2 => ?_⟩⟩
    · have c3 := nle c2 e1 (b := 200) rfl
      match sp, h, hl200 with
      | q1 :: sp, h, hl200 =>
        obtain ⟨t1, t2, t3, t4⟩ := tk_c hW h
        have hq1 := h.2.2.1.2.2.1 q1 List.mem_cons_self
        have hd := List.nodup_cons.mp h.2.2.1.2.1
        have ka := h.2.2.2.1 q1 hq1.1
        have htq1 : t ≠ q1 := ne_of_kind h.1.1.2 ka.1.2 (by decide)
        refine sX8_take h ⟨some q1, rfl, fun z => (by cases z), fun _ => ?_⟩
        have x5 : xR (tkM M t q1 nd) t 5 = some (φ s) := by rw [tk_R (by decide) htq1]; exact h5
        have x6 : xI (tkM M t q1 nd) t 6 = nI m := by rw [tk_I (by decide) htq1]; exact h6
        have g1 : xag (RG t KK ψ) M (tkM M t q1 nd) := (tk_ag (M := M) (t := t) (nd := nd) q1).mono (fun a z => z.elim (fun e => by rw [e]; exact RGt) (fun e => by rw [e]; exact RGk hq1.1))
        refine bX8_storeByCut_65 _ _ _ _ _ _ _ _ _ ⟨fun _ => ⟨t1.1.1, ?_⟩, fun z => by cases z⟩
        rw [x5]
        refine sX8_insertAbove hW t1 hq1.1 hd.1 hq1.2 t2 hs ha ha220 hm x6 (fun M3 r1 r2 r3 => ⟨rfl, fun _ => ⟨q1, rfl, (r1.2.2.2.1 q1 hq1.1).1, ?_⟩, fun z => absurd rfl z⟩)
        have g2 := r2.mono (fun a z => RN_RG (KK := KK) t1.2.1.2.2 hq1.1 z)
        obtain ⟨w1, w2⟩ := r1.sv hW1 hau (some v)
        have ep : va_up φ a q1 a = q1 := va_up_self _ _ _
        rw [ep] at w1 w2
        refine sX3_setValue (r1.2.2.2.1 q1 hq1.1).1 ⟨rfl, w1.1.1, ?_⟩
        have e4 : xI (xsJ (xsI M3 q1 3 1) q1 4 v) t 4 = nI ky := w1.1.2.2.2
        have := hQ2 (by omega) hu _ _ _ (w1.ks (tSv_wf hW1 _ _) (ky + 1)) ((g1.trans (g2.trans w2)).trans (xag_I _ RGt))
        rw [e4, nI_1]
        exact this
      | [], h, hl200 => simp at hl200; omega
    · have c3 := nnle c2 e1 (b := 200) rfl
      exact hQ0 (by omega)
theorem store_aux {s m w a c tp tb : Nat} {key : List Nat} {v : Int64} (hW : tWF T) (hI : tInv T) (h : cTr M t KK φ ψ T sp (tCnt T) (tKy T)) (htp : tpR M tp tb key) (htb : ∀ a ∈ KK, ψ a ≠ tb) (h12 : key.length ≤ 12) (hS : skOk T key s m w) (ha : tU T a = false) (ha220 : a < 220)
    (hc : m < (tX T s).length → w < key.length → tCnt T < 199 → tU (tCut T s m a) c = false ∧ c < 220)
    (hsk : ∀ {Q1 : Option Value → xM → Prop}, Q1 none (sk3 M t (some (φ s)) (nI m) (nI w)) → xSp l g mX8_seek 0 0 [va_rf (some t), va_rf (some tp)] M Q1)
    (hQ : ∀ M1 φ1 sp1, cTr M1 t KK φ1 ψ (tPutG T key v s m w a c).2 sp1 (tCnt (tPutG T key v s m w a c).2) (tKy (tPutG T key v s m w a c).2) → xag (RG t KK ψ) M M1 → Q (some (.int (tPutG T key v s m w a c).1)) M1) : xSp l g mX8_store 0 0 [va_rf (some t), va_rf (some tp), .long v] M Q := by
  obtain ⟨hs, hm, hw, hwl, hnb, hne⟩ := hS
  have h200 := hI.2.2
  have hK4 := h.1.2.2.2
  have hky : tKy T ≤ 220 := by
    have := List.countP_le_length (p := fun n => tU T n && (tV T n).isSome) (l := List.range 220)
    rw [List.length_range] at this
    exact this
  have hs220 := (hW.2.1 s hs).1
  refine eX8_store _ _ _ (bX8_store_0 _ _ _ ⟨h.1.1, fun c1 => ?_, fun c1 => ?_⟩)
  · have k1 : tKy T ≠ 0 := fun z => c1 (by rw [hK4, z]; rfl)
    have n2 : ¬ (tV T (tO T) = none ∧ tC T (tO T) = []) := fun z => k1 ((cnt0_iff (T := T) (fun n => (tV T n).isSome)).mpr (fun n _ hn => by rw [root_alone hW z.2 n hn, z.1]; rfl))
    refine hsk ⟨rfl, h.1.1, ?_⟩
    have hc1 := h.sk hW (some (φ s)) (nI m) (nI w)
    have htp1 : tpR (sk3 M t (some (φ s)) (nI m) (nI w)) tp tb key := tpR_RG htp h htb ((sk3_ag _ _ _).mono (fun x z => by rw [z]; exact RGt))
    have hx1 : xag (RG t KK ψ) M (sk3 M t (some (φ s)) (nI m) (nI w)) := (sk3_ag _ _ _).mono (fun x z => by rw [z]; exact RGt)
    have e5 : xR (sk3 M t (some (φ s)) (nI m) (nI w)) t 5 = some (φ s) := by simp [sk3, xR_sI, xR_sR]
    have e6 : xI (sk3 M t (some (φ s)) (nI m) (nI w)) t 6 = nI m := by simp [sk3, xI_sI]
    have e7 : xI (sk3 M t (some (φ s)) (nI m) (nI w)) t 7 = nI w := by simp [sk3, xI_sI]
    generalize sk3 M t (some (φ s)) (nI m) (nI w) = M3 at *
    have hB := (hc1.2.1.1.1 s hs).1
    have hx12 := (tX_le hW hs).1
    have hF := hI.1 s hs
    unfold tPutG at hQ
    refine ⟨φ s, e5, hB.1.1, fun d1 => ⟨tp, rfl, htp1.1.1, fun d2 => ?_, fun d2 => ?_⟩, fun d1 => ?_⟩
    · have f1 := nle d1 hB.2.1.1 e6
      have f2 := nle d2 htp1.2.1 e7
      refine sX8_storeHere hW hc1 hs e5 (fun M1 r1 r2 => ⟨_, rfl, ?_⟩)
      by_cases hv : (tV T s).isSome = true
      · rw [if_pos hv] at r1 ⊢
        rw [if_pos ⟨by omega, by omega, hv⟩] at hQ
        refine hQ M1 φ sp ?_ (hx1.trans r2)
        dsimp only
        by_cases hvv : tV T s = some v
        · rw [if_pos hvv] at r1 ⊢; exact r1
        · rw [if_neg hvv] at r1 ⊢
          have e : tKy (tFr (tSv T s (some v)) s) = tKy T := (cnt_fr _ _).2.trans (cnt_sv2 hv)
          have e0 : tCnt (tFr (tSv T s (some v)) s) = tCnt T := (cnt_fr _ _).1.trans (cnt_sv _ _ _)
          rw [e, e0]; exact r1
      · rw [if_neg hv] at r1 ⊢
        have hvn : tV T s = none := by
          cases hvv : tV T s with
          | none => rfl
          | some x => rw [hvv] at hv; exact absurd rfl hv
        rw [if_neg (fun z => hv z.2.2), if_neg n2, if_neg (by rw [if_neg (by omega), if_neg (by omega)]; omega), if_neg (by omega), if_neg (by omega)] at hQ
        refine hQ M1 φ sp ?_ (hx1.trans r2)
        rw [if_neg (fun z => by rw [hvn] at z; cases z)] at r1
        have e : tKy (tFr (tSv T s (some v)) s) = tKy T + 1 := (cnt_fr _ _).2.trans (cnt_sv1 hs hs220 hvn)
        have e0 : tCnt (tFr (tSv T s (some v)) s) = tCnt T := (cnt_fr _ _).1.trans (cnt_sv _ _ _)
        dsimp only
        rw [e, e0]; exact r1
    · have f1 := nle d1 hB.2.1.1 e6
      have f2 := nnle d2 htp1.2.1 e7
      have hl := hc1.2.2.1.2.2.2
      refine sX8_storeByChild (c := a) hW hc1 hs e5 ha ha220 hF.1 hF.2.1 htp1 htb h12 f2 e7 (by rw [List.length_drop]; omega) (hnb (by omega) f2) (fun z => ⟨_, rfl, ?_⟩) (fun q sp1 z M1 r1 r2 => ⟨_, rfl, ?_⟩)
      · rw [z, List.length_nil] at hl
        rw [if_neg (by omega), if_neg n2, if_pos (by rw [if_neg (by omega), if_pos (by omega)]; omega)] at hQ
        exact hQ M3 φ sp hc1 hx1
      · rw [z, List.length_cons] at hl
        rw [if_neg (by omega), if_neg n2, if_neg (by rw [if_neg (by omega), if_pos (by omega)]; omega), if_neg (by omega), if_pos f2] at hQ
        have k := cnt_add (T := T) (s := s) (c := a) (b := key.getD w 0) (p := key.drop (w + 1)) (v := v) ha ha220
        refine hQ M1 (va_up φ a q) sp1 ?_ (hx1.trans r2)
        dsimp only
        have ea : tCnt (tFr (tAdd T s a (key.getD w 0) (key.drop (w + 1)) v) a) = tCnt T + 1 := (cnt_fr _ _).1.trans k.1
        have eb : tKy (tFr (tAdd T s a (key.getD w 0) (key.drop (w + 1)) v) a) = tKy T + 1 := (cnt_fr _ _).2.trans k.2
        rw [ea, eb]; exact r1
    · have f1 := nnle d1 hB.2.1.1 e6
      have kc := cnt_cut (T := T) (s := s) (m := m) ha ha220
      refine sX8_storeByCut (a := a) (c := c) hW hc1 hs e5 e6 e7 ha ha220 f1 hwl hw (hne f1) (hc f1) htp1 htb h12 (fun z => ⟨_, rfl, ?_⟩) (fun z1 z2 M1 φ1 sp1 r1 r2 => ⟨_, rfl, ?_⟩) (fun z1 z2 M1 φ1 sp1 r1 r2 => ⟨_, rfl, ?_⟩)
      · rw [if_neg (by omega), if_neg n2, if_pos (by rw [if_pos f1]; omega)] at hQ
        exact hQ M3 φ sp hc1 hx1
      · rw [if_neg (by omega), if_neg n2, if_neg (by rw [if_pos f1, if_pos z2]; omega), if_pos f1, if_pos z2] at hQ
        refine hQ M1 φ1 sp1 ?_ (hx1.trans r2)
        dsimp only
        obtain ⟨hc1, hc2⟩ := hc f1 z2 (by omega)
        have k := cnt_add (T := tFr (tCut T s m a) s) (s := a) (c := c) (b := key.getD w 0) (p := key.drop (w + 1)) (v := v) hc1 hc2
        have ea : tCnt (tFr (tAdd (tFr (tCut T s m a) s) a c (key.getD w 0) (key.drop (w + 1)) v) c) = tCnt T + 2 := by
          have e1 : tCnt (tFr (tAdd (tFr (tCut T s m a) s) a c (key.getD w 0) (key.drop (w + 1)) v) c) = tCnt (tFr (tCut T s m a) s) + 1 := (cnt_fr _ _).1.trans k.1
          have e2 : tCnt (tFr (tCut T s m a) s) = tCnt T + 1 := (cnt_fr _ _).1.trans kc.1
          rw [e1, e2]
        have eb : tKy (tFr (tAdd (tFr (tCut T s m a) s) a c (key.getD w 0) (key.drop (w + 1)) v) c) = tKy T + 1 := by
          have e1 : tKy (tFr (tAdd (tFr (tCut T s m a) s) a c (key.getD w 0) (key.drop (w + 1)) v) c) = tKy (tFr (tCut T s m a) s) + 1 := (cnt_fr _ _).2.trans k.2
          have e2 : tKy (tFr (tCut T s m a) s) = tKy T := (cnt_fr _ _).2.trans kc.2
          rw [e1, e2]
        rw [ea, eb]; exact r1
      · rw [if_neg (by omega), if_neg n2, if_neg (by rw [if_pos f1, if_neg z2]; omega), if_pos f1, if_neg z2] at hQ
        refine hQ M1 φ1 sp1 ?_ (hx1.trans r2)
        dsimp only
        have hau : tU (tFr (tCut T s m a) s) a = true := va_up_self _ _ _
        have hav : tV (tFr (tCut T s m a) s) a = none := va_up_self _ _ _
        have ea : tCnt (tSv (tFr (tCut T s m a) s) a (some v)) = tCnt T + 1 := (cnt_sv _ _ _).trans ((cnt_fr _ _).1.trans kc.1)
        have eb : tKy (tSv (tFr (tCut T s m a) s) a (some v)) = tKy T + 1 := by
          have e1 : tKy (tSv (tFr (tCut T s m a) s) a (some v)) = tKy (tFr (tCut T s m a) s) + 1 := cnt_sv1 hau ha220 hav
          have e2 : tKy (tFr (tCut T s m a) s) = tKy T := (cnt_fr _ _).2.trans kc.2
          rw [e1, e2]
        rw [ea, eb]; exact r1
  · have k1 : tKy T = 0 := by
      have := neq c1 hK4 (b := 0) rfl
      exact this
    have hno : ∀ n, tU T n = true → tV T n = none := by
      intro n hn
      have := (cnt0_iff (T := T) (fun n => (tV T n).isSome)).mp k1 n (hW.2.1 n hn).1 hn
      cases hv : tV T n with
      | none => rfl
      | some x => rw [hv] at this; cases this
    obtain ⟨z1, z2, z3⟩ := tKy0 hW hI hno
    have zr := hno _ hW.1.1
    refine sX8_storeFirst hW h z2 z1 zr htp htb h12 (fun M1 r1 r2 => ⟨_, rfl, ?_⟩)
    unfold tPutG at hQ
    rw [if_neg (fun z => by rw [hno s hs] at z; cases z.2.2), if_pos ⟨zr, z1⟩] at hQ
    refine hQ M1 φ sp ?_ r2
    dsimp only
    have ea : tCnt (tFr (tSv (tXf T (tO T) key (tF T (tO T))) (tO T) (some v)) (tO T)) = tCnt T := (cnt_fr _ _).1.trans ((cnt_sv _ _ _).trans (cnt_xf _ _ _ _).1)
    have eb : tKy (tFr (tSv (tXf T (tO T) key (tF T (tO T))) (tO T) (some v)) (tO T)) = tKy T + 1 := (cnt_fr _ _).2.trans ((cnt_sv1 (T := tXf T (tO T) key (tF T (tO T))) hW.1.1 (hW.2.1 _ hW.1.1).1 zr).trans (by rw [(cnt_xf _ _ _ _).2]))
    rw [ea, eb]; exact r1
theorem sX8_store {tp tb : Nat} {key : List Nat} {v : Int64} (hW : tWF T) (hI : tInv T) (h : cTr M t KK φ ψ T sp (tCnt T) (tKy T)) (htp : tpR M tp tb key) (htb : ∀ a ∈ KK, ψ a ≠ tb) (h12 : key.length ≤ 12)
    (hQ : ∀ M1 φ1 sp1, cTr M1 t KK φ1 ψ (tPut T key v).2 sp1 (tCnt (tPut T key v).2) (tKy (tPut T key v).2) → xag (RG t KK ψ) M M1 → Q (some (.int (tPut T key v).1)) M1) : xSp l g mX8_store 0 0 [va_rf (some t), va_rf (some tp), .long v] M Q :=
  have hf := tFree_ok (T := T) (by have := hI.2.2; omega)
  store_aux hW hI h htp htb h12 (tSe_sk hW key) hf.1 hf.2 (fun _ _ q => tFree2_ok hf.1 hf.2 q) (fun q => sX8_seek hW (h.ns hW) htp h.1.1 h.1.2.1 q) hQ
end ST3
