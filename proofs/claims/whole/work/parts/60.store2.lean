/-! storeFirst, storeByChild; another prefix in the cells. -/
theorem pfx_app {M0 M : xM} {a pa b : Nat} {p : List Nat} (hne : a ≠ pa) (h : pfxP M0 M a pa p) : pfxP M0 (xsI (xsI M pa p.length (nI b)) a 1 (nI (p.length + 1))) a pa (p ++ [b]) := by
  obtain ⟨e1, e2, e3, e4⟩ := h
  refine ⟨e1, fun x j h1 h2 => ?_, ?_, fun i hi => ?_⟩
  · rw [xI_sI, if_neg h2, xI_sI, if_neg (fun z => h1 z.1)]; exact e2 x j h1 h2
  · rw [xI_sI, if_pos ⟨rfl, rfl⟩, List.length_append]; rfl
  · rw [xI_sI, if_neg (fun z => hne z.1.symm), xI_sI, getD_app]
    rw [List.length_append, List.length_singleton] at hi
    by_cases hip : i = p.length
    · subst hip; rw [if_pos ⟨rfl, rfl⟩, if_neg (Nat.lt_irrefl _), Nat.sub_self]; rfl
    · rw [if_neg (fun z => hip z.2), if_pos (by omega)]; exact e4 i (by omega)
theorem take_snoc {key : List Nat} {k : Nat} (h : k < key.length) : key.take k ++ [key.getD k 0] = key.take (k + 1) := by
  rw [List.take_add_one, List.getElem?_eq_getElem h]
  simp [List.getD_eq_getElem?_getD, List.getElem?_eq_getElem h]
theorem pfx_ag {M0 M : xM} {a pa : Nat} {p : List Nat} (h : pfxP M0 M a pa p) : xag (fun x => x = a ∨ x = pa) M0 M := by
  obtain ⟨⟨e1, e2, e3, e4, e5⟩, e6, -⟩ := h
  exact ⟨⟨e1, e2, e3, fun x => by rw [e5]⟩, fun x hx => ⟨fun k => e6 x k (fun z => hx (Or.inr z)) (fun z => hx (Or.inl z.1)), fun k => by rw [e4], fun k => by rw [e5]⟩⟩
section ST2
variable {l : Launch} {g : xG} {M : xM} {Q : Option Value → xM → Prop} {φ ψ : Nat → Nat} {T : TT} {t nd ky : Nat} {KK sp : List Nat}
theorem xf_c (hi : cInj φ T) (h : cNc M φ ψ T) {n f : Nat} (hn : tU T n = true) (hps : ∀ x, tU T x = true → x ≠ n → ψ (φ x) ≠ ψ (φ n)) {M1 : xM} {p : List Nat} (hs : xL M1 = xL M ∧ xK M1 = xK M ∧ xN M1 = xN M ∧ xJ M1 = xJ M ∧ xR M1 = xR M) (hI : ∀ x j, x ≠ ψ (φ n) → ¬ (x = φ n ∧ j = 1) → ¬ (x = φ n ∧ j = 2) → xI M1 x j = xI M x j) (h1 : xI M1 (φ n) 1 = nI p.length) (h2 : xI M1 (φ n) 2 = nI f) (hp : ∀ i, i < p.length → xI M1 (ψ (φ n)) i = nI (p.getD i 0)) : cNc M1 φ ψ (tXf T n p f) := by
  obtain ⟨s1, s2, s3, s4, s5⟩ := hs
  refine ⟨fun x hx => ?_, by rw [s5]; exact h.2⟩
  have hxu : tU T x = true := hx
  obtain ⟨⟨⟨b1, b1b, b1c, b1d⟩, ⟨b2, b2b⟩, ⟨i2, i3, i4, i5, i6, i7, i8⟩, b4⟩, b5⟩ := h.1 x hxu
  have hk := (h.1 n hn).1.1
  have hxp : φ x ≠ ψ (φ n) := ne_of_kind b1.2 hk.2.2.1.2 (by decide)
  have hF : ∀ j, j ≠ 1 → j ≠ 2 → xI M1 (φ x) j = xI M (φ x) j := fun j h1 h2 => hI _ _ hxp (fun z => h1 z.2) (fun z => h2 z.2)
  have eX : tX (tXf T n p f) x = if x = n then p else tX T x := rfl
  have eF : tF (tXf T n p f) x = if x = n then f else tF T x := rfl
  refine ⟨⟨⟨⟨by rw [s1]; exact b1.1, by rw [s2]; exact b1.2⟩, by rw [s5]; exact b1b, ⟨by rw [s1]; exact b1c.1, by rw [s2]; exact b1c.2⟩, by rw [s3]; exact b1d⟩, ?_, ⟨?_, by rw [hF 3 (by decide) (by decide)]; exact i3, by rw [s4]; exact i4, by rw [hF 5 (by decide) (by decide)]; exact i5, by rw [hF 6 (by decide) (by decide)]; exact i6, by rw [hF 7 (by decide) (by decide)]; exact i7, by rw [hF 8 (by decide) (by decide)]; exact i8⟩, by rw [s5]; exact b4⟩, by rw [s5]; exact chS_fr b5 (fun a _ => by rw [s5])⟩
  · rw [eX]
    by_cases hxn : x = n
    · rw [if_pos hxn, hxn]; exact ⟨h1, hp⟩
    · rw [if_neg hxn]
      have hne : φ x ≠ φ n := fun z => hxn (hi x n hxu hn z)
      have hψ : ψ (φ x) ≠ φ n := ne_of_kind b1c.2 hk.1.2 (by decide)
      exact ⟨by rw [hI _ _ hxp (fun z => hne z.1) (fun z => hne z.1)]; exact b2, fun i hi2 => by rw [hI _ _ (hps x hxu hxn) (fun z => hψ z.1) (fun z => hψ z.1)]; exact b2b i hi2⟩
  · rw [eF]
    by_cases hxn : x = n
    · rw [if_pos hxn, hxn]; exact h2
    · rw [if_neg hxn]
      have hne : φ x ≠ φ n := fun z => hxn (hi x n hxu hn z)
      rw [hI _ _ hxp (fun z => hne z.1) (fun z => hne z.1)]; exact i2
theorem cTr.ps (h : cTr M t KK φ ψ T sp nd ky) {n : Nat} (hn : tU T n = true) : ∀ x, tU T x = true → x ≠ n → ψ (φ x) ≠ ψ (φ n) := fun x hx hne z => hne (h.2.1.2.1 x n hx hn (h.2.2.2.2 _ (h.2.1.2.2 x hx) _ (h.2.1.2.2 n hn) z))
theorem cTr.xf (hW : tWF T) (h : cTr M t KK φ ψ T sp nd ky) {n : Nat} (hn : tU T n = true) {M1 : xM} {p : List Nat} (hp : pfxP M M1 (φ n) (ψ (φ n)) p) : cTr M1 t KK φ ψ (tXf T n p (tF T n)) sp nd ky ∧ xag (RG t KK ψ) M M1 := by
  refine h.no hW ((pfx_ag hp).mono (fun a z => ⟨n, hn, z⟩)) (fun a => by rw [hp.1.2.2.2.2]) ?_ rfl rfl
  have hb := (h.2.1.1.1 n hn).1
  refine xf_c h.2.1.2.1 h.2.1.1 hn (h.ps hn) hp.1 (fun x j h1 h2 _ => hp.2.1 x j h1 h2) hp.2.2.1 ?_ hp.2.2.2
  rw [hp.2.1 _ _ (ne_of_kind hb.1.1.2 hb.1.2.2.1.2 (by decide)) (fun z => absurd z.2 (by decide))]
  exact hb.2.2.1.1
theorem first_loop2 {r tp tb : Nat} {key : List Nat} {v : Int64} {w3 : Value} (hW : tWF T) (h : cTr M t KK φ ψ T sp nd ky) (hr : tU T r = true) (hro : r = tO T) (hX : tX T r = []) (htp : tpR M tp tb key) (htb : ∀ a ∈ KK, ψ a ≠ tb) (h12 : key.length ≤ 12)
    (hcont : ∀ M1, pfxP M M1 (φ r) (ψ (φ r)) key → xWp l g mX8_storeFirst 0 0 3 [(1, va_rf (some t)), (1, va_rf (some tp)), (2, .long v), (0, w3), (1, .int (nI key.length))] [] (0, 0) M1 Q) :
    ∀ (d k : Nat) (M1 : xM), key.length = k + d → pfxP M M1 (φ r) (ψ (φ r)) (key.take k) → xWp l g mX8_storeFirst 0 0 3 [(1, va_rf (some t)), (1, va_rf (some tp)), (2, .long v), (0, w3), (1, .int (nI k))] [] (0, 0) M1 Q
  | 0, k, M1, hd, hp => by
    have e : k = key.length := by omega
    subst e
    rw [List.take_length] at hp
    exact hcont M1 hp
  | d + 1, k, M1, hd, hp => by
    have hb := (h.2.1.1.1 r hr).1.1
    have hx := pfx_ag hp
    have hrK := h.2.1.2.2 r hr
    obtain ⟨⟨y1, y2, y3, y4⟩, y5, -⟩ := id htp
    obtain ⟨f1, f2, f3⟩ := hx.2 tp (fun z => z.elim (ne_of_kind y1.2 hb.1.2 (by decide)) (ne_of_kind y1.2 hb.2.2.1.2 (by decide)))
    obtain ⟨f4, -, -⟩ := hx.2 tb (fun z => z.elim (ne_of_kind y3.2 hb.1.2 (by decide)) (fun w => htb _ hrK w.symm))
    have htp1 : tpR M1 tp tb key := tpR_fr htp hx.1.1 hx.1.2.1 hx.1.2.2.1 (f1 1) (f3 0) f4
    obtain ⟨g1, -, g3⟩ := hx.2 t (fun z => z.elim (ne_of_kind h.1.1.2 hb.1.2 (by decide)) (ne_of_kind h.1.1.2 hb.2.2.1.2 (by decide)))
    have hlen : (key.take k).length = k := by rw [List.length_take]; omega
    have ht2 : xR M1 t 2 = some (φ r) := by rw [g3, hro]; exact h.1.2.1
    refine bX8_storeFirst_3 _ _ _ _ _ ⟨tp, rfl, htp1.1.1, fun c => ?_, fun c => ⟨hx.at.mpr h.1.1, ?_⟩⟩
    · have c1 := nle c htp1.2.1 rfl
      omega
    · refine tp_byteAt htp1 (by omega) ⟨_, rfl, φ r, ht2, hx.at.mpr hb.1, ?_⟩
      rw [if_pos (by omega), ht2]
      refine sX3_appendToPrefix (k := k) (hx.at.mpr hb.1) (by rw [hp.1.2.2.2.2]; exact hb.2.1) (hx.at.mpr hb.2.2.1) (by rw [hx.1.2.2.1]; exact hb.2.2.2) (by rw [hp.2.2.1, hlen]) (by omega) ⟨rfl, ?_⟩
      rw [nI_1]
      have hp2 := pfx_app (b := key.getD k 0) (ne_of_kind hb.1.2 hb.2.2.1.2 (by decide)) hp
      rw [take_snoc (by omega), hlen] at hp2
      exact first_loop2 hW h hr hro hX htp htb h12 hcont d (k + 1) _ (by omega) hp2
theorem sX8_storeFirst {tp tb : Nat} {key : List Nat} {v : Int64} (hW : tWF T) (h : cTr M t KK φ ψ T sp nd ky) (hX : tX T (tO T) = []) (hC : tC T (tO T) = []) (hV : tV T (tO T) = none) (htp : tpR M tp tb key) (htb : ∀ a ∈ KK, ψ a ≠ tb) (h12 : key.length ≤ 12)
    (hQ : ∀ M1, cTr M1 t KK φ ψ (tFr (tSv (tXf T (tO T) key (tF T (tO T))) (tO T) (some v)) (tO T)) sp nd (ky + 1) → xag (RG t KK ψ) M M1 → Q (some (.int 1)) M1) : xSp l g mX8_storeFirst 0 0 [va_rf (some t), va_rf (some tp), .long v] M Q := by
  have hr := hW.1.1
  have hb := (h.2.1.1.1 (tO T) hr).1
  refine eX8_storeFirst _ _ _ (bX8_storeFirst_0 _ _ _ (first_loop2 hW h hr rfl hX htp htb h12 (fun M1 hp => ?_) key.length 0 M (by omega) ⟨⟨rfl, rfl, rfl, rfl, rfl⟩, fun _ _ _ _ => rfl, ?_, fun i hi => absurd hi (by simp)⟩))
  · obtain ⟨q1, q2⟩ := h.xf hW hr hp
    have hW1 := tXf_wf hW rfl hC htp.2.2.2.2 h12 (tF T (tO T))
    have hx := pfx_ag hp
    obtain ⟨⟨y1, y2, y3, y4⟩, y5, -⟩ := id htp
    obtain ⟨f1, -, -⟩ := hx.2 tp (fun z => z.elim (ne_of_kind y1.2 hb.1.1.2 (by decide)) (ne_of_kind y1.2 hb.1.2.2.1.2 (by decide)))
    refine bX8_storeFirst_3 _ _ _ _ _ ⟨tp, rfl, hx.at.mpr y1, fun _ => ⟨q1.1.1, ?_⟩, fun c => absurd ?_ c⟩
    · have q3 : cTr (xsR M1 t 5 (xR M1 t 2)) t KK φ ψ (tXf T (tO T) key (tF T (tO T))) sp nd ky := q1.ob hW1 (xag_R M1 rfl) (by simp [xR_sR]) (by simp [xR_sR]) rfl (by rw [xI_sR]; exact q1.1.2.2.2)
      refine sX8_storeHere (s := tO T) hW1 q3 hr (by rw [xR_sR, if_pos ⟨rfl, rfl⟩]; exact q1.1.2.1) (fun M2 q4 q5 => ⟨_, rfl, ?_⟩)
      have e1 : tV (tXf T (tO T) key (tF T (tO T))) (tO T) = none := hV
      rw [e1] at q4 ⊢
      rw [if_neg (by simp)] at q4
      exact hQ M2 q4 ((q2.trans (xag_R M1 RGt)).trans q5)
    · rw [f1 1, y5]; exact Int32.le_refl _
  · rw [hb.2.1.1, hX]; rfl
theorem sX8_storeByChild {s c u tp tb : Nat} {key : List Nat} {v : Int64} (hW : tWF T) (h : cTr M t KK φ ψ T sp nd ky) (hs : tU T s = true) (h5 : xR M t 5 = some (φ s)) (hc : tU T c = false) (hc220 : c < 220) (hF1 : 1 ≤ tF T s) (hF4 : tF T s ≤ 4)
    (htp : tpR M tp tb key) (htb : ∀ a ∈ KK, ψ a ≠ tb) (h12 : key.length ≤ 12) (hu : u < key.length) (hu7 : xI M t 7 = nI u) (hlen : tL T s + (tX T s).length + 1 + (key.drop (u + 1)).length ≤ 12) (hnb : ∀ x ∈ tC T s, tB T x ≠ key.getD u 0)
    (hQ0 : sp = [] → Q (some (.int (-2))) M) (hQ1 : ∀ q sp1, sp = q :: sp1 → ∀ M1, cTr M1 t KK (va_up φ c q) ψ (tFr (tAdd T s c (key.getD u 0) (key.drop (u + 1)) v) c) sp1 (nd + 1) (ky + 1) → xag (RG t KK ψ) M M1 → Q (some (.int 1)) M1) : xSp l g mX8_storeByChild 0 0 [va_rf (some t), va_rf (some tp), .long v] M Q := by
  refine eX8_storeByChild _ _ _ (bX8_storeByChild_0 _ _ _ ⟨h.1.1, ?_⟩)
  cases sp with
  | nil => exact sX8_takeN h ⟨none, rfl, fun c => absurd rfl c, fun _ => hQ0 rfl⟩
  | cons q sp1 =>
    obtain ⟨q1, q2, q3, q4⟩ := tk_c hW h
    have hag := tk_ag (M := M) (t := t) (nd := nd) q
    have hqK := (h.2.2.1.2.2.1 q List.mem_cons_self).1
    have hqa := (h.2.2.2.1 q hqK).1
    have htq : t ≠ q := ne_of_kind h.1.1.2 hqa.2 (by decide)
    have hx0 : xag (RG t KK ψ) M (tkM M t q nd) := hag.mono (fun a z => z.elim (fun e => by rw [e]; exact RGt) (fun e => by rw [e]; exact RGk hqK))
    refine sX8_take h ⟨some q, rfl, fun _ => ⟨q1.1.1, ?_⟩, fun c => (by cases c)⟩
    have e5 : xR (tkM M t q nd) t 5 = some (φ s) := by
      simp only [tkM]
      rw [xR_sI, rst_R, if_neg (fun z => htq z.1), xR_sR, if_neg (fun z => absurd z.2 (by decide))]; exact h5
    have e7 : xI (tkM M t q nd) t 7 = nI u := by
      simp only [tkM]
      rw [xI_sI, if_neg (fun z => absurd z.2 (by decide)), rst_I, if_neg (fun z => htq z.1), xI_sR]; exact hu7
    rw [e5]
    have htp1 : tpR (tkM M t q nd) tp tb key := by
      obtain ⟨⟨y1, y2, y3, y4⟩, y5, -⟩ := id htp
      obtain ⟨f1, f2, f3⟩ := hag.2 tp (fun z => z.elim (ne_of_kind y1.2 h.1.1.2 (by decide)) (ne_of_kind y1.2 hqa.2 (by decide)))
      obtain ⟨f4, -, -⟩ := hag.2 tb (fun z => z.elim (ne_of_kind y3.2 h.1.1.2 (by decide)) (ne_of_kind y3.2 hqa.2 (by decide)))
      exact tpR_fr htp hag.1.1 hag.1.2.1 hag.1.2.2.1 (f1 1) (f3 0) f4
    exact sX8_hang hW q1 hqK (List.nodup_cons.mp h.2.2.1.2.1).1 (h.2.2.1.2.2.1 q List.mem_cons_self).2 q2 hs hc hc220 hF1 hF4 htp1 htb h12 hu e7 hlen hnb (fun M1 r1 r2 => ⟨rfl, hQ1 q sp1 rfl M1 r1 (hx0.trans r2)⟩)
end ST2
