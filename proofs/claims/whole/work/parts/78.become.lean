/-! become. -/
section BC2
variable {l : Launch} {g : xG} {M : xM} {Q : Option Value → xM → Prop} {φ ψ τ φ2 : Nat → Nat} {T : TT} {t t2 st nd nd2 ky r : Nat} {KK sp KK2 sp2 : List Nat}
theorem cTr.tw (h : cTr M t KK φ ψ T sp nd ky) (a : Nat) (v : Option Nat) : cTr (xsR M a 12 v) t KK φ ψ T sp nd ky := by
  obtain ⟨⟨h1, h2, h3, h4⟩, ⟨n1, n2, n3⟩, ⟨c1, c2, c3, c4⟩, k1, k2⟩ := h
  have hR : ∀ x j, j ≠ 12 → xR (xsR M a 12 v) x j = xR M x j := fun x j hj => by rw [xR_sR, if_neg (fun z => hj z.2)]
  refine ⟨⟨h1, by rw [hR _ _ (by decide)]; exact h2, h3, h4⟩, ⟨⟨fun n hn => ?_, by rw [hR _ _ (by decide)]; exact n1.2⟩, n2, n3⟩, ⟨?_, c2, c3, c4⟩, fun b hb => ?_, k2⟩
  · obtain ⟨⟨⟨b1, b1b, b1c, b1d⟩, b2, b3, b4⟩, b5⟩ := n1.1 n hn
    exact ⟨⟨⟨b1, by rw [hR _ _ (by decide)]; exact b1b, b1c, b1d⟩, b2, b3, by rw [hR _ _ (by decide)]; exact b4⟩, by rw [hR _ _ (by decide)]; exact chS_fr b5 (fun x _ => hR x 11 (by decide))⟩
  · rw [hR _ _ (by decide)]; exact chS_fr c1 (fun x _ => hR x 11 (by decide))
  · obtain ⟨d1, d2, d3, d4⟩ := k1 b hb
    exact ⟨d1, by rw [hR _ _ (by decide)]; exact d2, d3, d4⟩
theorem become1 (hW : tWF T) (h200 : tCnt T ≤ 200) (hdis : ∀ a, RG t KK ψ a → ¬ RG t2 KK2 ψ a) {M0 : xM}
    (hcont : ∀ (M1 : xM) (τ : Nat → Nat) (sp : List Nat), cTr M1 t KK (fun _ => r) ψ tNil sp (tCnt T) 0 → cTr M1 t2 KK2 φ2 ψ T sp2 nd2 ky → (∀ n, tU T n = true → xR M1 (φ2 n) 12 = some (τ n) ∧ τ n ∈ KK ∧ τ n ∉ sp) → (∀ a b, tU T a = true → tU T b = true → τ a = τ b → a = b) → τ (tO T) = r → xag (fun a => RG t KK ψ a ∨ RG t2 KK2 ψ a) M0 M1 → xWp l g mX8_become 0 0 9 [(1, va_rf (some t)), (1, va_rf (some t2)), (1, va_rf none)] [] (0, 0) M1 Q) :
    ∀ (l2 l1 : List Nat) (M1 : xM) (τ : Nat → Nat) (sp : List Nat), tEs T = l1 ++ l2 → tO T ∈ l1 → cTr M1 t KK (fun _ => r) ψ tNil sp l1.length 0 → cTr M1 t2 KK2 φ2 ψ T sp2 nd2 ky → (∀ n ∈ l1, xR M1 (φ2 n) 12 = some (τ n) ∧ τ n ∈ KK ∧ τ n ∉ sp) → (∀ a ∈ l1, ∀ b ∈ l1, τ a = τ b → a = b) → τ (tO T) = r → xag (fun a => RG t KK ψ a ∨ RG t2 KK2 ψ a) M0 M1 → xWp l g mX8_become 0 0 9 [(1, va_rf (some t)), (1, va_rf (some t2)), (1, va_rf (l2.head?.map φ2))] [] (0, 0) M1 Q
  | [], l1, M1, τ, sp, hl, ho, h1, h2, hτ, hi, hr, hx => by
    rw [List.append_nil] at hl
    have hlen : l1.length = tCnt T := by rw [← hl]; exact tEs_len hW
    rw [hlen] at h1
    exact hcont M1 τ sp h1 h2 (fun n hn => hτ n (by rw [← hl]; exact (tEs_mem hW).mpr hn)) (fun a b ha hb => hi a (by rw [← hl]; exact (tEs_mem hW).mpr ha) b (by rw [← hl]; exact (tEs_mem hW).mpr hb)) hr hx
  | n :: rest, l1, M1, τ, sp, hl, ho, h1, h2, hτ, hi, hr, hx => by
    obtain ⟨hn, hN⟩ := tEs_at hW hl
    have hnd := tEs_nodup hW
    have hlen := tEs_len hW
    have hcnt : tCnt T = (l1 ++ n :: rest).length := by rw [← hl]; exact hlen.symm
    rw [List.length_append, List.length_cons] at hcnt
    rw [hl] at hnd
    have hnl : n ∉ l1 := fun z => (List.nodup_append.mp hnd).2.2 n z n List.mem_cons_self rfl
    have hno : n ≠ tO T := fun z => hnl (z ▸ ho)
    have h2b := (h2.2.1.1.1 n hn).1.1.1
    refine bX8_become_9 _ _ _ ⟨fun z => (by cases z), fun _ => ⟨t2, rfl, h2.1.1, fun c => ⟨h1.1.1, ?_⟩, fun c => ?_⟩⟩
    · have hl200 := h1.2.2.1.2.2.2
      match sp, h1, hl200, hτ with
      | [], h1, hl200, hτ => simp at hl200; omega
      | q :: sp, h1, hl200, hτ =>
        have hqK := (h1.2.2.1.2.2.1 q List.mem_cons_self).1
        have hag := tk_ag (M := M1) (t := t) (nd := l1.length) q
        have k1 := (tk_c tNil_wf h1).1
        have hp2 : ∀ a, (a = t ∨ a = q) → ¬ RG t2 KK2 ψ a := fun a z => hdis a (z.elim (fun e => by rw [e]; exact RGt) (fun e => by rw [e]; exact RGk hqK))
        have k2 := h2.ag hW hag hp2
        refine sX8_take h1 ⟨some q, rfl, φ2 n, rfl, hag.at.mpr h2b, ?_⟩
        have k3 := k1.tw (φ2 n) (some q)
        have k4 := k2.tw (φ2 n) (some q)
        refine sX3_following hW (k4.ns hW) hn ⟨_, rfl, ?_⟩
        rw [hN]
        have hnd1 := List.nodup_cons.mp h1.2.2.1.2.1
        refine become1 hW h200 hdis hcont rest (l1 ++ [n]) _ (va_up τ n q) sp (by rw [hl]; simp) (List.mem_append_left _ ho) (by rw [List.length_append]; exact k3) k4 (fun m hm => ?_) (fun a ha b hb e => ?_) (by rw [va_up_ne _ _ (Ne.symm hno)]; exact hr) (hx.trans ((hag.mono (fun a z => Or.inl (z.elim (fun e => by rw [e]; exact RGt) (fun e => by rw [e]; exact RGk hqK)))).trans (xag_R _ (Or.inr (RGk (h2.2.1.2.2 n hn))))))
        · by_cases hmn : m = n
          · subst hmn
            rw [va_up_self]
            exact ⟨by rw [xR_sR, if_pos ⟨rfl, rfl⟩], hqK, hnd1.1⟩
          · have hml : m ∈ l1 := by
              rcases List.mem_append.mp hm with hm | hm
              · exact hm
              · exact absurd (List.mem_singleton.mp hm) hmn
            have hmu : tU T m = true := (tEs_mem hW).mp (by rw [hl]; exact List.mem_append_left _ hml)
            obtain ⟨f1, f2, f3⟩ := hτ m hml
            rw [va_up_ne _ _ hmn]
            refine ⟨?_, f2, fun z => f3 (List.mem_cons_of_mem _ z)⟩
            rw [xR_sR, if_neg (fun z => hmn (h2.2.1.2.1 m n hmu hn z.1)), (hag.2 _ (fun z => hp2 _ z (RGk (h2.2.1.2.2 m hmu)))).2.2]
            exact f1
        · have hin : ∀ m, m ∈ l1 ++ [n] → m ≠ n → m ∈ l1 ∧ τ m ≠ q := fun m hm hmn => by
            have hml : m ∈ l1 := by
              rcases List.mem_append.mp hm with hm | hm
              · exact hm
              · exact absurd (List.mem_singleton.mp hm) hmn
            exact ⟨hml, fun z => (hτ m hml).2.2 (by rw [z]; exact List.mem_cons_self)⟩
          by_cases han : a = n
          · by_cases hbn : b = n
            · rw [han, hbn]
            · rw [han, va_up_self, va_up_ne _ _ hbn] at e
              exact absurd e.symm (hin b hb hbn).2
          · by_cases hbn : b = n
            · rw [hbn, va_up_self, va_up_ne _ _ han] at e
              exact absurd e (hin a ha han).2
            · rw [va_up_ne _ _ han, va_up_ne _ _ hbn] at e
              exact hi a (hin a ha han).1 b (hin b hb hbn).1 e
    · exfalso
      have c1 : some (φ2 n) = some (φ2 (tO T)) := c.trans h2.1.2.1
      exact hno (h2.2.1.2.1 n _ hn hW.1.1 (Option.some.inj c1))
theorem become2 (hW : tWF T) (hdis : ∀ a, RG t KK ψ a → ¬ RG t2 KK2 ψ a) {Mb : xM} (h1 : cTr Mb t KK (fun _ => r) ψ tNil sp nd 0) (h2 : cTr Mb t2 KK2 φ2 ψ T sp2 nd2 ky) (hτ : ∀ n, tU T n = true → xR Mb (φ2 n) 12 = some (τ n) ∧ τ n ∈ KK ∧ τ n ∉ sp) (hi : ∀ a b, tU T a = true → tU T b = true → τ a = τ b → a = b)
    (hcont : ∀ M1, (∀ n, tU T n = true → cN M1 τ ψ T n) → xag (fun x => ∃ m, tU T m = true ∧ (x = τ m ∨ x = ψ (τ m))) Mb M1 → xWp l g mX8_become 0 0 49 [(1, va_rf (some t)), (1, va_rf (some t2)), (1, va_rf none)] [] (0, 0) M1 Q) :
    ∀ (l2 l1 : List Nat) (M1 : xM), tEs T = l1 ++ l2 → (∀ n ∈ l1, cN M1 τ ψ T n) → xag (fun x => ∃ m, tU T m = true ∧ (x = τ m ∨ x = ψ (τ m))) Mb M1 → (∀ x, xR M1 x 12 = xR Mb x 12) → xWp l g mX8_become 0 0 49 [(1, va_rf (some t)), (1, va_rf (some t2)), (1, va_rf (l2.head?.map φ2))] [] (0, 0) M1 Q
  | [], l1, M1, hl, hc, hx, hR => by
    rw [List.append_nil] at hl
    exact hcont M1 (fun n hn => hc n (by rw [← hl]; exact (tEs_mem hW).mpr hn)) hx
  | n :: rest, l1, M1, hl, hc, hx, hR => by
    obtain ⟨hn, hN⟩ := tEs_at hW hl
    have hnd := tEs_nodup hW
    rw [hl] at hnd
    have hnl : n ∉ l1 := fun z => (List.nodup_append.mp hnd).2.2 n z n List.mem_cons_self rfl
    have hPn : ∀ a, (∃ m, tU T m = true ∧ (a = τ m ∨ a = ψ (τ m))) → ¬ RG t2 KK2 ψ a := fun a z => by
      obtain ⟨m, hm, e | e⟩ := z
      · exact hdis a (by rw [e]; exact RGk (hτ m hm).2.1)
      · exact hdis a (by rw [e]; exact RGp (hτ m hm).2.1)
    have k2 := h2.ag hW hx hPn
    have hD : ∀ m, tU T m = true → xat M1 (τ m) 1 ∧ xR M1 (τ m) 0 = some (ψ (τ m)) ∧ xat M1 (ψ (τ m)) 9 ∧ xN M1 (ψ (τ m)) = 12 := fun m hm => by
      obtain ⟨d1, d2, d3, d4⟩ := h1.2.2.2.1 _ (hτ m hm).2.1
      exact ⟨hx.at.mpr d1, by rw [hx.1.2.2.2]; exact d2, hx.at.mpr d3, by rw [hx.1.2.2.1]; exact d4⟩
    have h12 : ∀ m, tU T m = true → xR M1 (φ2 m) 12 = some (τ m) := fun m hm => by rw [hR]; exact (hτ m hm).1
    refine bX8_become_49 _ _ _ ⟨fun z => (by cases z), fun _ => ⟨φ2 n, rfl, (k2.2.1.1.1 n hn).1.1.1, fun c => ?_, fun _ => ⟨τ n, h12 n hn, (hD n hn).1, ?_⟩⟩⟩
    · rw [h12 n hn] at c; cases c
    rw [h12 n hn]
    refine sX3_mirror (φ := φ2) (τ := τ) hW hn (fun m hm => ⟨k2.ns hW m hm, h12 m hm⟩) (fun m hm z => hdis (τ n) (RGk (hτ n hn).2.1) (by rw [← z]; exact RGk (h2.2.1.2.2 m hm))) (fun m hm z => hdis (ψ (τ n)) (RGp (hτ n hn).2.1) (by rw [← z]; exact RGp (h2.2.1.2.2 m hm))) (hD n hn) (fun M2 c1 x1 R1 => ⟨rfl, ?_⟩)
    have hx2 := hx.trans (x1.mono (fun a z => ⟨n, hn, z⟩))
    have k3 := h2.ag hW hx2 hPn
    refine ⟨(k3.2.1.1.1 n hn).1.1.1, sX3_following hW (k3.ns hW) hn ⟨_, rfl, ?_⟩⟩
    rw [hN]
    refine become2 hW hdis h1 h2 hτ hi hcont rest (l1 ++ [n]) M2 (by rw [hl]; simp) (fun m hm => ?_) hx2 (fun x => by rw [R1, hR])
    by_cases hmn : m = n
    · rw [hmn]; exact c1
    · have hml : m ∈ l1 := by
        rcases List.mem_append.mp hm with hm | hm
        · exact hm
        · exact absurd (List.mem_singleton.mp hm) hmn
      have hmu : tU T m = true := (tEs_mem hW).mp (by rw [hl]; exact List.mem_append_left _ hml)
      refine cN_ag (hc m hml) x1 (fun z => ?_) (fun z => ?_)
      · rcases z with z | z
        · exact hmn (hi m n hmu hn z)
        · exact ne_of_kind (hD m hmu).1.2 (hD n hn).2.2.1.2 (by decide) z
      · rcases z with z | z
        · exact ne_of_kind (hD m hmu).2.2.1.2 (hD n hn).1.2 (by decide) z
        · exact hmn (hi m n hmu hn (h1.2.2.2.2 _ (hτ m hmu).2.1 _ (hτ n hn).2.1 z))
theorem sX8_become (hW : tWF T) (h200 : tCnt T ≤ 200) (hk : cKK M t st KK ψ) (hr : xR M t 2 = some r) (hrK : r ∈ KK) (h2 : cTr M t2 KK2 φ2 ψ T sp2 nd2 ky) (hdis : ∀ a, RG t KK ψ a → ¬ RG t2 KK2 ψ a)
    (hQ : ∀ M1 τ sp, cTr M1 t KK τ ψ T sp (tCnt T) ky → cTr M1 t2 KK2 φ2 ψ T sp2 nd2 ky → xag (fun a => RG t KK ψ a ∨ RG t2 KK2 ψ a) M M1 → Q none M1) : xSp l g mX8_become 0 0 [va_rf (some t), va_rf (some t2)] M Q := by
  refine eX8_become _ _ (bX8_become_0 _ _ ⟨hk.1, sX8_clear hk hr hrK (fun M1 c1 x1 => ⟨rfl, t2, rfl, x1.at.mpr h2.1.1, ?_⟩)⟩)
  have k2 := h2.ag hW x1 hdis
  obtain ⟨rest, hes⟩ : ∃ rest, tEs T = tO T :: rest := by
    have := tEs_head T
    cases he : tEs T with
    | nil => rw [he] at this; cases this
    | cons a s => rw [he] at this; exact ⟨s, by rw [Option.some.inj this]⟩
  have hN := (tEs_at hW (l1 := []) hes).2
  have hro := hW.1.1
  rw [k2.1.2.1]
  refine bX8_become_9 _ _ _ ⟨fun z => (by cases z), fun _ => ⟨t2, rfl, k2.1.1, fun c => absurd k2.1.2.1.symm c, fun _ => ⟨c1.1.1, φ2 (tO T), rfl, (k2.2.1.1.1 _ hro).1.1.1, ?_⟩⟩⟩
  rw [c1.1.2.1]
  have k3 := c1.tw (φ2 (tO T)) (some r)
  have k4 := k2.tw (φ2 (tO T)) (some r)
  refine sX3_following hW (k4.ns hW) hro ⟨_, rfl, ?_⟩
  rw [hN]
  have hx1 : xag (fun a => RG t KK ψ a ∨ RG t2 KK2 ψ a) M (xsR M1 (φ2 (tO T)) 12 (some r)) := (x1.mono (fun a z => Or.inl z)).trans (xag_R _ (Or.inr (RGk (h2.2.1.2.2 _ hro))))
  refine become1 hW h200 hdis (M0 := M) (fun Mb τ sp d1 d2 dτ di dr dx => ?_) rest [tO T] _ (fun _ => r) _ (by rw [hes]; rfl) List.mem_cons_self k3 k4 (fun n hn => ?_) (fun a ha b hb _ => by rw [List.mem_singleton.mp ha, List.mem_singleton.mp hb]) rfl hx1
  · refine bX8_become_9 _ _ _ ⟨fun _ => ⟨t2, rfl, d2.1.1, ?_⟩, fun z => absurd rfl z⟩
    have e2 : xR Mb t2 2 = (tEs T).head?.map φ2 := by rw [tEs_head]; exact d2.1.2.1
    rw [e2]
    refine become2 hW hdis d1 d2 dτ di (fun M2 hc hx2 => ?_) (tEs T) [] Mb rfl (fun n hn => by cases hn) xag.rf (fun _ => rfl)
    have hPn : ∀ a, (∃ m, tU T m = true ∧ (a = τ m ∨ a = ψ (τ m))) → RG t KK ψ a := fun a z => by
      obtain ⟨m, hm, e | e⟩ := z
      · rw [e]; exact RGk (dτ m hm).2.1
      · rw [e]; exact RGp (dτ m hm).2.1
    have k5 := d2.ag hW hx2 (fun a z => hdis a (hPn a z))
    have e4 : xI M2 t2 4 = nI ky := k5.1.2.2.2
    refine bX8_become_49 _ _ _ ⟨fun _ => ⟨t2, rfl, k5.1.1, hx2.at.mpr d1.1.1, ?_⟩, fun z => absurd rfl z⟩
    rw [e4]
    have hxb : xag (RG t KK ψ) Mb (xsI M2 t 4 (nI ky)) := (hx2.mono hPn).trans (xag_I _ RGt)
    have htP : ¬ ∃ m, tU T m = true ∧ (t = τ m ∨ t = ψ (τ m)) := fun z => by
      obtain ⟨m, hm, e | e⟩ := z
      · exact ne_of_kind d1.1.1.2 (d1.2.2.2.1 _ (dτ m hm).2.1).1.2 (by decide) e
      · exact ne_of_kind d1.1.1.2 (d1.2.2.2.1 _ (dτ m hm).2.1).2.2.1.2 (by decide) e
    obtain ⟨f1, f2, f3⟩ := hx2.2 t htP
    obtain ⟨c1', c2', c3', c4'⟩ := d1.2.2.1
    have k6 : cTr (xsI M2 t 4 (nI ky)) t KK τ ψ T sp (tCnt T) ky := by
      refine cTr_up d1 hxb (fun a _ => hxb.1.2.2.2 a) ?_ ?_ ?_ ?_ (fun a b ha hb e => di a b ha hb e) (fun n hn => (dτ n hn).2.1) ?_ c2' (fun a ha => ⟨(c3' a ha).1, fun n hn z => (dτ n hn).2.2 (z ▸ ha)⟩) c4'
      · rw [xR_sI, f3, dr]; exact d1.1.2.1
      · rw [xI_sI, if_neg (fun z => absurd z.2 (by decide)), f1]; exact d1.1.2.2.1
      · rw [xI_sI, if_pos ⟨rfl, rfl⟩]
      · refine cNs.c hW (fun n hn => cN_ag (hc n hn) (xag_I (P := fun a => a = t) M2 rfl) (fun z => ?_) (fun z => ?_))
        · exact htP ⟨n, hn, Or.inl z.symm⟩
        · exact htP ⟨n, hn, Or.inr z.symm⟩
      · rw [xR_sI, f3]
        refine chS_fr c1' (fun a ha => ?_)
        rw [xR_sI]
        refine (hx2.2 a (fun z => ?_)).2.2 11
        obtain ⟨m, hm, e | e⟩ := z
        · exact (dτ m hm).2.2 (e ▸ ha)
        · exact ne_of_kind (d1.2.2.2.1 _ (c3' a ha).1).1.2 (d1.2.2.2.1 _ (dτ m hm).2.1).2.2.1.2 (by decide) e
    have k7 : cTr (xsI M2 t 4 (nI ky)) t2 KK2 φ2 ψ T sp2 nd2 ky := k5.ag hW (xag_I (P := fun a => a = t) M2 rfl) (fun a z => by rw [z]; exact hdis t RGt)
    exact hQ _ τ sp k6 k7 (dx.trans (hxb.mono (fun a z => Or.inl z)))
  · rw [List.mem_singleton.mp hn]
    exact ⟨by rw [xR_sR, if_pos ⟨rfl, rfl⟩], hrK, fun z => (c1.2.2.1.2.2.1 r z).2 0 rfl rfl⟩
end BC2
