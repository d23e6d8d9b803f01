/-! WHAT A PAGE SAYS; hanging all children. -/
def pgX (f : Nat → Nat) : List Nat := (List.range (f 10)).map (fun i => f (11 + i))
def pgV (f : Nat → Nat) : Option Int64 := if f 1 = 1 then some (lNm f 2 8) else none
def pgL (f : Nat → Nat) : List (Nat × Nat) := (List.range (f 23)).map (fun k => (f (24 + k), f (24 + fRoom (f 0) + k)))
def pgMg (f : Nat → Nat) : Nat → Nat → Nat → List (Nat × Nat)
  | 0, _, _ => []
  | d + 1, e, k => if f (24 + e) = 0 then pgMg f d (e + 1) k else (e, if f 0 = 4 then f (24 + e) else f (280 + k)) :: pgMg f d (e + 1) (k + 1)
def pgC (f : Nat → Nat) : List (Nat × Nat) := if f 0 < 3 then pgL f else pgMg f 256 0 0
/-- children that may be hung, one behind the other; the pages taken then -/
def acc : Nat → (Nat → Bool) → Option Nat → List (Nat × Nat) → Option (Nat → Bool)
  | _, tk, _, [] => some tk
  | nd, tk, la, (e, p) :: r => if nd < 200 ∧ (∀ b, la = some b → b < e) ∧ 2 ≤ p ∧ tk p = false then acc (nd + 1) (va_up tk p true) (some e) r else none
/-- what changes while children are hung -/
def RH (t a : Nat) (sp0 : List Nat) (ta x : Nat) : Prop := x = t ∨ x = a ∨ x ∈ sp0 ∨ x = ta
/-- which spare nodes were hung, which are left, how many nodes there are -/
def hgO (sp0 : List Nat) (nd0 : Nat) (qs : List (Nat × Nat × Nat)) (sp1 : List Nat) (nd1 : Nat) : Prop := (∀ c ∈ qs, c.1 ∈ sp0) ∧ (∀ x ∈ sp1, x ∈ sp0) ∧ nd1 = nd0 + qs.length
section HL
variable {l : Launch} {g : xG} {M : xM} {Q : Option Value → xM → Prop} {ψ : Nat → Nat} {t r a nd ky : Nat} {v : Option Int64} {X KK sp0 : List Nat} {s d db w rb w2 rb2 ta tr : Nat} {D : Nat → Nat} {pw : Option Nat} {f : Nat → Nat}
theorem tl_RG {sp : List Nat} (h : tl0 M t KK ψ r sp nd ky) {x k : Nat} (hx : xat M x k) (h5 : k ≠ 5) (h1 : k ≠ 1) (h9 : k ≠ 9) : ¬ RG t KK ψ x := fun z => by
  rcases z with z | z | ⟨b, hb, z⟩
  · exact ne_of_kind hx.2 h.1.1.2 h5 z
  · exact ne_of_kind hx.2 (h.2.2.1 _ z).1.2 h1 rfl
  · exact ne_of_kind hx.2 (h.2.2.1 _ hb).2.2.1.2 h9 z
theorem RH_RG (ha : a ∈ KK) (h0 : ∀ x ∈ sp0, x ∈ KK) {x : Nat} (h : RH t a sp0 ta x) : RG t KK ψ x ∨ x = ta := by
  rcases h with h | h | h | h
  · rw [h]; exact Or.inl RGt
  · rw [h]; exact Or.inl (RGk ha)
  · exact Or.inl (RGk (h0 x h))
  · exact Or.inr h
theorem rw_keep {M1 : xM} {sp : List Nat} {tk : Nat → Bool} (h : tl0 M t KK ψ r sp nd ky) (hs : sto M s d db w rb w2 rb2 ta D pw tr tk) (hr : rwR M w rb f) (hx : xag (fun x => RG t KK ψ x ∨ x = ta) M M1) : rwR M1 w rb f :=
  hr.ag hx (fun z => z.elim (tl_RG h hr.1.2.2.1 (by decide) (by decide) (by decide)) (ne_of_kind hr.1.2.2.1.2 hs.2.2.2.2.1.1.2 (by decide)))
theorem sto_tk {sp : List Nat} {tk : Nat → Bool} {q : Nat} (h : tl0 M t KK ψ r (q :: sp) nd ky) (hs : sto M s d db w rb w2 rb2 ta D pw tr tk) : sto (tkM M t q nd) s d db w rb w2 rb2 ta D pw tr tk ∧ xag (fun x => RG t KK ψ x ∨ x = ta) M (tkM M t q nd) := by
  have hqK := h.2.1.2.2.1 q List.mem_cons_self
  have hx : xag (RG t KK ψ) M (tkM M t q nd) := (tk_ag (M := M) (t := t) (nd := nd) q).mono (fun x z => z.elim (fun e => by rw [e]; exact RGt) (fun e => by rw [e]; exact RGk hqK))
  obtain ⟨⟨a1, a2, a3, a4, a5⟩, b, ⟨f1, c1⟩, ⟨f2, c2⟩, ⟨e1, e2, e3⟩, g1⟩ := id hs
  exact ⟨hs.ag hx (tl_RG h a1 (by decide) (by decide) (by decide)) (tl_RG h b.1.1 (by decide) (by decide) (by decide)) (tl_RG h b.1.2.2.1 (by decide) (by decide) (by decide)) (tl_RG h c1.1.2.2.1 (by decide) (by decide) (by decide)) (tl_RG h c2.1.2.2.1 (by decide) (by decide) (by decide)) (tl_RG h e1 (by decide) (by decide) (by decide)), hx.mono (fun x z => Or.inl z)⟩
theorem last_map (qs : List (Nat × Nat × Nat)) : (qs.map (fun q => q.1)).getLast? = qs.getLast?.map (fun q => q.1) ∧ (qs.map (fun q => q.2.1)).getLast? = qs.getLast?.map (fun q => q.2.1) := ⟨List.getLast?_map .., List.getLast?_map ..⟩
theorem pgL_at {qs : List (Nat × Nat × Nat)} {l2 : List (Nat × Nat)} (h : pgL f = qs.map (fun q => q.2) ++ l2) : qs.length + l2.length = f 23 ∧ ∀ e p r, l2 = (e, p) :: r → e = f (24 + qs.length) ∧ p = f (24 + fRoom (f 0) + qs.length) := by
  have hlen : (pgL f).length = f 23 := by unfold pgL; rw [List.length_map, List.length_range]
  refine ⟨by rw [← hlen, h, List.length_append, List.length_map], fun e p r hl => ?_⟩
  have hk : qs.length < f 23 := by rw [← hlen, h, hl, List.length_append, List.length_map, List.length_cons]; omega
  have h1 : (pgL f)[qs.length]? = some (f (24 + qs.length), f (24 + fRoom (f 0) + qs.length)) := by
    unfold pgL
    rw [List.getElem?_map, List.getElem?_range hk]; rfl
  rw [h, hl, List.getElem?_append_right (by rw [List.length_map]; omega), List.length_map, Nat.sub_self, List.getElem?_cons_zero] at h1
  have h2 := Option.some.inj h1
  exact ⟨congrArg Prod.fst h2, congrArg Prod.snd h2⟩
theorem listed_loop {M0 : xM} {A0 : Option (Nat → Bool)} {nd0 : Nat} (hF1 : 1 ≤ f 0) (hF3 : f 0 < 3) (h23 : f 23 ≤ fRoom (f 0)) (hf : ∀ i, f i < 256) (h0K : ∀ x ∈ sp0, x ∈ KK)
    (hfail : A0 = none → ∀ M1 tk1, sto M1 s d db w rb w2 rb2 ta D pw tr tk1 → rwR M1 w rb f → xag (RH t a sp0 ta) M0 M1 → xR M1 t 2 = some r → Q (some (.int 0)) M1)
    (hok : ∀ M1 qs1 sp1 nd1 tk1, qs1.map (fun q => q.2) = pgL f → A0 = some tk1 → hgS M1 t KK ψ r a (f 0) v X qs1 sp1 nd1 ky → sto M1 s d db w rb w2 rb2 ta D pw tr tk1 → rwR M1 w rb f → xag (RH t a sp0 ta) M0 M1 → aK M0 M1 a → hgO sp0 nd0 qs1 sp1 nd1 → Q (some (.int 1)) M1) :
    ∀ (l2 : List (Nat × Nat)) (M1 : xM) (qs : List (Nat × Nat × Nat)) (sp : List Nat) (nd : Nat) (tk : Nat → Bool) (w7 w8 : Value), pgL f = qs.map (fun q => q.2) ++ l2 → hgS M1 t KK ψ r a (f 0) v X qs sp nd ky → sto M1 s d db w rb w2 rb2 ta D pw tr tk → rwR M1 w rb f → xag (RH t a sp0 ta) M0 M1 → aK M0 M1 a → hgO sp0 nd0 qs sp nd → A0 = acc nd tk (qs.map (fun q => q.2.1)).getLast? l2 →
      xWp l g mX6_hangListed 0 0 17 [(1, va_rf (some s)), (1, va_rf (some a)), (1, va_rf (some t)), (1, .int (nI (fRoom (f 0)))), (1, va_rf (qs.map (fun q => q.1)).getLast?), (1, .int (nI (f 23))), (1, .int (nI qs.length)), (0, w7), (0, w8)] [] (0, 0) M1 Q
  | [], M1, qs, sp, nd, tk, w7, w8, hl, h, hs, hr, hx, hk0, hO, hA => by
    have hsp := hO.2.1
    have hqs := hO.1
    have hk := (pgL_at hl).1
    rw [List.length_nil] at hk
    rw [List.append_nil] at hl
    refine bX6_hangListed_17 _ _ _ _ _ _ _ _ _ ⟨fun _ => hok M1 qs sp nd tk hl.symm hA h hs hr hx hk0 hO, fun c => absurd ?_ c⟩
    rw [← hk]; exact Int32.le_refl _
  | (e, p) :: rest, M1, qs, sp, nd, tk, w7, w8, hl, h, hs, hr, hx, hk0, hO, hA => by
    have hsp := hO.2.1
    have hqs := hO.1
    obtain ⟨hk, hat⟩ := pgL_at hl
    obtain ⟨he, hp⟩ := hat e p rest rfl
    rw [List.length_cons] at hk
    have hR16 : fRoom (f 0) ≤ 16 := fRoom2 (by omega) (by omega) hF1 (by omega)
    have hr23 := hf 23
    refine bX6_hangListed_17 _ _ _ _ _ _ _ _ _ ⟨fun c => ?_, fun _ => ⟨hs.1.1, w, hs.1.2.2.1, hr.1.1, ?_⟩⟩
    · exfalso
      have := nle c rfl rfl
      omega
    rw [hs.1.2.2.1, show (24 : Int32) = nI 24 from rfl, nI_add]
    refine sX5_at hr (by omega) ⟨_, rfl, t, rfl, h.1.1.1, ?_⟩
    rw [← he]
    cases sp with
    | nil =>
      have hc1 : xR M1 t 1 = none := h.1.2.1.1
      have hlen := h.1.2.1.2.2.2
      rw [List.length_nil] at hlen
      refine sX8_take0N h.1.1.1 hc1 ⟨_, rfl, fun _ => ?_, fun z => absurd rfl z⟩
      refine hfail ?_ M1 tk hs hr hx h.1.1.2.1
      rw [hA]
      show (if nd < 200 ∧ _ then _ else none) = none
      rw [if_neg (fun z => by omega)]
    | cons q sp =>
      have hqK := h.1.2.1.2.2.1 q List.mem_cons_self
      have hlen := h.1.2.1.2.2.2
      rw [List.length_cons] at hlen
      obtain ⟨s1, x1⟩ := sto_tk h.1 hs
      have x1h : xag (RH t a sp0 ta) M1 (tkM M1 t q nd) := (tk_ag (M := M1) (t := t) (nd := nd) q).mono (fun x z => z.elim (fun e => Or.inl e) (fun e => Or.inr (Or.inr (Or.inl (by rw [e]; exact hsp q List.mem_cons_self)))))
      have hr1 : rwR (tkM M1 t q nd) w rb f := rw_keep h.1 hs hr x1
      have htq : t ≠ q := ne_of_kind h.1.1.1.2 (h.1.2.2.1 q hqK).1.2 (by decide)
      have hR2 : xR (tkM M1 t q nd) t 2 = some r := by rw [tkR, if_neg (fun z => htq z.1), if_neg (fun z => absurd z.2 (by decide))]; exact h.1.1.2.1
      -- when the child is hung
      have hang : (∀ b, (qs.map (fun q => q.2.1)).getLast? = some b → b < e) → xWp l g mX6_hangListed 0 0 66 [(1, va_rf (some s)), (1, va_rf (some a)), (1, va_rf (some t)), (1, .int (nI (fRoom (f 0)))), (1, va_rf (qs.map (fun q => q.1)).getLast?), (1, .int (nI (f 23))), (1, .int (nI qs.length)), (1, .int (nI e)), (1, va_rf (some q))] [] (0, 0) (tkM M1 t q nd) Q := fun hlt => by
        refine bX6_hangListed_66 _ _ _ _ _ _ _ _ _ ⟨s1.1.1, w, s1.1.2.2.1, hr1.1.1, ?_⟩
        rw [s1.1.2.2.1, show (24 : Int32) = nI 24 from rfl, nI_add, nI_add]
        refine sX5_at hr1 (by omega) ⟨_, rfl, s1.1.1, ?_⟩
        rw [← hp]
        have hp256 : p < 256 := by rw [hp]; exact hf _
        have he256 : e < 256 := by rw [he]; exact hf _
        refine sX6_hangBehind h hs he256 hp256 (fun M2 h2 s2 x2 ak2 => ⟨_, rfl, ?_⟩)
        have x2h : xag (RH t a sp0 ta) M1 M2 := x2.mono (fun x z => by
          rcases z with z | z | (z | z) | z
          · exact Or.inl z
          · exact Or.inr (Or.inl z)
          · exact Or.inr (Or.inr (Or.inl (by rw [z]; exact hsp q List.mem_cons_self)))
          · obtain ⟨c, hc, ec⟩ := List.mem_map.mp z
            exact Or.inr (Or.inr (Or.inl (by rw [← ec]; exact hqs c hc)))
          · exact Or.inr (Or.inr (Or.inr z)))
        refine ⟨fun c => ?_, fun c => ?_⟩
        · have hc : 2 ≤ p ∧ tk p = false := Classical.byContradiction (fun z => c (by rw [if_neg z]))
          rw [if_pos hc] at s2
          have hll : (qs ++ [(q, e, p)]).length = qs.length + 1 := by simp
          have hlast : ((qs ++ [(q, e, p)]).map (fun q => q.1)).getLast? = some q := by simp
          have hlast2 : ((qs ++ [(q, e, p)]).map (fun q => q.2.1)).getLast? = some e := by simp
          have key := listed_loop hF1 hF3 h23 hf h0K hfail hok rest M2 (qs ++ [(q, e, p)]) sp (nd + 1) (va_up tk p true) .null .null (by rw [hl, List.map_append, List.append_assoc]; rfl) h2 s2 (rw_keep h.1 hs hr (x2h.mono (fun x z => RH_RG h.2.2.2.2.1 h0K z))) (hx.trans x2h) (hk0.trans ak2) ⟨fun c hc5 => by
            rcases List.mem_append.mp hc5 with hc5 | hc5
            · exact hqs c hc5
            · rw [List.mem_singleton.mp hc5]; exact hsp q List.mem_cons_self, fun x hx5 => hsp x (List.mem_cons_of_mem _ hx5), by have := hO.2.2; rw [hll]; omega⟩ (by
            rw [hA, hlast2]
            show (if nd < 200 ∧ _ then _ else none) = _
            rw [if_pos ⟨by omega, hlt, hc.1, hc.2⟩])
          rw [hll, hlast] at key
          rw [nI_1]
          exact xWp.lw key ⟨Or.inl rfl, Or.inl rfl, Or.inl rfl, Or.inl rfl, Or.inl rfl, Or.inl rfl, Or.inl rfl, Or.inr rfl, Or.inr rfl, trivial⟩
        · have hc : ¬ (2 ≤ p ∧ tk p = false) := fun z => by rw [if_pos z] at c; exact absurd c (by decide)
          refine hfail ?_ M2 _ s2 (rw_keep h.1 hs hr (x2h.mono (fun x z => RH_RG h.2.2.2.2.1 h0K z))) (hx.trans x2h) h2.1.1.2.1
          rw [hA]
          show (if nd < 200 ∧ _ then _ else none) = none
          rw [if_neg (fun z => hc z.2.2)]
      refine sX8_take0 h.1.1.1 h.1.2.1.1.1 h.1.1.2.2.1 (h.1.2.2.1 q hqK).1 ⟨_, rfl, fun z => (by cases z), fun _ => ⟨fun z => ?_, fun z => ?_⟩⟩
      · refine hang (fun b hb => ?_)
        rw [(last_map qs).1] at z
        rw [(last_map qs).2] at hb
        cases hq : qs.getLast? with
        | none => rw [hq] at hb; cases hb
        | some c => rw [hq] at z; cases z
      · rw [(last_map qs).1] at z
        cases hq : qs.getLast? with
        | none => rw [hq] at z; exact absurd rfl z
        | some c =>
          have hcm : c ∈ qs := List.mem_of_getLast? hq
          have hc1 := (h.2.1.2.2.2.2.1 c hcm)
          have hcq : c.1 ≠ q := fun z => (h.2.2.1 c hcm).2.1 (by rw [z]; exact List.mem_cons_self)
          have hct : c.1 ≠ t := ne_of_kind hc1.1.2 h.1.1.1.2 (by decide)
          have e6 : xI (tkM M1 t q nd) c.1 6 = nI c.2.1 := by rw [tkI, if_neg (fun z => hct z.1), if_neg (fun z => hcq z.1)]; exact hc1.2.1
          have he256 : e < 256 := by rw [he]; exact hf _
          have e1 : (qs.map (fun q => q.1)).getLast? = some c.1 := by rw [(last_map qs).1, hq]; rfl
          have e2 : (qs.map (fun q => q.2.1)).getLast? = some c.2.1 := by rw [(last_map qs).2, hq]; rfl
          rw [e1] at hang ⊢
          refine ⟨c.1, rfl, x1.at.mpr hc1.1, fun c3 => ?_, fun c3 => ?_⟩
          · have k := nlt c3 e6 rfl (by omega) (by omega)
            exact hang (fun b hb => by rw [e2] at hb; cases hb; exact k)
          · have k := nnlt c3 e6 rfl (by omega) (by omega)
            refine hfail ?_ (tkM M1 t q nd) tk s1 hr1 (hx.trans x1h) hR2
            rw [hA, e2]
            show (if nd < 200 ∧ _ then _ else none) = none
            rw [if_neg (fun z => by have := z.2.1 c.2.1 rfl; omega)]
theorem mapped_loop {M0 : xM} {A0 : Option (Nat → Bool)} {nd0 : Nat} (hF3 : 3 ≤ f 0) (hF4 : f 0 ≤ 4) (hf : ∀ i, f i < 256) (h0K : ∀ x ∈ sp0, x ∈ KK)
    (hfail : A0 = none → ∀ M1 tk1, sto M1 s d db w rb w2 rb2 ta D pw tr tk1 → rwR M1 w rb f → xag (RH t a sp0 ta) M0 M1 → xR M1 t 2 = some r → Q (some (.int 0)) M1)
    (hok : ∀ M1 qs1 sp1 nd1 tk1, qs1.map (fun q => q.2) = pgMg f 256 0 0 → A0 = some tk1 → hgS M1 t KK ψ r a (f 0) v X qs1 sp1 nd1 ky → sto M1 s d db w rb w2 rb2 ta D pw tr tk1 → rwR M1 w rb f → xag (RH t a sp0 ta) M0 M1 → aK M0 M1 a → hgO sp0 nd0 qs1 sp1 nd1 → Q (some (.int 1)) M1) :
    ∀ (dd e : Nat) (M1 : xM) (qs : List (Nat × Nat × Nat)) (sp : List Nat) (nd : Nat) (tk : Nat → Bool) (w5 w6 w7 : Value), 256 = e + dd → pgMg f 256 0 0 = qs.map (fun q => q.2) ++ pgMg f dd e qs.length → (∀ c ∈ qs, c.2.1 < e) → hgS M1 t KK ψ r a (f 0) v X qs sp nd ky → qs.length ≤ nd → sto M1 s d db w rb w2 rb2 ta D pw tr tk → rwR M1 w rb f → xag (RH t a sp0 ta) M0 M1 → aK M0 M1 a → hgO sp0 nd0 qs sp nd → A0 = acc nd tk (qs.map (fun q => q.2.1)).getLast? (pgMg f dd e qs.length) →
      xWp l g mX6_hangMapped 0 0 5 [(1, va_rf (some s)), (1, va_rf (some a)), (1, va_rf (some t)), (1, va_rf (qs.map (fun q => q.1)).getLast?), (1, .int (nI e)), (0, w5), (0, w6), (0, w7)] [] (0, 0) M1 Q
  | 0, e, M1, qs, sp, nd, tk, w5, w6, w7, hd, hl, hlt, h, hqn, hs, hr, hx, hk0, hO, hA => by
    have hsp := hO.2.1
    have hqs := hO.1
    have he : e = 256 := by omega
    subst he
    have e0 : pgMg f 0 256 qs.length = [] := rfl
    rw [e0] at hl hA
    rw [List.append_nil] at hl
    exact bX6_hangMapped_5 _ _ _ _ _ _ _ _ ⟨fun _ => hok M1 qs sp nd tk hl.symm hA h hs hr hx hk0 hO, fun c => absurd (Int32.le_refl _) c⟩
  | dd + 1, e, M1, qs, sp, nd, tk, w5, w6, w7, hd, hl, hlt, h, hqn, hs, hr, hx, hk0, hO, hA => by
    have hsp := hO.2.1
    have hqs := hO.1
    have hlen := h.1.2.1.2.2.2
    refine bX6_hangMapped_5 _ _ _ _ _ _ _ _ ⟨fun c => ?_, fun _ => ⟨hs.1.1, w, hs.1.2.2.1, hr.1.1, ?_⟩⟩
    · exfalso
      have := nle c (a := 256) rfl rfl
      omega
    rw [hs.1.2.2.1, show (24 : Int32) = nI 24 from rfl, nI_add]
    have hfe := hf (24 + e)
    refine sX5_at hr (by omega) ⟨_, rfl, fun c => ?_, fun c => ?_⟩
    · have hne : f (24 + e) ≠ 0 := nne c rfl (b := 0) rfl
      obtain ⟨pg, hpg⟩ : ∃ pg, pg = if f 0 = 4 then f (24 + e) else f (280 + qs.length) := ⟨_, rfl⟩
      have hpg256 : pg < 256 := by rw [hpg]; split <;> exact hf _
      have hm : pgMg f (dd + 1) e qs.length = (e, pg) :: pgMg f dd (e + 1) (qs.length + 1) := by
        show (if f (24 + e) = 0 then _ else _) = _
        rw [if_neg hne, hpg]
      rw [hm] at hl hA
      have eF : xI M1 a 2 = nI (f 0) := h.2.1.2.2.1.1
      have e5 : xI M1 a 5 = nI qs.length := h.2.1.2.2.1.2.2.2
      -- from the page on
      have go : xWp l g mX6_hangMapped 0 0 63 [(1, va_rf (some s)), (1, va_rf (some a)), (1, va_rf (some t)), (1, va_rf (qs.map (fun q => q.1)).getLast?), (1, .int (nI e)), (1, .int (nI (f (24 + e)))), (0, w6), (0, w7)] [.int (nI pg)] (0, 0) M1 Q := by
        refine bX6_hangMapped_63 _ _ _ _ _ _ _ _ _ ⟨t, rfl, h.1.1.1, ?_⟩
        cases sp with
        | nil =>
          have hc1 : xR M1 t 1 = none := h.1.2.1.1
          rw [List.length_nil] at hlen
          refine sX8_take0N h.1.1.1 hc1 ⟨_, rfl, fun _ => ?_, fun z => absurd rfl z⟩
          refine hfail ?_ M1 tk hs hr hx h.1.1.2.1
          rw [hA]
          show (if nd < 200 ∧ _ then _ else none) = none
          rw [if_neg (fun z => by omega)]
        | cons q sp =>
          rw [List.length_cons] at hlen
          have hqK := h.1.2.1.2.2.1 q List.mem_cons_self
          obtain ⟨s1, x1⟩ := sto_tk h.1 hs
          refine sX8_take0 h.1.1.1 h.1.2.1.1.1 h.1.1.2.2.1 (h.1.2.2.1 q hqK).1 ⟨_, rfl, fun z => (by cases z), fun _ => ⟨s1.1.1, ?_⟩⟩
          refine sX6_hangBehind h hs (by omega) hpg256 (fun M2 h2 s2 x2 ak2 => ⟨_, rfl, ?_⟩)
          have x2h : xag (RH t a sp0 ta) M1 M2 := x2.mono (fun x z => by
            rcases z with z | z | (z | z) | z
            · exact Or.inl z
            · exact Or.inr (Or.inl z)
            · exact Or.inr (Or.inr (Or.inl (by rw [z]; exact hsp q List.mem_cons_self)))
            · obtain ⟨c, hc, ec⟩ := List.mem_map.mp z
              exact Or.inr (Or.inr (Or.inl (by rw [← ec]; exact hqs c hc)))
            · exact Or.inr (Or.inr (Or.inr z)))
          refine ⟨fun c => ?_, fun c => ?_⟩
          · have hc : 2 ≤ pg ∧ tk pg = false := Classical.byContradiction (fun z => c (by rw [if_neg z]))
            rw [if_pos hc] at s2
            have hll : (qs ++ [(q, e, pg)]).length = qs.length + 1 := by simp
            have hlast : ((qs ++ [(q, e, pg)]).map (fun q => q.1)).getLast? = some q := by simp
            have hlast2 : ((qs ++ [(q, e, pg)]).map (fun q => q.2.1)).getLast? = some e := by simp
            have hle : ∀ b, (qs.map (fun q => q.2.1)).getLast? = some b → b < e := fun b hb => by
              obtain ⟨c2, hc2, ec2⟩ := List.mem_map.mp (List.mem_of_getLast? hb)
              rw [← ec2]; exact hlt c2 hc2
            have key := mapped_loop hF3 hF4 hf h0K hfail hok dd (e + 1) M2 (qs ++ [(q, e, pg)]) sp (nd + 1) (va_up tk pg true) .null .null .null (by omega) (by rw [hl, hll, List.map_append, List.append_assoc]; rfl) (fun c2 hc2 => by
              rcases List.mem_append.mp hc2 with hc2 | hc2
              · have := hlt c2 hc2; omega
              · rw [List.mem_singleton.mp hc2]; show e < e + 1; omega) h2 (by rw [hll]; omega) s2 (rw_keep h.1 hs hr (x2h.mono (fun x z => RH_RG h.2.2.2.2.1 h0K z))) (hx.trans x2h) (hk0.trans ak2) ⟨fun c hc5 => by
            rcases List.mem_append.mp hc5 with hc5 | hc5
            · exact hqs c hc5
            · rw [List.mem_singleton.mp hc5]; exact hsp q List.mem_cons_self, fun x hx5 => hsp x (List.mem_cons_of_mem _ hx5), by have := hO.2.2; rw [hll]; omega⟩ (by
              rw [hA, hlast2, hll]
              show (if nd < 200 ∧ _ then _ else none) = _
              rw [if_pos ⟨by omega, hle, hc.1, hc.2⟩])
            rw [hlast] at key
            rw [nI_1]
            exact xWp.lw key ⟨Or.inl rfl, Or.inl rfl, Or.inl rfl, Or.inl rfl, Or.inl rfl, Or.inr rfl, Or.inr rfl, Or.inr rfl, trivial⟩
          · have hc : ¬ (2 ≤ pg ∧ tk pg = false) := fun z => by rw [if_pos z] at c; exact absurd c (by decide)
            refine hfail ?_ M2 _ s2 (rw_keep h.1 hs hr (x2h.mono (fun x z => RH_RG h.2.2.2.2.1 h0K z))) (hx.trans x2h) h2.1.1.2.1
            rw [hA]
            show (if nd < 200 ∧ _ then _ else none) = none
            rw [if_neg (fun z => hc z.2.2)]
      refine ⟨a, rfl, h.2.1.1.1, fun c4 => ⟨hs.1.1, w, hs.1.2.2.1, hr.1.1, ?_⟩, fun c4 => ?_⟩
      · have k4 := nne c4 eF (b := 4) rfl
        rw [hs.1.2.2.1, e5, show (280 : Int32) = nI 280 from rfl, nI_add]
        refine sX5_at hr (by omega) ⟨_, rfl, ?_⟩
        rw [if_neg k4] at hpg
        rw [← hpg]
        exact go
      · have k4 := neq c4 eF (b := 4) rfl
        rw [if_pos k4] at hpg
        rw [hpg] at go
        exact go
    · have he0 : f (24 + e) = 0 := neq c rfl (b := 0) rfl
      have hm : pgMg f (dd + 1) e qs.length = pgMg f dd (e + 1) qs.length := by
        show (if f (24 + e) = 0 then _ else _) = _
        rw [if_pos he0]
      rw [hm] at hl hA
      rw [nI_1]
      refine xWp.lw (mapped_loop hF3 hF4 hf h0K hfail hok dd (e + 1) M1 qs sp nd tk .null w6 w7 (by omega) hl (fun c2 hc2 => by have := hlt c2 hc2; omega) h hqn hs hr hx hk0 hO hA) ⟨Or.inl rfl, Or.inl rfl, Or.inl rfl, Or.inl rfl, Or.inl rfl, Or.inr rfl, Or.inr rfl, Or.inr rfl, trivial⟩
end HL
