/-! hang: a new leaf comes into a tree of the class. -/
/-- the cells of a tree -/
def RG (t : Nat) (KK : List Nat) (ψ : Nat → Nat) (a : Nat) : Prop := a = t ∨ a ∈ KK ∨ ∃ b ∈ KK, a = ψ b
theorem frs_ag (s : List Nat) (M : xM) : xag (fun a => a ∈ s) M (frs M s) := by
  obtain ⟨e1, e2, e3, e4, e5⟩ := frs_same s M
  exact ⟨⟨e1, e2, e3, fun a => by rw [e5]⟩, fun a ha => ⟨fun k => by rw [frs_I, if_neg (fun q => ha q.1), if_neg (fun q => ha q.1)], fun k => by rw [e4], fun k => by rw [e5]⟩⟩
theorem gain_ag {M M1 : xM} {a c k f : Nat} {s1 s2 : List Nat} (h : gainP M M1 a c s1 s2 k f) : xag (fun x => x = a ∨ x = c ∨ x ∈ s1) M M1 := by
  obtain ⟨⟨e1, e2, e3, e4⟩, eI, eR⟩ := h
  refine ⟨⟨e1, e2, e3, fun x => by rw [eR, if_neg (fun z => absurd z.2.2 (by decide)), if_neg (fun z => absurd z.2 (by decide)), if_neg (fun z => absurd z.2 (by decide)), if_neg (fun z => absurd z.2 (by decide))]⟩, fun x hx => ⟨fun j => ?_, fun j => by rw [e4], fun j => ?_⟩⟩
  · rw [eI, if_neg (fun q => hx (Or.inl q.1)), if_neg (fun q => hx (Or.inl q.1))]
  · rw [eR, if_neg (fun q => hx (Or.inl q.2.1)), if_neg (fun q => hx (Or.inr (Or.inr (List.mem_of_getLast? q.1)))), if_neg (fun q => hx (Or.inr (Or.inl q.1))), if_neg (fun q => hx (Or.inr (Or.inl q.1)))]
section HG
variable {l : Launch} {g : xG} {M : xM} {Q : Option Value → xM → Prop} {φ ψ : Nat → Nat} {T : TT} {t nd ky : Nat} {KK sp : List Nat}
theorem tw_map {α : Type} (f : Nat → α) (p : α → Bool) (q : Nat → Bool) : ∀ (s : List Nat), (∀ x ∈ s, p (f x) = q x) → (s.map f).takeWhile p = (s.takeWhile q).map f
  | [], _ => rfl
  | x :: s, h => by
    have h1 := h x List.mem_cons_self
    have ih := tw_map f p q s (fun y hy => h y (List.mem_cons_of_mem _ hy))
    simp only [List.map_cons, List.takeWhile_cons, h1]
    cases q x with
    | true => simp [ih]
    | false => rfl
/-- the bytes behind the leaf's own one come on -/
theorem hang_loop {q s tp tb u b : Nat} {key : List Nat} {v : Int64} {w5 : Value} (M0 : xM) (hq : xK M0 q = 1) (htp : tpR M0 tp tb key) (htb : ψ q ≠ tb) (h12 : key.length ≤ 12) (hu : u < key.length)
    (hcont : ∀ M, cNew M ψ q b (key.drop (u + 1)) none → xag (fun a => a = q ∨ a = ψ q) M0 M → xR M = xR M0 → xWp l g mX8_hang 0 0 20 [(1, va_rf (some t)), (1, va_rf (some q)), (1, va_rf (some s)), (1, va_rf (some tp)), (2, .long v), (0, w5), (1, .int (nI key.length))] [] (0, 0) M Q) :
    ∀ (d k : Nat) (M : xM), key.length = u + 1 + k + d → cNew M ψ q b ((key.drop (u + 1)).take k) none → xag (fun a => a = q ∨ a = ψ q) M0 M → xR M = xR M0 → xWp l g mX8_hang 0 0 20 [(1, va_rf (some t)), (1, va_rf (some q)), (1, va_rf (some s)), (1, va_rf (some tp)), (2, .long v), (0, w5), (1, .int (nI (u + 1 + k)))] [] (0, 0) M Q
  | 0, k, M, hd, hn, hx, hr => by
    have e : (key.drop (u + 1)).take k = key.drop (u + 1) := List.take_of_length_le (by rw [List.length_drop]; omega)
    rw [e] at hn
    have e2 : u + 1 + k = key.length := by omega
    rw [e2]
    exact hcont M hn hx hr
  | d + 1, k, M, hd, hn, hx, hr => by
    obtain ⟨⟨n1, n2, n3, n4⟩, ⟨n5, n6⟩, ⟨k2, k3, k4, k5, k6, k7, k8⟩, n10⟩ := id hn
    obtain ⟨⟨p1, p2, p3, p4⟩, p5, -⟩ := id htp
    have hneq : q ≠ ψ q := ne_of_kind n1.2 n3.2 (by decide)
    have hne1 : tp ≠ q := ne_of_kind p1.2 hq (by decide)
    have hK : xK M = xK M0 := hx.1.2.1
    have hne2 : tp ≠ ψ q := ne_of_kind (M := M0) (y := 9) p1.2 (by rw [← hK]; exact n3.2) (by decide)
    have hne3 : tb ≠ q := ne_of_kind p3.2 hq (by decide)
    obtain ⟨f1, f2, f3⟩ := hx.2 tp (fun z => z.elim hne1 hne2)
    obtain ⟨g1, g2, g3⟩ := hx.2 tb (fun z => z.elim hne3 (fun w => htb w.symm))
    have htpM : tpR M tp tb key := tpR_fr htp hx.1.1 hx.1.2.1 hx.1.2.2.1 (f1 1) (f3 0) g1
    have hlen : ((key.drop (u + 1)).take k).length = k := by rw [List.length_take, List.length_drop]; omega
    refine bX8_hang_20 _ _ _ _ _ _ _ ⟨tp, rfl, htpM.1.1, fun c => ?_, fun c => ?_⟩
    · have c1 := nle c htpM.2.1 rfl
      omega
    · refine tp_byteAt htpM (by omega) ⟨_, rfl, q, rfl, n1, ?_⟩
      rw [if_pos (by omega)]
      rw [hlen] at n5 n6
      refine sX3_appendToPrefix n1 n2 n3 n4 n5 (by omega) ⟨rfl, ?_⟩
      rw [nI_1]
      have e3 : u + 1 + k + 1 = u + 1 + (k + 1) := by omega
      rw [e3]
      have hlen1 : ((key.drop (u + 1)).take (k + 1)).length = k + 1 := by rw [List.length_take, List.length_drop]; omega
      refine hang_loop M0 hq htp htb h12 hu hcont d (k + 1) _ (by omega) ⟨⟨n1, n2, n3, n4⟩, ⟨?_, fun i hi => ?_⟩, ⟨?_, ?_, k4, ?_, ?_, ?_, ?_⟩, n10⟩ (hx.trans ((xag_I M (Or.inr rfl)).trans (xag_I _ (Or.inl rfl)))) hr
      · rw [hlen1, xI_sI, if_pos ⟨rfl, rfl⟩]
      · rw [hlen1] at hi
        rw [xI_sI, if_neg (fun z => hneq z.1.symm), xI_sI]
        by_cases hik : i = k
        · subst hik
          rw [if_pos ⟨rfl, rfl⟩]
          congr 1
          simp only [List.getD_eq_getElem?_getD, List.getElem?_take, List.getElem?_drop]
          rw [if_pos (by omega)]
        · rw [if_neg (fun z => hik z.2), n6 i (by omega)]
          congr 1
          simp only [List.getD_eq_getElem?_getD, List.getElem?_take]
          rw [if_pos (by omega), if_pos (by omega)]
      · rw [xI_sI, if_neg (fun z => absurd z.2 (by decide)), xI_sI, if_neg (fun z => hneq z.1)]; exact k2
      · rw [xI_sI, if_neg (fun z => absurd z.2 (by decide)), xI_sI, if_neg (fun z => hneq z.1)]; exact k3
      · rw [xI_sI, if_neg (fun z => absurd z.2 (by decide)), xI_sI, if_neg (fun z => hneq z.1)]; exact k5
      · rw [xI_sI, if_neg (fun z => absurd z.2 (by decide)), xI_sI, if_neg (fun z => hneq z.1)]; exact k6
      · rw [xI_sI, if_neg (fun z => absurd z.2 (by decide)), xI_sI, if_neg (fun z => hneq z.1)]; exact k7
      · rw [xI_sI, if_neg (fun z => absurd z.2 (by decide)), xI_sI, if_neg (fun z => hneq z.1)]; exact k8
end HG
