/-! A node that was read, in the cells. -/
theorem map_idx {α : Type} (df : α) : ∀ (cids : List Nat) (cs : List α), cids.Nodup → cs.length = cids.length → cids.map (fun x => cs.getD (cids.idxOf x) df) = cs
  | [], cs, _, h => by
    have : cs = [] := List.length_eq_zero_iff.mp h
    rw [this]; rfl
  | a :: r, [], _, h => by simp at h
  | a :: r, c :: cs, hd, h => by
    obtain ⟨d1, d2⟩ := List.nodup_cons.mp hd
    have ih := map_idx df r cs d2 (by simpa using h)
    rw [List.map_cons]
    congr 1
    · simp [List.idxOf_cons]
    · conv => rhs; rw [← ih]
      refine List.map_congr_left (fun x hx => ?_)
      have hxa : ¬ a = x := fun z => d1 (z ▸ hx)
      have hb : (a == x) = false := by simpa using hxa
      simp [List.idxOf_cons, hb]
theorem nodup_inj {f : Nat → Nat} : ∀ (l : List Nat), (l.map f).Nodup → ∀ x ∈ l, ∀ y ∈ l, f x = f y → x = y
  | [], _, x, hx, _, _, _ => by cases hx
  | a :: r, h, x, hx, y, hy, e => by
    rw [List.map_cons] at h
    obtain ⟨d1, d2⟩ := List.nodup_cons.mp h
    rcases List.mem_cons.mp hx with h1 | h1
    · rcases List.mem_cons.mp hy with h2 | h2
      · rw [h1, h2]
      · exact absurd (by rw [← h1, e]; exact List.mem_map_of_mem h2) d1
    · rcases List.mem_cons.mp hy with h2 | h2
      · exact absurd (by rw [← h2, ← e]; exact List.mem_map_of_mem h1) d1
      · exact nodup_inj r d2 x h1 y h2 e
def tri (cids : List Nat) (qs : List (Nat × Nat × Nat)) (x : Nat) : Nat × Nat × Nat := qs.getD (cids.idxOf x) (0, 0, 0)
def phL (φ : Nat → Nat) (cids : List Nat) (qs : List (Nat × Nat × Nat)) : Nat → Nat := fun x => if x ∈ cids then (tri cids qs x).1 else φ x
section LD2
variable {φ ψ : Nat → Nat} {T : TT} {t n F r nd ky nd1 ky1 ta rb rb2 : Nat} {v : Option Int64} {X cids KK sp sp1 : List Nat} {cs : List (Nat × Nat)} {qs : List (Nat × Nat × Nat)} {M0 M1 : xM}
theorem ld_c (hW : tWF T) (h0 : cTr M0 t KK φ ψ T sp nd ky) (hH : ldH T n X cids cs) (h : hgS M1 t KK ψ r (φ n) F v X qs sp1 nd1 ky1) (hx : xag (RLd t (φ n) (ψ (φ n)) sp ta rb rb2) M0 M1) (hka : xK M0 ta = 11) (hkb : xK M0 rb = 8) (hkc : xK M0 rb2 = 8) (hfc : aFc M0 M1 (φ n)) (hO : hgO sp nd qs sp1 nd1) (hqs : qs.map (fun q => q.2) = cs) (hr : r = φ (tO T)) : cTr M1 t KK (phL φ cids qs) ψ (tLd T n F v X cids cs) sp1 nd1 ky1 := by
  obtain ⟨⟨hn, hC⟩, ⟨hL, hXb⟩, ⟨hnd, hids, hlen⟩, ⟨hsort, hb⟩, h12⟩ := hH
  obtain ⟨⟨a1, a2, a3, a4⟩, ⟨n1, n2, n3⟩, ⟨c1, c2, c3, c4⟩, k1, k2⟩ := id h0
  obtain ⟨⟨⟨t1, t2, t3, t4⟩, ⟨e1, e2, e3, e4⟩, d1, d2⟩, hN, hq, hqnd, haK, hasp⟩ := id h
  obtain ⟨⟨m1, m2, m3, m4⟩, ⟨m5, m6⟩, ⟨i2, i3, i4, i5⟩, ch, hch, x12, x256⟩ := id hN
  have hqlen : qs.length = cids.length := by rw [← hlen, ← hqs, List.length_map]
  have hmap : cids.map (tri cids qs) = qs := map_idx (0, 0, 0) cids qs hnd hqlen
  have htm : ∀ x ∈ cids, tri cids qs x ∈ qs := fun x hx2 => by
    have := List.mem_map_of_mem (f := tri cids qs) hx2
    rw [hmap] at this; exact this
  have hcat : ∀ x ∈ cids, cAt cids cs x = (tri cids qs x).2 := fun x hx2 => by
    have hi : cids.idxOf x < qs.length := by rw [hqlen]; exact List.idxOf_lt_length_of_mem hx2
    unfold cAt tri
    rw [← hqs, List.getD_eq_getElem?_getD, List.getD_eq_getElem?_getD, List.getElem?_map, List.getElem?_eq_getElem hi]
    rfl
  have huc : ∀ x, tU T x = true → x ∉ cids := fun x hx2 z => by rw [(hids x z).1] at hx2; cases hx2
  have hnc : n ∉ cids := huc n hn
  have hφo : ∀ x, tU T x = true → phL φ cids qs x = φ x := fun x hx2 => if_neg (huc x hx2)
  have hφc : ∀ x ∈ cids, phL φ cids qs x = (tri cids qs x).1 := fun x hx2 => if_pos hx2
  have hmφ : cids.map (phL φ cids qs) = qs.map (fun q => q.1) := by
    conv => rhs; rw [← hmap]
    rw [List.map_map]
    exact List.map_congr_left (fun x hx2 => hφc x hx2)
  -- old nodes' cells
  have hold : ∀ x, tU T x = true → x ≠ n → ¬ RLd t (φ n) (ψ (φ n)) sp ta rb rb2 (φ x) ∧ ¬ RLd t (φ n) (ψ (φ n)) sp ta rb rb2 (ψ (φ x)) := fun x hx2 hxn => by
    have hk := k1 _ (n3 x hx2)
    have hkn := k1 _ (n3 n hn)
    constructor
    · intro z
      rcases z with z | z | z | z | z | z | z
      · exact ne_of_kind hk.1.2 a1.2 (by decide) z
      · exact hxn (n2 x n hx2 hn z)
      · exact ne_of_kind hk.1.2 hkn.2.2.1.2 (by decide) z
      · exact (c3 _ z).2 x hx2 rfl
      · exact ne_of_kind hk.1.2 hka (by decide) z
      · exact ne_of_kind hk.1.2 hkb (by decide) z
      · exact ne_of_kind hk.1.2 hkc (by decide) z
    · intro z
      rcases z with z | z | z | z | z | z | z
      · exact ne_of_kind hk.2.2.1.2 a1.2 (by decide) z
      · exact ne_of_kind hk.2.2.1.2 hkn.1.2 (by decide) z
      · exact hxn (n2 x n hx2 hn (k2 _ (n3 x hx2) _ (n3 n hn) z))
      · exact ne_of_kind hk.2.2.1.2 (k1 _ (c3 _ z).1).1.2 (by decide) rfl
      · exact ne_of_kind hk.2.2.1.2 hka (by decide) z
      · exact ne_of_kind hk.2.2.1.2 hkb (by decide) z
      · exact ne_of_kind hk.2.2.1.2 hkc (by decide) z
  have h11 : ∀ x, tU T x = true → xR M1 (φ x) 11 = xR M0 (φ x) 11 := fun x hx2 => by
    by_cases hxn : x = n
    · rw [hxn]; exact hfc.2.2
    · exact (hx.2 _ (hold x hx2 hxn).1).2.2 11
  have hpm : ∀ x, tU T x = true → (tP T x).map (phL φ cids qs) = (tP T x).map φ := fun x hx2 => by
    cases hp : tP T x with
    | none => rfl
    | some p => rw [Option.map_some, Option.map_some, hφo p (hW.2.2.2.1 x p hx2 hp).1]
  have hTC : ∀ x, x ≠ n → x ∉ cids → tC (tLd T n F v X cids cs) x = tC T x := fun x g1 g2 => by
    show (if x = n then cids else if x ∈ cids then [] else tC T x) = _
    rw [if_neg g1, if_neg g2]
  have hTCn : tC (tLd T n F v X cids cs) n = cids := if_pos rfl
  have hOo : tO (tLd T n F v X cids cs) = tO T := rfl
  refine ⟨⟨t1, by rw [hOo, hφo _ hW.1.1, ← hr]; exact t2, t3, t4⟩, ⟨⟨fun x hxu => ?_, ?_⟩, fun x y hxu hyu e => ?_, fun x hxu => ?_⟩, ⟨e1, e2, fun y hy => ⟨e3 y hy, fun x hxu z => ?_⟩, e4⟩, d1, d2⟩
  · by_cases hxc : x ∈ cids
    · have hxn : x ≠ n := fun z => hnc (z ▸ hxc)
      obtain ⟨f1, f2, f3, f4, f5, f6, f7, f8, f9, f10, f11⟩ := hq _ (htm x hxc)
      obtain ⟨g1, g2, g3, g4, g5⟩ := hch _ (htm x hxc)
      have eX : tX (tLd T n F v X cids cs) x = [] := by
        show (if x = n then X else if x ∈ cids then [] else tX T x) = []
        rw [if_neg hxn, if_pos hxc]
      have eV : tV (tLd T n F v X cids cs) x = none := by
        show (if x = n then v else if x ∈ cids then none else tV T x) = none
        rw [if_neg hxn, if_pos hxc]
      have eF : tF (tLd T n F v X cids cs) x = 1 := by
        show (if x = n then F else if x ∈ cids then 1 else tF T x) = 1
        rw [if_neg hxn, if_pos hxc]
      have eC : tC (tLd T n F v X cids cs) x = [] := by
        show (if x = n then cids else if x ∈ cids then [] else tC T x) = []
        rw [if_neg hxn, if_pos hxc]
      have eB : tB (tLd T n F v X cids cs) x = (tri cids qs x).2.1 := by
        show (if x ∈ cids then (cAt cids cs x).1 else tB T x) = _
        rw [if_pos hxc, hcat x hxc]
      have eG : tG (tLd T n F v X cids cs) x = (tri cids qs x).2.2 := by
        show (if x ∈ cids then (cAt cids cs x).2 else tG T x) = _
        rw [if_pos hxc, hcat x hxc]
      have eR : tR (tLd T n F v X cids cs) x = false := if_pos hxc
      have eP : tP (tLd T n F v X cids cs) x = some n := if_pos hxc
      unfold cB
      rw [hφc x hxc, eX, eV, eF, eC, eB, eG, eR, eP]
      refine ⟨⟨d1 _ f1, ⟨f4, fun i hi => absurd hi (by simp)⟩, ⟨f5, f6, f7, f8, g2, g3, f9⟩, ?_⟩, f11⟩
      rw [f10, Option.map_some, hφo n hn]
    · have hxt : tU T x = true := (tLd_u.mp hxu).resolve_left hxc
      have eB : tB (tLd T n F v X cids cs) x = tB T x := if_neg hxc
      have eG : tG (tLd T n F v X cids cs) x = tG T x := if_neg hxc
      have eR : tR (tLd T n F v X cids cs) x = tR T x := if_neg hxc
      have eP : tP (tLd T n F v X cids cs) x = tP T x := if_neg hxc
      obtain ⟨⟨⟨b1, b1b, b1c, b1d⟩, ⟨b2, b2b⟩, ⟨j2, j3, j4, j5, j6, j7, j8⟩, b4⟩, b5⟩ := n1.1 x hxt
      by_cases hxn : x = n
      · subst hxn
        have eX : tX (tLd T x F v X cids cs) x = X := if_pos rfl
        have eV : tV (tLd T x F v X cids cs) x = v := if_pos rfl
        have eF : tF (tLd T x F v X cids cs) x = F := if_pos rfl
        unfold cB
        rw [hφo x hxt, eX, eV, eF, hTCn, eB, eG, eR, eP, hmφ]
        refine ⟨⟨⟨m1, m2, m3, m4⟩, ⟨m5, m6⟩, ⟨i2, i3, i4, by rw [i5, hqlen], by rw [hfc.1 6 (by omega) (by omega)]; exact j6, by rw [hfc.1 7 (by omega) (by omega)]; exact j7, by rw [hfc.1 8 (by omega) (by omega)]; exact j8⟩, ?_⟩, ch⟩
        rw [hfc.2.1, hpm x hxt]; exact b4
      · have eX : tX (tLd T n F v X cids cs) x = tX T x := by
          show (if x = n then X else if x ∈ cids then [] else tX T x) = _
          rw [if_neg hxn, if_neg hxc]
        have eV : tV (tLd T n F v X cids cs) x = tV T x := by
          show (if x = n then v else if x ∈ cids then none else tV T x) = _
          rw [if_neg hxn, if_neg hxc]
        have eF : tF (tLd T n F v X cids cs) x = tF T x := by
          show (if x = n then F else if x ∈ cids then 1 else tF T x) = _
          rw [if_neg hxn, if_neg hxc]
        obtain ⟨o1, o2⟩ := hold x hxt hxn
        obtain ⟨p1, p2, p3⟩ := hx.2 _ o1
        obtain ⟨q1, -, -⟩ := hx.2 _ o2
        have hmC : (tC T x).map (phL φ cids qs) = (tC T x).map φ := List.map_congr_left (fun y hy => hφo y (hW.2.2.2.2.1 x y hxt hy).1)
        unfold cB
        rw [hφo x hxt, eX, eV, eF, hTC x hxn hxc, eB, eG, eR, eP, hmC, hpm x hxt]
        refine ⟨⟨⟨hx.at.mpr b1, by rw [p3]; exact b1b, hx.at.mpr b1c, by rw [hx.1.2.2.1]; exact b1d⟩, ⟨by rw [p1]; exact b2, fun i hi => by rw [q1]; exact b2b i hi⟩, ⟨by rw [p1]; exact j2, by rw [p1]; exact j3, by rw [p2]; exact j4, by rw [p1]; exact j5, by rw [p1]; exact j6, by rw [p1]; exact j7, by rw [p1]; exact j8⟩, by rw [p3]; exact b4⟩, ?_⟩
        rw [p3]
        refine chS_fr b5 (fun y hy => ?_)
        obtain ⟨z, hz, rfl⟩ := List.mem_map.mp hy
        exact h11 z (hW.2.2.2.2.1 x z hxt hz).1
  · rw [hOo, hφo _ hW.1.1, h11 _ hW.1.1]; exact n1.2
  · rcases tLd_u.mp hxu with hx2 | hx2
    · rcases tLd_u.mp hyu with hy2 | hy2
      · exact nodup_inj cids (by rw [hmφ]; exact hqnd) x hx2 y hy2 e
      · exfalso
        rw [hφc x hx2, hφo y hy2] at e
        exact (c3 _ (hO.1 _ (htm x hx2))).2 y hy2 e.symm
    · rcases tLd_u.mp hyu with hy2 | hy2
      · exfalso
        rw [hφo x hx2, hφc y hy2] at e
        exact (c3 _ (hO.1 _ (htm y hy2))).2 x hx2 e
      · rw [hφo x hx2, hφo y hy2] at e
        exact n2 x y hx2 hy2 e
  · rcases tLd_u.mp hxu with hx2 | hx2
    · rw [hφc x hx2]; exact (hq _ (htm x hx2)).1
    · rw [hφo x hx2]; exact n3 x hx2
  · rcases tLd_u.mp hxu with hx2 | hx2
    · rw [hφc x hx2] at z
      exact (hq _ (htm x hx2)).2.1 (by rw [z]; exact hy)
    · rw [hφo x hx2] at z
      exact (c3 _ (hO.2.1 y hy)).2 x hx2 z
end LD2
