/-! Saving a tree. -/
theorem nI_long {k : Nat} (h : k < 2 ^ 31) : (nI k).toInt64 = Int64.ofNat k := by
  apply Int64.toInt_inj.mp
  have h1 : (nI k).toInt = k := by
    show (Int32.ofNat k).toInt = k
    exact Int32.toInt_ofNat_of_lt h
  have h2 : (Int64.ofNat k).toInt = k := Int64.toInt_ofNat_of_lt (by omega)
  rw [Int32.toInt_toInt64, h1, h2]
section SV3
variable {l : Launch} {g : xG} {M : xM} {Q : Option Value → xM → Prop} {φ ψ φc : Nat → Nat} {T Tc : TT} {t tc nd ndc kyc sq : Nat} {KK sp KKc spc : List Nat} {s d db w rb w2 rb2 ta tr : Nat} {D : Nat → Nat} {pw : Option Nat} {tk : Nat → Bool}
theorem svK.wf {T S : TT} (hW : tWF T) (hk : svK T S) : tWF S := tWF_same hW hk.1 hk.2.1 hk.2.2.1 hk.2.2.2.1 hk.2.2.2.2.2.2.2.1 hk.2.2.2.2.2.2.2.2.1 hk.2.2.2.2.2.2.2.2.2
theorem sX6_save (hW : tWF T) (hI : tInv T) (hWc : tWF Tc) (hGc : ∀ n, tU Tc n = true → tG Tc n < 256) (ht : cTr M t KK φ ψ T sp nd (tKy T)) (htc : cTr M tc KKc φc ψ Tc spc ndc kyc) (h : sto M s d db w rb w2 rb2 ta D pw tr tk) (hfree : (tPs T).countP (tR T) + (tEs Tc).countP (fun n => decide (tG Tc n ≠ 0)) ≤ 254) (hsq : sq < 2 ^ 31)
    (hQ : ∀ M1 tk1, svK T (tSave T Tc D pw tr sq).2.1 → tI1 (tSave T Tc D pw tr sq).2.1 → cTr M1 t KK φ ψ (tSave T Tc D pw tr sq).2.1 sp nd (tKy T) → sto M1 s d db w rb w2 rb2 ta (tSave T Tc D pw tr sq).2.2.2.1 (tSave T Tc D pw tr sq).2.2.2.2 tr tk1 → xag (fun a => RG t KK ψ a ∨ RS d db rb rb2 ta a) M M1 → Q (some (.int (if (tSave T Tc D pw tr sq).1 = true then 1 else 0))) M1) :
    xSp l g mX6_save 0 0 [va_rf (some s), va_rf (some t), va_rf (some tc), .int (nI sq)] M Q := by
  have hky : tKy T ≤ 220 := by
    have := List.countP_le_length (p := fun n => tU T n && (tV T n).isSome) (l := List.range 220)
    rw [List.length_range] at this
    exact this
  refine eX6_save _ _ _ _ (bX6_save_0 _ _ _ _ ⟨h.1.1, sX6_markPagesOf hWc hGc htc h (fun M1 s1 x1 => ⟨rfl, ?_⟩)⟩)
  have t1 := ht.ag hW x1 (fun a z => by rw [z]; exact h.no ht ta (Or.inr (Or.inr (Or.inr (Or.inr rfl)))))
  refine ⟨t, rfl, t1.1.1, φ (tO T), t1.1.2.1, (t1.2.1.1.1 _ hW.1.1).1.1.1, ?_⟩
  rw [t1.1.2.1]
  refine sX3_lowest hW (t1.ns hW) hW.1.1 ⟨_, rfl, ?_⟩
  have e0 : (some (φ (tD T 13 (tO T)))) = (tPs T).head?.map φ := by rw [tPs_head hW]; rfl
  rw [e0]
  have hx1 : xag (fun a => RG t KK ψ a ∨ RS d db rb rb2 ta a) M M1 := x1.mono (fun a z => Or.inr (Or.inr (Or.inr (Or.inr (Or.inr z)))))
  have hcnt : cTk (tTk Tc) + (tPs T).countP (tR T) ≤ 254 := by
    have := cTk_tree Tc
    omega
  refine save_loop (Q1 := fun r => r = svL tr (tPs T) (T, tTk Tc, D, pw)) hW hI.2.2 (M0 := M) (fun M2 S D2 pw2 tk2 hk2 i2 t2 s2 x2 hq => ?_) (fun M2 S D2 pw2 tk2 hk2 i2 t2 s2 x2 hq => ?_) (tPs T) [] M1 T D pw (tTk Tc) rfl (svK.rf T) hI.1 t1 s1 hcnt hx1 rfl
  · have hWS := hk2.wf hW
    have hO : tO S = tO T := hk2.2.2.2.2.2.2.2.2.2
    have hro : tU S (tO T) = true := by rw [hk2.1]; exact hW.1.1
    have hb := (t2.2.1.1.1 _ hro).1
    have hGr : tG S (tO T) < 256 := (i2 _ hro).2.2.1
    have eroot : xR M2 t 2 = some (φ (tO T)) := by rw [t2.1.2.1, hO]
    refine bX6_save_14 _ _ _ _ _ ⟨fun _ => ⟨s2.1.1, t, rfl, t2.1.1, φ (tO T), eroot, hb.1.1, ?_⟩, fun z => absurd rfl z⟩
    obtain ⟨f, hf⟩ := s2.2.2.1
    rw [s2.1.2.2.1, nI_long hsq, hb.2.2.1.2.2.2.2.2.1, t2.1.2.2.2]
    refine sX2_fill hf hGr (by omega) (fun M3 r3 x3 => ⟨rfl, ?_⟩)
    have s3 := s2.rw1 x3 r3
    refine ⟨s3.1.1, d, s3.1.2.1, s3.2.1.1.1, ?_⟩
    have erem : nI sq - nI sq / 2 * 2 = nI (sq % 2) := pk_rem (d := 2) hsq (by decide) (by decide)
    rw [s3.1.2.1, s3.1.2.2.1, erem]
    refine sX0_write s3.2.1 r3 (by omega) (fun M4 r4 x4 => ⟨_, rfl, ?_, ?_⟩)
    · split
      · exact Or.inl rfl
      · exact Or.inr rfl
    have hno := s2.no t2
    have t3 := t2.ag hWS x3 (fun a z => by rw [z]; exact hno rb (Or.inr (Or.inr (Or.inl rfl))))
    have t4 := t3.ag hWS x4 (fun a z => hno a (z.elim (fun e => Or.inl e) (fun e => Or.inr (Or.inl e))))
    have s4 := s3.dk x4 r4
    have e1 : tSave T Tc D pw tr sq = (decide (pw2 ≠ some 0), (S, tk2, dkW D2 (sq % 2) (hdF (Int64.ofNat sq) (tG S (tO T)) (tKy T)) pw2 tr, pwN pw2)) := by
      unfold tSave
      rw [← hq]
      rfl
    rw [e1] at hQ
    have := hQ M4 tk2 hk2 i2 t4 s4 (x2.trans ((x3.mono (fun a z => Or.inr (Or.inr (Or.inr (Or.inl z))))).trans (x4.mono (fun a z => Or.inr (z.elim (fun e => Or.inl e) (fun e => Or.inr (Or.inl e)))))))
    by_cases hpw : pw2 = some 0
    · rw [if_pos hpw]
      rw [if_neg (by simpa using hpw)] at this
      exact this
    · rw [if_neg hpw]
      rw [if_pos (by simpa using hpw)] at this
      exact this
  · have e1 : tSave T Tc D pw tr sq = (false, S, tk2, D2, pw2) := by
      unfold tSave
      rw [← hq]
      rfl
    rw [e1] at hQ
    exact hQ M2 tk2 hk2 i2 t2 s2 x2
end SV3
