/-! Decode rows and blocks: 19.bMa -/
theorem dX10_init_0 : decode cX10_init 0 = .ok (.aload_n 0, 1) := by decide +kernel
theorem dX10_init_1 : decode cX10_init 1 = .ok (.invokespecial 1, 3) := by decide +kernel
theorem dX10_init_4 : decode cX10_init 4 = .ok (.aload_n 0, 1) := by decide +kernel
theorem dX10_init_5 : decode cX10_init 5 = .ok (.bipush 64, 2) := by decide +kernel
theorem dX10_init_7 : decode cX10_init 7 = .ok (.newarray .int, 2) := by decide +kernel
theorem dX10_init_9 : decode cX10_init 9 = .ok (.putfield 7, 3) := by decide +kernel
theorem dX10_init_12 : decode cX10_init 12 = .ok (.aload_n 0, 1) := by decide +kernel
theorem dX10_init_13 : decode cX10_init 13 = .ok (.sipush 440, 3) := by decide +kernel
theorem dX10_init_16 : decode cX10_init 16 = .ok (.newarray .boolean, 2) := by decide +kernel
theorem dX10_init_18 : decode cX10_init 18 = .ok (.putfield 13, 3) := by decide +kernel
theorem dX10_init_21 : decode cX10_init 21 = .ok (.aload_n 0, 1) := by decide +kernel
theorem dX10_init_22 : decode cX10_init 22 = .ok (.sipush 440, 3) := by decide +kernel
theorem dX10_init_25 : decode cX10_init 25 = .ok (.newarray .int, 2) := by decide +kernel
theorem dX10_init_27 : decode cX10_init 27 = .ok (.putfield 17, 3) := by decide +kernel
theorem dX10_init_30 : decode cX10_init 30 = .ok (.aload_n 0, 1) := by decide +kernel
theorem dX10_init_31 : decode cX10_init 31 = .ok (.sipush 440, 3) := by decide +kernel
theorem dX10_init_34 : decode cX10_init 34 = .ok (.newarray .int, 2) := by decide +kernel
theorem dX10_init_36 : decode cX10_init 36 = .ok (.putfield 20, 3) := by decide +kernel
theorem dX10_init_39 : decode cX10_init 39 = .ok (.aload_n 0, 1) := by decide +kernel
theorem dX10_init_40 : decode cX10_init 40 = .ok (.sipush 5280, 3) := by decide +kernel
theorem dX10_init_43 : decode cX10_init 43 = .ok (.newarray .int, 2) := by decide +kernel
theorem dX10_init_45 : decode cX10_init 45 = .ok (.putfield 23, 3) := by decide +kernel
theorem dX10_init_48 : decode cX10_init 48 = .ok (.aload_n 0, 1) := by decide +kernel
theorem dX10_init_49 : decode cX10_init 49 = .ok (.sipush 440, 3) := by decide +kernel
theorem dX10_init_52 : decode cX10_init 52 = .ok (.newarray .int, 2) := by decide +kernel
theorem dX10_init_54 : decode cX10_init 54 = .ok (.putfield 26, 3) := by decide +kernel
theorem dX10_init_57 : decode cX10_init 57 = .ok (.aload_n 0, 1) := by decide +kernel
theorem dX10_init_58 : decode cX10_init 58 = .ok (.sipush 440, 3) := by decide +kernel
theorem dX10_init_61 : decode cX10_init 61 = .ok (.newarray .boolean, 2) := by decide +kernel
theorem dX10_init_63 : decode cX10_init 63 = .ok (.putfield 29, 3) := by decide +kernel
theorem dX10_init_66 : decode cX10_init 66 = .ok (.aload_n 0, 1) := by decide +kernel
theorem dX10_init_67 : decode cX10_init 67 = .ok (.sipush 440, 3) := by decide +kernel
theorem dX10_init_70 : decode cX10_init 70 = .ok (.newarray .long, 2) := by decide +kernel
theorem dX10_init_72 : decode cX10_init 72 = .ok (.putfield 32, 3) := by decide +kernel
theorem dX10_init_75 : decode cX10_init 75 = .ok (.aload_n 0, 1) := by decide +kernel
theorem dX10_init_76 : decode cX10_init 76 = .ok (.sipush 440, 3) := by decide +kernel
theorem dX10_init_79 : decode cX10_init 79 = .ok (.newarray .int, 2) := by decide +kernel
theorem dX10_init_81 : decode cX10_init 81 = .ok (.putfield 36, 3) := by decide +kernel
theorem dX10_init_84 : decode cX10_init 84 = .ok (.aload_n 0, 1) := by decide +kernel
theorem dX10_init_85 : decode cX10_init 85 = .ok (.sipush 440, 3) := by decide +kernel
theorem dX10_init_88 : decode cX10_init 88 = .ok (.newarray .int, 2) := by decide +kernel
theorem dX10_init_90 : decode cX10_init 90 = .ok (.putfield 39, 3) := by decide +kernel
theorem dX10_init_93 : decode cX10_init 93 = .ok (.aload_n 0, 1) := by decide +kernel
theorem dX10_init_94 : decode cX10_init 94 = .ok (.sipush 440, 3) := by decide +kernel
theorem dX10_init_97 : decode cX10_init 97 = .ok (.newarray .boolean, 2) := by decide +kernel
theorem dX10_init_99 : decode cX10_init 99 = .ok (.putfield 42, 3) := by decide +kernel
theorem dX10_init_102 : decode cX10_init 102 = .ok (.aload_n 0, 1) := by decide +kernel
theorem dX10_init_103 : decode cX10_init 103 = .ok (.ldc 45, 2) := by decide +kernel
theorem dX10_init_105 : decode cX10_init 105 = .ok (.newarray .int, 2) := by decide +kernel
theorem dX10_init_107 : decode cX10_init 107 = .ok (.putfield 46, 3) := by decide +kernel
theorem dX10_init_110 : decode cX10_init 110 = .ok (.aload_n 0, 1) := by decide +kernel
theorem dX10_init_111 : decode cX10_init 111 = .ok (.iconst (-1), 1) := by decide +kernel
theorem dX10_init_112 : decode cX10_init 112 = .ok (.putfield 49, 3) := by decide +kernel
theorem dX10_init_115 : decode cX10_init 115 = .ok (.aload_n 0, 1) := by decide +kernel
theorem dX10_init_116 : decode cX10_init 116 = .ok (.bipush 40, 2) := by decide +kernel
theorem dX10_init_118 : decode cX10_init 118 = .ok (.newarray .int, 2) := by decide +kernel
theorem dX10_init_120 : decode cX10_init 120 = .ok (.putfield 53, 3) := by decide +kernel
theorem dX10_init_123 : decode cX10_init 123 = .ok (.aload_n 0, 1) := by decide +kernel
theorem dX10_init_124 : decode cX10_init 124 = .ok (.sipush 512, 3) := by decide +kernel
theorem dX10_init_127 : decode cX10_init 127 = .ok (.newarray .int, 2) := by decide +kernel
theorem dX10_init_129 : decode cX10_init 129 = .ok (.putfield 56, 3) := by decide +kernel
theorem dX10_init_132 : decode cX10_init 132 = .ok (.aload_n 0, 1) := by decide +kernel
theorem dX10_init_133 : decode cX10_init 133 = .ok (.sipush 256, 3) := by decide +kernel
theorem dX10_init_136 : decode cX10_init 136 = .ok (.newarray .boolean, 2) := by decide +kernel
theorem dX10_init_138 : decode cX10_init 138 = .ok (.putfield 59, 3) := by decide +kernel
theorem dX10_init_141 : decode cX10_init 141 = .ok (.aload_n 0, 1) := by decide +kernel
theorem dX10_init_142 : decode cX10_init 142 = .ok (.invokevirtual 62, 3) := by decide +kernel
theorem dX10_init_145 : decode cX10_init 145 = .ok (.aload_n 0, 1) := by decide +kernel
theorem dX10_init_146 : decode cX10_init 146 = .ok (.invokevirtual 65, 3) := by decide +kernel
theorem dX10_init_149 : decode cX10_init 149 = .ok (.return_, 1) := by decide +kernel
set_option maxRecDepth 100000 in
set_option maxHeartbeats 4000000 in
theorem bX10_init_0 {l : Launch} {g : xG} {mc ms : Nat} (a0 : Nat) {M : xM} {Q : Option Value → xM → Prop} (h : ((0 + 1 ≤ mc ∧ 0 + 64 ≤ ms) ∧ ∀ q4, q4 ∉ xL M → (xat (xnew M q4 9 64) a0 7 ∧ (((0 + 1) + 1 ≤ mc ∧ (0 + 64) + 440 ≤ ms) ∧ ∀ q11, q11 ∉ xL (xsR (xnew M q4 9 64) a0 1 (some q4)) → ((((0 + 1) + 1) + 1 ≤ mc ∧ ((0 + 64) + 440) + 440 ≤ ms) ∧ ∀ q17, q17 ∉ xL (xsR (xnew (xsR (xnew M q4 9 64) a0 1 (some q4)) q11 11 440) a0 4 (some q11)) → (((((0 + 1) + 1) + 1) + 1 ≤ mc ∧ (((0 + 64) + 440) + 440) + 440 ≤ ms) ∧ ∀ q23, q23 ∉ xL (xsR (xnew (xsR (xnew (xsR (xnew M q4 9 64) a0 1 (some q4)) q11 11 440) a0 4 (some q11)) q17 9 440) a0 5 (some q17)) → ((((((0 + 1) + 1) + 1) + 1) + 1 ≤ mc ∧ ((((0 + 64) + 440) + 440) + 440) + 5280 ≤ ms) ∧ ∀ q29, q29 ∉ xL (xsR (xnew (xsR (xnew (xsR (xnew (xsR (xnew M q4 9 64) a0 1 (some q4)) q11 11 440) a0 4 (some q11)) q17 9 440) a0 5 (some q17)) q23 9 440) a0 6 (some q23)) → (((((((0 + 1) + 1) + 1) + 1) + 1) + 1 ≤ mc ∧ (((((0 + 64) + 440) + 440) + 440) + 5280) + 440 ≤ ms) ∧ ∀ q35, q35 ∉ xL (xsR (xnew (xsR (xnew (xsR (xnew (xsR (xnew (xsR (xnew M q4 9 64) a0 1 (some q4)) q11 11 440) a0 4 (some q11)) q17 9 440) a0 5 (some q17)) q23 9 440) a0 6 (some q23)) q29 9 5280) a0 7 (some q29)) → ((((((((0 + 1) + 1) + 1) + 1) + 1) + 1) + 1 ≤ mc ∧ ((((((0 + 64) + 440) + 440) + 440) + 5280) + 440) + 440 ≤ ms) ∧ ∀ q41, q41 ∉ xL (xsR (xnew (xsR (xnew (xsR (xnew (xsR (xnew (xsR (xnew (xsR (xnew M q4 9 64) a0 1 (some q4)) q11 11 440) a0 4 (some q11)) q17 9 440) a0 5 (some q17)) q23 9 440) a0 6 (some q23)) q29 9 5280) a0 7 (some q29)) q35 9 440) a0 8 (some q35)) → (((((((((0 + 1) + 1) + 1) + 1) + 1) + 1) + 1) + 1 ≤ mc ∧ (((((((0 + 64) + 440) + 440) + 440) + 5280) + 440) + 440) + 440 ≤ ms) ∧ ∀ q47, q47 ∉ xL (xsR (xnew (xsR (xnew (xsR (xnew (xsR (xnew (xsR (xnew (xsR (xnew (xsR (xnew M q4 9 64) a0 1 (some q4)) q11 11 440) a0 4 (some q11)) q17 9 440) a0 5 (some q17)) q23 9 440) a0 6 (some q23)) q29 9 5280) a0 7 (some q29)) q35 9 440) a0 8 (some q35)) q41 11 440) a0 9 (some q41)) → ((((((((((0 + 1) + 1) + 1) + 1) + 1) + 1) + 1) + 1) + 1 ≤ mc ∧ ((((((((0 + 64) + 440) + 440) + 440) + 5280) + 440) + 440) + 440) + 440 ≤ ms) ∧ ∀ q53, q53 ∉ xL (xsR (xnew (xsR (xnew (xsR (xnew (xsR (xnew (xsR (xnew (xsR (xnew (xsR (xnew (xsR (xnew M q4 9 64) a0 1 (some q4)) q11 11 440) a0 4 (some q11)) q17 9 440) a0 5 (some q17)) q23 9 440) a0 6 (some q23)) q29 9 5280) a0 7 (some q29)) q35 9 440) a0 8 (some q35)) q41 11 440) a0 9 (some q41)) q47 10 440) a0 10 (some q47)) → (((((((((((0 + 1) + 1) + 1) + 1) + 1) + 1) + 1) + 1) + 1) + 1 ≤ mc ∧ (((((((((0 + 64) + 440) + 440) + 440) + 5280) + 440) + 440) + 440) + 440) + 440 ≤ ms) ∧ ∀ q59, q59 ∉ xL (xsR (xnew (xsR (xnew (xsR (xnew (xsR (xnew (xsR (xnew (xsR (xnew (xsR (xnew (xsR (xnew (xsR (xnew M q4 9 64) a0 1 (some q4)) q11 11 440) a0 4 (some q11)) q17 9 440) a0 5 (some q17)) q23 9 440) a0 6 (some q23)) q29 9 5280) a0 7 (some q29)) q35 9 440) a0 8 (some q35)) q41 11 440) a0 9 (some q41)) q47 10 440) a0 10 (some q47)) q53 9 440) a0 11 (some q53)) → ((((((((((((0 + 1) + 1) + 1) + 1) + 1) + 1) + 1) + 1) + 1) + 1) + 1 ≤ mc ∧ ((((((((((0 + 64) + 440) + 440) + 440) + 5280) + 440) + 440) + 440) + 440) + 440) + 440 ≤ ms) ∧ ∀ q65, q65 ∉ xL (xsR (xnew (xsR (xnew (xsR (xnew (xsR (xnew (xsR (xnew (xsR (xnew (xsR (xnew (xsR (xnew (xsR (xnew (xsR (xnew M q4 9 64) a0 1 (some q4)) q11 11 440) a0 4 (some q11)) q17 9 440) a0 5 (some q17)) q23 9 440) a0 6 (some q23)) q29 9 5280) a0 7 (some q29)) q35 9 440) a0 8 (some q35)) q41 11 440) a0 9 (some q41)) q47 10 440) a0 10 (some q47)) q53 9 440) a0 11 (some q53)) q59 9 440) a0 12 (some q59)) → (((((((((((((0 + 1) + 1) + 1) + 1) + 1) + 1) + 1) + 1) + 1) + 1) + 1) + 1 ≤ mc ∧ (((((((((((0 + 64) + 440) + 440) + 440) + 5280) + 440) + 440) + 440) + 440) + 440) + 440) + 131072 ≤ ms) ∧ ∀ q71, q71 ∉ xL (xsR (xnew (xsR (xnew (xsR (xnew (xsR (xnew (xsR (xnew (xsR (xnew (xsR (xnew (xsR (xnew (xsR (xnew (xsR (xnew (xsR (xnew M q4 9 64) a0 1 (some q4)) q11 11 440) a0 4 (some q11)) q17 9 440) a0 5 (some q17)) q23 9 440) a0 6 (some q23)) q29 9 5280) a0 7 (some q29)) q35 9 440) a0 8 (some q35)) q41 11 440) a0 9 (some q41)) q47 10 440) a0 10 (some q47)) q53 9 440) a0 11 (some q53)) q59 9 440) a0 12 (some q59)) q65 11 440) a0 13 (some q65)) → ((((((((((((((0 + 1) + 1) + 1) + 1) + 1) + 1) + 1) + 1) + 1) + 1) + 1) + 1) + 1 ≤ mc ∧ ((((((((((((0 + 64) + 440) + 440) + 440) + 5280) + 440) + 440) + 440) + 440) + 440) + 440) + 131072) + 40 ≤ ms) ∧ ∀ q77, q77 ∉ xL (xsI (xsR (xnew (xsR (xnew (xsR (xnew (xsR (xnew (xsR (xnew (xsR (xnew (xsR (xnew (xsR (xnew (xsR (xnew (xsR (xnew (xsR (xnew (xsR (xnew M q4 9 64) a0 1 (some q4)) q11 11 440) a0 4 (some q11)) q17 9 440) a0 5 (some q17)) q23 9 440) a0 6 (some q23)) q29 9 5280) a0 7 (some q29)) q35 9 440) a0 8 (some q35)) q41 11 440) a0 9 (some q41)) q47 10 440) a0 10 (some q47)) q53 9 440) a0 11 (some q53)) q59 9 440) a0 12 (some q59)) q65 11 440) a0 13 (some q65)) q71 9 131072) a0 17 (some q71)) a0 18 (-1)) → (((((((((((((((0 + 1) + 1) + 1) + 1) + 1) + 1) + 1) + 1) + 1) + 1) + 1) + 1) + 1) + 1 ≤ mc ∧ (((((((((((((0 + 64) + 440) + 440) + 440) + 5280) + 440) + 440) + 440) + 440) + 440) + 440) + 131072) + 40) + 512 ≤ ms) ∧ ∀ q83, q83 ∉ xL (xsR (xnew (xsI (xsR (xnew (xsR (xnew (xsR (xnew (xsR (xnew (xsR (xnew (xsR (xnew (xsR (xnew (xsR (xnew (xsR (xnew (xsR (xnew (xsR (xnew (xsR (xnew M q4 9 64) a0 1 (some q4)) q11 11 440) a0 4 (some q11)) q17 9 440) a0 5 (some q17)) q23 9 440) a0 6 (some q23)) q29 9 5280) a0 7 (some q29)) q35 9 440) a0 8 (some q35)) q41 11 440) a0 9 (some q41)) q47 10 440) a0 10 (some q47)) q53 9 440) a0 11 (some q53)) q59 9 440) a0 12 (some q59)) q65 11 440) a0 13 (some q65)) q71 9 131072) a0 17 (some q71)) a0 18 (-1)) q77 9 40) a0 23 (some q77)) → ((((((((((((((((0 + 1) + 1) + 1) + 1) + 1) + 1) + 1) + 1) + 1) + 1) + 1) + 1) + 1) + 1) + 1 ≤ mc ∧ ((((((((((((((0 + 64) + 440) + 440) + 440) + 5280) + 440) + 440) + 440) + 440) + 440) + 440) + 131072) + 40) + 512) + 256 ≤ ms) ∧ ∀ q89, q89 ∉ xL (xsR (xnew (xsR (xnew (xsI (xsR (xnew (xsR (xnew (xsR (xnew (xsR (xnew (xsR (xnew (xsR (xnew (xsR (xnew (xsR (xnew (xsR (xnew (xsR (xnew (xsR (xnew (xsR (xnew M q4 9 64) a0 1 (some q4)) q11 11 440) a0 4 (some q11)) q17 9 440) a0 5 (some q17)) q23 9 440) a0 6 (some q23)) q29 9 5280) a0 7 (some q29)) q35 9 440) a0 8 (some q35)) q41 11 440) a0 9 (some q41)) q47 10 440) a0 10 (some q47)) q53 9 440) a0 11 (some q53)) q59 9 440) a0 12 (some q59)) q65 11 440) a0 13 (some q65)) q71 9 131072) a0 17 (some q71)) a0 18 (-1)) q77 9 40) a0 23 (some q77)) q83 9 512) a0 25 (some q83)) → (((((((((((((((((0 + 1) + 1) + 1) + 1) + 1) + 1) + 1) + 1) + 1) + 1) + 1) + 1) + 1) + 1) + 1) ≤ mc ∧ (((((((((((((((0 + 64) + 440) + 440) + 440) + 5280) + 440) + 440) + 440) + 440) + 440) + 440) + 131072) + 40) + 512) + 256) ≤ ms) ∧ xSp l g mX10_clear 0 0 [va_rf (some a0)] (xsR (xnew (xsR (xnew (xsR (xnew (xsI (xsR (xnew (xsR (xnew (xsR (xnew (xsR (xnew (xsR (xnew (xsR (xnew (xsR (xnew (xsR (xnew (xsR (xnew (xsR (xnew (xsR (xnew (xsR (xnew M q4 9 64) a0 1 (some q4)) q11 11 440) a0 4 (some q11)) q17 9 440) a0 5 (some q17)) q23 9 440) a0 6 (some q23)) q29 9 5280) a0 7 (some q29)) q35 9 440) a0 8 (some q35)) q41 11 440) a0 9 (some q41)) q47 10 440) a0 10 (some q47)) q53 9 440) a0 11 (some q53)) q59 9 440) a0 12 (some q59)) q65 11 440) a0 13 (some q65)) q71 9 131072) a0 17 (some q71)) a0 18 (-1)) q77 9 40) a0 23 (some q77)) q83 9 512) a0 25 (some q83)) q89 11 256) a0 26 (some q89)) (fun ρ94 M93 => ρ94 = none ∧ (xat M93 a0 7 ∧ ((((((((((((((((0 + 1) + 1) + 1) + 1) + 1) + 1) + 1) + 1) + 1) + 1) + 1) + 1) + 1) + 1) + 1) ≤ mc ∧ (((((((((((((((0 + 64) + 440) + 440) + 440) + 5280) + 440) + 440) + 440) + 440) + 440) + 440) + 131072) + 40) + 512) + 256) ≤ ms) ∧ xSp l g mX10_keep 0 0 [va_rf (some a0)] M93 (fun ρ98 M97 => ρ98 = none ∧ (((((((((((((((((0 + 1) + 1) + 1) + 1) + 1) + 1) + 1) + 1) + 1) + 1) + 1) + 1) + 1) + 1) + 1) ≤ mc ∧ (((((((((((((((0 + 64) + 440) + 440) + 440) + 5280) + 440) + 440) + 440) + 440) + 440) + 440) + 131072) + 40) + 512) + 256) ≤ ms) ∧ Q none M97)))))))))))))))))))))) : xWp l g mX10_init mc ms 0 [(1, va_rf (some a0))] [] (0, 0) M Q := by
  refine xr_aload_n 0 dX10_init_0 rfl rfl ?_
  refine xr_obj dX10_init_1 ml_RX10_1 obj_inst obj_code (by decide) (by decide) ?_
  refine xr_aload_n 0 dX10_init_4 rfl rfl ?_
  refine xr_bipush 64 dX10_init_5 (by decide) ?_
  obtain ⟨hm6, h⟩ := h
  refine xr_newa (kd := 9) (t := 1) (n := 64) dX10_init_7 rfl arr_int (fun _ => rfl) (by decide) (by decide) rfl (by decide) (by decide) (by decide) hm6 (fun q4 hq5 => ?_)
  replace h := h q4 hq5
  obtain ⟨t7, h⟩ := h
  refine yr_putRF dX10_init_9 rfl fp_RX10_7 (Or.inr ⟨_, rfl⟩) rfl t7 ?_
  refine xr_aload_n 0 dX10_init_12 rfl rfl ?_
  refine xr_sipush 440 dX10_init_13 (by decide) ?_
  obtain ⟨hm13, h⟩ := h
  refine xr_newa (kd := 11) (t := 3) (n := 440) dX10_init_16 rfl arr_boolean (fun _ => rfl) (by decide) (by decide) rfl (by decide) (by decide) (by decide) hm13 (fun q11 hq12 => ?_)
  replace h := h q11 hq12
  refine yr_putRF dX10_init_18 rfl fp_RX10_13 (Or.inr ⟨_, rfl⟩) rfl (xat_old (kd := 11) (n := 440) hq12 t7) ?_
  refine xr_aload_n 0 dX10_init_21 rfl rfl ?_
  refine xr_sipush 440 dX10_init_22 (by decide) ?_
  obtain ⟨hm19, h⟩ := h
  refine xr_newa (kd := 9) (t := 1) (n := 440) dX10_init_25 rfl arr_int (fun _ => rfl) (by decide) (by decide) rfl (by decide) (by decide) (by decide) hm19 (fun q17 hq18 => ?_)
  replace h := h q17 hq18
  refine yr_putRF dX10_init_27 rfl fp_RX10_17 (Or.inr ⟨_, rfl⟩) rfl (xat_old (kd := 9) (n := 440) hq18 (xat_old (kd := 11) (n := 440) hq12 t7)) ?_
  refine xr_aload_n 0 dX10_init_30 rfl rfl ?_
  refine xr_sipush 440 dX10_init_31 (by decide) ?_
  obtain ⟨hm25, h⟩ := h
  refine xr_newa (kd := 9) (t := 1) (n := 440) dX10_init_34 rfl arr_int (fun _ => rfl) (by decide) (by decide) rfl (by decide) (by decide) (by decide) hm25 (fun q23 hq24 => ?_)
  replace h := h q23 hq24
  refine yr_putRF dX10_init_36 rfl fp_RX10_20 (Or.inr ⟨_, rfl⟩) rfl (xat_old (kd := 9) (n := 440) hq24 (xat_old (kd := 9) (n := 440) hq18 (xat_old (kd := 11) (n := 440) hq12 t7))) ?_
  refine xr_aload_n 0 dX10_init_39 rfl rfl ?_
  refine xr_sipush 5280 dX10_init_40 (by decide) ?_
  obtain ⟨hm31, h⟩ := h
  refine xr_newa (kd := 9) (t := 1) (n := 5280) dX10_init_43 rfl arr_int (fun _ => rfl) (by decide) (by decide) rfl (by decide) (by decide) (by decide) hm31 (fun q29 hq30 => ?_)
  replace h := h q29 hq30
  refine yr_putRF dX10_init_45 rfl fp_RX10_23 (Or.inr ⟨_, rfl⟩) rfl (xat_old (kd := 9) (n := 5280) hq30 (xat_old (kd := 9) (n := 440) hq24 (xat_old (kd := 9) (n := 440) hq18 (xat_old (kd := 11) (n := 440) hq12 t7)))) ?_
  refine xr_aload_n 0 dX10_init_48 rfl rfl ?_
  refine xr_sipush 440 dX10_init_49 (by decide) ?_
  obtain ⟨hm37, h⟩ := h
  refine xr_newa (kd := 9) (t := 1) (n := 440) dX10_init_52 rfl arr_int (fun _ => rfl) (by decide) (by decide) rfl (by decide) (by decide) (by decide) hm37 (fun q35 hq36 => ?_)
  replace h := h q35 hq36
  refine yr_putRF dX10_init_54 rfl fp_RX10_26 (Or.inr ⟨_, rfl⟩) rfl (xat_old (kd := 9) (n := 440) hq36 (xat_old (kd := 9) (n := 5280) hq30 (xat_old (kd := 9) (n := 440) hq24 (xat_old (kd := 9) (n := 440) hq18 (xat_old (kd := 11) (n := 440) hq12 t7))))) ?_
  refine xr_aload_n 0 dX10_init_57 rfl rfl ?_
  refine xr_sipush 440 dX10_init_58 (by decide) ?_
  obtain ⟨hm43, h⟩ := h
  refine xr_newa (kd := 11) (t := 3) (n := 440) dX10_init_61 rfl arr_boolean (fun _ => rfl) (by decide) (by decide) rfl (by decide) (by decide) (by decide) hm43 (fun q41 hq42 => ?_)
  replace h := h q41 hq42
  refine yr_putRF dX10_init_63 rfl fp_RX10_29 (Or.inr ⟨_, rfl⟩) rfl (xat_old (kd := 11) (n := 440) hq42 (xat_old (kd := 9) (n := 440) hq36 (xat_old (kd := 9) (n := 5280) hq30 (xat_old (kd := 9) (n := 440) hq24 (xat_old (kd := 9) (n := 440) hq18 (xat_old (kd := 11) (n := 440) hq12 t7)))))) ?_
  refine xr_aload_n 0 dX10_init_66 rfl rfl ?_
  refine xr_sipush 440 dX10_init_67 (by decide) ?_
  obtain ⟨hm49, h⟩ := h
  refine xr_newa (kd := 10) (t := 2) (n := 440) dX10_init_70 rfl arr_long (fun _ => rfl) (by decide) (by decide) rfl (by decide) (by decide) (by decide) hm49 (fun q47 hq48 => ?_)
  replace h := h q47 hq48
  refine yr_putRF dX10_init_72 rfl fp_RX10_32 (Or.inr ⟨_, rfl⟩) rfl (xat_old (kd := 10) (n := 440) hq48 (xat_old (kd := 11) (n := 440) hq42 (xat_old (kd := 9) (n := 440) hq36 (xat_old (kd := 9) (n := 5280) hq30 (xat_old (kd := 9) (n := 440) hq24 (xat_old (kd := 9) (n := 440) hq18 (xat_old (kd := 11) (n := 440) hq12 t7))))))) ?_
  refine xr_aload_n 0 dX10_init_75 rfl rfl ?_
  refine xr_sipush 440 dX10_init_76 (by decide) ?_
  obtain ⟨hm55, h⟩ := h
  refine xr_newa (kd := 9) (t := 1) (n := 440) dX10_init_79 rfl arr_int (fun _ => rfl) (by decide) (by decide) rfl (by decide) (by decide) (by decide) hm55 (fun q53 hq54 => ?_)
  replace h := h q53 hq54
  refine yr_putRF dX10_init_81 rfl fp_RX10_36 (Or.inr ⟨_, rfl⟩) rfl (xat_old (kd := 9) (n := 440) hq54 (xat_old (kd := 10) (n := 440) hq48 (xat_old (kd := 11) (n := 440) hq42 (xat_old (kd := 9) (n := 440) hq36 (xat_old (kd := 9) (n := 5280) hq30 (xat_old (kd := 9) (n := 440) hq24 (xat_old (kd := 9) (n := 440) hq18 (xat_old (kd := 11) (n := 440) hq12 t7)))))))) ?_
  refine xr_aload_n 0 dX10_init_84 rfl rfl ?_
  refine xr_sipush 440 dX10_init_85 (by decide) ?_
  obtain ⟨hm61, h⟩ := h
  refine xr_newa (kd := 9) (t := 1) (n := 440) dX10_init_88 rfl arr_int (fun _ => rfl) (by decide) (by decide) rfl (by decide) (by decide) (by decide) hm61 (fun q59 hq60 => ?_)
  replace h := h q59 hq60
  refine yr_putRF dX10_init_90 rfl fp_RX10_39 (Or.inr ⟨_, rfl⟩) rfl (xat_old (kd := 9) (n := 440) hq60 (xat_old (kd := 9) (n := 440) hq54 (xat_old (kd := 10) (n := 440) hq48 (xat_old (kd := 11) (n := 440) hq42 (xat_old (kd := 9) (n := 440) hq36 (xat_old (kd := 9) (n := 5280) hq30 (xat_old (kd := 9) (n := 440) hq24 (xat_old (kd := 9) (n := 440) hq18 (xat_old (kd := 11) (n := 440) hq12 t7))))))))) ?_
  refine xr_aload_n 0 dX10_init_93 rfl rfl ?_
  refine xr_sipush 440 dX10_init_94 (by decide) ?_
  obtain ⟨hm67, h⟩ := h
  refine xr_newa (kd := 11) (t := 3) (n := 440) dX10_init_97 rfl arr_boolean (fun _ => rfl) (by decide) (by decide) rfl (by decide) (by decide) (by decide) hm67 (fun q65 hq66 => ?_)
  replace h := h q65 hq66
  refine yr_putRF dX10_init_99 rfl fp_RX10_42 (Or.inr ⟨_, rfl⟩) rfl (xat_old (kd := 11) (n := 440) hq66 (xat_old (kd := 9) (n := 440) hq60 (xat_old (kd := 9) (n := 440) hq54 (xat_old (kd := 10) (n := 440) hq48 (xat_old (kd := 11) (n := 440) hq42 (xat_old (kd := 9) (n := 440) hq36 (xat_old (kd := 9) (n := 5280) hq30 (xat_old (kd := 9) (n := 440) hq24 (xat_old (kd := 9) (n := 440) hq18 (xat_old (kd := 11) (n := 440) hq12 t7)))))))))) ?_
  refine xr_aload_n 0 dX10_init_102 rfl rfl ?_
  refine xr_ldc 131072 dX10_init_103 ct_RX10_45 ?_
  obtain ⟨hm73, h⟩ := h
  refine xr_newa (kd := 9) (t := 1) (n := 131072) dX10_init_105 rfl arr_int (fun _ => rfl) (by decide) (by decide) rfl (by decide) (by decide) (by decide) hm73 (fun q71 hq72 => ?_)
  replace h := h q71 hq72
  refine yr_putRF dX10_init_107 rfl fp_RX10_46 (Or.inr ⟨_, rfl⟩) rfl (xat_old (kd := 9) (n := 131072) hq72 (xat_old (kd := 11) (n := 440) hq66 (xat_old (kd := 9) (n := 440) hq60 (xat_old (kd := 9) (n := 440) hq54 (xat_old (kd := 10) (n := 440) hq48 (xat_old (kd := 11) (n := 440) hq42 (xat_old (kd := 9) (n := 440) hq36 (xat_old (kd := 9) (n := 5280) hq30 (xat_old (kd := 9) (n := 440) hq24 (xat_old (kd := 9) (n := 440) hq18 (xat_old (kd := 11) (n := 440) hq12 t7))))))))))) ?_
  refine xr_aload_n 0 dX10_init_110 rfl rfl ?_
  refine xr_iconst (-1) dX10_init_111 (by decide) ?_
  refine yr_putI dX10_init_112 fp_RX10_49 rfl (xat_old (kd := 9) (n := 131072) hq72 (xat_old (kd := 11) (n := 440) hq66 (xat_old (kd := 9) (n := 440) hq60 (xat_old (kd := 9) (n := 440) hq54 (xat_old (kd := 10) (n := 440) hq48 (xat_old (kd := 11) (n := 440) hq42 (xat_old (kd := 9) (n := 440) hq36 (xat_old (kd := 9) (n := 5280) hq30 (xat_old (kd := 9) (n := 440) hq24 (xat_old (kd := 9) (n := 440) hq18 (xat_old (kd := 11) (n := 440) hq12 t7))))))))))) ?_
  refine xr_aload_n 0 dX10_init_115 rfl rfl ?_
  refine xr_bipush 40 dX10_init_116 (by decide) ?_
  obtain ⟨hm79, h⟩ := h
  refine xr_newa (kd := 9) (t := 1) (n := 40) dX10_init_118 rfl arr_int (fun _ => rfl) (by decide) (by decide) rfl (by decide) (by decide) (by decide) hm79 (fun q77 hq78 => ?_)
  replace h := h q77 hq78
  refine yr_putRF dX10_init_120 rfl fp_RX10_53 (Or.inr ⟨_, rfl⟩) rfl (xat_old (kd := 9) (n := 40) hq78 (xat_old (kd := 9) (n := 131072) hq72 (xat_old (kd := 11) (n := 440) hq66 (xat_old (kd := 9) (n := 440) hq60 (xat_old (kd := 9) (n := 440) hq54 (xat_old (kd := 10) (n := 440) hq48 (xat_old (kd := 11) (n := 440) hq42 (xat_old (kd := 9) (n := 440) hq36 (xat_old (kd := 9) (n := 5280) hq30 (xat_old (kd := 9) (n := 440) hq24 (xat_old (kd := 9) (n := 440) hq18 (xat_old (kd := 11) (n := 440) hq12 t7)))))))))))) ?_
  refine xr_aload_n 0 dX10_init_123 rfl rfl ?_
  refine xr_sipush 512 dX10_init_124 (by decide) ?_
  obtain ⟨hm85, h⟩ := h
  refine xr_newa (kd := 9) (t := 1) (n := 512) dX10_init_127 rfl arr_int (fun _ => rfl) (by decide) (by decide) rfl (by decide) (by decide) (by decide) hm85 (fun q83 hq84 => ?_)
  replace h := h q83 hq84
  refine yr_putRF dX10_init_129 rfl fp_RX10_56 (Or.inr ⟨_, rfl⟩) rfl (xat_old (kd := 9) (n := 512) hq84 (xat_old (kd := 9) (n := 40) hq78 (xat_old (kd := 9) (n := 131072) hq72 (xat_old (kd := 11) (n := 440) hq66 (xat_old (kd := 9) (n := 440) hq60 (xat_old (kd := 9) (n := 440) hq54 (xat_old (kd := 10) (n := 440) hq48 (xat_old (kd := 11) (n := 440) hq42 (xat_old (kd := 9) (n := 440) hq36 (xat_old (kd := 9) (n := 5280) hq30 (xat_old (kd := 9) (n := 440) hq24 (xat_old (kd := 9) (n := 440) hq18 (xat_old (kd := 11) (n := 440) hq12 t7))))))))))))) ?_
  refine xr_aload_n 0 dX10_init_132 rfl rfl ?_
  refine xr_sipush 256 dX10_init_133 (by decide) ?_
  obtain ⟨hm91, h⟩ := h
  refine xr_newa (kd := 11) (t := 3) (n := 256) dX10_init_136 rfl arr_boolean (fun _ => rfl) (by decide) (by decide) rfl (by decide) (by decide) (by decide) hm91 (fun q89 hq90 => ?_)
  replace h := h q89 hq90
  refine yr_putRF dX10_init_138 rfl fp_RX10_59 (Or.inr ⟨_, rfl⟩) rfl (xat_old (kd := 11) (n := 256) hq90 (xat_old (kd := 9) (n := 512) hq84 (xat_old (kd := 9) (n := 40) hq78 (xat_old (kd := 9) (n := 131072) hq72 (xat_old (kd := 11) (n := 440) hq66 (xat_old (kd := 9) (n := 440) hq60 (xat_old (kd := 9) (n := 440) hq54 (xat_old (kd := 10) (n := 440) hq48 (xat_old (kd := 11) (n := 440) hq42 (xat_old (kd := 9) (n := 440) hq36 (xat_old (kd := 9) (n := 5280) hq30 (xat_old (kd := 9) (n := 440) hq24 (xat_old (kd := 9) (n := 440) hq18 (xat_old (kd := 11) (n := 440) hq12 t7)))))))))))))) ?_
  refine xr_aload_n 0 dX10_init_141 rfl rfl ?_
  obtain ⟨hm103, h⟩ := h
  refine yr_callV (r := (some a0)) [] dX10_init_142 cv_X10_init_62 rfl (xat_old (kd := 11) (n := 256) hq90 (xat_old (kd := 9) (n := 512) hq84 (xat_old (kd := 9) (n := 40) hq78 (xat_old (kd := 9) (n := 131072) hq72 (xat_old (kd := 11) (n := 440) hq66 (xat_old (kd := 9) (n := 440) hq60 (xat_old (kd := 9) (n := 440) hq54 (xat_old (kd := 10) (n := 440) hq48 (xat_old (kd := 11) (n := 440) hq42 (xat_old (kd := 9) (n := 440) hq36 (xat_old (kd := 9) (n := 5280) hq30 (xat_old (kd := 9) (n := 440) hq24 (xat_old (kd := 9) (n := 440) hq18 (xat_old (kd := 11) (n := 440) hq12 t7)))))))))))))) rfl (Nat.le_trans wt_0 (by decide)) hm103 (xSp.mono h ?_)
  clear h
  intro ρ94 M93 h
  obtain ⟨rfl, h⟩ := h
  refine xr_aload_n 0 dX10_init_145 rfl rfl ?_
  obtain ⟨t100, h⟩ := h
  obtain ⟨hm102, h⟩ := h
  refine yr_callV (r := (some a0)) [] dX10_init_146 cv_X10_init_65 rfl t100 rfl (Nat.le_trans wt_0 (by decide)) hm102 (xSp.mono h ?_)
  clear h
  intro ρ98 M97 h
  obtain ⟨rfl, h⟩ := h
  obtain ⟨hm101, h⟩ := h
  exact xr_ret hm101 (xRv rfl dX10_init_149) h
theorem dX10_thrown_0 : decode cX10_thrown 0 = .ok (.aload_n 0, 1) := by decide +kernel
theorem dX10_thrown_1 : decode cX10_thrown 1 = .ok (.getfield 68, 3) := by decide +kernel
theorem dX10_thrown_4 : decode cX10_thrown 4 = .ok (.ireturn, 1) := by decide +kernel
set_option maxRecDepth 100000 in
set_option maxHeartbeats 4000000 in
theorem bX10_thrown_0 {l : Launch} {g : xG} (a0 : Nat) {M : xM} {Q : Option Value → xM → Prop} (h : (xat M a0 7 ∧ (Q (some (.int (xI M a0 0))) M))) : xWp l g mX10_thrown 0 0 0 [(1, va_rf (some a0))] [] (0, 0) M Q := by
  refine xr_aload_n 0 dX10_thrown_0 rfl rfl ?_
  obtain ⟨t1, h⟩ := h
  refine yr_getI dX10_thrown_1 fl_RX10_68 rfl t1 ?_
  exact xr_retv (by decide) (xRi rfl rfl dX10_thrown_4) h
theorem dX10_in_0 : decode cX10_in 0 = .ok (.lload_n 0, 1) := by decide +kernel
theorem dX10_in_1 : decode cX10_in 1 = .ok (.lload_n 2, 1) := by decide +kernel
theorem dX10_in_2 : decode cX10_in 2 = .ok (.lcmp, 1) := by decide +kernel
theorem dX10_in_3 : decode cX10_in 3 = .ok (.ifCond .lt 14, 3) := by decide +kernel
theorem dX10_in_6 : decode cX10_in 6 = .ok (.lload_n 0, 1) := by decide +kernel
theorem dX10_in_7 : decode cX10_in 7 = .ok (.lload 4, 2) := by decide +kernel
theorem dX10_in_9 : decode cX10_in 9 = .ok (.lcmp, 1) := by decide +kernel
theorem dX10_in_10 : decode cX10_in 10 = .ok (.ifCond .gt 7, 3) := by decide +kernel
theorem dX10_in_13 : decode cX10_in 13 = .ok (.iconst 1, 1) := by decide +kernel
theorem dX10_in_14 : decode cX10_in 14 = .ok (.goto 4, 3) := by decide +kernel
theorem dX10_in_17 : decode cX10_in 17 = .ok (.iconst 0, 1) := by decide +kernel
theorem dX10_in_18 : decode cX10_in 18 = .ok (.ireturn, 1) := by decide +kernel
set_option maxRecDepth 100000 in
set_option maxHeartbeats 4000000 in
theorem bX10_in_0 {l : Launch} {g : xG} (j0 : Int64) (j2 : Int64) (j4 : Int64) {M : xM} {Q : Option Value → xM → Prop} (h : (((lg_cmp j0 j2) < 0 → (Q (some (.int 0)) M)) ∧ (¬ (lg_cmp j0 j2) < 0 → ((0 < (lg_cmp j0 j4) → (Q (some (.int 0)) M)) ∧ (¬ 0 < (lg_cmp j0 j4) → (Q (some (.int 1)) M)))))) : xWp l g mX10_in 0 0 0 [(2, .long j0), (0, .null), (2, .long j2), (0, .null), (2, .long j4), (0, .null)] [] (0, 0) M Q := by
  refine xr_lload_n 0 dX10_in_0 rfl rfl ?_
  refine xr_lload_n 2 dX10_in_1 rfl rfl ?_
  refine xr_lcmp dX10_in_2 ?_
  obtain ⟨ht, hf⟩ := h
  refine xr_if_lt 17 dX10_in_3 (by decide) (fun c2 => ?_) (fun c2 => ?_)
  · replace h := ht c2
    clear ht hf
    refine xr_iconst 0 dX10_in_17 (by decide) ?_
    exact xr_retv (by decide) (xRi rfl rfl dX10_in_18) h
  · replace h := hf c2
    clear ht hf
    refine xr_lload_n 0 dX10_in_6 rfl rfl ?_
    refine xr_lload dX10_in_7 rfl ?_
    refine xr_lcmp dX10_in_9 ?_
    obtain ⟨ht, hf⟩ := h
    refine xr_if_gt 17 dX10_in_10 (by decide) (fun c1 => ?_) (fun c1 => ?_)
    · replace h := ht c1
      clear ht hf
      refine xr_iconst 0 dX10_in_17 (by decide) ?_
      exact xr_retv (by decide) (xRi rfl rfl dX10_in_18) h
    · replace h := hf c1
      clear ht hf
      refine xr_iconst 1 dX10_in_13 (by decide) ?_
      refine xr_goto 18 dX10_in_14 (by decide) ?_
      exact xr_retv (by decide) (xRi rfl rfl dX10_in_18) h
theorem dX10_clear_0 : decode cX10_clear 0 = .ok (.iconst 0, 1) := by decide +kernel
theorem dX10_clear_1 : decode cX10_clear 1 = .ok (.istore_n 1, 1) := by decide +kernel
theorem dX10_clear_2 : decode cX10_clear 2 = .ok (.iload_n 1, 1) := by decide +kernel
theorem dX10_clear_3 : decode cX10_clear 3 = .ok (.sipush 220, 3) := by decide +kernel
theorem dX10_clear_6 : decode cX10_clear 6 = .ok (.if_icmp .ge 16, 3) := by decide +kernel
theorem dX10_clear_9 : decode cX10_clear 9 = .ok (.aload_n 0, 1) := by decide +kernel
theorem dX10_clear_10 : decode cX10_clear 10 = .ok (.getfield 13, 3) := by decide +kernel
theorem dX10_clear_13 : decode cX10_clear 13 = .ok (.iload_n 1, 1) := by decide +kernel
theorem dX10_clear_14 : decode cX10_clear 14 = .ok (.iconst 0, 1) := by decide +kernel
theorem dX10_clear_15 : decode cX10_clear 15 = .ok (.bastore, 1) := by decide +kernel
theorem dX10_clear_16 : decode cX10_clear 16 = .ok (.iinc 1 1, 3) := by decide +kernel
theorem dX10_clear_19 : decode cX10_clear 19 = .ok (.goto (-17), 3) := by decide +kernel
theorem dX10_clear_22 : decode cX10_clear 22 = .ok (.aload_n 0, 1) := by decide +kernel
theorem dX10_clear_23 : decode cX10_clear 23 = .ok (.aload_n 0, 1) := by decide +kernel
theorem dX10_clear_24 : decode cX10_clear 24 = .ok (.iconst (-1), 1) := by decide +kernel
theorem dX10_clear_25 : decode cX10_clear 25 = .ok (.iconst 0, 1) := by decide +kernel
theorem dX10_clear_26 : decode cX10_clear 26 = .ok (.invokevirtual 71, 3) := by decide +kernel
theorem dX10_clear_29 : decode cX10_clear 29 = .ok (.putfield 75, 3) := by decide +kernel
theorem dX10_clear_32 : decode cX10_clear 32 = .ok (.aload_n 0, 1) := by decide +kernel
theorem dX10_clear_33 : decode cX10_clear 33 = .ok (.getfield 42, 3) := by decide +kernel
theorem dX10_clear_36 : decode cX10_clear 36 = .ok (.aload_n 0, 1) := by decide +kernel
theorem dX10_clear_37 : decode cX10_clear 37 = .ok (.getfield 75, 3) := by decide +kernel
theorem dX10_clear_40 : decode cX10_clear 40 = .ok (.iconst 0, 1) := by decide +kernel
theorem dX10_clear_41 : decode cX10_clear 41 = .ok (.bastore, 1) := by decide +kernel
theorem dX10_clear_42 : decode cX10_clear 42 = .ok (.return_, 1) := by decide +kernel
set_option maxRecDepth 100000 in
set_option maxHeartbeats 4000000 in
theorem bX10_clear_2 {l : Launch} {g : xG} (a0 : Nat) (x1 : Int32) {M : xM} {Q : Option Value → xM → Prop} (h : ((220 ≤ x1 → (xat M a0 7 ∧ xSp l g mX10_newNode 0 0 [va_rf (some a0), .int (-1), .int 0] M (fun ρ3 M2 => ∃ v1 : Int32, ρ3 = some (.int v1) ∧ (xat M2 a0 7 ∧ (∃ a7, (xR (xsI M2 a0 14 v1) a0 13) = some a7 ∧ ∃ i9, xai (xsI M2 a0 14 v1) a7 11 (xI (xsI M2 a0 14 v1) a0 14) i9 ∧ (Q none (xsI (xsI M2 a0 14 v1) a7 i9 ((0 : Int32) &&& 1)))))))) ∧ (¬ 220 ≤ x1 → (xat M a0 7 ∧ (∃ a12, (xR M a0 4) = some a12 ∧ ∃ i14, xai M a12 11 x1 i14 ∧ xWp l g mX10_clear 0 0 2 [(1, va_rf (some a0)), (1, .int (x1 + 1))] [] (0, 0) (xsI M a12 i14 ((0 : Int32) &&& 1)) Q))))) : xWp l g mX10_clear 0 0 2 [(1, va_rf (some a0)), (1, .int x1)] [] (0, 0) M Q := by
  refine xr_iload_n 1 dX10_clear_2 rfl rfl ?_
  refine xr_sipush 220 dX10_clear_3 (by decide) ?_
  obtain ⟨ht, hf⟩ := h
  refine xr_icmp_ge 22 dX10_clear_6 (by decide) (fun c16 => ?_) (fun c16 => ?_)
  · replace h := ht c16
    clear ht hf
    refine xr_aload_n 0 dX10_clear_22 rfl rfl ?_
    refine xr_aload_n 0 dX10_clear_23 rfl rfl ?_
    refine xr_iconst (-1) dX10_clear_24 (by decide) ?_
    refine xr_iconst 0 dX10_clear_25 (by decide) ?_
    obtain ⟨t5, h⟩ := h
    refine yr_callV (r := (some a0)) [.int (-1), .int 0] dX10_clear_26 cv_X10_clear_71 rfl t5 rfl (Nat.le_trans (wt_r wt_0) (by decide)) (by decide) (xSp.mono h ?_)
    clear h
    intro ρ3 M2 h
    obtain ⟨v1, rfl, h⟩ := h
    obtain ⟨t6, h⟩ := h
    refine yr_putI dX10_clear_29 fp_RX10_75 rfl t6 ?_
    refine xr_aload_n 0 dX10_clear_32 rfl rfl ?_
    refine yr_getR dX10_clear_33 fl_RX10_42 rfl t6 ?_
    refine xr_aload_n 0 dX10_clear_36 rfl rfl ?_
    refine yr_getI dX10_clear_37 fl_RX10_75 rfl t6 ?_
    refine xr_iconst 0 dX10_clear_40 (by decide) ?_
    obtain ⟨a7, e8, h⟩ := h
    obtain ⟨i9, t10, h⟩ := h
    refine yr_zast dX10_clear_41 e8 t10 ?_
    exact xr_ret (by decide) (xRv rfl dX10_clear_42) h
  · replace h := hf c16
    clear ht hf
    refine xr_aload_n 0 dX10_clear_9 rfl rfl ?_
    obtain ⟨t11, h⟩ := h
    refine yr_getR dX10_clear_10 fl_RX10_13 rfl t11 ?_
    refine xr_iload_n 1 dX10_clear_13 rfl rfl ?_
    refine xr_iconst 0 dX10_clear_14 (by decide) ?_
    obtain ⟨a12, e13, h⟩ := h
    obtain ⟨i14, t15, h⟩ := h
    refine yr_zast dX10_clear_15 e13 t15 ?_
    refine ziinc (x1 + 1) dX10_clear_16 rfl rfl (L1 := [(1, va_rf (some a0)), (1, .int (x1 + 1))]) (by decide) rfl ?_
    refine xr_goto 2 dX10_clear_19 (by decide) ?_
    exact h
set_option maxRecDepth 100000 in
set_option maxHeartbeats 4000000 in
theorem bX10_clear_0 {l : Launch} {g : xG} (a0 : Nat) {M : xM} {Q : Option Value → xM → Prop} (h : xWp l g mX10_clear 0 0 2 [(1, va_rf (some a0)), (1, .int 0)] [] (0, 0) M Q) : xWp l g mX10_clear 0 0 0 [(1, va_rf (some a0)), (0, .null)] [] (0, 0) M Q := by
  refine xr_iconst 0 dX10_clear_0 (by decide) ?_
  refine zistore_n 1 dX10_clear_1 rfl (L1 := [(1, va_rf (some a0)), (1, .int 0)]) (by decide) rfl ?_
  exact h
theorem dX10_copy_0 : decode cX10_copy 0 = .ok (.iconst 0, 1) := by decide +kernel
theorem dX10_copy_1 : decode cX10_copy 1 = .ok (.istore_n 3, 1) := by decide +kernel
theorem dX10_copy_2 : decode cX10_copy 2 = .ok (.iload_n 3, 1) := by decide +kernel
theorem dX10_copy_3 : decode cX10_copy 3 = .ok (.sipush 220, 3) := by decide +kernel
theorem dX10_copy_6 : decode cX10_copy 6 = .ok (.if_icmp .ge 197, 3) := by decide +kernel
theorem dX10_copy_9 : decode cX10_copy 9 = .ok (.aload_n 0, 1) := by decide +kernel
theorem dX10_copy_10 : decode cX10_copy 10 = .ok (.getfield 13, 3) := by decide +kernel
theorem dX10_copy_13 : decode cX10_copy 13 = .ok (.iload_n 2, 1) := by decide +kernel
theorem dX10_copy_14 : decode cX10_copy 14 = .ok (.iload_n 3, 1) := by decide +kernel
theorem dX10_copy_15 : decode cX10_copy 15 = .ok (.iadd, 1) := by decide +kernel
theorem dX10_copy_16 : decode cX10_copy 16 = .ok (.aload_n 0, 1) := by decide +kernel
theorem dX10_copy_17 : decode cX10_copy 17 = .ok (.getfield 13, 3) := by decide +kernel
theorem dX10_copy_20 : decode cX10_copy 20 = .ok (.iload_n 1, 1) := by decide +kernel
theorem dX10_copy_21 : decode cX10_copy 21 = .ok (.iload_n 3, 1) := by decide +kernel
theorem dX10_copy_22 : decode cX10_copy 22 = .ok (.iadd, 1) := by decide +kernel
theorem dX10_copy_23 : decode cX10_copy 23 = .ok (.baload, 1) := by decide +kernel
theorem dX10_copy_24 : decode cX10_copy 24 = .ok (.bastore, 1) := by decide +kernel
theorem dX10_copy_25 : decode cX10_copy 25 = .ok (.aload_n 0, 1) := by decide +kernel
theorem dX10_copy_26 : decode cX10_copy 26 = .ok (.getfield 17, 3) := by decide +kernel
theorem dX10_copy_29 : decode cX10_copy 29 = .ok (.iload_n 2, 1) := by decide +kernel
theorem dX10_copy_30 : decode cX10_copy 30 = .ok (.iload_n 3, 1) := by decide +kernel
theorem dX10_copy_31 : decode cX10_copy 31 = .ok (.iadd, 1) := by decide +kernel
theorem dX10_copy_32 : decode cX10_copy 32 = .ok (.aload_n 0, 1) := by decide +kernel
theorem dX10_copy_33 : decode cX10_copy 33 = .ok (.getfield 17, 3) := by decide +kernel
theorem dX10_copy_36 : decode cX10_copy 36 = .ok (.iload_n 1, 1) := by decide +kernel
theorem dX10_copy_37 : decode cX10_copy 37 = .ok (.iload_n 3, 1) := by decide +kernel
theorem dX10_copy_38 : decode cX10_copy 38 = .ok (.iadd, 1) := by decide +kernel
theorem dX10_copy_39 : decode cX10_copy 39 = .ok (.iaload, 1) := by decide +kernel
theorem dX10_copy_40 : decode cX10_copy 40 = .ok (.iastore, 1) := by decide +kernel
theorem dX10_copy_41 : decode cX10_copy 41 = .ok (.aload_n 0, 1) := by decide +kernel
theorem dX10_copy_42 : decode cX10_copy 42 = .ok (.getfield 20, 3) := by decide +kernel
theorem dX10_copy_45 : decode cX10_copy 45 = .ok (.iload_n 2, 1) := by decide +kernel
theorem dX10_copy_46 : decode cX10_copy 46 = .ok (.iload_n 3, 1) := by decide +kernel
theorem dX10_copy_47 : decode cX10_copy 47 = .ok (.iadd, 1) := by decide +kernel
theorem dX10_copy_48 : decode cX10_copy 48 = .ok (.aload_n 0, 1) := by decide +kernel
theorem dX10_copy_49 : decode cX10_copy 49 = .ok (.getfield 20, 3) := by decide +kernel
theorem dX10_copy_52 : decode cX10_copy 52 = .ok (.iload_n 1, 1) := by decide +kernel
theorem dX10_copy_53 : decode cX10_copy 53 = .ok (.iload_n 3, 1) := by decide +kernel
theorem dX10_copy_54 : decode cX10_copy 54 = .ok (.iadd, 1) := by decide +kernel
theorem dX10_copy_55 : decode cX10_copy 55 = .ok (.iaload, 1) := by decide +kernel
theorem dX10_copy_56 : decode cX10_copy 56 = .ok (.iastore, 1) := by decide +kernel
theorem dX10_copy_57 : decode cX10_copy 57 = .ok (.aload_n 0, 1) := by decide +kernel
theorem dX10_copy_58 : decode cX10_copy 58 = .ok (.getfield 26, 3) := by decide +kernel
theorem dX10_copy_61 : decode cX10_copy 61 = .ok (.iload_n 2, 1) := by decide +kernel
theorem dX10_copy_62 : decode cX10_copy 62 = .ok (.iload_n 3, 1) := by decide +kernel
theorem dX10_copy_63 : decode cX10_copy 63 = .ok (.iadd, 1) := by decide +kernel
theorem dX10_copy_64 : decode cX10_copy 64 = .ok (.aload_n 0, 1) := by decide +kernel
theorem dX10_copy_65 : decode cX10_copy 65 = .ok (.getfield 26, 3) := by decide +kernel
theorem dX10_copy_68 : decode cX10_copy 68 = .ok (.iload_n 1, 1) := by decide +kernel
theorem dX10_copy_69 : decode cX10_copy 69 = .ok (.iload_n 3, 1) := by decide +kernel
theorem dX10_copy_70 : decode cX10_copy 70 = .ok (.iadd, 1) := by decide +kernel
theorem dX10_copy_71 : decode cX10_copy 71 = .ok (.iaload, 1) := by decide +kernel
theorem dX10_copy_72 : decode cX10_copy 72 = .ok (.iastore, 1) := by decide +kernel
theorem dX10_copy_73 : decode cX10_copy 73 = .ok (.aload_n 0, 1) := by decide +kernel
theorem dX10_copy_74 : decode cX10_copy 74 = .ok (.getfield 29, 3) := by decide +kernel
theorem dX10_copy_77 : decode cX10_copy 77 = .ok (.iload_n 2, 1) := by decide +kernel
theorem dX10_copy_78 : decode cX10_copy 78 = .ok (.iload_n 3, 1) := by decide +kernel
theorem dX10_copy_79 : decode cX10_copy 79 = .ok (.iadd, 1) := by decide +kernel
theorem dX10_copy_80 : decode cX10_copy 80 = .ok (.aload_n 0, 1) := by decide +kernel
theorem dX10_copy_81 : decode cX10_copy 81 = .ok (.getfield 29, 3) := by decide +kernel
theorem dX10_copy_84 : decode cX10_copy 84 = .ok (.iload_n 1, 1) := by decide +kernel
theorem dX10_copy_85 : decode cX10_copy 85 = .ok (.iload_n 3, 1) := by decide +kernel
theorem dX10_copy_86 : decode cX10_copy 86 = .ok (.iadd, 1) := by decide +kernel
theorem dX10_copy_87 : decode cX10_copy 87 = .ok (.baload, 1) := by decide +kernel
theorem dX10_copy_88 : decode cX10_copy 88 = .ok (.bastore, 1) := by decide +kernel
theorem dX10_copy_89 : decode cX10_copy 89 = .ok (.aload_n 0, 1) := by decide +kernel
theorem dX10_copy_90 : decode cX10_copy 90 = .ok (.getfield 32, 3) := by decide +kernel
theorem dX10_copy_93 : decode cX10_copy 93 = .ok (.iload_n 2, 1) := by decide +kernel
theorem dX10_copy_94 : decode cX10_copy 94 = .ok (.iload_n 3, 1) := by decide +kernel
theorem dX10_copy_95 : decode cX10_copy 95 = .ok (.iadd, 1) := by decide +kernel
theorem dX10_copy_96 : decode cX10_copy 96 = .ok (.aload_n 0, 1) := by decide +kernel
theorem dX10_copy_97 : decode cX10_copy 97 = .ok (.getfield 32, 3) := by decide +kernel
theorem dX10_copy_100 : decode cX10_copy 100 = .ok (.iload_n 1, 1) := by decide +kernel
theorem dX10_copy_101 : decode cX10_copy 101 = .ok (.iload_n 3, 1) := by decide +kernel
theorem dX10_copy_102 : decode cX10_copy 102 = .ok (.iadd, 1) := by decide +kernel
theorem dX10_copy_103 : decode cX10_copy 103 = .ok (.laload, 1) := by decide +kernel
theorem dX10_copy_104 : decode cX10_copy 104 = .ok (.lastore, 1) := by decide +kernel
theorem dX10_copy_105 : decode cX10_copy 105 = .ok (.aload_n 0, 1) := by decide +kernel
theorem dX10_copy_106 : decode cX10_copy 106 = .ok (.getfield 36, 3) := by decide +kernel
theorem dX10_copy_109 : decode cX10_copy 109 = .ok (.iload_n 2, 1) := by decide +kernel
theorem dX10_copy_110 : decode cX10_copy 110 = .ok (.iload_n 3, 1) := by decide +kernel
theorem dX10_copy_111 : decode cX10_copy 111 = .ok (.iadd, 1) := by decide +kernel
theorem dX10_copy_112 : decode cX10_copy 112 = .ok (.aload_n 0, 1) := by decide +kernel
theorem dX10_copy_113 : decode cX10_copy 113 = .ok (.getfield 36, 3) := by decide +kernel
theorem dX10_copy_116 : decode cX10_copy 116 = .ok (.iload_n 1, 1) := by decide +kernel
theorem dX10_copy_117 : decode cX10_copy 117 = .ok (.iload_n 3, 1) := by decide +kernel
theorem dX10_copy_118 : decode cX10_copy 118 = .ok (.iadd, 1) := by decide +kernel
theorem dX10_copy_119 : decode cX10_copy 119 = .ok (.iaload, 1) := by decide +kernel
theorem dX10_copy_120 : decode cX10_copy 120 = .ok (.iastore, 1) := by decide +kernel
theorem dX10_copy_121 : decode cX10_copy 121 = .ok (.aload_n 0, 1) := by decide +kernel
theorem dX10_copy_122 : decode cX10_copy 122 = .ok (.getfield 39, 3) := by decide +kernel
theorem dX10_copy_125 : decode cX10_copy 125 = .ok (.iload_n 2, 1) := by decide +kernel
theorem dX10_copy_126 : decode cX10_copy 126 = .ok (.iload_n 3, 1) := by decide +kernel
theorem dX10_copy_127 : decode cX10_copy 127 = .ok (.iadd, 1) := by decide +kernel
theorem dX10_copy_128 : decode cX10_copy 128 = .ok (.aload_n 0, 1) := by decide +kernel
theorem dX10_copy_129 : decode cX10_copy 129 = .ok (.getfield 39, 3) := by decide +kernel
theorem dX10_copy_132 : decode cX10_copy 132 = .ok (.iload_n 1, 1) := by decide +kernel
theorem dX10_copy_133 : decode cX10_copy 133 = .ok (.iload_n 3, 1) := by decide +kernel
theorem dX10_copy_134 : decode cX10_copy 134 = .ok (.iadd, 1) := by decide +kernel
theorem dX10_copy_135 : decode cX10_copy 135 = .ok (.iaload, 1) := by decide +kernel
theorem dX10_copy_136 : decode cX10_copy 136 = .ok (.iastore, 1) := by decide +kernel
theorem dX10_copy_137 : decode cX10_copy 137 = .ok (.aload_n 0, 1) := by decide +kernel
theorem dX10_copy_138 : decode cX10_copy 138 = .ok (.getfield 42, 3) := by decide +kernel
theorem dX10_copy_141 : decode cX10_copy 141 = .ok (.iload_n 2, 1) := by decide +kernel
theorem dX10_copy_142 : decode cX10_copy 142 = .ok (.iload_n 3, 1) := by decide +kernel
theorem dX10_copy_143 : decode cX10_copy 143 = .ok (.iadd, 1) := by decide +kernel
theorem dX10_copy_144 : decode cX10_copy 144 = .ok (.aload_n 0, 1) := by decide +kernel
theorem dX10_copy_145 : decode cX10_copy 145 = .ok (.getfield 42, 3) := by decide +kernel
theorem dX10_copy_148 : decode cX10_copy 148 = .ok (.iload_n 1, 1) := by decide +kernel
theorem dX10_copy_149 : decode cX10_copy 149 = .ok (.iload_n 3, 1) := by decide +kernel
theorem dX10_copy_150 : decode cX10_copy 150 = .ok (.iadd, 1) := by decide +kernel
theorem dX10_copy_151 : decode cX10_copy 151 = .ok (.baload, 1) := by decide +kernel
theorem dX10_copy_152 : decode cX10_copy 152 = .ok (.bastore, 1) := by decide +kernel
theorem dX10_copy_153 : decode cX10_copy 153 = .ok (.iconst 0, 1) := by decide +kernel
theorem dX10_copy_154 : decode cX10_copy 154 = .ok (.istore 4, 2) := by decide +kernel
theorem dX10_copy_156 : decode cX10_copy 156 = .ok (.iload 4, 2) := by decide +kernel
theorem dX10_copy_158 : decode cX10_copy 158 = .ok (.bipush 12, 2) := by decide +kernel
theorem dX10_copy_160 : decode cX10_copy 160 = .ok (.if_icmp .ge 37, 3) := by decide +kernel
theorem dX10_copy_163 : decode cX10_copy 163 = .ok (.aload_n 0, 1) := by decide +kernel
theorem dX10_copy_164 : decode cX10_copy 164 = .ok (.getfield 23, 3) := by decide +kernel
theorem dX10_copy_167 : decode cX10_copy 167 = .ok (.bipush 12, 2) := by decide +kernel
theorem dX10_copy_169 : decode cX10_copy 169 = .ok (.iload_n 2, 1) := by decide +kernel
theorem dX10_copy_170 : decode cX10_copy 170 = .ok (.iload_n 3, 1) := by decide +kernel
theorem dX10_copy_171 : decode cX10_copy 171 = .ok (.iadd, 1) := by decide +kernel
theorem dX10_copy_172 : decode cX10_copy 172 = .ok (.imul, 1) := by decide +kernel
theorem dX10_copy_173 : decode cX10_copy 173 = .ok (.iload 4, 2) := by decide +kernel
theorem dX10_copy_175 : decode cX10_copy 175 = .ok (.iadd, 1) := by decide +kernel
theorem dX10_copy_176 : decode cX10_copy 176 = .ok (.aload_n 0, 1) := by decide +kernel
theorem dX10_copy_177 : decode cX10_copy 177 = .ok (.getfield 23, 3) := by decide +kernel
theorem dX10_copy_180 : decode cX10_copy 180 = .ok (.bipush 12, 2) := by decide +kernel
theorem dX10_copy_182 : decode cX10_copy 182 = .ok (.iload_n 1, 1) := by decide +kernel
theorem dX10_copy_183 : decode cX10_copy 183 = .ok (.iload_n 3, 1) := by decide +kernel
theorem dX10_copy_184 : decode cX10_copy 184 = .ok (.iadd, 1) := by decide +kernel
theorem dX10_copy_185 : decode cX10_copy 185 = .ok (.imul, 1) := by decide +kernel
theorem dX10_copy_186 : decode cX10_copy 186 = .ok (.iload 4, 2) := by decide +kernel
theorem dX10_copy_188 : decode cX10_copy 188 = .ok (.iadd, 1) := by decide +kernel
theorem dX10_copy_189 : decode cX10_copy 189 = .ok (.iaload, 1) := by decide +kernel
theorem dX10_copy_190 : decode cX10_copy 190 = .ok (.iastore, 1) := by decide +kernel
theorem dX10_copy_191 : decode cX10_copy 191 = .ok (.iinc 4 1, 3) := by decide +kernel
theorem dX10_copy_194 : decode cX10_copy 194 = .ok (.goto (-38), 3) := by decide +kernel
theorem dX10_copy_197 : decode cX10_copy 197 = .ok (.iinc 3 1, 3) := by decide +kernel
theorem dX10_copy_200 : decode cX10_copy 200 = .ok (.goto (-198), 3) := by decide +kernel
theorem dX10_copy_203 : decode cX10_copy 203 = .ok (.return_, 1) := by decide +kernel
set_option maxRecDepth 100000 in
set_option maxHeartbeats 4000000 in
theorem bX10_copy_156 {l : Launch} {g : xG} (a0 : Nat) (x1 : Int32) (x2 : Int32) (x3 : Int32) (x4 : Int32) {M : xM} {Q : Option Value → xM → Prop} (h : ((12 ≤ x4 → xWp l g mX10_copy 0 0 2 [(1, va_rf (some a0)), (1, .int x1), (1, .int x2), (1, .int (x3 + 1)), (1, .int x4)] [] (0, 0) M Q) ∧ (¬ 12 ≤ x4 → (xat M a0 7 ∧ (∃ a2, (xR M a0 7) = some a2 ∧ ∃ i4, xai M a2 9 ((12 * (x1 + x3)) + x4) i4 ∧ (∃ i6, xai M a2 9 ((12 * (x2 + x3)) + x4) i6 ∧ xWp l g mX10_copy 0 0 156 [(1, va_rf (some a0)), (1, .int x1), (1, .int x2), (1, .int x3), (1, .int (x4 + 1))] [] (0, 0) (xsI M a2 i6 (xI M a2 i4)) Q)))))) : xWp l g mX10_copy 0 0 156 [(1, va_rf (some a0)), (1, .int x1), (1, .int x2), (1, .int x3), (1, .int x4)] [] (0, 0) M Q := by
  refine xr_iload dX10_copy_156 rfl ?_
  refine xr_bipush 12 dX10_copy_158 (by decide) ?_
  obtain ⟨ht, hf⟩ := h
  refine xr_icmp_ge 197 dX10_copy_160 (by decide) (fun c8 => ?_) (fun c8 => ?_)
  · replace h := ht c8
    clear ht hf
    refine ziinc (x3 + 1) dX10_copy_197 rfl rfl (L1 := [(1, va_rf (some a0)), (1, .int x1), (1, .int x2), (1, .int (x3 + 1)), (1, .int x4)]) (by decide) rfl ?_
    refine xr_goto 2 dX10_copy_200 (by decide) ?_
    exact h
  · replace h := hf c8
    clear ht hf
    refine xr_aload_n 0 dX10_copy_163 rfl rfl ?_
    obtain ⟨t1, h⟩ := h
    refine yr_getR dX10_copy_164 fl_RX10_23 rfl t1 ?_
    refine xr_bipush 12 dX10_copy_167 (by decide) ?_
    refine xr_iload_n 2 dX10_copy_169 rfl rfl ?_
    refine xr_iload_n 3 dX10_copy_170 rfl rfl ?_
    refine xr_iadd dX10_copy_171 ?_
    refine xr_imul dX10_copy_172 ?_
    refine xr_iload dX10_copy_173 rfl ?_
    refine xr_iadd dX10_copy_175 ?_
    refine xr_aload_n 0 dX10_copy_176 rfl rfl ?_
    refine yr_getR dX10_copy_177 fl_RX10_23 rfl t1 ?_
    refine xr_bipush 12 dX10_copy_180 (by decide) ?_
    refine xr_iload_n 1 dX10_copy_182 rfl rfl ?_
    refine xr_iload_n 3 dX10_copy_183 rfl rfl ?_
    refine xr_iadd dX10_copy_184 ?_
    refine xr_imul dX10_copy_185 ?_
    refine xr_iload dX10_copy_186 rfl ?_
    refine xr_iadd dX10_copy_188 ?_
    obtain ⟨a2, e3, h⟩ := h
    obtain ⟨i4, t5, h⟩ := h
    refine yr_iald dX10_copy_189 e3 t5 ?_
    obtain ⟨i6, t7, h⟩ := h
    refine yr_iast dX10_copy_190 e3 t7 ?_
    refine ziinc (x4 + 1) dX10_copy_191 rfl rfl (L1 := [(1, va_rf (some a0)), (1, .int x1), (1, .int x2), (1, .int x3), (1, .int (x4 + 1))]) (by decide) rfl ?_
    refine xr_goto 156 dX10_copy_194 (by decide) ?_
    exact h
set_option maxRecDepth 100000 in
set_option maxHeartbeats 4000000 in
theorem bX10_copy_2 {l : Launch} {g : xG} (a0 : Nat) (x1 : Int32) (x2 : Int32) (x3 : Int32) (w4 : Value) {M : xM} {Q : Option Value → xM → Prop} (h : ((220 ≤ x3 → (Q none M)) ∧ (¬ 220 ≤ x3 → (xat M a0 7 ∧ (∃ a2, (xR M a0 4) = some a2 ∧ ∃ i4, xai M a2 11 (x1 + x3) i4 ∧ (∃ i6, xai M a2 11 (x2 + x3) i6 ∧ (∃ a8, (xR (xsI M a2 i6 ((xI M a2 i4) &&& 1)) a0 5) = some a8 ∧ ∃ i10, xai (xsI M a2 i6 ((xI M a2 i4) &&& 1)) a8 9 (x1 + x3) i10 ∧ (∃ i12, xai (xsI M a2 i6 ((xI M a2 i4) &&& 1)) a8 9 (x2 + x3) i12 ∧ (∃ a14, (xR (xsI (xsI M a2 i6 ((xI M a2 i4) &&& 1)) a8 i12 (xI (xsI M a2 i6 ((xI M a2 i4) &&& 1)) a8 i10)) a0 6) = some a14 ∧ ∃ i16, xai (xsI (xsI M a2 i6 ((xI M a2 i4) &&& 1)) a8 i12 (xI (xsI M a2 i6 ((xI M a2 i4) &&& 1)) a8 i10)) a14 9 (x1 + x3) i16 ∧ (∃ i18, xai (xsI (xsI M a2 i6 ((xI M a2 i4) &&& 1)) a8 i12 (xI (xsI M a2 i6 ((xI M a2 i4) &&& 1)) a8 i10)) a14 9 (x2 + x3) i18 ∧ (∃ a20, (xR (xsI (xsI (xsI M a2 i6 ((xI M a2 i4) &&& 1)) a8 i12 (xI (xsI M a2 i6 ((xI M a2 i4) &&& 1)) a8 i10)) a14 i18 (xI (xsI (xsI M a2 i6 ((xI M a2 i4) &&& 1)) a8 i12 (xI (xsI M a2 i6 ((xI M a2 i4) &&& 1)) a8 i10)) a14 i16)) a0 8) = some a20 ∧ ∃ i22, xai (xsI (xsI (xsI M a2 i6 ((xI M a2 i4) &&& 1)) a8 i12 (xI (xsI M a2 i6 ((xI M a2 i4) &&& 1)) a8 i10)) a14 i18 (xI (xsI (xsI M a2 i6 ((xI M a2 i4) &&& 1)) a8 i12 (xI (xsI M a2 i6 ((xI M a2 i4) &&& 1)) a8 i10)) a14 i16)) a20 9 (x1 + x3) i22 ∧ (∃ i24, xai (xsI (xsI (xsI M a2 i6 ((xI M a2 i4) &&& 1)) a8 i12 (xI (xsI M a2 i6 ((xI M a2 i4) &&& 1)) a8 i10)) a14 i18 (xI (xsI (xsI M a2 i6 ((xI M a2 i4) &&& 1)) a8 i12 (xI (xsI M a2 i6 ((xI M a2 i4) &&& 1)) a8 i10)) a14 i16)) a20 9 (x2 + x3) i24 ∧ (∃ a26, (xR (xsI (xsI (xsI (xsI M a2 i6 ((xI M a2 i4) &&& 1)) a8 i12 (xI (xsI M a2 i6 ((xI M a2 i4) &&& 1)) a8 i10)) a14 i18 (xI (xsI (xsI M a2 i6 ((xI M a2 i4) &&& 1)) a8 i12 (xI (xsI M a2 i6 ((xI M a2 i4) &&& 1)) a8 i10)) a14 i16)) a20 i24 (xI (xsI (xsI (xsI M a2 i6 ((xI M a2 i4) &&& 1)) a8 i12 (xI (xsI M a2 i6 ((xI M a2 i4) &&& 1)) a8 i10)) a14 i18 (xI (xsI (xsI M a2 i6 ((xI M a2 i4) &&& 1)) a8 i12 (xI (xsI M a2 i6 ((xI M a2 i4) &&& 1)) a8 i10)) a14 i16)) a20 i22)) a0 9) = some a26 ∧ ∃ i28, xai (xsI (xsI (xsI (xsI M a2 i6 ((xI M a2 i4) &&& 1)) a8 i12 (xI (xsI M a2 i6 ((xI M a2 i4) &&& 1)) a8 i10)) a14 i18 (xI (xsI (xsI M a2 i6 ((xI M a2 i4) &&& 1)) a8 i12 (xI (xsI M a2 i6 ((xI M a2 i4) &&& 1)) a8 i10)) a14 i16)) a20 i24 (xI (xsI (xsI (xsI M a2 i6 ((xI M a2 i4) &&& 1)) a8 i12 (xI (xsI M a2 i6 ((xI M a2 i4) &&& 1)) a8 i10)) a14 i18 (xI (xsI (xsI M a2 i6 ((xI M a2 i4) &&& 1)) a8 i12 (xI (xsI M a2 i6 ((xI M a2 i4) &&& 1)) a8 i10)) a14 i16)) a20 i22)) a26 11 (x1 + x3) i28 ∧ (∃ i30, xai (xsI (xsI (xsI (xsI M a2 i6 ((xI M a2 i4) &&& 1)) a8 i12 (xI (xsI M a2 i6 ((xI M a2 i4) &&& 1)) a8 i10)) a14 i18 (xI (xsI (xsI M a2 i6 ((xI M a2 i4) &&& 1)) a8 i12 (xI (xsI M a2 i6 ((xI M a2 i4) &&& 1)) a8 i10)) a14 i16)) a20 i24 (xI (xsI (xsI (xsI M a2 i6 ((xI M a2 i4) &&& 1)) a8 i12 (xI (xsI M a2 i6 ((xI M a2 i4) &&& 1)) a8 i10)) a14 i18 (xI (xsI (xsI M a2 i6 ((xI M a2 i4) &&& 1)) a8 i12 (xI (xsI M a2 i6 ((xI M a2 i4) &&& 1)) a8 i10)) a14 i16)) a20 i22)) a26 11 (x2 + x3) i30 ∧ (∃ a32, (xR (xsI (xsI (xsI (xsI (xsI M a2 i6 ((xI M a2 i4) &&& 1)) a8 i12 (xI (xsI M a2 i6 ((xI M a2 i4) &&& 1)) a8 i10)) a14 i18 (xI (xsI (xsI M a2 i6 ((xI M a2 i4) &&& 1)) a8 i12 (xI (xsI M a2 i6 ((xI M a2 i4) &&& 1)) a8 i10)) a14 i16)) a20 i24 (xI (xsI (xsI (xsI M a2 i6 ((xI M a2 i4) &&& 1)) a8 i12 (xI (xsI M a2 i6 ((xI M a2 i4) &&& 1)) a8 i10)) a14 i18 (xI (xsI (xsI M a2 i6 ((xI M a2 i4) &&& 1)) a8 i12 (xI (xsI M a2 i6 ((xI M a2 i4) &&& 1)) a8 i10)) a14 i16)) a20 i22)) a26 i30 ((xI (xsI (xsI (xsI (xsI M a2 i6 ((xI M a2 i4) &&& 1)) a8 i12 (xI (xsI M a2 i6 ((xI M a2 i4) &&& 1)) a8 i10)) a14 i18 (xI (xsI (xsI M a2 i6 ((xI M a2 i4) &&& 1)) a8 i12 (xI (xsI M a2 i6 ((xI M a2 i4) &&& 1)) a8 i10)) a14 i16)) a20 i24 (xI (xsI (xsI (xsI M a2 i6 ((xI M a2 i4) &&& 1)) a8 i12 (xI (xsI M a2 i6 ((xI M a2 i4) &&& 1)) a8 i10)) a14 i18 (xI (xsI (xsI M a2 i6 ((xI M a2 i4) &&& 1)) a8 i12 (xI (xsI M a2 i6 ((xI M a2 i4) &&& 1)) a8 i10)) a14 i16)) a20 i22)) a26 i28) &&& 1)) a0 10) = some a32 ∧ ∃ i34, xai (xsI (xsI (xsI (xsI (xsI M a2 i6 ((xI M a2 i4) &&& 1)) a8 i12 (xI (xsI M a2 i6 ((xI M a2 i4) &&& 1)) a8 i10)) a14 i18 (xI (xsI (xsI M a2 i6 ((xI M a2 i4) &&& 1)) a8 i12 (xI (xsI M a2 i6 ((xI M a2 i4) &&& 1)) a8 i10)) a14 i16)) a20 i24 (xI (xsI (xsI (xsI M a2 i6 ((xI M a2 i4) &&& 1)) a8 i12 (xI (xsI M a2 i6 ((xI M a2 i4) &&& 1)) a8 i10)) a14 i18 (xI (xsI (xsI M a2 i6 ((xI M a2 i4) &&& 1)) a8 i12 (xI (xsI M a2 i6 ((xI M a2 i4) &&& 1)) a8 i10)) a14 i16)) a20 i22)) a26 i30 ((xI (xsI (xsI (xsI (xsI M a2 i6 ((xI M a2 i4) &&& 1)) a8 i12 (xI (xsI M a2 i6 ((xI M a2 i4) &&& 1)) a8 i10)) a14 i18 (xI (xsI (xsI M a2 i6 ((xI M a2 i4) &&& 1)) a8 i12 (xI (xsI M a2 i6 ((xI M a2 i4) &&& 1)) a8 i10)) a14 i16)) a20 i24 (xI (xsI (xsI (xsI M a2 i6 ((xI M a2 i4) &&& 1)) a8 i12 (xI (xsI M a2 i6 ((xI M a2 i4) &&& 1)) a8 i10)) a14 i18 (xI (xsI (xsI M a2 i6 ((xI M a2 i4) &&& 1)) a8 i12 (xI (xsI M a2 i6 ((xI M a2 i4) &&& 1)) a8 i10)) a14 i16)) a20 i22)) a26 i28) &&& 1)) a32 10 (x1 + x3) i34 ∧ (∃ i36, xai (xsI (xsI (xsI (xsI (xsI M a2 i6 ((xI M a2 i4) &&& 1)) a8 i12 (xI (xsI M a2 i6 ((xI M a2 i4) &&& 1)) a8 i10)) a14 i18 (xI (xsI (xsI M a2 i6 ((xI M a2 i4) &&& 1)) a8 i12 (xI (xsI M a2 i6 ((xI M a2 i4) &&& 1)) a8 i10)) a14 i16)) a20 i24 (xI (xsI (xsI (xsI M a2 i6 ((xI M a2 i4) &&& 1)) a8 i12 (xI (xsI M a2 i6 ((xI M a2 i4) &&& 1)) a8 i10)) a14 i18 (xI (xsI (xsI M a2 i6 ((xI M a2 i4) &&& 1)) a8 i12 (xI (xsI M a2 i6 ((xI M a2 i4) &&& 1)) a8 i10)) a14 i16)) a20 i22)) a26 i30 ((xI (xsI (xsI (xsI (xsI M a2 i6 ((xI M a2 i4) &&& 1)) a8 i12 (xI (xsI M a2 i6 ((xI M a2 i4) &&& 1)) a8 i10)) a14 i18 (xI (xsI (xsI M a2 i6 ((xI M a2 i4) &&& 1)) a8 i12 (xI (xsI M a2 i6 ((xI M a2 i4) &&& 1)) a8 i10)) a14 i16)) a20 i24 (xI (xsI (xsI (xsI M a2 i6 ((xI M a2 i4) &&& 1)) a8 i12 (xI (xsI M a2 i6 ((xI M a2 i4) &&& 1)) a8 i10)) a14 i18 (xI (xsI (xsI M a2 i6 ((xI M a2 i4) &&& 1)) a8 i12 (xI (xsI M a2 i6 ((xI M a2 i4) &&& 1)) a8 i10)) a14 i16)) a20 i22)) a26 i28) &&& 1)) a32 10 (x2 + x3) i36 ∧ (∃ a38, (xR (xsJ (xsI (xsI (xsI (xsI (xsI M a2 i6 ((xI M a2 i4) &&& 1)) a8 i12 (xI (xsI M a2 i6 ((xI M a2 i4) &&& 1)) a8 i10)) a14 i18 (xI (xsI (xsI M a2 i6 ((xI M a2 i4) &&& 1)) a8 i12 (xI (xsI M a2 i6 ((xI M a2 i4) &&& 1)) a8 i10)) a14 i16)) a20 i24 (xI (xsI (xsI (xsI M a2 i6 ((xI M a2 i4) &&& 1)) a8 i12 (xI (xsI M a2 i6 ((xI M a2 i4) &&& 1)) a8 i10)) a14 i18 (xI (xsI (xsI M a2 i6 ((xI M a2 i4) &&& 1)) a8 i12 (xI (xsI M a2 i6 ((xI M a2 i4) &&& 1)) a8 i10)) a14 i16)) a20 i22)) a26 i30 ((xI (xsI (xsI (xsI (xsI M a2 i6 ((xI M a2 i4) &&& 1)) a8 i12 (xI (xsI M a2 i6 ((xI M a2 i4) &&& 1)) a8 i10)) a14 i18 (xI (xsI (xsI M a2 i6 ((xI M a2 i4) &&& 1)) a8 i12 (xI (xsI M a2 i6 ((xI M a2 i4) &&& 1)) a8 i10)) a14 i16)) a20 i24 (xI (xsI (xsI (xsI M a2 i6 ((xI M a2 i4) &&& 1)) a8 i12 (xI (xsI M a2 i6 ((xI M a2 i4) &&& 1)) a8 i10)) a14 i18 (xI (xsI (xsI M a2 i6 ((xI M a2 i4) &&& 1)) a8 i12 (xI (xsI M a2 i6 ((xI M a2 i4) &&& 1)) a8 i10)) a14 i16)) a20 i22)) a26 i28) &&& 1)) a32 i36 (xJ (xsI (xsI (xsI (xsI (xsI M a2 i6 ((xI M a2 i4) &&& 1)) a8 i12 (xI (xsI M a2 i6 ((xI M a2 i4) &&& 1)) a8 i10)) a14 i18 (xI (xsI (xsI M a2 i6 ((xI M a2 i4) &&& 1)) a8 i12 (xI (xsI M a2 i6 ((xI M a2 i4) &&& 1)) a8 i10)) a14 i16)) a20 i24 (xI (xsI (xsI (xsI M a2 i6 ((xI M a2 i4) &&& 1)) a8 i12 (xI (xsI M a2 i6 ((xI M a2 i4) &&& 1)) a8 i10)) a14 i18 (xI (xsI (xsI M a2 i6 ((xI M a2 i4) &&& 1)) a8 i12 (xI (xsI M a2 i6 ((xI M a2 i4) &&& 1)) a8 i10)) a14 i16)) a20 i22)) a26 i30 ((xI (xsI (xsI (xsI (xsI M a2 i6 ((xI M a2 i4) &&& 1)) a8 i12 (xI (xsI M a2 i6 ((xI M a2 i4) &&& 1)) a8 i10)) a14 i18 (xI (xsI (xsI M a2 i6 ((xI M a2 i4) &&& 1)) a8 i12 (xI (xsI M a2 i6 ((xI M a2 i4) &&& 1)) a8 i10)) a14 i16)) a20 i24 (xI (xsI (xsI (xsI M a2 i6 ((xI M a2 i4) &&& 1)) a8 i12 (xI (xsI M a2 i6 ((xI M a2 i4) &&& 1)) a8 i10)) a14 i18 (xI (xsI (xsI M a2 i6 ((xI M a2 i4) &&& 1)) a8 i12 (xI (xsI M a2 i6 ((xI M a2 i4) &&& 1)) a8 i10)) a14 i16)) a20 i22)) a26 i28) &&& 1)) a32 i34)) a0 11) = some a38 ∧ ∃ i40, xai (xsJ (xsI (xsI (xsI (xsI (xsI M a2 i6 ((xI M a2 i4) &&& 1)) a8 i12 (xI (xsI M a2 i6 ((xI M a2 i4) &&& 1)) a8 i10)) a14 i18 (xI (xsI (xsI M a2 i6 ((xI M a2 i4) &&& 1)) a8 i12 (xI (xsI M a2 i6 ((xI M a2 i4) &&& 1)) a8 i10)) a14 i16)) a20 i24 (xI (xsI (xsI (xsI M a2 i6 ((xI M a2 i4) &&& 1)) a8 i12 (xI (xsI M a2 i6 ((xI M a2 i4) &&& 1)) a8 i10)) a14 i18 (xI (xsI (xsI M a2 i6 ((xI M a2 i4) &&& 1)) a8 i12 (xI (xsI M a2 i6 ((xI M a2 i4) &&& 1)) a8 i10)) a14 i16)) a20 i22)) a26 i30 ((xI (xsI (xsI (xsI (xsI M a2 i6 ((xI M a2 i4) &&& 1)) a8 i12 (xI (xsI M a2 i6 ((xI M a2 i4) &&& 1)) a8 i10)) a14 i18 (xI (xsI (xsI M a2 i6 ((xI M a2 i4) &&& 1)) a8 i12 (xI (xsI M a2 i6 ((xI M a2 i4) &&& 1)) a8 i10)) a14 i16)) a20 i24 (xI (xsI (xsI (xsI M a2 i6 ((xI M a2 i4) &&& 1)) a8 i12 (xI (xsI M a2 i6 ((xI M a2 i4) &&& 1)) a8 i10)) a14 i18 (xI (xsI (xsI M a2 i6 ((xI M a2 i4) &&& 1)) a8 i12 (xI (xsI M a2 i6 ((xI M a2 i4) &&& 1)) a8 i10)) a14 i16)) a20 i22)) a26 i28) &&& 1)) a32 i36 (xJ (xsI (xsI (xsI (xsI (xsI M a2 i6 ((xI M a2 i4) &&& 1)) a8 i12 (xI (xsI M a2 i6 ((xI M a2 i4) &&& 1)) a8 i10)) a14 i18 (xI (xsI (xsI M a2 i6 ((xI M a2 i4) &&& 1)) a8 i12 (xI (xsI M a2 i6 ((xI M a2 i4) &&& 1)) a8 i10)) a14 i16)) a20 i24 (xI (xsI (xsI (xsI M a2 i6 ((xI M a2 i4) &&& 1)) a8 i12 (xI (xsI M a2 i6 ((xI M a2 i4) &&& 1)) a8 i10)) a14 i18 (xI (xsI (xsI M a2 i6 ((xI M a2 i4) &&& 1)) a8 i12 (xI (xsI M a2 i6 ((xI M a2 i4) &&& 1)) a8 i10)) a14 i16)) a20 i22)) a26 i30 ((xI (xsI (xsI (xsI (xsI M a2 i6 ((xI M a2 i4) &&& 1)) a8 i12 (xI (xsI M a2 i6 ((xI M a2 i4) &&& 1)) a8 i10)) a14 i18 (xI (xsI (xsI M a2 i6 ((xI M a2 i4) &&& 1)) a8 i12 (xI (xsI M a2 i6 ((xI M a2 i4) &&& 1)) a8 i10)) a14 i16)) a20 i24 (xI (xsI (xsI (xsI M a2 i6 ((xI M a2 i4) &&& 1)) a8 i12 (xI (xsI M a2 i6 ((xI M a2 i4) &&& 1)) a8 i10)) a14 i18 (xI (xsI (xsI M a2 i6 ((xI M a2 i4) &&& 1)) a8 i12 (xI (xsI M a2 i6 ((xI M a2 i4) &&& 1)) a8 i10)) a14 i16)) a20 i22)) a26 i28) &&& 1)) a32 i34)) a38 9 (x1 + x3) i40 ∧ (∃ i42, xai (xsJ (xsI (xsI (xsI (xsI (xsI M a2 i6 ((xI M a2 i4) &&& 1)) a8 i12 (xI (xsI M a2 i6 ((xI M a2 i4) &&& 1)) a8 i10)) a14 i18 (xI (xsI (xsI M a2 i6 ((xI M a2 i4) &&& 1)) a8 i12 (xI (xsI M a2 i6 ((xI M a2 i4) &&& 1)) a8 i10)) a14 i16)) a20 i24 (xI (xsI (xsI (xsI M a2 i6 ((xI M a2 i4) &&& 1)) a8 i12 (xI (xsI M a2 i6 ((xI M a2 i4) &&& 1)) a8 i10)) a14 i18 (xI (xsI (xsI M a2 i6 ((xI M a2 i4) &&& 1)) a8 i12 (xI (xsI M a2 i6 ((xI M a2 i4) &&& 1)) a8 i10)) a14 i16)) a20 i22)) a26 i30 ((xI (xsI (xsI (xsI (xsI M a2 i6 ((xI M a2 i4) &&& 1)) a8 i12 (xI (xsI M a2 i6 ((xI M a2 i4) &&& 1)) a8 i10)) a14 i18 (xI (xsI (xsI M a2 i6 ((xI M a2 i4) &&& 1)) a8 i12 (xI (xsI M a2 i6 ((xI M a2 i4) &&& 1)) a8 i10)) a14 i16)) a20 i24 (xI (xsI (xsI (xsI M a2 i6 ((xI M a2 i4) &&& 1)) a8 i12 (xI (xsI M a2 i6 ((xI M a2 i4) &&& 1)) a8 i10)) a14 i18 (xI (xsI (xsI M a2 i6 ((xI M a2 i4) &&& 1)) a8 i12 (xI (xsI M a2 i6 ((xI M a2 i4) &&& 1)) a8 i10)) a14 i16)) a20 i22)) a26 i28) &&& 1)) a32 i36 (xJ (xsI (xsI (xsI (xsI (xsI M a2 i6 ((xI M a2 i4) &&& 1)) a8 i12 (xI (xsI M a2 i6 ((xI M a2 i4) &&& 1)) a8 i10)) a14 i18 (xI (xsI (xsI M a2 i6 ((xI M a2 i4) &&& 1)) a8 i12 (xI (xsI M a2 i6 ((xI M a2 i4) &&& 1)) a8 i10)) a14 i16)) a20 i24 (xI (xsI (xsI (xsI M a2 i6 ((xI M a2 i4) &&& 1)) a8 i12 (xI (xsI M a2 i6 ((xI M a2 i4) &&& 1)) a8 i10)) a14 i18 (xI (xsI (xsI M a2 i6 ((xI M a2 i4) &&& 1)) a8 i12 (xI (xsI M a2 i6 ((xI M a2 i4) &&& 1)) a8 i10)) a14 i16)) a20 i22)) a26 i30 ((xI (xsI (xsI (xsI (xsI M a2 i6 ((xI M a2 i4) &&& 1)) a8 i12 (xI (xsI M a2 i6 ((xI M a2 i4) &&& 1)) a8 i10)) a14 i18 (xI (xsI (xsI M a2 i6 ((xI M a2 i4) &&& 1)) a8 i12 (xI (xsI M a2 i6 ((xI M a2 i4) &&& 1)) a8 i10)) a14 i16)) a20 i24 (xI (xsI (xsI (xsI M a2 i6 ((xI M a2 i4) &&& 1)) a8 i12 (xI (xsI M a2 i6 ((xI M a2 i4) &&& 1)) a8 i10)) a14 i18 (xI (xsI (xsI M a2 i6 ((xI M a2 i4) &&& 1)) a8 i12 (xI (xsI M a2 i6 ((xI M a2 i4) &&& 1)) a8 i10)) a14 i16)) a20 i22)) a26 i28) &&& 1)) a32 i34)) a38 9 (x2 + x3) i42 ∧ (∃ a44, (xR (xsI (xsJ (xsI (xsI (xsI (xsI (xsI M a2 i6 ((xI M a2 i4) &&& 1)) a8 i12 (xI (xsI M a2 i6 ((xI M a2 i4) &&& 1)) a8 i10)) a14 i18 (xI (xsI (xsI M a2 i6 ((xI M a2 i4) &&& 1)) a8 i12 (xI (xsI M a2 i6 ((xI M a2 i4) &&& 1)) a8 i10)) a14 i16)) a20 i24 (xI (xsI (xsI (xsI M a2 i6 ((xI M a2 i4) &&& 1)) a8 i12 (xI (xsI M a2 i6 ((xI M a2 i4) &&& 1)) a8 i10)) a14 i18 (xI (xsI (xsI M a2 i6 ((xI M a2 i4) &&& 1)) a8 i12 (xI (xsI M a2 i6 ((xI M a2 i4) &&& 1)) a8 i10)) a14 i16)) a20 i22)) a26 i30 ((xI (xsI (xsI (xsI (xsI M a2 i6 ((xI M a2 i4) &&& 1)) a8 i12 (xI (xsI M a2 i6 ((xI M a2 i4) &&& 1)) a8 i10)) a14 i18 (xI (xsI (xsI M a2 i6 ((xI M a2 i4) &&& 1)) a8 i12 (xI (xsI M a2 i6 ((xI M a2 i4) &&& 1)) a8 i10)) a14 i16)) a20 i24 (xI (xsI (xsI (xsI M a2 i6 ((xI M a2 i4) &&& 1)) a8 i12 (xI (xsI M a2 i6 ((xI M a2 i4) &&& 1)) a8 i10)) a14 i18 (xI (xsI (xsI M a2 i6 ((xI M a2 i4) &&& 1)) a8 i12 (xI (xsI M a2 i6 ((xI M a2 i4) &&& 1)) a8 i10)) a14 i16)) a20 i22)) a26 i28) &&& 1)) a32 i36 (xJ (xsI (xsI (xsI (xsI (xsI M a2 i6 ((xI M a2 i4) &&& 1)) a8 i12 (xI (xsI M a2 i6 ((xI M a2 i4) &&& 1)) a8 i10)) a14 i18 (xI (xsI (xsI M a2 i6 ((xI M a2 i4) &&& 1)) a8 i12 (xI (xsI M a2 i6 ((xI M a2 i4) &&& 1)) a8 i10)) a14 i16)) a20 i24 (xI (xsI (xsI (xsI M a2 i6 ((xI M a2 i4) &&& 1)) a8 i12 (xI (xsI M a2 i6 ((xI M a2 i4) &&& 1)) a8 i10)) a14 i18 (xI (xsI (xsI M a2 i6 ((xI M a2 i4) &&& 1)) a8 i12 (xI (xsI M a2 i6 ((xI M a2 i4) &&& 1)) a8 i10)) a14 i16)) a20 i22)) a26 i30 ((xI (xsI (xsI (xsI (xsI M a2 i6 ((xI M a2 i4) &&& 1)) a8 i12 (xI (xsI M a2 i6 ((xI M a2 i4) &&& 1)) a8 i10)) a14 i18 (xI (xsI (xsI M a2 i6 ((xI M a2 i4) &&& 1)) a8 i12 (xI (xsI M a2 i6 ((xI M a2 i4) &&& 1)) a8 i10)) a14 i16)) a20 i24 (xI (xsI (xsI (xsI M a2 i6 ((xI M a2 i4) &&& 1)) a8 i12 (xI (xsI M a2 i6 ((xI M a2 i4) &&& 1)) a8 i10)) a14 i18 (xI (xsI (xsI M a2 i6 ((xI M a2 i4) &&& 1)) a8 i12 (xI (xsI M a2 i6 ((xI M a2 i4) &&& 1)) a8 i10)) a14 i16)) a20 i22)) a26 i28) &&& 1)) a32 i34)) a38 i42 (xI (xsJ (xsI (xsI (xsI (xsI (xsI M a2 i6 ((xI M a2 i4) &&& 1)) a8 i12 (xI (xsI M a2 i6 ((xI M a2 i4) &&& 1)) a8 i10)) a14 i18 (xI (xsI (xsI M a2 i6 ((xI M a2 i4) &&& 1)) a8 i12 (xI (xsI M a2 i6 ((xI M a2 i4) &&& 1)) a8 i10)) a14 i16)) a20 i24 (xI (xsI (xsI (xsI M a2 i6 ((xI M a2 i4) &&& 1)) a8 i12 (xI (xsI M a2 i6 ((xI M a2 i4) &&& 1)) a8 i10)) a14 i18 (xI (xsI (xsI M a2 i6 ((xI M a2 i4) &&& 1)) a8 i12 (xI (xsI M a2 i6 ((xI M a2 i4) &&& 1)) a8 i10)) a14 i16)) a20 i22)) a26 i30 ((xI (xsI (xsI (xsI (xsI M a2 i6 ((xI M a2 i4) &&& 1)) a8 i12 (xI (xsI M a2 i6 ((xI M a2 i4) &&& 1)) a8 i10)) a14 i18 (xI (xsI (xsI M a2 i6 ((xI M a2 i4) &&& 1)) a8 i12 (xI (xsI M a2 i6 ((xI M a2 i4) &&& 1)) a8 i10)) a14 i16)) a20 i24 (xI (xsI (xsI (xsI M a2 i6 ((xI M a2 i4) &&& 1)) a8 i12 (xI (xsI M a2 i6 ((xI M a2 i4) &&& 1)) a8 i10)) a14 i18 (xI (xsI (xsI M a2 i6 ((xI M a2 i4) &&& 1)) a8 i12 (xI (xsI M a2 i6 ((xI M a2 i4) &&& 1)) a8 i10)) a14 i16)) a20 i22)) a26 i28) &&& 1)) a32 i36 (xJ (xsI (xsI (xsI (xsI (xsI M a2 i6 ((xI M a2 i4) &&& 1)) a8 i12 (xI (xsI M a2 i6 ((xI M a2 i4) &&& 1)) a8 i10)) a14 i18 (xI (xsI (xsI M a2 i6 ((xI M a2 i4) &&& 1)) a8 i12 (xI (xsI M a2 i6 ((xI M a2 i4) &&& 1)) a8 i10)) a14 i16)) a20 i24 (xI (xsI (xsI (xsI M a2 i6 ((xI M a2 i4) &&& 1)) a8 i12 (xI (xsI M a2 i6 ((xI M a2 i4) &&& 1)) a8 i10)) a14 i18 (xI (xsI (xsI M a2 i6 ((xI M a2 i4) &&& 1)) a8 i12 (xI (xsI M a2 i6 ((xI M a2 i4) &&& 1)) a8 i10)) a14 i16)) a20 i22)) a26 i30 ((xI (xsI (xsI (xsI (xsI M a2 i6 ((xI M a2 i4) &&& 1)) a8 i12 (xI (xsI M a2 i6 ((xI M a2 i4) &&& 1)) a8 i10)) a14 i18 (xI (xsI (xsI M a2 i6 ((xI M a2 i4) &&& 1)) a8 i12 (xI (xsI M a2 i6 ((xI M a2 i4) &&& 1)) a8 i10)) a14 i16)) a20 i24 (xI (xsI (xsI (xsI M a2 i6 ((xI M a2 i4) &&& 1)) a8 i12 (xI (xsI M a2 i6 ((xI M a2 i4) &&& 1)) a8 i10)) a14 i18 (xI (xsI (xsI M a2 i6 ((xI M a2 i4) &&& 1)) a8 i12 (xI (xsI M a2 i6 ((xI M a2 i4) &&& 1)) a8 i10)) a14 i16)) a20 i22)) a26 i28) &&& 1)) a32 i34)) a38 i40)) a0 12) = some a44 ∧ ∃ i46, xai (xsI (xsJ (xsI (xsI (xsI (xsI (xsI M a2 i6 ((xI M a2 i4) &&& 1)) a8 i12 (xI (xsI M a2 i6 ((xI M a2 i4) &&& 1)) a8 i10)) a14 i18 (xI (xsI (xsI M a2 i6 ((xI M a2 i4) &&& 1)) a8 i12 (xI (xsI M a2 i6 ((xI M a2 i4) &&& 1)) a8 i10)) a14 i16)) a20 i24 (xI (xsI (xsI (xsI M a2 i6 ((xI M a2 i4) &&& 1)) a8 i12 (xI (xsI M a2 i6 ((xI M a2 i4) &&& 1)) a8 i10)) a14 i18 (xI (xsI (xsI M a2 i6 ((xI M a2 i4) &&& 1)) a8 i12 (xI (xsI M a2 i6 ((xI M a2 i4) &&& 1)) a8 i10)) a14 i16)) a20 i22)) a26 i30 ((xI (xsI (xsI (xsI (xsI M a2 i6 ((xI M a2 i4) &&& 1)) a8 i12 (xI (xsI M a2 i6 ((xI M a2 i4) &&& 1)) a8 i10)) a14 i18 (xI (xsI (xsI M a2 i6 ((xI M a2 i4) &&& 1)) a8 i12 (xI (xsI M a2 i6 ((xI M a2 i4) &&& 1)) a8 i10)) a14 i16)) a20 i24 (xI (xsI (xsI (xsI M a2 i6 ((xI M a2 i4) &&& 1)) a8 i12 (xI (xsI M a2 i6 ((xI M a2 i4) &&& 1)) a8 i10)) a14 i18 (xI (xsI (xsI M a2 i6 ((xI M a2 i4) &&& 1)) a8 i12 (xI (xsI M a2 i6 ((xI M a2 i4) &&& 1)) a8 i10)) a14 i16)) a20 i22)) a26 i28) &&& 1)) a32 i36 (xJ (xsI (xsI (xsI (xsI (xsI M a2 i6 ((xI M a2 i4) &&& 1)) a8 i12 (xI (xsI M a2 i6 ((xI M a2 i4) &&& 1)) a8 i10)) a14 i18 (xI (xsI (xsI M a2 i6 ((xI M a2 i4) &&& 1)) a8 i12 (xI (xsI M a2 i6 ((xI M a2 i4) &&& 1)) a8 i10)) a14 i16)) a20 i24 (xI (xsI (xsI (xsI M a2 i6 ((xI M a2 i4) &&& 1)) a8 i12 (xI (xsI M a2 i6 ((xI M a2 i4) &&& 1)) a8 i10)) a14 i18 (xI (xsI (xsI M a2 i6 ((xI M a2 i4) &&& 1)) a8 i12 (xI (xsI M a2 i6 ((xI M a2 i4) &&& 1)) a8 i10)) a14 i16)) a20 i22)) a26 i30 ((xI (xsI (xsI (xsI (xsI M a2 i6 ((xI M a2 i4) &&& 1)) a8 i12 (xI (xsI M a2 i6 ((xI M a2 i4) &&& 1)) a8 i10)) a14 i18 (xI (xsI (xsI M a2 i6 ((xI M a2 i4) &&& 1)) a8 i12 (xI (xsI M a2 i6 ((xI M a2 i4) &&& 1)) a8 i10)) a14 i16)) a20 i24 (xI (xsI (xsI (xsI M a2 i6 ((xI M a2 i4) &&& 1)) a8 i12 (xI (xsI M a2 i6 ((xI M a2 i4) &&& 1)) a8 i10)) a14 i18 (xI (xsI (xsI M a2 i6 ((xI M a2 i4) &&& 1)) a8 i12 (xI (xsI M a2 i6 ((xI M a2 i4) &&& 1)) a8 i10)) a14 i16)) a20 i22)) a26 i28) &&& 1)) a32 i34)) a38 i42 (xI (xsJ (xsI (xsI (xsI (xsI (xsI M a2 i6 ((xI M a2 i4) &&& 1)) a8 i12 (xI (xsI M a2 i6 ((xI M a2 i4) &&& 1)) a8 i10)) a14 i18 (xI (xsI (xsI M a2 i6 ((xI M a2 i4) &&& 1)) a8 i12 (xI (xsI M a2 i6 ((xI M a2 i4) &&& 1)) a8 i10)) a14 i16)) a20 i24 (xI (xsI (xsI (xsI M a2 i6 ((xI M a2 i4) &&& 1)) a8 i12 (xI (xsI M a2 i6 ((xI M a2 i4) &&& 1)) a8 i10)) a14 i18 (xI (xsI (xsI M a2 i6 ((xI M a2 i4) &&& 1)) a8 i12 (xI (xsI M a2 i6 ((xI M a2 i4) &&& 1)) a8 i10)) a14 i16)) a20 i22)) a26 i30 ((xI (xsI (xsI (xsI (xsI M a2 i6 ((xI M a2 i4) &&& 1)) a8 i12 (xI (xsI M a2 i6 ((xI M a2 i4) &&& 1)) a8 i10)) a14 i18 (xI (xsI (xsI M a2 i6 ((xI M a2 i4) &&& 1)) a8 i12 (xI (xsI M a2 i6 ((xI M a2 i4) &&& 1)) a8 i10)) a14 i16)) a20 i24 (xI (xsI (xsI (xsI M a2 i6 ((xI M a2 i4) &&& 1)) a8 i12 (xI (xsI M a2 i6 ((xI M a2 i4) &&& 1)) a8 i10)) a14 i18 (xI (xsI (xsI M a2 i6 ((xI M a2 i4) &&& 1)) a8 i12 (xI (xsI M a2 i6 ((xI M a2 i4) &&& 1)) a8 i10)) a14 i16)) a20 i22)) a26 i28) &&& 1)) a32 i36 (xJ (xsI (xsI (xsI (xsI (xsI M a2 i6 ((xI M a2 i4) &&& 1)) a8 i12 (xI (xsI M a2 i6 ((xI M a2 i4) &&& 1)) a8 i10)) a14 i18 (xI (xsI (xsI M a2 i6 ((xI M a2 i4) &&& 1)) a8 i12 (xI (xsI M a2 i6 ((xI M a2 i4) &&& 1)) a8 i10)) a14 i16)) a20 i24 (xI (xsI (xsI (xsI M a2 i6 ((xI M a2 i4) &&& 1)) a8 i12 (xI (xsI M a2 i6 ((xI M a2 i4) &&& 1)) a8 i10)) a14 i18 (xI (xsI (xsI M a2 i6 ((xI M a2 i4) &&& 1)) a8 i12 (xI (xsI M a2 i6 ((xI M a2 i4) &&& 1)) a8 i10)) a14 i16)) a20 i22)) a26 i30 ((xI (xsI (xsI (xsI (xsI M a2 i6 ((xI M a2 i4) &&& 1)) a8 i12 (xI (xsI M a2 i6 ((xI M a2 i4) &&& 1)) a8 i10)) a14 i18 (xI (xsI (xsI M a2 i6 ((xI M a2 i4) &&& 1)) a8 i12 (xI (xsI M a2 i6 ((xI M a2 i4) &&& 1)) a8 i10)) a14 i16)) a20 i24 (xI (xsI (xsI (xsI M a2 i6 ((xI M a2 i4) &&& 1)) a8 i12 (xI (xsI M a2 i6 ((xI M a2 i4) &&& 1)) a8 i10)) a14 i18 (xI (xsI (xsI M a2 i6 ((xI M a2 i4) &&& 1)) a8 i12 (xI (xsI M a2 i6 ((xI M a2 i4) &&& 1)) a8 i10)) a14 i16)) a20 i22)) a26 i28) &&& 1)) a32 i34)) a38 i40)) a44 9 (x1 + x3) i46 ∧ (∃ i48, xai (xsI (xsJ (xsI (xsI (xsI (xsI (xsI M a2 i6 ((xI M a2 i4) &&& 1)) a8 i12 (xI (xsI M a2 i6 ((xI M a2 i4) &&& 1)) a8 i10)) a14 i18 (xI (xsI (xsI M a2 i6 ((xI M a2 i4) &&& 1)) a8 i12 (xI (xsI M a2 i6 ((xI M a2 i4) &&& 1)) a8 i10)) a14 i16)) a20 i24 (xI (xsI (xsI (xsI M a2 i6 ((xI M a2 i4) &&& 1)) a8 i12 (xI (xsI M a2 i6 ((xI M a2 i4) &&& 1)) a8 i10)) a14 i18 (xI (xsI (xsI M a2 i6 ((xI M a2 i4) &&& 1)) a8 i12 (xI (xsI M a2 i6 ((xI M a2 i4) &&& 1)) a8 i10)) a14 i16)) a20 i22)) a26 i30 ((xI (xsI (xsI (xsI (xsI M a2 i6 ((xI M a2 i4) &&& 1)) a8 i12 (xI (xsI M a2 i6 ((xI M a2 i4) &&& 1)) a8 i10)) a14 i18 (xI (xsI (xsI M a2 i6 ((xI M a2 i4) &&& 1)) a8 i12 (xI (xsI M a2 i6 ((xI M a2 i4) &&& 1)) a8 i10)) a14 i16)) a20 i24 (xI (xsI (xsI (xsI M a2 i6 ((xI M a2 i4) &&& 1)) a8 i12 (xI (xsI M a2 i6 ((xI M a2 i4) &&& 1)) a8 i10)) a14 i18 (xI (xsI (xsI M a2 i6 ((xI M a2 i4) &&& 1)) a8 i12 (xI (xsI M a2 i6 ((xI M a2 i4) &&& 1)) a8 i10)) a14 i16)) a20 i22)) a26 i28) &&& 1)) a32 i36 (xJ (xsI (xsI (xsI (xsI (xsI M a2 i6 ((xI M a2 i4) &&& 1)) a8 i12 (xI (xsI M a2 i6 ((xI M a2 i4) &&& 1)) a8 i10)) a14 i18 (xI (xsI (xsI M a2 i6 ((xI M a2 i4) &&& 1)) a8 i12 (xI (xsI M a2 i6 ((xI M a2 i4) &&& 1)) a8 i10)) a14 i16)) a20 i24 (xI (xsI (xsI (xsI M a2 i6 ((xI M a2 i4) &&& 1)) a8 i12 (xI (xsI M a2 i6 ((xI M a2 i4) &&& 1)) a8 i10)) a14 i18 (xI (xsI (xsI M a2 i6 ((xI M a2 i4) &&& 1)) a8 i12 (xI (xsI M a2 i6 ((xI M a2 i4) &&& 1)) a8 i10)) a14 i16)) a20 i22)) a26 i30 ((xI (xsI (xsI (xsI (xsI M a2 i6 ((xI M a2 i4) &&& 1)) a8 i12 (xI (xsI M a2 i6 ((xI M a2 i4) &&& 1)) a8 i10)) a14 i18 (xI (xsI (xsI M a2 i6 ((xI M a2 i4) &&& 1)) a8 i12 (xI (xsI M a2 i6 ((xI M a2 i4) &&& 1)) a8 i10)) a14 i16)) a20 i24 (xI (xsI (xsI (xsI M a2 i6 ((xI M a2 i4) &&& 1)) a8 i12 (xI (xsI M a2 i6 ((xI M a2 i4) &&& 1)) a8 i10)) a14 i18 (xI (xsI (xsI M a2 i6 ((xI M a2 i4) &&& 1)) a8 i12 (xI (xsI M a2 i6 ((xI M a2 i4) &&& 1)) a8 i10)) a14 i16)) a20 i22)) a26 i28) &&& 1)) a32 i34)) a38 i42 (xI (xsJ (xsI (xsI (xsI (xsI (xsI M a2 i6 ((xI M a2 i4) &&& 1)) a8 i12 (xI (xsI M a2 i6 ((xI M a2 i4) &&& 1)) a8 i10)) a14 i18 (xI (xsI (xsI M a2 i6 ((xI M a2 i4) &&& 1)) a8 i12 (xI (xsI M a2 i6 ((xI M a2 i4) &&& 1)) a8 i10)) a14 i16)) a20 i24 (xI (xsI (xsI (xsI M a2 i6 ((xI M a2 i4) &&& 1)) a8 i12 (xI (xsI M a2 i6 ((xI M a2 i4) &&& 1)) a8 i10)) a14 i18 (xI (xsI (xsI M a2 i6 ((xI M a2 i4) &&& 1)) a8 i12 (xI (xsI M a2 i6 ((xI M a2 i4) &&& 1)) a8 i10)) a14 i16)) a20 i22)) a26 i30 ((xI (xsI (xsI (xsI (xsI M a2 i6 ((xI M a2 i4) &&& 1)) a8 i12 (xI (xsI M a2 i6 ((xI M a2 i4) &&& 1)) a8 i10)) a14 i18 (xI (xsI (xsI M a2 i6 ((xI M a2 i4) &&& 1)) a8 i12 (xI (xsI M a2 i6 ((xI M a2 i4) &&& 1)) a8 i10)) a14 i16)) a20 i24 (xI (xsI (xsI (xsI M a2 i6 ((xI M a2 i4) &&& 1)) a8 i12 (xI (xsI M a2 i6 ((xI M a2 i4) &&& 1)) a8 i10)) a14 i18 (xI (xsI (xsI M a2 i6 ((xI M a2 i4) &&& 1)) a8 i12 (xI (xsI M a2 i6 ((xI M a2 i4) &&& 1)) a8 i10)) a14 i16)) a20 i22)) a26 i28) &&& 1)) a32 i36 (xJ (xsI (xsI (xsI (xsI (xsI M a2 i6 ((xI M a2 i4) &&& 1)) a8 i12 (xI (xsI M a2 i6 ((xI M a2 i4) &&& 1)) a8 i10)) a14 i18 (xI (xsI (xsI M a2 i6 ((xI M a2 i4) &&& 1)) a8 i12 (xI (xsI M a2 i6 ((xI M a2 i4) &&& 1)) a8 i10)) a14 i16)) a20 i24 (xI (xsI (xsI (xsI M a2 i6 ((xI M a2 i4) &&& 1)) a8 i12 (xI (xsI M a2 i6 ((xI M a2 i4) &&& 1)) a8 i10)) a14 i18 (xI (xsI (xsI M a2 i6 ((xI M a2 i4) &&& 1)) a8 i12 (xI (xsI M a2 i6 ((xI M a2 i4) &&& 1)) a8 i10)) a14 i16)) a20 i22)) a26 i30 ((xI (xsI (xsI (xsI (xsI M a2 i6 ((xI M a2 i4) &&& 1)) a8 i12 (xI (xsI M a2 i6 ((xI M a2 i4) &&& 1)) a8 i10)) a14 i18 (xI (xsI (xsI M a2 i6 ((xI M a2 i4) &&& 1)) a8 i12 (xI (xsI M a2 i6 ((xI M a2 i4) &&& 1)) a8 i10)) a14 i16)) a20 i24 (xI (xsI (xsI (xsI M a2 i6 ((xI M a2 i4) &&& 1)) a8 i12 (xI (xsI M a2 i6 ((xI M a2 i4) &&& 1)) a8 i10)) a14 i18 (xI (xsI (xsI M a2 i6 ((xI M a2 i4) &&& 1)) a8 i12 (xI (xsI M a2 i6 ((xI M a2 i4) &&& 1)) a8 i10)) a14 i16)) a20 i22)) a26 i28) &&& 1)) a32 i34)) a38 i40)) a44 9 (x2 + x3) i48 ∧ (∃ a50, (xR (xsI (xsI (xsJ (xsI (xsI (xsI (xsI (xsI M a2 i6 ((xI M a2 i4) &&& 1)) a8 i12 (xI (xsI M a2 i6 ((xI M a2 i4) &&& 1)) a8 i10)) a14 i18 (xI (xsI (xsI M a2 i6 ((xI M a2 i4) &&& 1)) a8 i12 (xI (xsI M a2 i6 ((xI M a2 i4) &&& 1)) a8 i10)) a14 i16)) a20 i24 (xI (xsI (xsI (xsI M a2 i6 ((xI M a2 i4) &&& 1)) a8 i12 (xI (xsI M a2 i6 ((xI M a2 i4) &&& 1)) a8 i10)) a14 i18 (xI (xsI (xsI M a2 i6 ((xI M a2 i4) &&& 1)) a8 i12 (xI (xsI M a2 i6 ((xI M a2 i4) &&& 1)) a8 i10)) a14 i16)) a20 i22)) a26 i30 ((xI (xsI (xsI (xsI (xsI M a2 i6 ((xI M a2 i4) &&& 1)) a8 i12 (xI (xsI M a2 i6 ((xI M a2 i4) &&& 1)) a8 i10)) a14 i18 (xI (xsI (xsI M a2 i6 ((xI M a2 i4) &&& 1)) a8 i12 (xI (xsI M a2 i6 ((xI M a2 i4) &&& 1)) a8 i10)) a14 i16)) a20 i24 (xI (xsI (xsI (xsI M a2 i6 ((xI M a2 i4) &&& 1)) a8 i12 (xI (xsI M a2 i6 ((xI M a2 i4) &&& 1)) a8 i10)) a14 i18 (xI (xsI (xsI M a2 i6 ((xI M a2 i4) &&& 1)) a8 i12 (xI (xsI M a2 i6 ((xI M a2 i4) &&& 1)) a8 i10)) a14 i16)) a20 i22)) a26 i28) &&& 1)) a32 i36 (xJ (xsI (xsI (xsI (xsI (xsI M a2 i6 ((xI M a2 i4) &&& 1)) a8 i12 (xI (xsI M a2 i6 ((xI M a2 i4) &&& 1)) a8 i10)) a14 i18 (xI (xsI (xsI M a2 i6 ((xI M a2 i4) &&& 1)) a8 i12 (xI (xsI M a2 i6 ((xI M a2 i4) &&& 1)) a8 i10)) a14 i16)) a20 i24 (xI (xsI (xsI (xsI M a2 i6 ((xI M a2 i4) &&& 1)) a8 i12 (xI (xsI M a2 i6 ((xI M a2 i4) &&& 1)) a8 i10)) a14 i18 (xI (xsI (xsI M a2 i6 ((xI M a2 i4) &&& 1)) a8 i12 (xI (xsI M a2 i6 ((xI M a2 i4) &&& 1)) a8 i10)) a14 i16)) a20 i22)) a26 i30 ((xI (xsI (xsI (xsI (xsI M a2 i6 ((xI M a2 i4) &&& 1)) a8 i12 (xI (xsI M a2 i6 ((xI M a2 i4) &&& 1)) a8 i10)) a14 i18 (xI (xsI (xsI M a2 i6 ((xI M a2 i4) &&& 1)) a8 i12 (xI (xsI M a2 i6 ((xI M a2 i4) &&& 1)) a8 i10)) a14 i16)) a20 i24 (xI (xsI (xsI (xsI M a2 i6 ((xI M a2 i4) &&& 1)) a8 i12 (xI (xsI M a2 i6 ((xI M a2 i4) &&& 1)) a8 i10)) a14 i18 (xI (xsI (xsI M a2 i6 ((xI M a2 i4) &&& 1)) a8 i12 (xI (xsI M a2 i6 ((xI M a2 i4) &&& 1)) a8 i10)) a14 i16)) a20 i22)) a26 i28) &&& 1)) a32 i34)) a38 i42 (xI (xsJ (xsI (xsI (xsI (xsI (xsI M a2 i6 ((xI M a2 i4) &&& 1)) a8 i12 (xI (xsI M a2 i6 ((xI M a2 i4) &&& 1)) a8 i10)) a14 i18 (xI (xsI (xsI M a2 i6 ((xI M a2 i4) &&& 1)) a8 i12 (xI (xsI M a2 i6 ((xI M a2 i4) &&& 1)) a8 i10)) a14 i16)) a20 i24 (xI (xsI (xsI (xsI M a2 i6 ((xI M a2 i4) &&& 1)) a8 i12 (xI (xsI M a2 i6 ((xI M a2 i4) &&& 1)) a8 i10)) a14 i18 (xI (xsI (xsI M a2 i6 ((xI M a2 i4) &&& 1)) a8 i12 (xI (xsI M a2 i6 ((xI M a2 i4) &&& 1)) a8 i10)) a14 i16)) a20 i22)) a26 i30 ((xI (xsI (xsI (xsI (xsI M a2 i6 ((xI M a2 i4) &&& 1)) a8 i12 (xI (xsI M a2 i6 ((xI M a2 i4) &&& 1)) a8 i10)) a14 i18 (xI (xsI (xsI M a2 i6 ((xI M a2 i4) &&& 1)) a8 i12 (xI (xsI M a2 i6 ((xI M a2 i4) &&& 1)) a8 i10)) a14 i16)) a20 i24 (xI (xsI (xsI (xsI M a2 i6 ((xI M a2 i4) &&& 1)) a8 i12 (xI (xsI M a2 i6 ((xI M a2 i4) &&& 1)) a8 i10)) a14 i18 (xI (xsI (xsI M a2 i6 ((xI M a2 i4) &&& 1)) a8 i12 (xI (xsI M a2 i6 ((xI M a2 i4) &&& 1)) a8 i10)) a14 i16)) a20 i22)) a26 i28) &&& 1)) a32 i36 (xJ (xsI (xsI (xsI (xsI (xsI M a2 i6 ((xI M a2 i4) &&& 1)) a8 i12 (xI (xsI M a2 i6 ((xI M a2 i4) &&& 1)) a8 i10)) a14 i18 (xI (xsI (xsI M a2 i6 ((xI M a2 i4) &&& 1)) a8 i12 (xI (xsI M a2 i6 ((xI M a2 i4) &&& 1)) a8 i10)) a14 i16)) a20 i24 (xI (xsI (xsI (xsI M a2 i6 ((xI M a2 i4) &&& 1)) a8 i12 (xI (xsI M a2 i6 ((xI M a2 i4) &&& 1)) a8 i10)) a14 i18 (xI (xsI (xsI M a2 i6 ((xI M a2 i4) &&& 1)) a8 i12 (xI (xsI M a2 i6 ((xI M a2 i4) &&& 1)) a8 i10)) a14 i16)) a20 i22)) a26 i30 ((xI (xsI (xsI (xsI (xsI M a2 i6 ((xI M a2 i4) &&& 1)) a8 i12 (xI (xsI M a2 i6 ((xI M a2 i4) &&& 1)) a8 i10)) a14 i18 (xI (xsI (xsI M a2 i6 ((xI M a2 i4) &&& 1)) a8 i12 (xI (xsI M a2 i6 ((xI M a2 i4) &&& 1)) a8 i10)) a14 i16)) a20 i24 (xI (xsI (xsI (xsI M a2 i6 ((xI M a2 i4) &&& 1)) a8 i12 (xI (xsI M a2 i6 ((xI M a2 i4) &&& 1)) a8 i10)) a14 i18 (xI (xsI (xsI M a2 i6 ((xI M a2 i4) &&& 1)) a8 i12 (xI (xsI M a2 i6 ((xI M a2 i4) &&& 1)) a8 i10)) a14 i16)) a20 i22)) a26 i28) &&& 1)) a32 i34)) a38 i40)) a44 i48 (xI (xsI (xsJ (xsI (xsI (xsI (xsI (xsI M a2 i6 ((xI M a2 i4) &&& 1)) a8 i12 (xI (xsI M a2 i6 ((xI M a2 i4) &&& 1)) a8 i10)) a14 i18 (xI (xsI (xsI M a2 i6 ((xI M a2 i4) &&& 1)) a8 i12 (xI (xsI M a2 i6 ((xI M a2 i4) &&& 1)) a8 i10)) a14 i16)) a20 i24 (xI (xsI (xsI (xsI M a2 i6 ((xI M a2 i4) &&& 1)) a8 i12 (xI (xsI M a2 i6 ((xI M a2 i4) &&& 1)) a8 i10)) a14 i18 (xI (xsI (xsI M a2 i6 ((xI M a2 i4) &&& 1)) a8 i12 (xI (xsI M a2 i6 ((xI M a2 i4) &&& 1)) a8 i10)) a14 i16)) a20 i22)) a26 i30 ((xI (xsI (xsI (xsI (xsI M a2 i6 ((xI M a2 i4) &&& 1)) a8 i12 (xI (xsI M a2 i6 ((xI M a2 i4) &&& 1)) a8 i10)) a14 i18 (xI (xsI (xsI M a2 i6 ((xI M a2 i4) &&& 1)) a8 i12 (xI (xsI M a2 i6 ((xI M a2 i4) &&& 1)) a8 i10)) a14 i16)) a20 i24 (xI (xsI (xsI (xsI M a2 i6 ((xI M a2 i4) &&& 1)) a8 i12 (xI (xsI M a2 i6 ((xI M a2 i4) &&& 1)) a8 i10)) a14 i18 (xI (xsI (xsI M a2 i6 ((xI M a2 i4) &&& 1)) a8 i12 (xI (xsI M a2 i6 ((xI M a2 i4) &&& 1)) a8 i10)) a14 i16)) a20 i22)) a26 i28) &&& 1)) a32 i36 (xJ (xsI (xsI (xsI (xsI (xsI M a2 i6 ((xI M a2 i4) &&& 1)) a8 i12 (xI (xsI M a2 i6 ((xI M a2 i4) &&& 1)) a8 i10)) a14 i18 (xI (xsI (xsI M a2 i6 ((xI M a2 i4) &&& 1)) a8 i12 (xI (xsI M a2 i6 ((xI M a2 i4) &&& 1)) a8 i10)) a14 i16)) a20 i24 (xI (xsI (xsI (xsI M a2 i6 ((xI M a2 i4) &&& 1)) a8 i12 (xI (xsI M a2 i6 ((xI M a2 i4) &&& 1)) a8 i10)) a14 i18 (xI (xsI (xsI M a2 i6 ((xI M a2 i4) &&& 1)) a8 i12 (xI (xsI M a2 i6 ((xI M a2 i4) &&& 1)) a8 i10)) a14 i16)) a20 i22)) a26 i30 ((xI (xsI (xsI (xsI (xsI M a2 i6 ((xI M a2 i4) &&& 1)) a8 i12 (xI (xsI M a2 i6 ((xI M a2 i4) &&& 1)) a8 i10)) a14 i18 (xI (xsI (xsI M a2 i6 ((xI M a2 i4) &&& 1)) a8 i12 (xI (xsI M a2 i6 ((xI M a2 i4) &&& 1)) a8 i10)) a14 i16)) a20 i24 (xI (xsI (xsI (xsI M a2 i6 ((xI M a2 i4) &&& 1)) a8 i12 (xI (xsI M a2 i6 ((xI M a2 i4) &&& 1)) a8 i10)) a14 i18 (xI (xsI (xsI M a2 i6 ((xI M a2 i4) &&& 1)) a8 i12 (xI (xsI M a2 i6 ((xI M a2 i4) &&& 1)) a8 i10)) a14 i16)) a20 i22)) a26 i28) &&& 1)) a32 i34)) a38 i42 (xI (xsJ (xsI (xsI (xsI (xsI (xsI M a2 i6 ((xI M a2 i4) &&& 1)) a8 i12 (xI (xsI M a2 i6 ((xI M a2 i4) &&& 1)) a8 i10)) a14 i18 (xI (xsI (xsI M a2 i6 ((xI M a2 i4) &&& 1)) a8 i12 (xI (xsI M a2 i6 ((xI M a2 i4) &&& 1)) a8 i10)) a14 i16)) a20 i24 (xI (xsI (xsI (xsI M a2 i6 ((xI M a2 i4) &&& 1)) a8 i12 (xI (xsI M a2 i6 ((xI M a2 i4) &&& 1)) a8 i10)) a14 i18 (xI (xsI (xsI M a2 i6 ((xI M a2 i4) &&& 1)) a8 i12 (xI (xsI M a2 i6 ((xI M a2 i4) &&& 1)) a8 i10)) a14 i16)) a20 i22)) a26 i30 ((xI (xsI (xsI (xsI (xsI M a2 i6 ((xI M a2 i4) &&& 1)) a8 i12 (xI (xsI M a2 i6 ((xI M a2 i4) &&& 1)) a8 i10)) a14 i18 (xI (xsI (xsI M a2 i6 ((xI M a2 i4) &&& 1)) a8 i12 (xI (xsI M a2 i6 ((xI M a2 i4) &&& 1)) a8 i10)) a14 i16)) a20 i24 (xI (xsI (xsI (xsI M a2 i6 ((xI M a2 i4) &&& 1)) a8 i12 (xI (xsI M a2 i6 ((xI M a2 i4) &&& 1)) a8 i10)) a14 i18 (xI (xsI (xsI M a2 i6 ((xI M a2 i4) &&& 1)) a8 i12 (xI (xsI M a2 i6 ((xI M a2 i4) &&& 1)) a8 i10)) a14 i16)) a20 i22)) a26 i28) &&& 1)) a32 i36 (xJ (xsI (xsI (xsI (xsI (xsI M a2 i6 ((xI M a2 i4) &&& 1)) a8 i12 (xI (xsI M a2 i6 ((xI M a2 i4) &&& 1)) a8 i10)) a14 i18 (xI (xsI (xsI M a2 i6 ((xI M a2 i4) &&& 1)) a8 i12 (xI (xsI M a2 i6 ((xI M a2 i4) &&& 1)) a8 i10)) a14 i16)) a20 i24 (xI (xsI (xsI (xsI M a2 i6 ((xI M a2 i4) &&& 1)) a8 i12 (xI (xsI M a2 i6 ((xI M a2 i4) &&& 1)) a8 i10)) a14 i18 (xI (xsI (xsI M a2 i6 ((xI M a2 i4) &&& 1)) a8 i12 (xI (xsI M a2 i6 ((xI M a2 i4) &&& 1)) a8 i10)) a14 i16)) a20 i22)) a26 i30 ((xI (xsI (xsI (xsI (xsI M a2 i6 ((xI M a2 i4) &&& 1)) a8 i12 (xI (xsI M a2 i6 ((xI M a2 i4) &&& 1)) a8 i10)) a14 i18 (xI (xsI (xsI M a2 i6 ((xI M a2 i4) &&& 1)) a8 i12 (xI (xsI M a2 i6 ((xI M a2 i4) &&& 1)) a8 i10)) a14 i16)) a20 i24 (xI (xsI (xsI (xsI M a2 i6 ((xI M a2 i4) &&& 1)) a8 i12 (xI (xsI M a2 i6 ((xI M a2 i4) &&& 1)) a8 i10)) a14 i18 (xI (xsI (xsI M a2 i6 ((xI M a2 i4) &&& 1)) a8 i12 (xI (xsI M a2 i6 ((xI M a2 i4) &&& 1)) a8 i10)) a14 i16)) a20 i22)) a26 i28) &&& 1)) a32 i34)) a38 i40)) a44 i46)) a0 13) = some a50 ∧ ∃ i52, xai (xsI (xsI (xsJ (xsI (xsI (xsI (xsI (xsI M a2 i6 ((xI M a2 i4) &&& 1)) a8 i12 (xI (xsI M a2 i6 ((xI M a2 i4) &&& 1)) a8 i10)) a14 i18 (xI (xsI (xsI M a2 i6 ((xI M a2 i4) &&& 1)) a8 i12 (xI (xsI M a2 i6 ((xI M a2 i4) &&& 1)) a8 i10)) a14 i16)) a20 i24 (xI (xsI (xsI (xsI M a2 i6 ((xI M a2 i4) &&& 1)) a8 i12 (xI (xsI M a2 i6 ((xI M a2 i4) &&& 1)) a8 i10)) a14 i18 (xI (xsI (xsI M a2 i6 ((xI M a2 i4) &&& 1)) a8 i12 (xI (xsI M a2 i6 ((xI M a2 i4) &&& 1)) a8 i10)) a14 i16)) a20 i22)) a26 i30 ((xI (xsI (xsI (xsI (xsI M a2 i6 ((xI M a2 i4) &&& 1)) a8 i12 (xI (xsI M a2 i6 ((xI M a2 i4) &&& 1)) a8 i10)) a14 i18 (xI (xsI (xsI M a2 i6 ((xI M a2 i4) &&& 1)) a8 i12 (xI (xsI M a2 i6 ((xI M a2 i4) &&& 1)) a8 i10)) a14 i16)) a20 i24 (xI (xsI (xsI (xsI M a2 i6 ((xI M a2 i4) &&& 1)) a8 i12 (xI (xsI M a2 i6 ((xI M a2 i4) &&& 1)) a8 i10)) a14 i18 (xI (xsI (xsI M a2 i6 ((xI M a2 i4) &&& 1)) a8 i12 (xI (xsI M a2 i6 ((xI M a2 i4) &&& 1)) a8 i10)) a14 i16)) a20 i22)) a26 i28) &&& 1)) a32 i36 (xJ (xsI (xsI (xsI (xsI (xsI M a2 i6 ((xI M a2 i4) &&& 1)) a8 i12 (xI (xsI M a2 i6 ((xI M a2 i4) &&& 1)) a8 i10)) a14 i18 (xI (xsI (xsI M a2 i6 ((xI M a2 i4) &&& 1)) a8 i12 (xI (xsI M a2 i6 ((xI M a2 i4) &&& 1)) a8 i10)) a14 i16)) a20 i24 (xI (xsI (xsI (xsI M a2 i6 ((xI M a2 i4) &&& 1)) a8 i12 (xI (xsI M a2 i6 ((xI M a2 i4) &&& 1)) a8 i10)) a14 i18 (xI (xsI (xsI M a2 i6 ((xI M a2 i4) &&& 1)) a8 i12 (xI (xsI M a2 i6 ((xI M a2 i4) &&& 1)) a8 i10)) a14 i16)) a20 i22)) a26 i30 ((xI (xsI (xsI (xsI (xsI M a2 i6 ((xI M a2 i4) &&& 1)) a8 i12 (xI (xsI M a2 i6 ((xI M a2 i4) &&& 1)) a8 i10)) a14 i18 (xI (xsI (xsI M a2 i6 ((xI M a2 i4) &&& 1)) a8 i12 (xI (xsI M a2 i6 ((xI M a2 i4) &&& 1)) a8 i10)) a14 i16)) a20 i24 (xI (xsI (xsI (xsI M a2 i6 ((xI M a2 i4) &&& 1)) a8 i12 (xI (xsI M a2 i6 ((xI M a2 i4) &&& 1)) a8 i10)) a14 i18 (xI (xsI (xsI M a2 i6 ((xI M a2 i4) &&& 1)) a8 i12 (xI (xsI M a2 i6 ((xI M a2 i4) &&& 1)) a8 i10)) a14 i16)) a20 i22)) a26 i28) &&& 1)) a32 i34)) a38 i42 (xI (xsJ (xsI (xsI (xsI (xsI (xsI M a2 i6 ((xI M a2 i4) &&& 1)) a8 i12 (xI (xsI M a2 i6 ((xI M a2 i4) &&& 1)) a8 i10)) a14 i18 (xI (xsI (xsI M a2 i6 ((xI M a2 i4) &&& 1)) a8 i12 (xI (xsI M a2 i6 ((xI M a2 i4) &&& 1)) a8 i10)) a14 i16)) a20 i24 (xI (xsI (xsI (xsI M a2 i6 ((xI M a2 i4) &&& 1)) a8 i12 (xI (xsI M a2 i6 ((xI M a2 i4) &&& 1)) a8 i10)) a14 i18 (xI (xsI (xsI M a2 i6 ((xI M a2 i4) &&& 1)) a8 i12 (xI (xsI M a2 i6 ((xI M a2 i4) &&& 1)) a8 i10)) a14 i16)) a20 i22)) a26 i30 ((xI (xsI (xsI (xsI (xsI M a2 i6 ((xI M a2 i4) &&& 1)) a8 i12 (xI (xsI M a2 i6 ((xI M a2 i4) &&& 1)) a8 i10)) a14 i18 (xI (xsI (xsI M a2 i6 ((xI M a2 i4) &&& 1)) a8 i12 (xI (xsI M a2 i6 ((xI M a2 i4) &&& 1)) a8 i10)) a14 i16)) a20 i24 (xI (xsI (xsI (xsI M a2 i6 ((xI M a2 i4) &&& 1)) a8 i12 (xI (xsI M a2 i6 ((xI M a2 i4) &&& 1)) a8 i10)) a14 i18 (xI (xsI (xsI M a2 i6 ((xI M a2 i4) &&& 1)) a8 i12 (xI (xsI M a2 i6 ((xI M a2 i4) &&& 1)) a8 i10)) a14 i16)) a20 i22)) a26 i28) &&& 1)) a32 i36 (xJ (xsI (xsI (xsI (xsI (xsI M a2 i6 ((xI M a2 i4) &&& 1)) a8 i12 (xI (xsI M a2 i6 ((xI M a2 i4) &&& 1)) a8 i10)) a14 i18 (xI (xsI (xsI M a2 i6 ((xI M a2 i4) &&& 1)) a8 i12 (xI (xsI M a2 i6 ((xI M a2 i4) &&& 1)) a8 i10)) a14 i16)) a20 i24 (xI (xsI (xsI (xsI M a2 i6 ((xI M a2 i4) &&& 1)) a8 i12 (xI (xsI M a2 i6 ((xI M a2 i4) &&& 1)) a8 i10)) a14 i18 (xI (xsI (xsI M a2 i6 ((xI M a2 i4) &&& 1)) a8 i12 (xI (xsI M a2 i6 ((xI M a2 i4) &&& 1)) a8 i10)) a14 i16)) a20 i22)) a26 i30 ((xI (xsI (xsI (xsI (xsI M a2 i6 ((xI M a2 i4) &&& 1)) a8 i12 (xI (xsI M a2 i6 ((xI M a2 i4) &&& 1)) a8 i10)) a14 i18 (xI (xsI (xsI M a2 i6 ((xI M a2 i4) &&& 1)) a8 i12 (xI (xsI M a2 i6 ((xI M a2 i4) &&& 1)) a8 i10)) a14 i16)) a20 i24 (xI (xsI (xsI (xsI M a2 i6 ((xI M a2 i4) &&& 1)) a8 i12 (xI (xsI M a2 i6 ((xI M a2 i4) &&& 1)) a8 i10)) a14 i18 (xI (xsI (xsI M a2 i6 ((xI M a2 i4) &&& 1)) a8 i12 (xI (xsI M a2 i6 ((xI M a2 i4) &&& 1)) a8 i10)) a14 i16)) a20 i22)) a26 i28) &&& 1)) a32 i34)) a38 i40)) a44 i48 (xI (xsI (xsJ (xsI (xsI (xsI (xsI (xsI M a2 i6 ((xI M a2 i4) &&& 1)) a8 i12 (xI (xsI M a2 i6 ((xI M a2 i4) &&& 1)) a8 i10)) a14 i18 (xI (xsI (xsI M a2 i6 ((xI M a2 i4) &&& 1)) a8 i12 (xI (xsI M a2 i6 ((xI M a2 i4) &&& 1)) a8 i10)) a14 i16)) a20 i24 (xI (xsI (xsI (xsI M a2 i6 ((xI M a2 i4) &&& 1)) a8 i12 (xI (xsI M a2 i6 ((xI M a2 i4) &&& 1)) a8 i10)) a14 i18 (xI (xsI (xsI M a2 i6 ((xI M a2 i4) &&& 1)) a8 i12 (xI (xsI M a2 i6 ((xI M a2 i4) &&& 1)) a8 i10)) a14 i16)) a20 i22)) a26 i30 ((xI (xsI (xsI (xsI (xsI M a2 i6 ((xI M a2 i4) &&& 1)) a8 i12 (xI (xsI M a2 i6 ((xI M a2 i4) &&& 1)) a8 i10)) a14 i18 (xI (xsI (xsI M a2 i6 ((xI M a2 i4) &&& 1)) a8 i12 (xI (xsI M a2 i6 ((xI M a2 i4) &&& 1)) a8 i10)) a14 i16)) a20 i24 (xI (xsI (xsI (xsI M a2 i6 ((xI M a2 i4) &&& 1)) a8 i12 (xI (xsI M a2 i6 ((xI M a2 i4) &&& 1)) a8 i10)) a14 i18 (xI (xsI (xsI M a2 i6 ((xI M a2 i4) &&& 1)) a8 i12 (xI (xsI M a2 i6 ((xI M a2 i4) &&& 1)) a8 i10)) a14 i16)) a20 i22)) a26 i28) &&& 1)) a32 i36 (xJ (xsI (xsI (xsI (xsI (xsI M a2 i6 ((xI M a2 i4) &&& 1)) a8 i12 (xI (xsI M a2 i6 ((xI M a2 i4) &&& 1)) a8 i10)) a14 i18 (xI (xsI (xsI M a2 i6 ((xI M a2 i4) &&& 1)) a8 i12 (xI (xsI M a2 i6 ((xI M a2 i4) &&& 1)) a8 i10)) a14 i16)) a20 i24 (xI (xsI (xsI (xsI M a2 i6 ((xI M a2 i4) &&& 1)) a8 i12 (xI (xsI M a2 i6 ((xI M a2 i4) &&& 1)) a8 i10)) a14 i18 (xI (xsI (xsI M a2 i6 ((xI M a2 i4) &&& 1)) a8 i12 (xI (xsI M a2 i6 ((xI M a2 i4) &&& 1)) a8 i10)) a14 i16)) a20 i22)) a26 i30 ((xI (xsI (xsI (xsI (xsI M a2 i6 ((xI M a2 i4) &&& 1)) a8 i12 (xI (xsI M a2 i6 ((xI M a2 i4) &&& 1)) a8 i10)) a14 i18 (xI (xsI (xsI M a2 i6 ((xI M a2 i4) &&& 1)) a8 i12 (xI (xsI M a2 i6 ((xI M a2 i4) &&& 1)) a8 i10)) a14 i16)) a20 i24 (xI (xsI (xsI (xsI M a2 i6 ((xI M a2 i4) &&& 1)) a8 i12 (xI (xsI M a2 i6 ((xI M a2 i4) &&& 1)) a8 i10)) a14 i18 (xI (xsI (xsI M a2 i6 ((xI M a2 i4) &&& 1)) a8 i12 (xI (xsI M a2 i6 ((xI M a2 i4) &&& 1)) a8 i10)) a14 i16)) a20 i22)) a26 i28) &&& 1)) a32 i34)) a38 i42 (xI (xsJ (xsI (xsI (xsI (xsI (xsI M a2 i6 ((xI M a2 i4) &&& 1)) a8 i12 (xI (xsI M a2 i6 ((xI M a2 i4) &&& 1)) a8 i10)) a14 i18 (xI (xsI (xsI M a2 i6 ((xI M a2 i4) &&& 1)) a8 i12 (xI (xsI M a2 i6 ((xI M a2 i4) &&& 1)) a8 i10)) a14 i16)) a20 i24 (xI (xsI (xsI (xsI M a2 i6 ((xI M a2 i4) &&& 1)) a8 i12 (xI (xsI M a2 i6 ((xI M a2 i4) &&& 1)) a8 i10)) a14 i18 (xI (xsI (xsI M a2 i6 ((xI M a2 i4) &&& 1)) a8 i12 (xI (xsI M a2 i6 ((xI M a2 i4) &&& 1)) a8 i10)) a14 i16)) a20 i22)) a26 i30 ((xI (xsI (xsI (xsI (xsI M a2 i6 ((xI M a2 i4) &&& 1)) a8 i12 (xI (xsI M a2 i6 ((xI M a2 i4) &&& 1)) a8 i10)) a14 i18 (xI (xsI (xsI M a2 i6 ((xI M a2 i4) &&& 1)) a8 i12 (xI (xsI M a2 i6 ((xI M a2 i4) &&& 1)) a8 i10)) a14 i16)) a20 i24 (xI (xsI (xsI (xsI M a2 i6 ((xI M a2 i4) &&& 1)) a8 i12 (xI (xsI M a2 i6 ((xI M a2 i4) &&& 1)) a8 i10)) a14 i18 (xI (xsI (xsI M a2 i6 ((xI M a2 i4) &&& 1)) a8 i12 (xI (xsI M a2 i6 ((xI M a2 i4) &&& 1)) a8 i10)) a14 i16)) a20 i22)) a26 i28) &&& 1)) a32 i36 (xJ (xsI (xsI (xsI (xsI (xsI M a2 i6 ((xI M a2 i4) &&& 1)) a8 i12 (xI (xsI M a2 i6 ((xI M a2 i4) &&& 1)) a8 i10)) a14 i18 (xI (xsI (xsI M a2 i6 ((xI M a2 i4) &&& 1)) a8 i12 (xI (xsI M a2 i6 ((xI M a2 i4) &&& 1)) a8 i10)) a14 i16)) a20 i24 (xI (xsI (xsI (xsI M a2 i6 ((xI M a2 i4) &&& 1)) a8 i12 (xI (xsI M a2 i6 ((xI M a2 i4) &&& 1)) a8 i10)) a14 i18 (xI (xsI (xsI M a2 i6 ((xI M a2 i4) &&& 1)) a8 i12 (xI (xsI M a2 i6 ((xI M a2 i4) &&& 1)) a8 i10)) a14 i16)) a20 i22)) a26 i30 ((xI (xsI (xsI (xsI (xsI M a2 i6 ((xI M a2 i4) &&& 1)) a8 i12 (xI (xsI M a2 i6 ((xI M a2 i4) &&& 1)) a8 i10)) a14 i18 (xI (xsI (xsI M a2 i6 ((xI M a2 i4) &&& 1)) a8 i12 (xI (xsI M a2 i6 ((xI M a2 i4) &&& 1)) a8 i10)) a14 i16)) a20 i24 (xI (xsI (xsI (xsI M a2 i6 ((xI M a2 i4) &&& 1)) a8 i12 (xI (xsI M a2 i6 ((xI M a2 i4) &&& 1)) a8 i10)) a14 i18 (xI (xsI (xsI M a2 i6 ((xI M a2 i4) &&& 1)) a8 i12 (xI (xsI M a2 i6 ((xI M a2 i4) &&& 1)) a8 i10)) a14 i16)) a20 i22)) a26 i28) &&& 1)) a32 i34)) a38 i40)) a44 i46)) a50 11 (x1 + x3) i52 ∧ (∃ i54, xai (xsI (xsI (xsJ (xsI (xsI (xsI (xsI (xsI M a2 i6 ((xI M a2 i4) &&& 1)) a8 i12 (xI (xsI M a2 i6 ((xI M a2 i4) &&& 1)) a8 i10)) a14 i18 (xI (xsI (xsI M a2 i6 ((xI M a2 i4) &&& 1)) a8 i12 (xI (xsI M a2 i6 ((xI M a2 i4) &&& 1)) a8 i10)) a14 i16)) a20 i24 (xI (xsI (xsI (xsI M a2 i6 ((xI M a2 i4) &&& 1)) a8 i12 (xI (xsI M a2 i6 ((xI M a2 i4) &&& 1)) a8 i10)) a14 i18 (xI (xsI (xsI M a2 i6 ((xI M a2 i4) &&& 1)) a8 i12 (xI (xsI M a2 i6 ((xI M a2 i4) &&& 1)) a8 i10)) a14 i16)) a20 i22)) a26 i30 ((xI (xsI (xsI (xsI (xsI M a2 i6 ((xI M a2 i4) &&& 1)) a8 i12 (xI (xsI M a2 i6 ((xI M a2 i4) &&& 1)) a8 i10)) a14 i18 (xI (xsI (xsI M a2 i6 ((xI M a2 i4) &&& 1)) a8 i12 (xI (xsI M a2 i6 ((xI M a2 i4) &&& 1)) a8 i10)) a14 i16)) a20 i24 (xI (xsI (xsI (xsI M a2 i6 ((xI M a2 i4) &&& 1)) a8 i12 (xI (xsI M a2 i6 ((xI M a2 i4) &&& 1)) a8 i10)) a14 i18 (xI (xsI (xsI M a2 i6 ((xI M a2 i4) &&& 1)) a8 i12 (xI (xsI M a2 i6 ((xI M a2 i4) &&& 1)) a8 i10)) a14 i16)) a20 i22)) a26 i28) &&& 1)) a32 i36 (xJ (xsI (xsI (xsI (xsI (xsI M a2 i6 ((xI M a2 i4) &&& 1)) a8 i12 (xI (xsI M a2 i6 ((xI M a2 i4) &&& 1)) a8 i10)) a14 i18 (xI (xsI (xsI M a2 i6 ((xI M a2 i4) &&& 1)) a8 i12 (xI (xsI M a2 i6 ((xI M a2 i4) &&& 1)) a8 i10)) a14 i16)) a20 i24 (xI (xsI (xsI (xsI M a2 i6 ((xI M a2 i4) &&& 1)) a8 i12 (xI (xsI M a2 i6 ((xI M a2 i4) &&& 1)) a8 i10)) a14 i18 (xI (xsI (xsI M a2 i6 ((xI M a2 i4) &&& 1)) a8 i12 (xI (xsI M a2 i6 ((xI M a2 i4) &&& 1)) a8 i10)) a14 i16)) a20 i22)) a26 i30 ((xI (xsI (xsI (xsI (xsI M a2 i6 ((xI M a2 i4) &&& 1)) a8 i12 (xI (xsI M a2 i6 ((xI M a2 i4) &&& 1)) a8 i10)) a14 i18 (xI (xsI (xsI M a2 i6 ((xI M a2 i4) &&& 1)) a8 i12 (xI (xsI M a2 i6 ((xI M a2 i4) &&& 1)) a8 i10)) a14 i16)) a20 i24 (xI (xsI (xsI (xsI M a2 i6 ((xI M a2 i4) &&& 1)) a8 i12 (xI (xsI M a2 i6 ((xI M a2 i4) &&& 1)) a8 i10)) a14 i18 (xI (xsI (xsI M a2 i6 ((xI M a2 i4) &&& 1)) a8 i12 (xI (xsI M a2 i6 ((xI M a2 i4) &&& 1)) a8 i10)) a14 i16)) a20 i22)) a26 i28) &&& 1)) a32 i34)) a38 i42 (xI (xsJ (xsI (xsI (xsI (xsI (xsI M a2 i6 ((xI M a2 i4) &&& 1)) a8 i12 (xI (xsI M a2 i6 ((xI M a2 i4) &&& 1)) a8 i10)) a14 i18 (xI (xsI (xsI M a2 i6 ((xI M a2 i4) &&& 1)) a8 i12 (xI (xsI M a2 i6 ((xI M a2 i4) &&& 1)) a8 i10)) a14 i16)) a20 i24 (xI (xsI (xsI (xsI M a2 i6 ((xI M a2 i4) &&& 1)) a8 i12 (xI (xsI M a2 i6 ((xI M a2 i4) &&& 1)) a8 i10)) a14 i18 (xI (xsI (xsI M a2 i6 ((xI M a2 i4) &&& 1)) a8 i12 (xI (xsI M a2 i6 ((xI M a2 i4) &&& 1)) a8 i10)) a14 i16)) a20 i22)) a26 i30 ((xI (xsI (xsI (xsI (xsI M a2 i6 ((xI M a2 i4) &&& 1)) a8 i12 (xI (xsI M a2 i6 ((xI M a2 i4) &&& 1)) a8 i10)) a14 i18 (xI (xsI (xsI M a2 i6 ((xI M a2 i4) &&& 1)) a8 i12 (xI (xsI M a2 i6 ((xI M a2 i4) &&& 1)) a8 i10)) a14 i16)) a20 i24 (xI (xsI (xsI (xsI M a2 i6 ((xI M a2 i4) &&& 1)) a8 i12 (xI (xsI M a2 i6 ((xI M a2 i4) &&& 1)) a8 i10)) a14 i18 (xI (xsI (xsI M a2 i6 ((xI M a2 i4) &&& 1)) a8 i12 (xI (xsI M a2 i6 ((xI M a2 i4) &&& 1)) a8 i10)) a14 i16)) a20 i22)) a26 i28) &&& 1)) a32 i36 (xJ (xsI (xsI (xsI (xsI (xsI M a2 i6 ((xI M a2 i4) &&& 1)) a8 i12 (xI (xsI M a2 i6 ((xI M a2 i4) &&& 1)) a8 i10)) a14 i18 (xI (xsI (xsI M a2 i6 ((xI M a2 i4) &&& 1)) a8 i12 (xI (xsI M a2 i6 ((xI M a2 i4) &&& 1)) a8 i10)) a14 i16)) a20 i24 (xI (xsI (xsI (xsI M a2 i6 ((xI M a2 i4) &&& 1)) a8 i12 (xI (xsI M a2 i6 ((xI M a2 i4) &&& 1)) a8 i10)) a14 i18 (xI (xsI (xsI M a2 i6 ((xI M a2 i4) &&& 1)) a8 i12 (xI (xsI M a2 i6 ((xI M a2 i4) &&& 1)) a8 i10)) a14 i16)) a20 i22)) a26 i30 ((xI (xsI (xsI (xsI (xsI M a2 i6 ((xI M a2 i4) &&& 1)) a8 i12 (xI (xsI M a2 i6 ((xI M a2 i4) &&& 1)) a8 i10)) a14 i18 (xI (xsI (xsI M a2 i6 ((xI M a2 i4) &&& 1)) a8 i12 (xI (xsI M a2 i6 ((xI M a2 i4) &&& 1)) a8 i10)) a14 i16)) a20 i24 (xI (xsI (xsI (xsI M a2 i6 ((xI M a2 i4) &&& 1)) a8 i12 (xI (xsI M a2 i6 ((xI M a2 i4) &&& 1)) a8 i10)) a14 i18 (xI (xsI (xsI M a2 i6 ((xI M a2 i4) &&& 1)) a8 i12 (xI (xsI M a2 i6 ((xI M a2 i4) &&& 1)) a8 i10)) a14 i16)) a20 i22)) a26 i28) &&& 1)) a32 i34)) a38 i40)) a44 i48 (xI (xsI (xsJ (xsI (xsI (xsI (xsI (xsI M a2 i6 ((xI M a2 i4) &&& 1)) a8 i12 (xI (xsI M a2 i6 ((xI M a2 i4) &&& 1)) a8 i10)) a14 i18 (xI (xsI (xsI M a2 i6 ((xI M a2 i4) &&& 1)) a8 i12 (xI (xsI M a2 i6 ((xI M a2 i4) &&& 1)) a8 i10)) a14 i16)) a20 i24 (xI (xsI (xsI (xsI M a2 i6 ((xI M a2 i4) &&& 1)) a8 i12 (xI (xsI M a2 i6 ((xI M a2 i4) &&& 1)) a8 i10)) a14 i18 (xI (xsI (xsI M a2 i6 ((xI M a2 i4) &&& 1)) a8 i12 (xI (xsI M a2 i6 ((xI M a2 i4) &&& 1)) a8 i10)) a14 i16)) a20 i22)) a26 i30 ((xI (xsI (xsI (xsI (xsI M a2 i6 ((xI M a2 i4) &&& 1)) a8 i12 (xI (xsI M a2 i6 ((xI M a2 i4) &&& 1)) a8 i10)) a14 i18 (xI (xsI (xsI M a2 i6 ((xI M a2 i4) &&& 1)) a8 i12 (xI (xsI M a2 i6 ((xI M a2 i4) &&& 1)) a8 i10)) a14 i16)) a20 i24 (xI (xsI (xsI (xsI M a2 i6 ((xI M a2 i4) &&& 1)) a8 i12 (xI (xsI M a2 i6 ((xI M a2 i4) &&& 1)) a8 i10)) a14 i18 (xI (xsI (xsI M a2 i6 ((xI M a2 i4) &&& 1)) a8 i12 (xI (xsI M a2 i6 ((xI M a2 i4) &&& 1)) a8 i10)) a14 i16)) a20 i22)) a26 i28) &&& 1)) a32 i36 (xJ (xsI (xsI (xsI (xsI (xsI M a2 i6 ((xI M a2 i4) &&& 1)) a8 i12 (xI (xsI M a2 i6 ((xI M a2 i4) &&& 1)) a8 i10)) a14 i18 (xI (xsI (xsI M a2 i6 ((xI M a2 i4) &&& 1)) a8 i12 (xI (xsI M a2 i6 ((xI M a2 i4) &&& 1)) a8 i10)) a14 i16)) a20 i24 (xI (xsI (xsI (xsI M a2 i6 ((xI M a2 i4) &&& 1)) a8 i12 (xI (xsI M a2 i6 ((xI M a2 i4) &&& 1)) a8 i10)) a14 i18 (xI (xsI (xsI M a2 i6 ((xI M a2 i4) &&& 1)) a8 i12 (xI (xsI M a2 i6 ((xI M a2 i4) &&& 1)) a8 i10)) a14 i16)) a20 i22)) a26 i30 ((xI (xsI (xsI (xsI (xsI M a2 i6 ((xI M a2 i4) &&& 1)) a8 i12 (xI (xsI M a2 i6 ((xI M a2 i4) &&& 1)) a8 i10)) a14 i18 (xI (xsI (xsI M a2 i6 ((xI M a2 i4) &&& 1)) a8 i12 (xI (xsI M a2 i6 ((xI M a2 i4) &&& 1)) a8 i10)) a14 i16)) a20 i24 (xI (xsI (xsI (xsI M a2 i6 ((xI M a2 i4) &&& 1)) a8 i12 (xI (xsI M a2 i6 ((xI M a2 i4) &&& 1)) a8 i10)) a14 i18 (xI (xsI (xsI M a2 i6 ((xI M a2 i4) &&& 1)) a8 i12 (xI (xsI M a2 i6 ((xI M a2 i4) &&& 1)) a8 i10)) a14 i16)) a20 i22)) a26 i28) &&& 1)) a32 i34)) a38 i42 (xI (xsJ (xsI (xsI (xsI (xsI (xsI M a2 i6 ((xI M a2 i4) &&& 1)) a8 i12 (xI (xsI M a2 i6 ((xI M a2 i4) &&& 1)) a8 i10)) a14 i18 (xI (xsI (xsI M a2 i6 ((xI M a2 i4) &&& 1)) a8 i12 (xI (xsI M a2 i6 ((xI M a2 i4) &&& 1)) a8 i10)) a14 i16)) a20 i24 (xI (xsI (xsI (xsI M a2 i6 ((xI M a2 i4) &&& 1)) a8 i12 (xI (xsI M a2 i6 ((xI M a2 i4) &&& 1)) a8 i10)) a14 i18 (xI (xsI (xsI M a2 i6 ((xI M a2 i4) &&& 1)) a8 i12 (xI (xsI M a2 i6 ((xI M a2 i4) &&& 1)) a8 i10)) a14 i16)) a20 i22)) a26 i30 ((xI (xsI (xsI (xsI (xsI M a2 i6 ((xI M a2 i4) &&& 1)) a8 i12 (xI (xsI M a2 i6 ((xI M a2 i4) &&& 1)) a8 i10)) a14 i18 (xI (xsI (xsI M a2 i6 ((xI M a2 i4) &&& 1)) a8 i12 (xI (xsI M a2 i6 ((xI M a2 i4) &&& 1)) a8 i10)) a14 i16)) a20 i24 (xI (xsI (xsI (xsI M a2 i6 ((xI M a2 i4) &&& 1)) a8 i12 (xI (xsI M a2 i6 ((xI M a2 i4) &&& 1)) a8 i10)) a14 i18 (xI (xsI (xsI M a2 i6 ((xI M a2 i4) &&& 1)) a8 i12 (xI (xsI M a2 i6 ((xI M a2 i4) &&& 1)) a8 i10)) a14 i16)) a20 i22)) a26 i28) &&& 1)) a32 i36 (xJ (xsI (xsI (xsI (xsI (xsI M a2 i6 ((xI M a2 i4) &&& 1)) a8 i12 (xI (xsI M a2 i6 ((xI M a2 i4) &&& 1)) a8 i10)) a14 i18 (xI (xsI (xsI M a2 i6 ((xI M a2 i4) &&& 1)) a8 i12 (xI (xsI M a2 i6 ((xI M a2 i4) &&& 1)) a8 i10)) a14 i16)) a20 i24 (xI (xsI (xsI (xsI M a2 i6 ((xI M a2 i4) &&& 1)) a8 i12 (xI (xsI M a2 i6 ((xI M a2 i4) &&& 1)) a8 i10)) a14 i18 (xI (xsI (xsI M a2 i6 ((xI M a2 i4) &&& 1)) a8 i12 (xI (xsI M a2 i6 ((xI M a2 i4) &&& 1)) a8 i10)) a14 i16)) a20 i22)) a26 i30 ((xI (xsI (xsI (xsI (xsI M a2 i6 ((xI M a2 i4) &&& 1)) a8 i12 (xI (xsI M a2 i6 ((xI M a2 i4) &&& 1)) a8 i10)) a14 i18 (xI (xsI (xsI M a2 i6 ((xI M a2 i4) &&& 1)) a8 i12 (xI (xsI M a2 i6 ((xI M a2 i4) &&& 1)) a8 i10)) a14 i16)) a20 i24 (xI (xsI (xsI (xsI M a2 i6 ((xI M a2 i4) &&& 1)) a8 i12 (xI (xsI M a2 i6 ((xI M a2 i4) &&& 1)) a8 i10)) a14 i18 (xI (xsI (xsI M a2 i6 ((xI M a2 i4) &&& 1)) a8 i12 (xI (xsI M a2 i6 ((xI M a2 i4) &&& 1)) a8 i10)) a14 i16)) a20 i22)) a26 i28) &&& 1)) a32 i34)) a38 i40)) a44 i46)) a50 11 (x2 + x3) i54 ∧ xWp l g mX10_copy 0 0 156 [(1, va_rf (some a0)), (1, .int x1), (1, .int x2), (1, .int x3), (1, .int 0)] [] (0, 0) (xsI (xsI (xsI (xsJ (xsI (xsI (xsI (xsI (xsI M a2 i6 ((xI M a2 i4) &&& 1)) a8 i12 (xI (xsI M a2 i6 ((xI M a2 i4) &&& 1)) a8 i10)) a14 i18 (xI (xsI (xsI M a2 i6 ((xI M a2 i4) &&& 1)) a8 i12 (xI (xsI M a2 i6 ((xI M a2 i4) &&& 1)) a8 i10)) a14 i16)) a20 i24 (xI (xsI (xsI (xsI M a2 i6 ((xI M a2 i4) &&& 1)) a8 i12 (xI (xsI M a2 i6 ((xI M a2 i4) &&& 1)) a8 i10)) a14 i18 (xI (xsI (xsI M a2 i6 ((xI M a2 i4) &&& 1)) a8 i12 (xI (xsI M a2 i6 ((xI M a2 i4) &&& 1)) a8 i10)) a14 i16)) a20 i22)) a26 i30 ((xI (xsI (xsI (xsI (xsI M a2 i6 ((xI M a2 i4) &&& 1)) a8 i12 (xI (xsI M a2 i6 ((xI M a2 i4) &&& 1)) a8 i10)) a14 i18 (xI (xsI (xsI M a2 i6 ((xI M a2 i4) &&& 1)) a8 i12 (xI (xsI M a2 i6 ((xI M a2 i4) &&& 1)) a8 i10)) a14 i16)) a20 i24 (xI (xsI (xsI (xsI M a2 i6 ((xI M a2 i4) &&& 1)) a8 i12 (xI (xsI M a2 i6 ((xI M a2 i4) &&& 1)) a8 i10)) a14 i18 (xI (xsI (xsI M a2 i6 ((xI M a2 i4) &&& 1)) a8 i12 (xI (xsI M a2 i6 ((xI M a2 i4) &&& 1)) a8 i10)) a14 i16)) a20 i22)) a26 i28) &&& 1)) a32 i36 (xJ (xsI (xsI (xsI (xsI (xsI M a2 i6 ((xI M a2 i4) &&& 1)) a8 i12 (xI (xsI M a2 i6 ((xI M a2 i4) &&& 1)) a8 i10)) a14 i18 (xI (xsI (xsI M a2 i6 ((xI M a2 i4) &&& 1)) a8 i12 (xI (xsI M a2 i6 ((xI M a2 i4) &&& 1)) a8 i10)) a14 i16)) a20 i24 (xI (xsI (xsI (xsI M a2 i6 ((xI M a2 i4) &&& 1)) a8 i12 (xI (xsI M a2 i6 ((xI M a2 i4) &&& 1)) a8 i10)) a14 i18 (xI (xsI (xsI M a2 i6 ((xI M a2 i4) &&& 1)) a8 i12 (xI (xsI M a2 i6 ((xI M a2 i4) &&& 1)) a8 i10)) a14 i16)) a20 i22)) a26 i30 ((xI (xsI (xsI (xsI (xsI M a2 i6 ((xI M a2 i4) &&& 1)) a8 i12 (xI (xsI M a2 i6 ((xI M a2 i4) &&& 1)) a8 i10)) a14 i18 (xI (xsI (xsI M a2 i6 ((xI M a2 i4) &&& 1)) a8 i12 (xI (xsI M a2 i6 ((xI M a2 i4) &&& 1)) a8 i10)) a14 i16)) a20 i24 (xI (xsI (xsI (xsI M a2 i6 ((xI M a2 i4) &&& 1)) a8 i12 (xI (xsI M a2 i6 ((xI M a2 i4) &&& 1)) a8 i10)) a14 i18 (xI (xsI (xsI M a2 i6 ((xI M a2 i4) &&& 1)) a8 i12 (xI (xsI M a2 i6 ((xI M a2 i4) &&& 1)) a8 i10)) a14 i16)) a20 i22)) a26 i28) &&& 1)) a32 i34)) a38 i42 (xI (xsJ (xsI (xsI (xsI (xsI (xsI M a2 i6 ((xI M a2 i4) &&& 1)) a8 i12 (xI (xsI M a2 i6 ((xI M a2 i4) &&& 1)) a8 i10)) a14 i18 (xI (xsI (xsI M a2 i6 ((xI M a2 i4) &&& 1)) a8 i12 (xI (xsI M a2 i6 ((xI M a2 i4) &&& 1)) a8 i10)) a14 i16)) a20 i24 (xI (xsI (xsI (xsI M a2 i6 ((xI M a2 i4) &&& 1)) a8 i12 (xI (xsI M a2 i6 ((xI M a2 i4) &&& 1)) a8 i10)) a14 i18 (xI (xsI (xsI M a2 i6 ((xI M a2 i4) &&& 1)) a8 i12 (xI (xsI M a2 i6 ((xI M a2 i4) &&& 1)) a8 i10)) a14 i16)) a20 i22)) a26 i30 ((xI (xsI (xsI (xsI (xsI M a2 i6 ((xI M a2 i4) &&& 1)) a8 i12 (xI (xsI M a2 i6 ((xI M a2 i4) &&& 1)) a8 i10)) a14 i18 (xI (xsI (xsI M a2 i6 ((xI M a2 i4) &&& 1)) a8 i12 (xI (xsI M a2 i6 ((xI M a2 i4) &&& 1)) a8 i10)) a14 i16)) a20 i24 (xI (xsI (xsI (xsI M a2 i6 ((xI M a2 i4) &&& 1)) a8 i12 (xI (xsI M a2 i6 ((xI M a2 i4) &&& 1)) a8 i10)) a14 i18 (xI (xsI (xsI M a2 i6 ((xI M a2 i4) &&& 1)) a8 i12 (xI (xsI M a2 i6 ((xI M a2 i4) &&& 1)) a8 i10)) a14 i16)) a20 i22)) a26 i28) &&& 1)) a32 i36 (xJ (xsI (xsI (xsI (xsI (xsI M a2 i6 ((xI M a2 i4) &&& 1)) a8 i12 (xI (xsI M a2 i6 ((xI M a2 i4) &&& 1)) a8 i10)) a14 i18 (xI (xsI (xsI M a2 i6 ((xI M a2 i4) &&& 1)) a8 i12 (xI (xsI M a2 i6 ((xI M a2 i4) &&& 1)) a8 i10)) a14 i16)) a20 i24 (xI (xsI (xsI (xsI M a2 i6 ((xI M a2 i4) &&& 1)) a8 i12 (xI (xsI M a2 i6 ((xI M a2 i4) &&& 1)) a8 i10)) a14 i18 (xI (xsI (xsI M a2 i6 ((xI M a2 i4) &&& 1)) a8 i12 (xI (xsI M a2 i6 ((xI M a2 i4) &&& 1)) a8 i10)) a14 i16)) a20 i22)) a26 i30 ((xI (xsI (xsI (xsI (xsI M a2 i6 ((xI M a2 i4) &&& 1)) a8 i12 (xI (xsI M a2 i6 ((xI M a2 i4) &&& 1)) a8 i10)) a14 i18 (xI (xsI (xsI M a2 i6 ((xI M a2 i4) &&& 1)) a8 i12 (xI (xsI M a2 i6 ((xI M a2 i4) &&& 1)) a8 i10)) a14 i16)) a20 i24 (xI (xsI (xsI (xsI M a2 i6 ((xI M a2 i4) &&& 1)) a8 i12 (xI (xsI M a2 i6 ((xI M a2 i4) &&& 1)) a8 i10)) a14 i18 (xI (xsI (xsI M a2 i6 ((xI M a2 i4) &&& 1)) a8 i12 (xI (xsI M a2 i6 ((xI M a2 i4) &&& 1)) a8 i10)) a14 i16)) a20 i22)) a26 i28) &&& 1)) a32 i34)) a38 i40)) a44 i48 (xI (xsI (xsJ (xsI (xsI (xsI (xsI (xsI M a2 i6 ((xI M a2 i4) &&& 1)) a8 i12 (xI (xsI M a2 i6 ((xI M a2 i4) &&& 1)) a8 i10)) a14 i18 (xI (xsI (xsI M a2 i6 ((xI M a2 i4) &&& 1)) a8 i12 (xI (xsI M a2 i6 ((xI M a2 i4) &&& 1)) a8 i10)) a14 i16)) a20 i24 (xI (xsI (xsI (xsI M a2 i6 ((xI M a2 i4) &&& 1)) a8 i12 (xI (xsI M a2 i6 ((xI M a2 i4) &&& 1)) a8 i10)) a14 i18 (xI (xsI (xsI M a2 i6 ((xI M a2 i4) &&& 1)) a8 i12 (xI (xsI M a2 i6 ((xI M a2 i4) &&& 1)) a8 i10)) a14 i16)) a20 i22)) a26 i30 ((xI (xsI (xsI (xsI (xsI M a2 i6 ((xI M a2 i4) &&& 1)) a8 i12 (xI (xsI M a2 i6 ((xI M a2 i4) &&& 1)) a8 i10)) a14 i18 (xI (xsI (xsI M a2 i6 ((xI M a2 i4) &&& 1)) a8 i12 (xI (xsI M a2 i6 ((xI M a2 i4) &&& 1)) a8 i10)) a14 i16)) a20 i24 (xI (xsI (xsI (xsI M a2 i6 ((xI M a2 i4) &&& 1)) a8 i12 (xI (xsI M a2 i6 ((xI M a2 i4) &&& 1)) a8 i10)) a14 i18 (xI (xsI (xsI M a2 i6 ((xI M a2 i4) &&& 1)) a8 i12 (xI (xsI M a2 i6 ((xI M a2 i4) &&& 1)) a8 i10)) a14 i16)) a20 i22)) a26 i28) &&& 1)) a32 i36 (xJ (xsI (xsI (xsI (xsI (xsI M a2 i6 ((xI M a2 i4) &&& 1)) a8 i12 (xI (xsI M a2 i6 ((xI M a2 i4) &&& 1)) a8 i10)) a14 i18 (xI (xsI (xsI M a2 i6 ((xI M a2 i4) &&& 1)) a8 i12 (xI (xsI M a2 i6 ((xI M a2 i4) &&& 1)) a8 i10)) a14 i16)) a20 i24 (xI (xsI (xsI (xsI M a2 i6 ((xI M a2 i4) &&& 1)) a8 i12 (xI (xsI M a2 i6 ((xI M a2 i4) &&& 1)) a8 i10)) a14 i18 (xI (xsI (xsI M a2 i6 ((xI M a2 i4) &&& 1)) a8 i12 (xI (xsI M a2 i6 ((xI M a2 i4) &&& 1)) a8 i10)) a14 i16)) a20 i22)) a26 i30 ((xI (xsI (xsI (xsI (xsI M a2 i6 ((xI M a2 i4) &&& 1)) a8 i12 (xI (xsI M a2 i6 ((xI M a2 i4) &&& 1)) a8 i10)) a14 i18 (xI (xsI (xsI M a2 i6 ((xI M a2 i4) &&& 1)) a8 i12 (xI (xsI M a2 i6 ((xI M a2 i4) &&& 1)) a8 i10)) a14 i16)) a20 i24 (xI (xsI (xsI (xsI M a2 i6 ((xI M a2 i4) &&& 1)) a8 i12 (xI (xsI M a2 i6 ((xI M a2 i4) &&& 1)) a8 i10)) a14 i18 (xI (xsI (xsI M a2 i6 ((xI M a2 i4) &&& 1)) a8 i12 (xI (xsI M a2 i6 ((xI M a2 i4) &&& 1)) a8 i10)) a14 i16)) a20 i22)) a26 i28) &&& 1)) a32 i34)) a38 i42 (xI (xsJ (xsI (xsI (xsI (xsI (xsI M a2 i6 ((xI M a2 i4) &&& 1)) a8 i12 (xI (xsI M a2 i6 ((xI M a2 i4) &&& 1)) a8 i10)) a14 i18 (xI (xsI (xsI M a2 i6 ((xI M a2 i4) &&& 1)) a8 i12 (xI (xsI M a2 i6 ((xI M a2 i4) &&& 1)) a8 i10)) a14 i16)) a20 i24 (xI (xsI (xsI (xsI M a2 i6 ((xI M a2 i4) &&& 1)) a8 i12 (xI (xsI M a2 i6 ((xI M a2 i4) &&& 1)) a8 i10)) a14 i18 (xI (xsI (xsI M a2 i6 ((xI M a2 i4) &&& 1)) a8 i12 (xI (xsI M a2 i6 ((xI M a2 i4) &&& 1)) a8 i10)) a14 i16)) a20 i22)) a26 i30 ((xI (xsI (xsI (xsI (xsI M a2 i6 ((xI M a2 i4) &&& 1)) a8 i12 (xI (xsI M a2 i6 ((xI M a2 i4) &&& 1)) a8 i10)) a14 i18 (xI (xsI (xsI M a2 i6 ((xI M a2 i4) &&& 1)) a8 i12 (xI (xsI M a2 i6 ((xI M a2 i4) &&& 1)) a8 i10)) a14 i16)) a20 i24 (xI (xsI (xsI (xsI M a2 i6 ((xI M a2 i4) &&& 1)) a8 i12 (xI (xsI M a2 i6 ((xI M a2 i4) &&& 1)) a8 i10)) a14 i18 (xI (xsI (xsI M a2 i6 ((xI M a2 i4) &&& 1)) a8 i12 (xI (xsI M a2 i6 ((xI M a2 i4) &&& 1)) a8 i10)) a14 i16)) a20 i22)) a26 i28) &&& 1)) a32 i36 (xJ (xsI (xsI (xsI (xsI (xsI M a2 i6 ((xI M a2 i4) &&& 1)) a8 i12 (xI (xsI M a2 i6 ((xI M a2 i4) &&& 1)) a8 i10)) a14 i18 (xI (xsI (xsI M a2 i6 ((xI M a2 i4) &&& 1)) a8 i12 (xI (xsI M a2 i6 ((xI M a2 i4) &&& 1)) a8 i10)) a14 i16)) a20 i24 (xI (xsI (xsI (xsI M a2 i6 ((xI M a2 i4) &&& 1)) a8 i12 (xI (xsI M a2 i6 ((xI M a2 i4) &&& 1)) a8 i10)) a14 i18 (xI (xsI (xsI M a2 i6 ((xI M a2 i4) &&& 1)) a8 i12 (xI (xsI M a2 i6 ((xI M a2 i4) &&& 1)) a8 i10)) a14 i16)) a20 i22)) a26 i30 ((xI (xsI (xsI (xsI (xsI M a2 i6 ((xI M a2 i4) &&& 1)) a8 i12 (xI (xsI M a2 i6 ((xI M a2 i4) &&& 1)) a8 i10)) a14 i18 (xI (xsI (xsI M a2 i6 ((xI M a2 i4) &&& 1)) a8 i12 (xI (xsI M a2 i6 ((xI M a2 i4) &&& 1)) a8 i10)) a14 i16)) a20 i24 (xI (xsI (xsI (xsI M a2 i6 ((xI M a2 i4) &&& 1)) a8 i12 (xI (xsI M a2 i6 ((xI M a2 i4) &&& 1)) a8 i10)) a14 i18 (xI (xsI (xsI M a2 i6 ((xI M a2 i4) &&& 1)) a8 i12 (xI (xsI M a2 i6 ((xI M a2 i4) &&& 1)) a8 i10)) a14 i16)) a20 i22)) a26 i28) &&& 1)) a32 i34)) a38 i40)) a44 i46)) a50 i54 ((xI (xsI (xsI (xsJ (xsI (xsI (xsI (xsI (xsI M a2 i6 ((xI M a2 i4) &&& 1)) a8 i12 (xI (xsI M a2 i6 ((xI M a2 i4) &&& 1)) a8 i10)) a14 i18 (xI (xsI (xsI M a2 i6 ((xI M a2 i4) &&& 1)) a8 i12 (xI (xsI M a2 i6 ((xI M a2 i4) &&& 1)) a8 i10)) a14 i16)) a20 i24 (xI (xsI (xsI (xsI M a2 i6 ((xI M a2 i4) &&& 1)) a8 i12 (xI (xsI M a2 i6 ((xI M a2 i4) &&& 1)) a8 i10)) a14 i18 (xI (xsI (xsI M a2 i6 ((xI M a2 i4) &&& 1)) a8 i12 (xI (xsI M a2 i6 ((xI M a2 i4) &&& 1)) a8 i10)) a14 i16)) a20 i22)) a26 i30 ((xI (xsI (xsI (xsI (xsI M a2 i6 ((xI M a2 i4) &&& 1)) a8 i12 (xI (xsI M a2 i6 ((xI M a2 i4) &&& 1)) a8 i10)) a14 i18 (xI (xsI (xsI M a2 i6 ((xI M a2 i4) &&& 1)) a8 i12 (xI (xsI M a2 i6 ((xI M a2 i4) &&& 1)) a8 i10)) a14 i16)) a20 i24 (xI (xsI (xsI (xsI M a2 i6 ((xI M a2 i4) &&& 1)) a8 i12 (xI (xsI M a2 i6 ((xI M a2 i4) &&& 1)) a8 i10)) a14 i18 (xI (xsI (xsI M a2 i6 ((xI M a2 i4) &&& 1)) a8 i12 (xI (xsI M a2 i6 ((xI M a2 i4) &&& 1)) a8 i10)) a14 i16)) a20 i22)) a26 i28) &&& 1)) a32 i36 (xJ (xsI (xsI (xsI (xsI (xsI M a2 i6 ((xI M a2 i4) &&& 1)) a8 i12 (xI (xsI M a2 i6 ((xI M a2 i4) &&& 1)) a8 i10)) a14 i18 (xI (xsI (xsI M a2 i6 ((xI M a2 i4) &&& 1)) a8 i12 (xI (xsI M a2 i6 ((xI M a2 i4) &&& 1)) a8 i10)) a14 i16)) a20 i24 (xI (xsI (xsI (xsI M a2 i6 ((xI M a2 i4) &&& 1)) a8 i12 (xI (xsI M a2 i6 ((xI M a2 i4) &&& 1)) a8 i10)) a14 i18 (xI (xsI (xsI M a2 i6 ((xI M a2 i4) &&& 1)) a8 i12 (xI (xsI M a2 i6 ((xI M a2 i4) &&& 1)) a8 i10)) a14 i16)) a20 i22)) a26 i30 ((xI (xsI (xsI (xsI (xsI M a2 i6 ((xI M a2 i4) &&& 1)) a8 i12 (xI (xsI M a2 i6 ((xI M a2 i4) &&& 1)) a8 i10)) a14 i18 (xI (xsI (xsI M a2 i6 ((xI M a2 i4) &&& 1)) a8 i12 (xI (xsI M a2 i6 ((xI M a2 i4) &&& 1)) a8 i10)) a14 i16)) a20 i24 (xI (xsI (xsI (xsI M a2 i6 ((xI M a2 i4) &&& 1)) a8 i12 (xI (xsI M a2 i6 ((xI M a2 i4) &&& 1)) a8 i10)) a14 i18 (xI (xsI (xsI M a2 i6 ((xI M a2 i4) &&& 1)) a8 i12 (xI (xsI M a2 i6 ((xI M a2 i4) &&& 1)) a8 i10)) a14 i16)) a20 i22)) a26 i28) &&& 1)) a32 i34)) a38 i42 (xI (xsJ (xsI (xsI (xsI (xsI (xsI M a2 i6 ((xI M a2 i4) &&& 1)) a8 i12 (xI (xsI M a2 i6 ((xI M a2 i4) &&& 1)) a8 i10)) a14 i18 (xI (xsI (xsI M a2 i6 ((xI M a2 i4) &&& 1)) a8 i12 (xI (xsI M a2 i6 ((xI M a2 i4) &&& 1)) a8 i10)) a14 i16)) a20 i24 (xI (xsI (xsI (xsI M a2 i6 ((xI M a2 i4) &&& 1)) a8 i12 (xI (xsI M a2 i6 ((xI M a2 i4) &&& 1)) a8 i10)) a14 i18 (xI (xsI (xsI M a2 i6 ((xI M a2 i4) &&& 1)) a8 i12 (xI (xsI M a2 i6 ((xI M a2 i4) &&& 1)) a8 i10)) a14 i16)) a20 i22)) a26 i30 ((xI (xsI (xsI (xsI (xsI M a2 i6 ((xI M a2 i4) &&& 1)) a8 i12 (xI (xsI M a2 i6 ((xI M a2 i4) &&& 1)) a8 i10)) a14 i18 (xI (xsI (xsI M a2 i6 ((xI M a2 i4) &&& 1)) a8 i12 (xI (xsI M a2 i6 ((xI M a2 i4) &&& 1)) a8 i10)) a14 i16)) a20 i24 (xI (xsI (xsI (xsI M a2 i6 ((xI M a2 i4) &&& 1)) a8 i12 (xI (xsI M a2 i6 ((xI M a2 i4) &&& 1)) a8 i10)) a14 i18 (xI (xsI (xsI M a2 i6 ((xI M a2 i4) &&& 1)) a8 i12 (xI (xsI M a2 i6 ((xI M a2 i4) &&& 1)) a8 i10)) a14 i16)) a20 i22)) a26 i28) &&& 1)) a32 i36 (xJ (xsI (xsI (xsI (xsI (xsI M a2 i6 ((xI M a2 i4) &&& 1)) a8 i12 (xI (xsI M a2 i6 ((xI M a2 i4) &&& 1)) a8 i10)) a14 i18 (xI (xsI (xsI M a2 i6 ((xI M a2 i4) &&& 1)) a8 i12 (xI (xsI M a2 i6 ((xI M a2 i4) &&& 1)) a8 i10)) a14 i16)) a20 i24 (xI (xsI (xsI (xsI M a2 i6 ((xI M a2 i4) &&& 1)) a8 i12 (xI (xsI M a2 i6 ((xI M a2 i4) &&& 1)) a8 i10)) a14 i18 (xI (xsI (xsI M a2 i6 ((xI M a2 i4) &&& 1)) a8 i12 (xI (xsI M a2 i6 ((xI M a2 i4) &&& 1)) a8 i10)) a14 i16)) a20 i22)) a26 i30 ((xI (xsI (xsI (xsI (xsI M a2 i6 ((xI M a2 i4) &&& 1)) a8 i12 (xI (xsI M a2 i6 ((xI M a2 i4) &&& 1)) a8 i10)) a14 i18 (xI (xsI (xsI M a2 i6 ((xI M a2 i4) &&& 1)) a8 i12 (xI (xsI M a2 i6 ((xI M a2 i4) &&& 1)) a8 i10)) a14 i16)) a20 i24 (xI (xsI (xsI (xsI M a2 i6 ((xI M a2 i4) &&& 1)) a8 i12 (xI (xsI M a2 i6 ((xI M a2 i4) &&& 1)) a8 i10)) a14 i18 (xI (xsI (xsI M a2 i6 ((xI M a2 i4) &&& 1)) a8 i12 (xI (xsI M a2 i6 ((xI M a2 i4) &&& 1)) a8 i10)) a14 i16)) a20 i22)) a26 i28) &&& 1)) a32 i34)) a38 i40)) a44 i48 (xI (xsI (xsJ (xsI (xsI (xsI (xsI (xsI M a2 i6 ((xI M a2 i4) &&& 1)) a8 i12 (xI (xsI M a2 i6 ((xI M a2 i4) &&& 1)) a8 i10)) a14 i18 (xI (xsI (xsI M a2 i6 ((xI M a2 i4) &&& 1)) a8 i12 (xI (xsI M a2 i6 ((xI M a2 i4) &&& 1)) a8 i10)) a14 i16)) a20 i24 (xI (xsI (xsI (xsI M a2 i6 ((xI M a2 i4) &&& 1)) a8 i12 (xI (xsI M a2 i6 ((xI M a2 i4) &&& 1)) a8 i10)) a14 i18 (xI (xsI (xsI M a2 i6 ((xI M a2 i4) &&& 1)) a8 i12 (xI (xsI M a2 i6 ((xI M a2 i4) &&& 1)) a8 i10)) a14 i16)) a20 i22)) a26 i30 ((xI (xsI (xsI (xsI (xsI M a2 i6 ((xI M a2 i4) &&& 1)) a8 i12 (xI (xsI M a2 i6 ((xI M a2 i4) &&& 1)) a8 i10)) a14 i18 (xI (xsI (xsI M a2 i6 ((xI M a2 i4) &&& 1)) a8 i12 (xI (xsI M a2 i6 ((xI M a2 i4) &&& 1)) a8 i10)) a14 i16)) a20 i24 (xI (xsI (xsI (xsI M a2 i6 ((xI M a2 i4) &&& 1)) a8 i12 (xI (xsI M a2 i6 ((xI M a2 i4) &&& 1)) a8 i10)) a14 i18 (xI (xsI (xsI M a2 i6 ((xI M a2 i4) &&& 1)) a8 i12 (xI (xsI M a2 i6 ((xI M a2 i4) &&& 1)) a8 i10)) a14 i16)) a20 i22)) a26 i28) &&& 1)) a32 i36 (xJ (xsI (xsI (xsI (xsI (xsI M a2 i6 ((xI M a2 i4) &&& 1)) a8 i12 (xI (xsI M a2 i6 ((xI M a2 i4) &&& 1)) a8 i10)) a14 i18 (xI (xsI (xsI M a2 i6 ((xI M a2 i4) &&& 1)) a8 i12 (xI (xsI M a2 i6 ((xI M a2 i4) &&& 1)) a8 i10)) a14 i16)) a20 i24 (xI (xsI (xsI (xsI M a2 i6 ((xI M a2 i4) &&& 1)) a8 i12 (xI (xsI M a2 i6 ((xI M a2 i4) &&& 1)) a8 i10)) a14 i18 (xI (xsI (xsI M a2 i6 ((xI M a2 i4) &&& 1)) a8 i12 (xI (xsI M a2 i6 ((xI M a2 i4) &&& 1)) a8 i10)) a14 i16)) a20 i22)) a26 i30 ((xI (xsI (xsI (xsI (xsI M a2 i6 ((xI M a2 i4) &&& 1)) a8 i12 (xI (xsI M a2 i6 ((xI M a2 i4) &&& 1)) a8 i10)) a14 i18 (xI (xsI (xsI M a2 i6 ((xI M a2 i4) &&& 1)) a8 i12 (xI (xsI M a2 i6 ((xI M a2 i4) &&& 1)) a8 i10)) a14 i16)) a20 i24 (xI (xsI (xsI (xsI M a2 i6 ((xI M a2 i4) &&& 1)) a8 i12 (xI (xsI M a2 i6 ((xI M a2 i4) &&& 1)) a8 i10)) a14 i18 (xI (xsI (xsI M a2 i6 ((xI M a2 i4) &&& 1)) a8 i12 (xI (xsI M a2 i6 ((xI M a2 i4) &&& 1)) a8 i10)) a14 i16)) a20 i22)) a26 i28) &&& 1)) a32 i34)) a38 i42 (xI (xsJ (xsI (xsI (xsI (xsI (xsI M a2 i6 ((xI M a2 i4) &&& 1)) a8 i12 (xI (xsI M a2 i6 ((xI M a2 i4) &&& 1)) a8 i10)) a14 i18 (xI (xsI (xsI M a2 i6 ((xI M a2 i4) &&& 1)) a8 i12 (xI (xsI M a2 i6 ((xI M a2 i4) &&& 1)) a8 i10)) a14 i16)) a20 i24 (xI (xsI (xsI (xsI M a2 i6 ((xI M a2 i4) &&& 1)) a8 i12 (xI (xsI M a2 i6 ((xI M a2 i4) &&& 1)) a8 i10)) a14 i18 (xI (xsI (xsI M a2 i6 ((xI M a2 i4) &&& 1)) a8 i12 (xI (xsI M a2 i6 ((xI M a2 i4) &&& 1)) a8 i10)) a14 i16)) a20 i22)) a26 i30 ((xI (xsI (xsI (xsI (xsI M a2 i6 ((xI M a2 i4) &&& 1)) a8 i12 (xI (xsI M a2 i6 ((xI M a2 i4) &&& 1)) a8 i10)) a14 i18 (xI (xsI (xsI M a2 i6 ((xI M a2 i4) &&& 1)) a8 i12 (xI (xsI M a2 i6 ((xI M a2 i4) &&& 1)) a8 i10)) a14 i16)) a20 i24 (xI (xsI (xsI (xsI M a2 i6 ((xI M a2 i4) &&& 1)) a8 i12 (xI (xsI M a2 i6 ((xI M a2 i4) &&& 1)) a8 i10)) a14 i18 (xI (xsI (xsI M a2 i6 ((xI M a2 i4) &&& 1)) a8 i12 (xI (xsI M a2 i6 ((xI M a2 i4) &&& 1)) a8 i10)) a14 i16)) a20 i22)) a26 i28) &&& 1)) a32 i36 (xJ (xsI (xsI (xsI (xsI (xsI M a2 i6 ((xI M a2 i4) &&& 1)) a8 i12 (xI (xsI M a2 i6 ((xI M a2 i4) &&& 1)) a8 i10)) a14 i18 (xI (xsI (xsI M a2 i6 ((xI M a2 i4) &&& 1)) a8 i12 (xI (xsI M a2 i6 ((xI M a2 i4) &&& 1)) a8 i10)) a14 i16)) a20 i24 (xI (xsI (xsI (xsI M a2 i6 ((xI M a2 i4) &&& 1)) a8 i12 (xI (xsI M a2 i6 ((xI M a2 i4) &&& 1)) a8 i10)) a14 i18 (xI (xsI (xsI M a2 i6 ((xI M a2 i4) &&& 1)) a8 i12 (xI (xsI M a2 i6 ((xI M a2 i4) &&& 1)) a8 i10)) a14 i16)) a20 i22)) a26 i30 ((xI (xsI (xsI (xsI (xsI M a2 i6 ((xI M a2 i4) &&& 1)) a8 i12 (xI (xsI M a2 i6 ((xI M a2 i4) &&& 1)) a8 i10)) a14 i18 (xI (xsI (xsI M a2 i6 ((xI M a2 i4) &&& 1)) a8 i12 (xI (xsI M a2 i6 ((xI M a2 i4) &&& 1)) a8 i10)) a14 i16)) a20 i24 (xI (xsI (xsI (xsI M a2 i6 ((xI M a2 i4) &&& 1)) a8 i12 (xI (xsI M a2 i6 ((xI M a2 i4) &&& 1)) a8 i10)) a14 i18 (xI (xsI (xsI M a2 i6 ((xI M a2 i4) &&& 1)) a8 i12 (xI (xsI M a2 i6 ((xI M a2 i4) &&& 1)) a8 i10)) a14 i16)) a20 i22)) a26 i28) &&& 1)) a32 i34)) a38 i40)) a44 i46)) a50 i52) &&& 1)) Q)))))))))))))))))))))) : xWp l g mX10_copy 0 0 2 [(1, va_rf (some a0)), (1, .int x1), (1, .int x2), (1, .int x3), (0, w4)] [] (0, 0) M Q := by
  refine xr_iload_n 3 dX10_copy_2 rfl rfl ?_
  refine xr_sipush 220 dX10_copy_3 (by decide) ?_
  obtain ⟨ht, hf⟩ := h
  refine xr_icmp_ge 203 dX10_copy_6 (by decide) (fun c56 => ?_) (fun c56 => ?_)
  · replace h := ht c56
    clear ht hf
    exact xr_ret (by decide) (xRv rfl dX10_copy_203) h
  · replace h := hf c56
    clear ht hf
    refine xr_aload_n 0 dX10_copy_9 rfl rfl ?_
    obtain ⟨t1, h⟩ := h
    refine yr_getR dX10_copy_10 fl_RX10_13 rfl t1 ?_
    refine xr_iload_n 2 dX10_copy_13 rfl rfl ?_
    refine xr_iload_n 3 dX10_copy_14 rfl rfl ?_
    refine xr_iadd dX10_copy_15 ?_
    refine xr_aload_n 0 dX10_copy_16 rfl rfl ?_
    refine yr_getR dX10_copy_17 fl_RX10_13 rfl t1 ?_
    refine xr_iload_n 1 dX10_copy_20 rfl rfl ?_
    refine xr_iload_n 3 dX10_copy_21 rfl rfl ?_
    refine xr_iadd dX10_copy_22 ?_
    obtain ⟨a2, e3, h⟩ := h
    obtain ⟨i4, t5, h⟩ := h
    refine yr_zald dX10_copy_23 e3 t5 ?_
    obtain ⟨i6, t7, h⟩ := h
    refine yr_zast dX10_copy_24 e3 t7 ?_
    refine xr_aload_n 0 dX10_copy_25 rfl rfl ?_
    refine yr_getR dX10_copy_26 fl_RX10_17 rfl t1 ?_
    refine xr_iload_n 2 dX10_copy_29 rfl rfl ?_
    refine xr_iload_n 3 dX10_copy_30 rfl rfl ?_
    refine xr_iadd dX10_copy_31 ?_
    refine xr_aload_n 0 dX10_copy_32 rfl rfl ?_
    refine yr_getR dX10_copy_33 fl_RX10_17 rfl t1 ?_
    refine xr_iload_n 1 dX10_copy_36 rfl rfl ?_
    refine xr_iload_n 3 dX10_copy_37 rfl rfl ?_
    refine xr_iadd dX10_copy_38 ?_
    obtain ⟨a8, e9, h⟩ := h
    obtain ⟨i10, t11, h⟩ := h
    refine yr_iald dX10_copy_39 e9 t11 ?_
    obtain ⟨i12, t13, h⟩ := h
    refine yr_iast dX10_copy_40 e9 t13 ?_
    refine xr_aload_n 0 dX10_copy_41 rfl rfl ?_
    refine yr_getR dX10_copy_42 fl_RX10_20 rfl t1 ?_
    refine xr_iload_n 2 dX10_copy_45 rfl rfl ?_
    refine xr_iload_n 3 dX10_copy_46 rfl rfl ?_
    refine xr_iadd dX10_copy_47 ?_
    refine xr_aload_n 0 dX10_copy_48 rfl rfl ?_
    refine yr_getR dX10_copy_49 fl_RX10_20 rfl t1 ?_
    refine xr_iload_n 1 dX10_copy_52 rfl rfl ?_
    refine xr_iload_n 3 dX10_copy_53 rfl rfl ?_
    refine xr_iadd dX10_copy_54 ?_
    obtain ⟨a14, e15, h⟩ := h
    obtain ⟨i16, t17, h⟩ := h
    refine yr_iald dX10_copy_55 e15 t17 ?_
    obtain ⟨i18, t19, h⟩ := h
    refine yr_iast dX10_copy_56 e15 t19 ?_
    refine xr_aload_n 0 dX10_copy_57 rfl rfl ?_
    refine yr_getR dX10_copy_58 fl_RX10_26 rfl t1 ?_
    refine xr_iload_n 2 dX10_copy_61 rfl rfl ?_
    refine xr_iload_n 3 dX10_copy_62 rfl rfl ?_
    refine xr_iadd dX10_copy_63 ?_
    refine xr_aload_n 0 dX10_copy_64 rfl rfl ?_
    refine yr_getR dX10_copy_65 fl_RX10_26 rfl t1 ?_
    refine xr_iload_n 1 dX10_copy_68 rfl rfl ?_
    refine xr_iload_n 3 dX10_copy_69 rfl rfl ?_
    refine xr_iadd dX10_copy_70 ?_
    obtain ⟨a20, e21, h⟩ := h
    obtain ⟨i22, t23, h⟩ := h
    refine yr_iald dX10_copy_71 e21 t23 ?_
    obtain ⟨i24, t25, h⟩ := h
    refine yr_iast dX10_copy_72 e21 t25 ?_
    refine xr_aload_n 0 dX10_copy_73 rfl rfl ?_
    refine yr_getR dX10_copy_74 fl_RX10_29 rfl t1 ?_
    refine xr_iload_n 2 dX10_copy_77 rfl rfl ?_
    refine xr_iload_n 3 dX10_copy_78 rfl rfl ?_
    refine xr_iadd dX10_copy_79 ?_
    refine xr_aload_n 0 dX10_copy_80 rfl rfl ?_
    refine yr_getR dX10_copy_81 fl_RX10_29 rfl t1 ?_
    refine xr_iload_n 1 dX10_copy_84 rfl rfl ?_
    refine xr_iload_n 3 dX10_copy_85 rfl rfl ?_
    refine xr_iadd dX10_copy_86 ?_
    obtain ⟨a26, e27, h⟩ := h
    obtain ⟨i28, t29, h⟩ := h
    refine yr_zald dX10_copy_87 e27 t29 ?_
    obtain ⟨i30, t31, h⟩ := h
    refine yr_zast dX10_copy_88 e27 t31 ?_
    refine xr_aload_n 0 dX10_copy_89 rfl rfl ?_
    refine yr_getR dX10_copy_90 fl_RX10_32 rfl t1 ?_
    refine xr_iload_n 2 dX10_copy_93 rfl rfl ?_
    refine xr_iload_n 3 dX10_copy_94 rfl rfl ?_
    refine xr_iadd dX10_copy_95 ?_
    refine xr_aload_n 0 dX10_copy_96 rfl rfl ?_
    refine yr_getR dX10_copy_97 fl_RX10_32 rfl t1 ?_
    refine xr_iload_n 1 dX10_copy_100 rfl rfl ?_
    refine xr_iload_n 3 dX10_copy_101 rfl rfl ?_
    refine xr_iadd dX10_copy_102 ?_
    obtain ⟨a32, e33, h⟩ := h
    obtain ⟨i34, t35, h⟩ := h
    refine yr_lald dX10_copy_103 e33 t35 ?_
    obtain ⟨i36, t37, h⟩ := h
    refine yr_last dX10_copy_104 e33 t37 ?_
    refine xr_aload_n 0 dX10_copy_105 rfl rfl ?_
    refine yr_getR dX10_copy_106 fl_RX10_36 rfl t1 ?_
    refine xr_iload_n 2 dX10_copy_109 rfl rfl ?_
    refine xr_iload_n 3 dX10_copy_110 rfl rfl ?_
    refine xr_iadd dX10_copy_111 ?_
    refine xr_aload_n 0 dX10_copy_112 rfl rfl ?_
    refine yr_getR dX10_copy_113 fl_RX10_36 rfl t1 ?_
    refine xr_iload_n 1 dX10_copy_116 rfl rfl ?_
    refine xr_iload_n 3 dX10_copy_117 rfl rfl ?_
    refine xr_iadd dX10_copy_118 ?_
    obtain ⟨a38, e39, h⟩ := h
    obtain ⟨i40, t41, h⟩ := h
    refine yr_iald dX10_copy_119 e39 t41 ?_
    obtain ⟨i42, t43, h⟩ := h
    refine yr_iast dX10_copy_120 e39 t43 ?_
    refine xr_aload_n 0 dX10_copy_121 rfl rfl ?_
    refine yr_getR dX10_copy_122 fl_RX10_39 rfl t1 ?_
    refine xr_iload_n 2 dX10_copy_125 rfl rfl ?_
    refine xr_iload_n 3 dX10_copy_126 rfl rfl ?_
    refine xr_iadd dX10_copy_127 ?_
    refine xr_aload_n 0 dX10_copy_128 rfl rfl ?_
    refine yr_getR dX10_copy_129 fl_RX10_39 rfl t1 ?_
    refine xr_iload_n 1 dX10_copy_132 rfl rfl ?_
    refine xr_iload_n 3 dX10_copy_133 rfl rfl ?_
    refine xr_iadd dX10_copy_134 ?_
    obtain ⟨a44, e45, h⟩ := h
    obtain ⟨i46, t47, h⟩ := h
    refine yr_iald dX10_copy_135 e45 t47 ?_
    obtain ⟨i48, t49, h⟩ := h
    refine yr_iast dX10_copy_136 e45 t49 ?_
    refine xr_aload_n 0 dX10_copy_137 rfl rfl ?_
    refine yr_getR dX10_copy_138 fl_RX10_42 rfl t1 ?_
    refine xr_iload_n 2 dX10_copy_141 rfl rfl ?_
    refine xr_iload_n 3 dX10_copy_142 rfl rfl ?_
    refine xr_iadd dX10_copy_143 ?_
    refine xr_aload_n 0 dX10_copy_144 rfl rfl ?_
    refine yr_getR dX10_copy_145 fl_RX10_42 rfl t1 ?_
    refine xr_iload_n 1 dX10_copy_148 rfl rfl ?_
    refine xr_iload_n 3 dX10_copy_149 rfl rfl ?_
    refine xr_iadd dX10_copy_150 ?_
    obtain ⟨a50, e51, h⟩ := h
    obtain ⟨i52, t53, h⟩ := h
    refine yr_zald dX10_copy_151 e51 t53 ?_
    obtain ⟨i54, t55, h⟩ := h
    refine yr_zast dX10_copy_152 e51 t55 ?_
    refine xr_iconst 0 dX10_copy_153 (by decide) ?_
    refine zistore dX10_copy_154 (L1 := [(1, va_rf (some a0)), (1, .int x1), (1, .int x2), (1, .int x3), (1, .int 0)]) (by decide) rfl ?_
    exact h
set_option maxRecDepth 100000 in
set_option maxHeartbeats 4000000 in
theorem bX10_copy_0 {l : Launch} {g : xG} (a0 : Nat) (x1 : Int32) (x2 : Int32) {M : xM} {Q : Option Value → xM → Prop} (h : xWp l g mX10_copy 0 0 2 [(1, va_rf (some a0)), (1, .int x1), (1, .int x2), (1, .int 0), (0, .null)] [] (0, 0) M Q) : xWp l g mX10_copy 0 0 0 [(1, va_rf (some a0)), (1, .int x1), (1, .int x2), (0, .null), (0, .null)] [] (0, 0) M Q := by
  refine xr_iconst 0 dX10_copy_0 (by decide) ?_
  refine zistore_n 3 dX10_copy_1 rfl (L1 := [(1, va_rf (some a0)), (1, .int x1), (1, .int x2), (1, .int 0), (0, .null)]) (by decide) rfl ?_
  exact h
theorem dX10_keep_0 : decode cX10_keep 0 = .ok (.aload_n 0, 1) := by decide +kernel
theorem dX10_keep_1 : decode cX10_keep 1 = .ok (.iconst 0, 1) := by decide +kernel
theorem dX10_keep_2 : decode cX10_keep 2 = .ok (.sipush 220, 3) := by decide +kernel
theorem dX10_keep_5 : decode cX10_keep 5 = .ok (.invokevirtual 78, 3) := by decide +kernel
theorem dX10_keep_8 : decode cX10_keep 8 = .ok (.aload_n 0, 1) := by decide +kernel
theorem dX10_keep_9 : decode cX10_keep 9 = .ok (.aload_n 0, 1) := by decide +kernel
theorem dX10_keep_10 : decode cX10_keep 10 = .ok (.getfield 75, 3) := by decide +kernel
theorem dX10_keep_13 : decode cX10_keep 13 = .ok (.putfield 82, 3) := by decide +kernel
theorem dX10_keep_16 : decode cX10_keep 16 = .ok (.return_, 1) := by decide +kernel
set_option maxRecDepth 100000 in
set_option maxHeartbeats 4000000 in
theorem bX10_keep_0 {l : Launch} {g : xG} (a0 : Nat) {M : xM} {Q : Option Value → xM → Prop} (h : (xat M a0 7 ∧ xSp l g mX10_copy 0 0 [va_rf (some a0), .int 0, .int 220] M (fun ρ3 M2 => ρ3 = none ∧ (xat M2 a0 7 ∧ (Q none (xsI M2 a0 15 (xI M2 a0 14))))))) : xWp l g mX10_keep 0 0 0 [(1, va_rf (some a0))] [] (0, 0) M Q := by
  refine xr_aload_n 0 dX10_keep_0 rfl rfl ?_
  refine xr_iconst 0 dX10_keep_1 (by decide) ?_
  refine xr_sipush 220 dX10_keep_2 (by decide) ?_
  obtain ⟨t5, h⟩ := h
  refine yr_callV (r := (some a0)) [.int 0, .int 220] dX10_keep_5 cv_X10_keep_78 rfl t5 rfl (Nat.le_trans wt_0 (by decide)) (by decide) (xSp.mono h ?_)
  clear h
  intro ρ3 M2 h
  obtain ⟨rfl, h⟩ := h
  refine xr_aload_n 0 dX10_keep_8 rfl rfl ?_
  refine xr_aload_n 0 dX10_keep_9 rfl rfl ?_
  obtain ⟨t6, h⟩ := h
  refine yr_getI dX10_keep_10 fl_RX10_75 rfl t6 ?_
  refine yr_putI dX10_keep_13 fp_RX10_82 rfl t6 ?_
  exact xr_ret (by decide) (xRv rfl dX10_keep_16) h
theorem dX10_type_0 : decode cX10_type 0 = .ok (.aload_n 0, 1) := by decide +kernel
theorem dX10_type_1 : decode cX10_type 1 = .ok (.iload_n 3, 1) := by decide +kernel
theorem dX10_type_2 : decode cX10_type 2 = .ok (.i2l, 1) := by decide +kernel
theorem dX10_type_3 : decode cX10_type 3 = .ok (.lconst 1, 1) := by decide +kernel
theorem dX10_type_4 : decode cX10_type 4 = .ok (.ldc2_w 85, 3) := by decide +kernel
theorem dX10_type_7 : decode cX10_type 7 = .ok (.invokestatic 87, 3) := by decide +kernel
theorem dX10_type_10 : decode cX10_type 10 = .ok (.ifCond .ne 7, 3) := by decide +kernel
theorem dX10_type_13 : decode cX10_type 13 = .ok (.iconst 1, 1) := by decide +kernel
theorem dX10_type_14 : decode cX10_type 14 = .ok (.goto 19, 3) := by decide +kernel
theorem dX10_type_17 : decode cX10_type 17 = .ok (.aload_n 0, 1) := by decide +kernel
theorem dX10_type_18 : decode cX10_type 18 = .ok (.getfield 91, 3) := by decide +kernel
theorem dX10_type_21 : decode cX10_type 21 = .ok (.iload_n 3, 1) := by decide +kernel
theorem dX10_type_22 : decode cX10_type 22 = .ok (.iadd, 1) := by decide +kernel
theorem dX10_type_23 : decode cX10_type 23 = .ok (.bipush 64, 2) := by decide +kernel
theorem dX10_type_25 : decode cX10_type 25 = .ok (.if_icmp .le 7, 3) := by decide +kernel
theorem dX10_type_28 : decode cX10_type 28 = .ok (.iconst 2, 1) := by decide +kernel
theorem dX10_type_29 : decode cX10_type 29 = .ok (.goto 4, 3) := by decide +kernel
theorem dX10_type_32 : decode cX10_type 32 = .ok (.iconst 0, 1) := by decide +kernel
theorem dX10_type_33 : decode cX10_type 33 = .ok (.putfield 68, 3) := by decide +kernel
theorem dX10_type_36 : decode cX10_type 36 = .ok (.aload_n 0, 1) := by decide +kernel
theorem dX10_type_37 : decode cX10_type 37 = .ok (.getfield 68, 3) := by decide +kernel
theorem dX10_type_40 : decode cX10_type 40 = .ok (.ifCond .le 5, 3) := by decide +kernel
theorem dX10_type_43 : decode cX10_type 43 = .ok (.iconst 0, 1) := by decide +kernel
theorem dX10_type_44 : decode cX10_type 44 = .ok (.ireturn, 1) := by decide +kernel
theorem dX10_type_45 : decode cX10_type 45 = .ok (.iload_n 3, 1) := by decide +kernel
theorem dX10_type_46 : decode cX10_type 46 = .ok (.iconst 1, 1) := by decide +kernel
theorem dX10_type_47 : decode cX10_type 47 = .ok (.isub, 1) := by decide +kernel
theorem dX10_type_48 : decode cX10_type 48 = .ok (.istore 4, 2) := by decide +kernel
theorem dX10_type_50 : decode cX10_type 50 = .ok (.iload 4, 2) := by decide +kernel
theorem dX10_type_52 : decode cX10_type 52 = .ok (.ifCond .lt 37, 3) := by decide +kernel
theorem dX10_type_55 : decode cX10_type 55 = .ok (.aload_n 0, 1) := by decide +kernel
theorem dX10_type_56 : decode cX10_type 56 = .ok (.getfield 7, 3) := by decide +kernel
theorem dX10_type_59 : decode cX10_type 59 = .ok (.aload_n 0, 1) := by decide +kernel
theorem dX10_type_60 : decode cX10_type 60 = .ok (.dup, 1) := by decide +kernel
theorem dX10_type_61 : decode cX10_type 61 = .ok (.getfield 91, 3) := by decide +kernel
theorem dX10_type_64 : decode cX10_type 64 = .ok (.dup_x1, 1) := by decide +kernel
theorem dX10_type_65 : decode cX10_type 65 = .ok (.iconst 1, 1) := by decide +kernel
theorem dX10_type_66 : decode cX10_type 66 = .ok (.iadd, 1) := by decide +kernel
theorem dX10_type_67 : decode cX10_type 67 = .ok (.putfield 91, 3) := by decide +kernel
theorem dX10_type_70 : decode cX10_type 70 = .ok (.lload_n 1, 1) := by decide +kernel
theorem dX10_type_71 : decode cX10_type 71 = .ok (.bipush 8, 2) := by decide +kernel
theorem dX10_type_73 : decode cX10_type 73 = .ok (.iload 4, 2) := by decide +kernel
theorem dX10_type_75 : decode cX10_type 75 = .ok (.imul, 1) := by decide +kernel
theorem dX10_type_76 : decode cX10_type 76 = .ok (.lshr, 1) := by decide +kernel
theorem dX10_type_77 : decode cX10_type 77 = .ok (.ldc2_w 94, 3) := by decide +kernel
theorem dX10_type_80 : decode cX10_type 80 = .ok (.land, 1) := by decide +kernel
theorem dX10_type_81 : decode cX10_type 81 = .ok (.l2i, 1) := by decide +kernel
theorem dX10_type_82 : decode cX10_type 82 = .ok (.iastore, 1) := by decide +kernel
theorem dX10_type_83 : decode cX10_type 83 = .ok (.iinc 4 (-1), 3) := by decide +kernel
theorem dX10_type_86 : decode cX10_type 86 = .ok (.goto (-36), 3) := by decide +kernel
theorem dX10_type_89 : decode cX10_type 89 = .ok (.aload_n 0, 1) := by decide +kernel
theorem dX10_type_90 : decode cX10_type 90 = .ok (.getfield 91, 3) := by decide +kernel
theorem dX10_type_93 : decode cX10_type 93 = .ok (.ireturn, 1) := by decide +kernel
set_option maxRecDepth 100000 in
set_option maxHeartbeats 4000000 in
theorem bX10_type_50 {l : Launch} {g : xG} (a0 : Nat) (j1 : Int64) (w2 : Value) (x3 : Int32) (x4 : Int32) {M : xM} {Q : Option Value → xM → Prop} (h : ((x4 < 0 → (xat M a0 7 ∧ (Q (some (.int (xI M a0 2))) M))) ∧ (¬ x4 < 0 → (xat M a0 7 ∧ (∃ a3, (xR M a0 1) = some a3 ∧ ∃ i5, xai (xsI M a0 2 ((xI M a0 2) + 1)) a3 9 (xI M a0 2) i5 ∧ xWp l g mX10_type 0 0 50 [(1, va_rf (some a0)), (2, .long j1), (0, w2), (1, .int x3), (1, .int (x4 + (-1)))] [] (0, 0) (xsI (xsI M a0 2 ((xI M a0 2) + 1)) a3 i5 ((j1 >>> ((8 * x4).toInt64 &&& 63)) &&& 255).toInt32) Q))))) : xWp l g mX10_type 0 0 50 [(1, va_rf (some a0)), (2, .long j1), (0, w2), (1, .int x3), (1, .int x4)] [] (0, 0) M Q := by
  refine xr_iload dX10_type_50 rfl ?_
  obtain ⟨ht, hf⟩ := h
  refine xr_if_lt 89 dX10_type_52 (by decide) (fun c7 => ?_) (fun c7 => ?_)
  · replace h := ht c7
    clear ht hf
    refine xr_aload_n 0 dX10_type_89 rfl rfl ?_
    obtain ⟨t1, h⟩ := h
    refine yr_getI dX10_type_90 fl_RX10_91 rfl t1 ?_
    exact xr_retv (by decide) (xRi rfl rfl dX10_type_93) h
  · replace h := hf c7
    clear ht hf
    refine xr_aload_n 0 dX10_type_55 rfl rfl ?_
    obtain ⟨t2, h⟩ := h
    refine yr_getR dX10_type_56 fl_RX10_7 rfl t2 ?_
    refine xr_aload_n 0 dX10_type_59 rfl rfl ?_
    refine xr_dup dX10_type_60 (va_rf_cat _) ?_
    refine yr_getI dX10_type_61 fl_RX10_91 rfl t2 ?_
    refine xr_dup_x1 dX10_type_64 rfl (va_rf_cat _) ?_
    refine xr_iconst 1 dX10_type_65 (by decide) ?_
    refine xr_iadd dX10_type_66 ?_
    refine yr_putI dX10_type_67 fp_RX10_91 rfl t2 ?_
    refine xr_lload_n 1 dX10_type_70 rfl rfl ?_
    refine xr_bipush 8 dX10_type_71 (by decide) ?_
    refine xr_iload dX10_type_73 rfl ?_
    refine xr_imul dX10_type_75 ?_
    refine xr_lshr dX10_type_76 ?_
    refine xr_ldc2 255 dX10_type_77 ct_RX10_94 ?_
    refine xr_land dX10_type_80 ?_
    refine xr_l2i dX10_type_81 ?_
    obtain ⟨a3, e4, h⟩ := h
    obtain ⟨i5, t6, h⟩ := h
    refine yr_iast dX10_type_82 e4 t6 ?_
    refine ziinc (x4 + (-1)) dX10_type_83 rfl rfl (L1 := [(1, va_rf (some a0)), (2, .long j1), (0, w2), (1, .int x3), (1, .int (x4 + (-1)))]) (by decide) rfl ?_
    refine xr_goto 50 dX10_type_86 (by decide) ?_
    exact h
set_option maxRecDepth 100000 in
set_option maxHeartbeats 4000000 in
theorem bX10_type_0 {l : Launch} {g : xG} (a0 : Nat) (j1 : Int64) (x3 : Int32) {M : xM} {Q : Option Value → xM → Prop} (h : (xSp l g mX10_in 0 0 [.long x3.toInt64, .long 1, .long 8] M (fun ρ3 M2 => ∃ v1 : Int32, ρ3 = some (.int v1) ∧ ((¬ v1 = 0 → (xat M2 a0 7 ∧ ((((xI M2 a0 2) + x3) ≤ 64 → (((xI (xsI M2 a0 0 0) a0 0) ≤ 0 → xWp l g mX10_type 0 0 50 [(1, va_rf (some a0)), (2, .long j1), (0, .null), (1, .int x3), (1, .int (x3 - 1))] [] (0, 0) (xsI M2 a0 0 0) Q) ∧ (¬ (xI (xsI M2 a0 0 0) a0 0) ≤ 0 → (Q (some (.int 0)) (xsI M2 a0 0 0))))) ∧ (¬ ((xI M2 a0 2) + x3) ≤ 64 → (((xI (xsI M2 a0 0 2) a0 0) ≤ 0 → xWp l g mX10_type 0 0 50 [(1, va_rf (some a0)), (2, .long j1), (0, .null), (1, .int x3), (1, .int (x3 - 1))] [] (0, 0) (xsI M2 a0 0 2) Q) ∧ (¬ (xI (xsI M2 a0 0 2) a0 0) ≤ 0 → (Q (some (.int 0)) (xsI M2 a0 0 2)))))))) ∧ (v1 = 0 → (xat M2 a0 7 ∧ (((xI (xsI M2 a0 0 1) a0 0) ≤ 0 → xWp l g mX10_type 0 0 50 [(1, va_rf (some a0)), (2, .long j1), (0, .null), (1, .int x3), (1, .int (x3 - 1))] [] (0, 0) (xsI M2 a0 0 1) Q) ∧ (¬ (xI (xsI M2 a0 0 1) a0 0) ≤ 0 → (Q (some (.int 0)) (xsI M2 a0 0 1)))))))))) : xWp l g mX10_type 0 0 0 [(1, va_rf (some a0)), (2, .long j1), (0, .null), (1, .int x3), (0, .null)] [] (0, 0) M Q := by
  refine xr_aload_n 0 dX10_type_0 rfl rfl ?_
  refine xr_iload_n 3 dX10_type_1 rfl rfl ?_
  refine xr_i2l dX10_type_2 ?_
  refine xr_lconst 1 dX10_type_3 (by decide) ?_
  refine xr_ldc2 8 dX10_type_4 ct_RX10_85 ?_
  refine xr_callS [.long x3.toInt64, .long 1, .long 8] dX10_type_7 cs_X10_type_87 rfl (Nat.le_trans (wt_r wt_0) (by decide)) (by decide) (xSp.mono h ?_)
  clear h
  intro ρ3 M2 h
  obtain ⟨v1, rfl, h⟩ := h
  obtain ⟨ht, hf⟩ := h
  refine xr_if_ne 17 dX10_type_10 (by decide) (fun c11 => ?_) (fun c11 => ?_)
  · replace h := ht c11
    clear ht hf
    refine xr_aload_n 0 dX10_type_17 rfl rfl ?_
    obtain ⟨t5, h⟩ := h
    refine yr_getI dX10_type_18 fl_RX10_91 rfl t5 ?_
    refine xr_iload_n 3 dX10_type_21 rfl rfl ?_
    refine xr_iadd dX10_type_22 ?_
    refine xr_bipush 64 dX10_type_23 (by decide) ?_
    obtain ⟨ht, hf⟩ := h
    refine xr_icmp_le 32 dX10_type_25 (by decide) (fun c8 => ?_) (fun c8 => ?_)
    · replace h := ht c8
      clear ht hf
      refine xr_iconst 0 dX10_type_32 (by decide) ?_
      refine yr_putI dX10_type_33 fp_RX10_68 rfl t5 ?_
      refine xr_aload_n 0 dX10_type_36 rfl rfl ?_
      refine yr_getI dX10_type_37 fl_RX10_68 rfl t5 ?_
      obtain ⟨ht, hf⟩ := h
      refine xr_if_le 45 dX10_type_40 (by decide) (fun c6 => ?_) (fun c6 => ?_)
      · replace h := ht c6
        clear ht hf
        refine xr_iload_n 3 dX10_type_45 rfl rfl ?_
        refine xr_iconst 1 dX10_type_46 (by decide) ?_
        refine xr_isub dX10_type_47 ?_
        refine zistore dX10_type_48 (L1 := [(1, va_rf (some a0)), (2, .long j1), (0, .null), (1, .int x3), (1, .int (x3 - 1))]) (by decide) rfl ?_
        exact h
      · replace h := hf c6
        clear ht hf
        refine xr_iconst 0 dX10_type_43 (by decide) ?_
        exact xr_retv (by decide) (xRi rfl rfl dX10_type_44) h
    · replace h := hf c8
      clear ht hf
      refine xr_iconst 2 dX10_type_28 (by decide) ?_
      refine xr_goto 33 dX10_type_29 (by decide) ?_
      refine yr_putI dX10_type_33 fp_RX10_68 rfl t5 ?_
      refine xr_aload_n 0 dX10_type_36 rfl rfl ?_
      refine yr_getI dX10_type_37 fl_RX10_68 rfl t5 ?_
      obtain ⟨ht, hf⟩ := h
      refine xr_if_le 45 dX10_type_40 (by decide) (fun c7 => ?_) (fun c7 => ?_)
      · replace h := ht c7
        clear ht hf
        refine xr_iload_n 3 dX10_type_45 rfl rfl ?_
        refine xr_iconst 1 dX10_type_46 (by decide) ?_
        refine xr_isub dX10_type_47 ?_
        refine zistore dX10_type_48 (L1 := [(1, va_rf (some a0)), (2, .long j1), (0, .null), (1, .int x3), (1, .int (x3 - 1))]) (by decide) rfl ?_
        exact h
      · replace h := hf c7
        clear ht hf
        refine xr_iconst 0 dX10_type_43 (by decide) ?_
        exact xr_retv (by decide) (xRi rfl rfl dX10_type_44) h
  · replace h := hf c11
    clear ht hf
    refine xr_iconst 1 dX10_type_13 (by decide) ?_
    refine xr_goto 33 dX10_type_14 (by decide) ?_
    obtain ⟨t9, h⟩ := h
    refine yr_putI dX10_type_33 fp_RX10_68 rfl t9 ?_
    refine xr_aload_n 0 dX10_type_36 rfl rfl ?_
    refine yr_getI dX10_type_37 fl_RX10_68 rfl t9 ?_
    obtain ⟨ht, hf⟩ := h
    refine xr_if_le 45 dX10_type_40 (by decide) (fun c10 => ?_) (fun c10 => ?_)
    · replace h := ht c10
      clear ht hf
      refine xr_iload_n 3 dX10_type_45 rfl rfl ?_
      refine xr_iconst 1 dX10_type_46 (by decide) ?_
      refine xr_isub dX10_type_47 ?_
      refine zistore dX10_type_48 (L1 := [(1, va_rf (some a0)), (2, .long j1), (0, .null), (1, .int x3), (1, .int (x3 - 1))]) (by decide) rfl ?_
      exact h
    · replace h := hf c10
      clear ht hf
      refine xr_iconst 0 dX10_type_43 (by decide) ?_
      exact xr_retv (by decide) (xRi rfl rfl dX10_type_44) h
theorem dX10_cut_0 : decode cX10_cut 0 = .ok (.aload_n 0, 1) := by decide +kernel
theorem dX10_cut_1 : decode cX10_cut 1 = .ok (.iload_n 1, 1) := by decide +kernel
theorem dX10_cut_2 : decode cX10_cut 2 = .ok (.i2l, 1) := by decide +kernel
theorem dX10_cut_3 : decode cX10_cut 3 = .ok (.lconst 0, 1) := by decide +kernel
theorem dX10_cut_4 : decode cX10_cut 4 = .ok (.aload_n 0, 1) := by decide +kernel
theorem dX10_cut_5 : decode cX10_cut 5 = .ok (.getfield 91, 3) := by decide +kernel
theorem dX10_cut_8 : decode cX10_cut 8 = .ok (.i2l, 1) := by decide +kernel
theorem dX10_cut_9 : decode cX10_cut 9 = .ok (.invokestatic 87, 3) := by decide +kernel
theorem dX10_cut_12 : decode cX10_cut 12 = .ok (.ifCond .eq 7, 3) := by decide +kernel
theorem dX10_cut_15 : decode cX10_cut 15 = .ok (.iconst 0, 1) := by decide +kernel
theorem dX10_cut_16 : decode cX10_cut 16 = .ok (.goto 4, 3) := by decide +kernel
theorem dX10_cut_19 : decode cX10_cut 19 = .ok (.iconst 1, 1) := by decide +kernel
theorem dX10_cut_20 : decode cX10_cut 20 = .ok (.putfield 68, 3) := by decide +kernel
theorem dX10_cut_23 : decode cX10_cut 23 = .ok (.aload_n 0, 1) := by decide +kernel
theorem dX10_cut_24 : decode cX10_cut 24 = .ok (.getfield 68, 3) := by decide +kernel
theorem dX10_cut_27 : decode cX10_cut 27 = .ok (.ifCond .le 5, 3) := by decide +kernel
theorem dX10_cut_30 : decode cX10_cut 30 = .ok (.iconst 0, 1) := by decide +kernel
theorem dX10_cut_31 : decode cX10_cut 31 = .ok (.ireturn, 1) := by decide +kernel
theorem dX10_cut_32 : decode cX10_cut 32 = .ok (.aload_n 0, 1) := by decide +kernel
theorem dX10_cut_33 : decode cX10_cut 33 = .ok (.getfield 91, 3) := by decide +kernel
theorem dX10_cut_36 : decode cX10_cut 36 = .ok (.istore_n 2, 1) := by decide +kernel
theorem dX10_cut_37 : decode cX10_cut 37 = .ok (.aload_n 0, 1) := by decide +kernel
theorem dX10_cut_38 : decode cX10_cut 38 = .ok (.iload_n 1, 1) := by decide +kernel
theorem dX10_cut_39 : decode cX10_cut 39 = .ok (.putfield 91, 3) := by decide +kernel
theorem dX10_cut_42 : decode cX10_cut 42 = .ok (.iload_n 2, 1) := by decide +kernel
theorem dX10_cut_43 : decode cX10_cut 43 = .ok (.ireturn, 1) := by decide +kernel
set_option maxRecDepth 100000 in
set_option maxHeartbeats 4000000 in
theorem bX10_cut_0 {l : Launch} {g : xG} (a0 : Nat) (x1 : Int32) {M : xM} {Q : Option Value → xM → Prop} (h : (xat M a0 7 ∧ (xSp l g mX10_in 0 0 [.long x1.toInt64, .long 0, .long (xI M a0 2).toInt64] M (fun ρ4 M3 => ∃ v2 : Int32, ρ4 = some (.int v2) ∧ ((v2 = 0 → (xat M3 a0 7 ∧ (((xI (xsI M3 a0 0 1) a0 0) ≤ 0 → (Q (some (.int (xI (xsI M3 a0 0 1) a0 2))) (xsI (xsI M3 a0 0 1) a0 2 x1))) ∧ (¬ (xI (xsI M3 a0 0 1) a0 0) ≤ 0 → (Q (some (.int 0)) (xsI M3 a0 0 1)))))) ∧ (¬ v2 = 0 → (xat M3 a0 7 ∧ (((xI (xsI M3 a0 0 0) a0 0) ≤ 0 → (Q (some (.int (xI (xsI M3 a0 0 0) a0 2))) (xsI (xsI M3 a0 0 0) a0 2 x1))) ∧ (¬ (xI (xsI M3 a0 0 0) a0 0) ≤ 0 → (Q (some (.int 0)) (xsI M3 a0 0 0))))))))))) : xWp l g mX10_cut 0 0 0 [(1, va_rf (some a0)), (1, .int x1), (0, .null)] [] (0, 0) M Q := by
  refine xr_aload_n 0 dX10_cut_0 rfl rfl ?_
  refine xr_iload_n 1 dX10_cut_1 rfl rfl ?_
  refine xr_i2l dX10_cut_2 ?_
  refine xr_lconst 0 dX10_cut_3 (by decide) ?_
  refine xr_aload_n 0 dX10_cut_4 rfl rfl ?_
  obtain ⟨t1, h⟩ := h
  refine yr_getI dX10_cut_5 fl_RX10_91 rfl t1 ?_
  refine xr_i2l dX10_cut_8 ?_
  refine xr_callS [.long x1.toInt64, .long 0, .long (xI M a0 2).toInt64] dX10_cut_9 cs_X10_cut_87 rfl (Nat.le_trans (wt_r wt_0) (by decide)) (by decide) (xSp.mono h ?_)
  clear h
  intro ρ4 M3 h
  obtain ⟨v2, rfl, h⟩ := h
  obtain ⟨ht, hf⟩ := h
  refine xr_if_eq 19 dX10_cut_12 (by decide) (fun c10 => ?_) (fun c10 => ?_)
  · replace h := ht c10
    clear ht hf
    refine xr_iconst 1 dX10_cut_19 (by decide) ?_
    obtain ⟨t6, h⟩ := h
    refine yr_putI dX10_cut_20 fp_RX10_68 rfl t6 ?_
    refine xr_aload_n 0 dX10_cut_23 rfl rfl ?_
    refine yr_getI dX10_cut_24 fl_RX10_68 rfl t6 ?_
    obtain ⟨ht, hf⟩ := h
    refine xr_if_le 32 dX10_cut_27 (by decide) (fun c7 => ?_) (fun c7 => ?_)
    · replace h := ht c7
      clear ht hf
      refine xr_aload_n 0 dX10_cut_32 rfl rfl ?_
      refine yr_getI dX10_cut_33 fl_RX10_91 rfl t6 ?_
      refine zistore_n 2 dX10_cut_36 rfl (L1 := [(1, va_rf (some a0)), (1, .int x1), (1, .int (xI (xsI M3 a0 0 1) a0 2))]) (by decide) rfl ?_
      refine xr_aload_n 0 dX10_cut_37 rfl rfl ?_
      refine xr_iload_n 1 dX10_cut_38 rfl rfl ?_
      refine yr_putI dX10_cut_39 fp_RX10_91 rfl t6 ?_
      refine xr_iload_n 2 dX10_cut_42 rfl rfl ?_
      exact xr_retv (by decide) (xRi rfl rfl dX10_cut_43) h
    · replace h := hf c7
      clear ht hf
      refine xr_iconst 0 dX10_cut_30 (by decide) ?_
      exact xr_retv (by decide) (xRi rfl rfl dX10_cut_31) h
  · replace h := hf c10
    clear ht hf
    refine xr_iconst 0 dX10_cut_15 (by decide) ?_
    refine xr_goto 20 dX10_cut_16 (by decide) ?_
    obtain ⟨t8, h⟩ := h
    refine yr_putI dX10_cut_20 fp_RX10_68 rfl t8 ?_
    refine xr_aload_n 0 dX10_cut_23 rfl rfl ?_
    refine yr_getI dX10_cut_24 fl_RX10_68 rfl t8 ?_
    obtain ⟨ht, hf⟩ := h
    refine xr_if_le 32 dX10_cut_27 (by decide) (fun c9 => ?_) (fun c9 => ?_)
    · replace h := ht c9
      clear ht hf
      refine xr_aload_n 0 dX10_cut_32 rfl rfl ?_
      refine yr_getI dX10_cut_33 fl_RX10_91 rfl t8 ?_
      refine zistore_n 2 dX10_cut_36 rfl (L1 := [(1, va_rf (some a0)), (1, .int x1), (1, .int (xI (xsI M3 a0 0 0) a0 2))]) (by decide) rfl ?_
      refine xr_aload_n 0 dX10_cut_37 rfl rfl ?_
      refine xr_iload_n 1 dX10_cut_38 rfl rfl ?_
      refine yr_putI dX10_cut_39 fp_RX10_91 rfl t8 ?_
      refine xr_iload_n 2 dX10_cut_42 rfl rfl ?_
      exact xr_retv (by decide) (xRi rfl rfl dX10_cut_43) h
    · replace h := hf c9
      clear ht hf
      refine xr_iconst 0 dX10_cut_30 (by decide) ?_
      exact xr_retv (by decide) (xRi rfl rfl dX10_cut_31) h
theorem dX10_tapeAt_0 : decode cX10_tapeAt 0 = .ok (.aload_n 0, 1) := by decide +kernel
theorem dX10_tapeAt_1 : decode cX10_tapeAt 1 = .ok (.iconst 0, 1) := by decide +kernel
theorem dX10_tapeAt_2 : decode cX10_tapeAt 2 = .ok (.putfield 68, 3) := by decide +kernel
theorem dX10_tapeAt_5 : decode cX10_tapeAt 5 = .ok (.iload_n 1, 1) := by decide +kernel
theorem dX10_tapeAt_6 : decode cX10_tapeAt 6 = .ok (.i2l, 1) := by decide +kernel
theorem dX10_tapeAt_7 : decode cX10_tapeAt 7 = .ok (.lconst 0, 1) := by decide +kernel
theorem dX10_tapeAt_8 : decode cX10_tapeAt 8 = .ok (.aload_n 0, 1) := by decide +kernel
theorem dX10_tapeAt_9 : decode cX10_tapeAt 9 = .ok (.getfield 91, 3) := by decide +kernel
theorem dX10_tapeAt_12 : decode cX10_tapeAt 12 = .ok (.iconst 1, 1) := by decide +kernel
theorem dX10_tapeAt_13 : decode cX10_tapeAt 13 = .ok (.isub, 1) := by decide +kernel
theorem dX10_tapeAt_14 : decode cX10_tapeAt 14 = .ok (.i2l, 1) := by decide +kernel
theorem dX10_tapeAt_15 : decode cX10_tapeAt 15 = .ok (.invokestatic 87, 3) := by decide +kernel
theorem dX10_tapeAt_18 : decode cX10_tapeAt 18 = .ok (.ifCond .eq 12, 3) := by decide +kernel
theorem dX10_tapeAt_21 : decode cX10_tapeAt 21 = .ok (.aload_n 0, 1) := by decide +kernel
theorem dX10_tapeAt_22 : decode cX10_tapeAt 22 = .ok (.getfield 7, 3) := by decide +kernel
theorem dX10_tapeAt_25 : decode cX10_tapeAt 25 = .ok (.iload_n 1, 1) := by decide +kernel
theorem dX10_tapeAt_26 : decode cX10_tapeAt 26 = .ok (.iaload, 1) := by decide +kernel
theorem dX10_tapeAt_27 : decode cX10_tapeAt 27 = .ok (.goto 4, 3) := by decide +kernel
theorem dX10_tapeAt_30 : decode cX10_tapeAt 30 = .ok (.iconst (-1), 1) := by decide +kernel
theorem dX10_tapeAt_31 : decode cX10_tapeAt 31 = .ok (.ireturn, 1) := by decide +kernel
set_option maxRecDepth 100000 in
set_option maxHeartbeats 4000000 in
theorem bX10_tapeAt_0 {l : Launch} {g : xG} (a0 : Nat) (x1 : Int32) {M : xM} {Q : Option Value → xM → Prop} (h : (xat M a0 7 ∧ (xSp l g mX10_in 0 0 [.long x1.toInt64, .long 0, .long ((xI (xsI M a0 0 0) a0 2) - 1).toInt64] (xsI M a0 0 0) (fun ρ4 M3 => ∃ v2 : Int32, ρ4 = some (.int v2) ∧ ((v2 = 0 → (Q (some (.int (-1))) M3)) ∧ (¬ v2 = 0 → (xat M3 a0 7 ∧ (∃ a7, (xR M3 a0 1) = some a7 ∧ ∃ i9, xai M3 a7 9 x1 i9 ∧ (Q (some (.int (xI M3 a7 i9))) M3))))))))) : xWp l g mX10_tapeAt 0 0 0 [(1, va_rf (some a0)), (1, .int x1)] [] (0, 0) M Q := by
  refine xr_aload_n 0 dX10_tapeAt_0 rfl rfl ?_
  refine xr_iconst 0 dX10_tapeAt_1 (by decide) ?_
  obtain ⟨t1, h⟩ := h
  refine yr_putI dX10_tapeAt_2 fp_RX10_68 rfl t1 ?_
  refine xr_iload_n 1 dX10_tapeAt_5 rfl rfl ?_
  refine xr_i2l dX10_tapeAt_6 ?_
  refine xr_lconst 0 dX10_tapeAt_7 (by decide) ?_
  refine xr_aload_n 0 dX10_tapeAt_8 rfl rfl ?_
  refine yr_getI dX10_tapeAt_9 fl_RX10_91 rfl t1 ?_
  refine xr_iconst 1 dX10_tapeAt_12 (by decide) ?_
  refine xr_isub dX10_tapeAt_13 ?_
  refine xr_i2l dX10_tapeAt_14 ?_
  refine xr_callS [.long x1.toInt64, .long 0, .long ((xI (xsI M a0 0 0) a0 2) - 1).toInt64] dX10_tapeAt_15 cs_X10_tapeAt_87 rfl (Nat.le_trans wt_0 (by decide)) (by decide) (xSp.mono h ?_)
  clear h
  intro ρ4 M3 h
  obtain ⟨v2, rfl, h⟩ := h
  obtain ⟨ht, hf⟩ := h
  refine xr_if_eq 30 dX10_tapeAt_18 (by decide) (fun c11 => ?_) (fun c11 => ?_)
  · replace h := ht c11
    clear ht hf
    refine xr_iconst (-1) dX10_tapeAt_30 (by decide) ?_
    exact xr_retv (by decide) (xRi rfl rfl dX10_tapeAt_31) h
  · replace h := hf c11
    clear ht hf
    refine xr_aload_n 0 dX10_tapeAt_21 rfl rfl ?_
    obtain ⟨t6, h⟩ := h
    refine yr_getR dX10_tapeAt_22 fl_RX10_7 rfl t6 ?_
    refine xr_iload_n 1 dX10_tapeAt_25 rfl rfl ?_
    obtain ⟨a7, e8, h⟩ := h
    obtain ⟨i9, t10, h⟩ := h
    refine yr_iald dX10_tapeAt_26 e8 t10 ?_
    refine xr_goto 31 dX10_tapeAt_27 (by decide) ?_
    exact xr_retv (by decide) (xRi rfl rfl dX10_tapeAt_31) h
theorem dX10_newNode_0 : decode cX10_newNode 0 = .ok (.iconst 0, 1) := by decide +kernel
theorem dX10_newNode_1 : decode cX10_newNode 1 = .ok (.istore_n 3, 1) := by decide +kernel
theorem dX10_newNode_2 : decode cX10_newNode 2 = .ok (.aload_n 0, 1) := by decide +kernel
theorem dX10_newNode_3 : decode cX10_newNode 3 = .ok (.getfield 13, 3) := by decide +kernel
theorem dX10_newNode_6 : decode cX10_newNode 6 = .ok (.iload_n 3, 1) := by decide +kernel
theorem dX10_newNode_7 : decode cX10_newNode 7 = .ok (.baload, 1) := by decide +kernel
theorem dX10_newNode_8 : decode cX10_newNode 8 = .ok (.ifCond .eq 9, 3) := by decide +kernel
theorem dX10_newNode_11 : decode cX10_newNode 11 = .ok (.iinc 3 1, 3) := by decide +kernel
theorem dX10_newNode_14 : decode cX10_newNode 14 = .ok (.goto (-12), 3) := by decide +kernel
theorem dX10_newNode_17 : decode cX10_newNode 17 = .ok (.aload_n 0, 1) := by decide +kernel
theorem dX10_newNode_18 : decode cX10_newNode 18 = .ok (.getfield 13, 3) := by decide +kernel
theorem dX10_newNode_21 : decode cX10_newNode 21 = .ok (.iload_n 3, 1) := by decide +kernel
theorem dX10_newNode_22 : decode cX10_newNode 22 = .ok (.iconst 1, 1) := by decide +kernel
theorem dX10_newNode_23 : decode cX10_newNode 23 = .ok (.bastore, 1) := by decide +kernel
theorem dX10_newNode_24 : decode cX10_newNode 24 = .ok (.aload_n 0, 1) := by decide +kernel
theorem dX10_newNode_25 : decode cX10_newNode 25 = .ok (.getfield 17, 3) := by decide +kernel
theorem dX10_newNode_28 : decode cX10_newNode 28 = .ok (.iload_n 3, 1) := by decide +kernel
theorem dX10_newNode_29 : decode cX10_newNode 29 = .ok (.iload_n 1, 1) := by decide +kernel
theorem dX10_newNode_30 : decode cX10_newNode 30 = .ok (.iastore, 1) := by decide +kernel
theorem dX10_newNode_31 : decode cX10_newNode 31 = .ok (.aload_n 0, 1) := by decide +kernel
theorem dX10_newNode_32 : decode cX10_newNode 32 = .ok (.getfield 20, 3) := by decide +kernel
theorem dX10_newNode_35 : decode cX10_newNode 35 = .ok (.iload_n 3, 1) := by decide +kernel
theorem dX10_newNode_36 : decode cX10_newNode 36 = .ok (.iload_n 2, 1) := by decide +kernel
theorem dX10_newNode_37 : decode cX10_newNode 37 = .ok (.iastore, 1) := by decide +kernel
theorem dX10_newNode_38 : decode cX10_newNode 38 = .ok (.aload_n 0, 1) := by decide +kernel
theorem dX10_newNode_39 : decode cX10_newNode 39 = .ok (.getfield 26, 3) := by decide +kernel
theorem dX10_newNode_42 : decode cX10_newNode 42 = .ok (.iload_n 3, 1) := by decide +kernel
theorem dX10_newNode_43 : decode cX10_newNode 43 = .ok (.iconst 0, 1) := by decide +kernel
theorem dX10_newNode_44 : decode cX10_newNode 44 = .ok (.iastore, 1) := by decide +kernel
theorem dX10_newNode_45 : decode cX10_newNode 45 = .ok (.aload_n 0, 1) := by decide +kernel
theorem dX10_newNode_46 : decode cX10_newNode 46 = .ok (.getfield 29, 3) := by decide +kernel
theorem dX10_newNode_49 : decode cX10_newNode 49 = .ok (.iload_n 3, 1) := by decide +kernel
theorem dX10_newNode_50 : decode cX10_newNode 50 = .ok (.iconst 0, 1) := by decide +kernel
theorem dX10_newNode_51 : decode cX10_newNode 51 = .ok (.bastore, 1) := by decide +kernel
theorem dX10_newNode_52 : decode cX10_newNode 52 = .ok (.aload_n 0, 1) := by decide +kernel
theorem dX10_newNode_53 : decode cX10_newNode 53 = .ok (.getfield 32, 3) := by decide +kernel
theorem dX10_newNode_56 : decode cX10_newNode 56 = .ok (.iload_n 3, 1) := by decide +kernel
theorem dX10_newNode_57 : decode cX10_newNode 57 = .ok (.lconst 0, 1) := by decide +kernel
theorem dX10_newNode_58 : decode cX10_newNode 58 = .ok (.lastore, 1) := by decide +kernel
theorem dX10_newNode_59 : decode cX10_newNode 59 = .ok (.aload_n 0, 1) := by decide +kernel
theorem dX10_newNode_60 : decode cX10_newNode 60 = .ok (.getfield 36, 3) := by decide +kernel
theorem dX10_newNode_63 : decode cX10_newNode 63 = .ok (.iload_n 3, 1) := by decide +kernel
theorem dX10_newNode_64 : decode cX10_newNode 64 = .ok (.iconst 1, 1) := by decide +kernel
theorem dX10_newNode_65 : decode cX10_newNode 65 = .ok (.iastore, 1) := by decide +kernel
theorem dX10_newNode_66 : decode cX10_newNode 66 = .ok (.aload_n 0, 1) := by decide +kernel
theorem dX10_newNode_67 : decode cX10_newNode 67 = .ok (.getfield 39, 3) := by decide +kernel
theorem dX10_newNode_70 : decode cX10_newNode 70 = .ok (.iload_n 3, 1) := by decide +kernel
theorem dX10_newNode_71 : decode cX10_newNode 71 = .ok (.iconst 0, 1) := by decide +kernel
theorem dX10_newNode_72 : decode cX10_newNode 72 = .ok (.iastore, 1) := by decide +kernel
theorem dX10_newNode_73 : decode cX10_newNode 73 = .ok (.aload_n 0, 1) := by decide +kernel
theorem dX10_newNode_74 : decode cX10_newNode 74 = .ok (.getfield 42, 3) := by decide +kernel
theorem dX10_newNode_77 : decode cX10_newNode 77 = .ok (.iload_n 3, 1) := by decide +kernel
theorem dX10_newNode_78 : decode cX10_newNode 78 = .ok (.iconst 1, 1) := by decide +kernel
theorem dX10_newNode_79 : decode cX10_newNode 79 = .ok (.bastore, 1) := by decide +kernel
theorem dX10_newNode_80 : decode cX10_newNode 80 = .ok (.iload_n 3, 1) := by decide +kernel
theorem dX10_newNode_81 : decode cX10_newNode 81 = .ok (.ireturn, 1) := by decide +kernel
set_option maxRecDepth 100000 in
set_option maxHeartbeats 4000000 in
theorem bX10_newNode_2 {l : Launch} {g : xG} (a0 : Nat) (x1 : Int32) (x2 : Int32) (x3 : Int32) {M : xM} {Q : Option Value → xM → Prop} (h : (xat M a0 7 ∧ (∃ a2, (xR M a0 4) = some a2 ∧ ∃ i4, xai M a2 11 x3 i4 ∧ (((xI M a2 i4) = 0 → (∃ i6, xai M a2 11 x3 i6 ∧ (∃ a8, (xR (xsI M a2 i6 ((1 : Int32) &&& 1)) a0 5) = some a8 ∧ ∃ i10, xai (xsI M a2 i6 ((1 : Int32) &&& 1)) a8 9 x3 i10 ∧ (∃ a12, (xR (xsI (xsI M a2 i6 ((1 : Int32) &&& 1)) a8 i10 x1) a0 6) = some a12 ∧ ∃ i14, xai (xsI (xsI M a2 i6 ((1 : Int32) &&& 1)) a8 i10 x1) a12 9 x3 i14 ∧ (∃ a16, (xR (xsI (xsI (xsI M a2 i6 ((1 : Int32) &&& 1)) a8 i10 x1) a12 i14 x2) a0 8) = some a16 ∧ ∃ i18, xai (xsI (xsI (xsI M a2 i6 ((1 : Int32) &&& 1)) a8 i10 x1) a12 i14 x2) a16 9 x3 i18 ∧ (∃ a20, (xR (xsI (xsI (xsI (xsI M a2 i6 ((1 : Int32) &&& 1)) a8 i10 x1) a12 i14 x2) a16 i18 0) a0 9) = some a20 ∧ ∃ i22, xai (xsI (xsI (xsI (xsI M a2 i6 ((1 : Int32) &&& 1)) a8 i10 x1) a12 i14 x2) a16 i18 0) a20 11 x3 i22 ∧ (∃ a24, (xR (xsI (xsI (xsI (xsI (xsI M a2 i6 ((1 : Int32) &&& 1)) a8 i10 x1) a12 i14 x2) a16 i18 0) a20 i22 ((0 : Int32) &&& 1)) a0 10) = some a24 ∧ ∃ i26, xai (xsI (xsI (xsI (xsI (xsI M a2 i6 ((1 : Int32) &&& 1)) a8 i10 x1) a12 i14 x2) a16 i18 0) a20 i22 ((0 : Int32) &&& 1)) a24 10 x3 i26 ∧ (∃ a28, (xR (xsJ (xsI (xsI (xsI (xsI (xsI M a2 i6 ((1 : Int32) &&& 1)) a8 i10 x1) a12 i14 x2) a16 i18 0) a20 i22 ((0 : Int32) &&& 1)) a24 i26 0) a0 11) = some a28 ∧ ∃ i30, xai (xsJ (xsI (xsI (xsI (xsI (xsI M a2 i6 ((1 : Int32) &&& 1)) a8 i10 x1) a12 i14 x2) a16 i18 0) a20 i22 ((0 : Int32) &&& 1)) a24 i26 0) a28 9 x3 i30 ∧ (∃ a32, (xR (xsI (xsJ (xsI (xsI (xsI (xsI (xsI M a2 i6 ((1 : Int32) &&& 1)) a8 i10 x1) a12 i14 x2) a16 i18 0) a20 i22 ((0 : Int32) &&& 1)) a24 i26 0) a28 i30 1) a0 12) = some a32 ∧ ∃ i34, xai (xsI (xsJ (xsI (xsI (xsI (xsI (xsI M a2 i6 ((1 : Int32) &&& 1)) a8 i10 x1) a12 i14 x2) a16 i18 0) a20 i22 ((0 : Int32) &&& 1)) a24 i26 0) a28 i30 1) a32 9 x3 i34 ∧ (∃ a36, (xR (xsI (xsI (xsJ (xsI (xsI (xsI (xsI (xsI M a2 i6 ((1 : Int32) &&& 1)) a8 i10 x1) a12 i14 x2) a16 i18 0) a20 i22 ((0 : Int32) &&& 1)) a24 i26 0) a28 i30 1) a32 i34 0) a0 13) = some a36 ∧ ∃ i38, xai (xsI (xsI (xsJ (xsI (xsI (xsI (xsI (xsI M a2 i6 ((1 : Int32) &&& 1)) a8 i10 x1) a12 i14 x2) a16 i18 0) a20 i22 ((0 : Int32) &&& 1)) a24 i26 0) a28 i30 1) a32 i34 0) a36 11 x3 i38 ∧ (Q (some (.int x3)) (xsI (xsI (xsI (xsJ (xsI (xsI (xsI (xsI (xsI M a2 i6 ((1 : Int32) &&& 1)) a8 i10 x1) a12 i14 x2) a16 i18 0) a20 i22 ((0 : Int32) &&& 1)) a24 i26 0) a28 i30 1) a32 i34 0) a36 i38 ((1 : Int32) &&& 1))))))))))))) ∧ (¬ (xI M a2 i4) = 0 → xWp l g mX10_newNode 0 0 2 [(1, va_rf (some a0)), (1, .int x1), (1, .int x2), (1, .int (x3 + 1))] [] (0, 0) M Q))))) : xWp l g mX10_newNode 0 0 2 [(1, va_rf (some a0)), (1, .int x1), (1, .int x2), (1, .int x3)] [] (0, 0) M Q := by
  refine xr_aload_n 0 dX10_newNode_2 rfl rfl ?_
  obtain ⟨t1, h⟩ := h
  refine yr_getR dX10_newNode_3 fl_RX10_13 rfl t1 ?_
  refine xr_iload_n 3 dX10_newNode_6 rfl rfl ?_
  obtain ⟨a2, e3, h⟩ := h
  obtain ⟨i4, t5, h⟩ := h
  refine yr_zald dX10_newNode_7 e3 t5 ?_
  obtain ⟨ht, hf⟩ := h
  refine xr_if_eq 17 dX10_newNode_8 (by decide) (fun c40 => ?_) (fun c40 => ?_)
  · replace h := ht c40
    clear ht hf
    refine xr_aload_n 0 dX10_newNode_17 rfl rfl ?_
    refine yr_getR dX10_newNode_18 fl_RX10_13 rfl t1 ?_
    refine xr_iload_n 3 dX10_newNode_21 rfl rfl ?_
    refine xr_iconst 1 dX10_newNode_22 (by decide) ?_
    obtain ⟨i6, t7, h⟩ := h
    refine yr_zast dX10_newNode_23 e3 t7 ?_
    refine xr_aload_n 0 dX10_newNode_24 rfl rfl ?_
    refine yr_getR dX10_newNode_25 fl_RX10_17 rfl t1 ?_
    refine xr_iload_n 3 dX10_newNode_28 rfl rfl ?_
    refine xr_iload_n 1 dX10_newNode_29 rfl rfl ?_
    obtain ⟨a8, e9, h⟩ := h
    obtain ⟨i10, t11, h⟩ := h
    refine yr_iast dX10_newNode_30 e9 t11 ?_
    refine xr_aload_n 0 dX10_newNode_31 rfl rfl ?_
    refine yr_getR dX10_newNode_32 fl_RX10_20 rfl t1 ?_
    refine xr_iload_n 3 dX10_newNode_35 rfl rfl ?_
    refine xr_iload_n 2 dX10_newNode_36 rfl rfl ?_
    obtain ⟨a12, e13, h⟩ := h
    obtain ⟨i14, t15, h⟩ := h
    refine yr_iast dX10_newNode_37 e13 t15 ?_
    refine xr_aload_n 0 dX10_newNode_38 rfl rfl ?_
    refine yr_getR dX10_newNode_39 fl_RX10_26 rfl t1 ?_
    refine xr_iload_n 3 dX10_newNode_42 rfl rfl ?_
    refine xr_iconst 0 dX10_newNode_43 (by decide) ?_
    obtain ⟨a16, e17, h⟩ := h
    obtain ⟨i18, t19, h⟩ := h
    refine yr_iast dX10_newNode_44 e17 t19 ?_
    refine xr_aload_n 0 dX10_newNode_45 rfl rfl ?_
    refine yr_getR dX10_newNode_46 fl_RX10_29 rfl t1 ?_
    refine xr_iload_n 3 dX10_newNode_49 rfl rfl ?_
    refine xr_iconst 0 dX10_newNode_50 (by decide) ?_
    obtain ⟨a20, e21, h⟩ := h
    obtain ⟨i22, t23, h⟩ := h
    refine yr_zast dX10_newNode_51 e21 t23 ?_
    refine xr_aload_n 0 dX10_newNode_52 rfl rfl ?_
    refine yr_getR dX10_newNode_53 fl_RX10_32 rfl t1 ?_
    refine xr_iload_n 3 dX10_newNode_56 rfl rfl ?_
    refine xr_lconst 0 dX10_newNode_57 (by decide) ?_
    obtain ⟨a24, e25, h⟩ := h
    obtain ⟨i26, t27, h⟩ := h
    refine yr_last dX10_newNode_58 e25 t27 ?_
    refine xr_aload_n 0 dX10_newNode_59 rfl rfl ?_
    refine yr_getR dX10_newNode_60 fl_RX10_36 rfl t1 ?_
    refine xr_iload_n 3 dX10_newNode_63 rfl rfl ?_
    refine xr_iconst 1 dX10_newNode_64 (by decide) ?_
    obtain ⟨a28, e29, h⟩ := h
    obtain ⟨i30, t31, h⟩ := h
    refine yr_iast dX10_newNode_65 e29 t31 ?_
    refine xr_aload_n 0 dX10_newNode_66 rfl rfl ?_
    refine yr_getR dX10_newNode_67 fl_RX10_39 rfl t1 ?_
    refine xr_iload_n 3 dX10_newNode_70 rfl rfl ?_
    refine xr_iconst 0 dX10_newNode_71 (by decide) ?_
    obtain ⟨a32, e33, h⟩ := h
    obtain ⟨i34, t35, h⟩ := h
    refine yr_iast dX10_newNode_72 e33 t35 ?_
    refine xr_aload_n 0 dX10_newNode_73 rfl rfl ?_
    refine yr_getR dX10_newNode_74 fl_RX10_42 rfl t1 ?_
    refine xr_iload_n 3 dX10_newNode_77 rfl rfl ?_
    refine xr_iconst 1 dX10_newNode_78 (by decide) ?_
    obtain ⟨a36, e37, h⟩ := h
    obtain ⟨i38, t39, h⟩ := h
    refine yr_zast dX10_newNode_79 e37 t39 ?_
    refine xr_iload_n 3 dX10_newNode_80 rfl rfl ?_
    exact xr_retv (by decide) (xRi rfl rfl dX10_newNode_81) h
  · replace h := hf c40
    clear ht hf
    refine ziinc (x3 + 1) dX10_newNode_11 rfl rfl (L1 := [(1, va_rf (some a0)), (1, .int x1), (1, .int x2), (1, .int (x3 + 1))]) (by decide) rfl ?_
    refine xr_goto 2 dX10_newNode_14 (by decide) ?_
    exact h
set_option maxRecDepth 100000 in
set_option maxHeartbeats 4000000 in
theorem bX10_newNode_0 {l : Launch} {g : xG} (a0 : Nat) (x1 : Int32) (x2 : Int32) {M : xM} {Q : Option Value → xM → Prop} (h : xWp l g mX10_newNode 0 0 2 [(1, va_rf (some a0)), (1, .int x1), (1, .int x2), (1, .int 0)] [] (0, 0) M Q) : xWp l g mX10_newNode 0 0 0 [(1, va_rf (some a0)), (1, .int x1), (1, .int x2), (0, .null)] [] (0, 0) M Q := by
  refine xr_iconst 0 dX10_newNode_0 (by decide) ?_
  refine zistore_n 3 dX10_newNode_1 rfl (L1 := [(1, va_rf (some a0)), (1, .int x1), (1, .int x2), (1, .int 0)]) (by decide) rfl ?_
  exact h
theorem dX10_nodes_0 : decode cX10_nodes 0 = .ok (.iconst 0, 1) := by decide +kernel
theorem dX10_nodes_1 : decode cX10_nodes 1 = .ok (.istore_n 1, 1) := by decide +kernel
theorem dX10_nodes_2 : decode cX10_nodes 2 = .ok (.iconst 0, 1) := by decide +kernel
theorem dX10_nodes_3 : decode cX10_nodes 3 = .ok (.istore_n 2, 1) := by decide +kernel
theorem dX10_nodes_4 : decode cX10_nodes 4 = .ok (.iload_n 2, 1) := by decide +kernel
theorem dX10_nodes_5 : decode cX10_nodes 5 = .ok (.sipush 220, 3) := by decide +kernel
theorem dX10_nodes_8 : decode cX10_nodes 8 = .ok (.if_icmp .ge 26, 3) := by decide +kernel
theorem dX10_nodes_11 : decode cX10_nodes 11 = .ok (.iload_n 1, 1) := by decide +kernel
theorem dX10_nodes_12 : decode cX10_nodes 12 = .ok (.aload_n 0, 1) := by decide +kernel
theorem dX10_nodes_13 : decode cX10_nodes 13 = .ok (.getfield 13, 3) := by decide +kernel
theorem dX10_nodes_16 : decode cX10_nodes 16 = .ok (.iload_n 2, 1) := by decide +kernel
theorem dX10_nodes_17 : decode cX10_nodes 17 = .ok (.baload, 1) := by decide +kernel
theorem dX10_nodes_18 : decode cX10_nodes 18 = .ok (.ifCond .eq 7, 3) := by decide +kernel
theorem dX10_nodes_21 : decode cX10_nodes 21 = .ok (.iconst 1, 1) := by decide +kernel
theorem dX10_nodes_22 : decode cX10_nodes 22 = .ok (.goto 4, 3) := by decide +kernel
theorem dX10_nodes_25 : decode cX10_nodes 25 = .ok (.iconst 0, 1) := by decide +kernel
theorem dX10_nodes_26 : decode cX10_nodes 26 = .ok (.iadd, 1) := by decide +kernel
theorem dX10_nodes_27 : decode cX10_nodes 27 = .ok (.istore_n 1, 1) := by decide +kernel
theorem dX10_nodes_28 : decode cX10_nodes 28 = .ok (.iinc 2 1, 3) := by decide +kernel
theorem dX10_nodes_31 : decode cX10_nodes 31 = .ok (.goto (-27), 3) := by decide +kernel
theorem dX10_nodes_34 : decode cX10_nodes 34 = .ok (.iload_n 1, 1) := by decide +kernel
theorem dX10_nodes_35 : decode cX10_nodes 35 = .ok (.ireturn, 1) := by decide +kernel
set_option maxRecDepth 100000 in
set_option maxHeartbeats 4000000 in
theorem bX10_nodes_4 {l : Launch} {g : xG} (a0 : Nat) (x1 : Int32) (x2 : Int32) {M : xM} {Q : Option Value → xM → Prop} (h : ((220 ≤ x2 → (Q (some (.int x1)) M)) ∧ (¬ 220 ≤ x2 → (xat M a0 7 ∧ (∃ a2, (xR M a0 4) = some a2 ∧ ∃ i4, xai M a2 11 x2 i4 ∧ (((xI M a2 i4) = 0 → xWp l g mX10_nodes 0 0 4 [(1, va_rf (some a0)), (1, .int (x1 + 0)), (1, .int (x2 + 1))] [] (0, 0) M Q) ∧ (¬ (xI M a2 i4) = 0 → xWp l g mX10_nodes 0 0 4 [(1, va_rf (some a0)), (1, .int (x1 + 1)), (1, .int (x2 + 1))] [] (0, 0) M Q))))))) : xWp l g mX10_nodes 0 0 4 [(1, va_rf (some a0)), (1, .int x1), (1, .int x2)] [] (0, 0) M Q := by
  refine xr_iload_n 2 dX10_nodes_4 rfl rfl ?_
  refine xr_sipush 220 dX10_nodes_5 (by decide) ?_
  obtain ⟨ht, hf⟩ := h
  refine xr_icmp_ge 34 dX10_nodes_8 (by decide) (fun c7 => ?_) (fun c7 => ?_)
  · replace h := ht c7
    clear ht hf
    refine xr_iload_n 1 dX10_nodes_34 rfl rfl ?_
    exact xr_retv (by decide) (xRi rfl rfl dX10_nodes_35) h
  · replace h := hf c7
    clear ht hf
    refine xr_iload_n 1 dX10_nodes_11 rfl rfl ?_
    refine xr_aload_n 0 dX10_nodes_12 rfl rfl ?_
    obtain ⟨t1, h⟩ := h
    refine yr_getR dX10_nodes_13 fl_RX10_13 rfl t1 ?_
    refine xr_iload_n 2 dX10_nodes_16 rfl rfl ?_
    obtain ⟨a2, e3, h⟩ := h
    obtain ⟨i4, t5, h⟩ := h
    refine yr_zald dX10_nodes_17 e3 t5 ?_
    obtain ⟨ht, hf⟩ := h
    refine xr_if_eq 25 dX10_nodes_18 (by decide) (fun c6 => ?_) (fun c6 => ?_)
    · replace h := ht c6
      clear ht hf
      refine xr_iconst 0 dX10_nodes_25 (by decide) ?_
      refine xr_iadd dX10_nodes_26 ?_
      refine zistore_n 1 dX10_nodes_27 rfl (L1 := [(1, va_rf (some a0)), (1, .int (x1 + 0)), (1, .int x2)]) (by decide) rfl ?_
      refine ziinc (x2 + 1) dX10_nodes_28 rfl rfl (L1 := [(1, va_rf (some a0)), (1, .int (x1 + 0)), (1, .int (x2 + 1))]) (by decide) rfl ?_
      refine xr_goto 4 dX10_nodes_31 (by decide) ?_
      exact h
    · replace h := hf c6
      clear ht hf
      refine xr_iconst 1 dX10_nodes_21 (by decide) ?_
      refine xr_goto 26 dX10_nodes_22 (by decide) ?_
      refine xr_iadd dX10_nodes_26 ?_
      refine zistore_n 1 dX10_nodes_27 rfl (L1 := [(1, va_rf (some a0)), (1, .int (x1 + 1)), (1, .int x2)]) (by decide) rfl ?_
      refine ziinc (x2 + 1) dX10_nodes_28 rfl rfl (L1 := [(1, va_rf (some a0)), (1, .int (x1 + 1)), (1, .int (x2 + 1))]) (by decide) rfl ?_
      refine xr_goto 4 dX10_nodes_31 (by decide) ?_
      exact h
set_option maxRecDepth 100000 in
set_option maxHeartbeats 4000000 in
theorem bX10_nodes_0 {l : Launch} {g : xG} (a0 : Nat) {M : xM} {Q : Option Value → xM → Prop} (h : xWp l g mX10_nodes 0 0 4 [(1, va_rf (some a0)), (1, .int 0), (1, .int 0)] [] (0, 0) M Q) : xWp l g mX10_nodes 0 0 0 [(1, va_rf (some a0)), (0, .null), (0, .null)] [] (0, 0) M Q := by
  refine xr_iconst 0 dX10_nodes_0 (by decide) ?_
  refine zistore_n 1 dX10_nodes_1 rfl (L1 := [(1, va_rf (some a0)), (1, .int 0), (0, .null)]) (by decide) rfl ?_
  refine xr_iconst 0 dX10_nodes_2 (by decide) ?_
  refine zistore_n 2 dX10_nodes_3 rfl (L1 := [(1, va_rf (some a0)), (1, .int 0), (1, .int 0)]) (by decide) rfl ?_
  exact h
theorem dX10_childFrom_0 : decode cX10_childFrom 0 = .ok (.iconst (-1), 1) := by decide +kernel
theorem dX10_childFrom_1 : decode cX10_childFrom 1 = .ok (.istore_n 3, 1) := by decide +kernel
theorem dX10_childFrom_2 : decode cX10_childFrom 2 = .ok (.iconst 0, 1) := by decide +kernel
theorem dX10_childFrom_3 : decode cX10_childFrom 3 = .ok (.istore 4, 2) := by decide +kernel
theorem dX10_childFrom_5 : decode cX10_childFrom 5 = .ok (.iload 4, 2) := by decide +kernel
theorem dX10_childFrom_7 : decode cX10_childFrom 7 = .ok (.sipush 220, 3) := by decide +kernel
theorem dX10_childFrom_10 : decode cX10_childFrom 10 = .ok (.if_icmp .ge 65, 3) := by decide +kernel
theorem dX10_childFrom_13 : decode cX10_childFrom 13 = .ok (.aload_n 0, 1) := by decide +kernel
theorem dX10_childFrom_14 : decode cX10_childFrom 14 = .ok (.getfield 13, 3) := by decide +kernel
theorem dX10_childFrom_17 : decode cX10_childFrom 17 = .ok (.iload 4, 2) := by decide +kernel
theorem dX10_childFrom_19 : decode cX10_childFrom 19 = .ok (.baload, 1) := by decide +kernel
theorem dX10_childFrom_20 : decode cX10_childFrom 20 = .ok (.ifCond .eq 49, 3) := by decide +kernel
theorem dX10_childFrom_23 : decode cX10_childFrom 23 = .ok (.aload_n 0, 1) := by decide +kernel
theorem dX10_childFrom_24 : decode cX10_childFrom 24 = .ok (.getfield 17, 3) := by decide +kernel
theorem dX10_childFrom_27 : decode cX10_childFrom 27 = .ok (.iload 4, 2) := by decide +kernel
theorem dX10_childFrom_29 : decode cX10_childFrom 29 = .ok (.iaload, 1) := by decide +kernel
theorem dX10_childFrom_30 : decode cX10_childFrom 30 = .ok (.iload_n 1, 1) := by decide +kernel
theorem dX10_childFrom_31 : decode cX10_childFrom 31 = .ok (.if_icmp .ne 38, 3) := by decide +kernel
theorem dX10_childFrom_34 : decode cX10_childFrom 34 = .ok (.aload_n 0, 1) := by decide +kernel
theorem dX10_childFrom_35 : decode cX10_childFrom 35 = .ok (.getfield 20, 3) := by decide +kernel
theorem dX10_childFrom_38 : decode cX10_childFrom 38 = .ok (.iload 4, 2) := by decide +kernel
theorem dX10_childFrom_40 : decode cX10_childFrom 40 = .ok (.iaload, 1) := by decide +kernel
theorem dX10_childFrom_41 : decode cX10_childFrom 41 = .ok (.iload_n 2, 1) := by decide +kernel
theorem dX10_childFrom_42 : decode cX10_childFrom 42 = .ok (.if_icmp .lt 27, 3) := by decide +kernel
theorem dX10_childFrom_45 : decode cX10_childFrom 45 = .ok (.iload_n 3, 1) := by decide +kernel
theorem dX10_childFrom_46 : decode cX10_childFrom 46 = .ok (.iconst (-1), 1) := by decide +kernel
theorem dX10_childFrom_47 : decode cX10_childFrom 47 = .ok (.if_icmp .eq 19, 3) := by decide +kernel
theorem dX10_childFrom_50 : decode cX10_childFrom 50 = .ok (.aload_n 0, 1) := by decide +kernel
theorem dX10_childFrom_51 : decode cX10_childFrom 51 = .ok (.getfield 20, 3) := by decide +kernel
theorem dX10_childFrom_54 : decode cX10_childFrom 54 = .ok (.iload 4, 2) := by decide +kernel
theorem dX10_childFrom_56 : decode cX10_childFrom 56 = .ok (.iaload, 1) := by decide +kernel
theorem dX10_childFrom_57 : decode cX10_childFrom 57 = .ok (.aload_n 0, 1) := by decide +kernel
theorem dX10_childFrom_58 : decode cX10_childFrom 58 = .ok (.getfield 20, 3) := by decide +kernel
theorem dX10_childFrom_61 : decode cX10_childFrom 61 = .ok (.iload_n 3, 1) := by decide +kernel
theorem dX10_childFrom_62 : decode cX10_childFrom 62 = .ok (.iaload, 1) := by decide +kernel
theorem dX10_childFrom_63 : decode cX10_childFrom 63 = .ok (.if_icmp .ge 6, 3) := by decide +kernel
theorem dX10_childFrom_66 : decode cX10_childFrom 66 = .ok (.iload 4, 2) := by decide +kernel
theorem dX10_childFrom_68 : decode cX10_childFrom 68 = .ok (.istore_n 3, 1) := by decide +kernel
theorem dX10_childFrom_69 : decode cX10_childFrom 69 = .ok (.iinc 4 1, 3) := by decide +kernel
theorem dX10_childFrom_72 : decode cX10_childFrom 72 = .ok (.goto (-67), 3) := by decide +kernel
theorem dX10_childFrom_75 : decode cX10_childFrom 75 = .ok (.iload_n 3, 1) := by decide +kernel
theorem dX10_childFrom_76 : decode cX10_childFrom 76 = .ok (.ireturn, 1) := by decide +kernel
set_option maxRecDepth 100000 in
set_option maxHeartbeats 4000000 in
theorem bX10_childFrom_5 {l : Launch} {g : xG} (a0 : Nat) (x1 : Int32) (x2 : Int32) (x3 : Int32) (x4 : Int32) {M : xM} {Q : Option Value → xM → Prop} (h : ((220 ≤ x4 → (Q (some (.int x3)) M)) ∧ (¬ 220 ≤ x4 → (xat M a0 7 ∧ (∃ a2, (xR M a0 4) = some a2 ∧ ∃ i4, xai M a2 11 x4 i4 ∧ (((xI M a2 i4) = 0 → xWp l g mX10_childFrom 0 0 5 [(1, va_rf (some a0)), (1, .int x1), (1, .int x2), (1, .int x3), (1, .int (x4 + 1))] [] (0, 0) M Q) ∧ (¬ (xI M a2 i4) = 0 → (∃ a6, (xR M a0 5) = some a6 ∧ ∃ i8, xai M a6 9 x4 i8 ∧ ((¬ (xI M a6 i8) = x1 → xWp l g mX10_childFrom 0 0 5 [(1, va_rf (some a0)), (1, .int x1), (1, .int x2), (1, .int x3), (1, .int (x4 + 1))] [] (0, 0) M Q) ∧ ((xI M a6 i8) = x1 → (∃ a10, (xR M a0 6) = some a10 ∧ ∃ i12, xai M a10 9 x4 i12 ∧ (((xI M a10 i12) < x2 → xWp l g mX10_childFrom 0 0 5 [(1, va_rf (some a0)), (1, .int x1), (1, .int x2), (1, .int x3), (1, .int (x4 + 1))] [] (0, 0) M Q) ∧ (¬ (xI M a10 i12) < x2 → ((x3 = (-1) → xWp l g mX10_childFrom 0 0 5 [(1, va_rf (some a0)), (1, .int x1), (1, .int x2), (1, .int x4), (1, .int (x4 + 1))] [] (0, 0) M Q) ∧ (¬ x3 = (-1) → (∃ i14, xai M a10 9 x4 i14 ∧ (∃ i16, xai M a10 9 x3 i16 ∧ (((xI M a10 i16) ≤ (xI M a10 i14) → xWp l g mX10_childFrom 0 0 5 [(1, va_rf (some a0)), (1, .int x1), (1, .int x2), (1, .int x3), (1, .int (x4 + 1))] [] (0, 0) M Q) ∧ (¬ (xI M a10 i16) ≤ (xI M a10 i14) → xWp l g mX10_childFrom 0 0 5 [(1, va_rf (some a0)), (1, .int x1), (1, .int x2), (1, .int x4), (1, .int (x4 + 1))] [] (0, 0) M Q))))))))))))))))))) : xWp l g mX10_childFrom 0 0 5 [(1, va_rf (some a0)), (1, .int x1), (1, .int x2), (1, .int x3), (1, .int x4)] [] (0, 0) M Q := by
  refine xr_iload dX10_childFrom_5 rfl ?_
  refine xr_sipush 220 dX10_childFrom_7 (by decide) ?_
  obtain ⟨ht, hf⟩ := h
  refine xr_icmp_ge 75 dX10_childFrom_10 (by decide) (fun c23 => ?_) (fun c23 => ?_)
  · replace h := ht c23
    clear ht hf
    refine xr_iload_n 3 dX10_childFrom_75 rfl rfl ?_
    exact xr_retv (by decide) (xRi rfl rfl dX10_childFrom_76) h
  · replace h := hf c23
    clear ht hf
    refine xr_aload_n 0 dX10_childFrom_13 rfl rfl ?_
    obtain ⟨t1, h⟩ := h
    refine yr_getR dX10_childFrom_14 fl_RX10_13 rfl t1 ?_
    refine xr_iload dX10_childFrom_17 rfl ?_
    obtain ⟨a2, e3, h⟩ := h
    obtain ⟨i4, t5, h⟩ := h
    refine yr_zald dX10_childFrom_19 e3 t5 ?_
    obtain ⟨ht, hf⟩ := h
    refine xr_if_eq 69 dX10_childFrom_20 (by decide) (fun c22 => ?_) (fun c22 => ?_)
    · replace h := ht c22
      clear ht hf
      refine ziinc (x4 + 1) dX10_childFrom_69 rfl rfl (L1 := [(1, va_rf (some a0)), (1, .int x1), (1, .int x2), (1, .int x3), (1, .int (x4 + 1))]) (by decide) rfl ?_
      refine xr_goto 5 dX10_childFrom_72 (by decide) ?_
      exact h
    · replace h := hf c22
      clear ht hf
      refine xr_aload_n 0 dX10_childFrom_23 rfl rfl ?_
      refine yr_getR dX10_childFrom_24 fl_RX10_17 rfl t1 ?_
      refine xr_iload dX10_childFrom_27 rfl ?_
      obtain ⟨a6, e7, h⟩ := h
      obtain ⟨i8, t9, h⟩ := h
      refine yr_iald dX10_childFrom_29 e7 t9 ?_
      refine xr_iload_n 1 dX10_childFrom_30 rfl rfl ?_
      obtain ⟨ht, hf⟩ := h
      refine xr_icmp_ne 69 dX10_childFrom_31 (by decide) (fun c21 => ?_) (fun c21 => ?_)
      · replace h := ht c21
        clear ht hf
        refine ziinc (x4 + 1) dX10_childFrom_69 rfl rfl (L1 := [(1, va_rf (some a0)), (1, .int x1), (1, .int x2), (1, .int x3), (1, .int (x4 + 1))]) (by decide) rfl ?_
        refine xr_goto 5 dX10_childFrom_72 (by decide) ?_
        exact h
      · replace h := hf c21
        clear ht hf
        refine xr_aload_n 0 dX10_childFrom_34 rfl rfl ?_
        refine yr_getR dX10_childFrom_35 fl_RX10_20 rfl t1 ?_
        refine xr_iload dX10_childFrom_38 rfl ?_
        obtain ⟨a10, e11, h⟩ := h
        obtain ⟨i12, t13, h⟩ := h
        refine yr_iald dX10_childFrom_40 e11 t13 ?_
        refine xr_iload_n 2 dX10_childFrom_41 rfl rfl ?_
        obtain ⟨ht, hf⟩ := h
        refine xr_icmp_lt 69 dX10_childFrom_42 (by decide) (fun c20 => ?_) (fun c20 => ?_)
        · replace h := ht c20
          clear ht hf
          refine ziinc (x4 + 1) dX10_childFrom_69 rfl rfl (L1 := [(1, va_rf (some a0)), (1, .int x1), (1, .int x2), (1, .int x3), (1, .int (x4 + 1))]) (by decide) rfl ?_
          refine xr_goto 5 dX10_childFrom_72 (by decide) ?_
          exact h
        · replace h := hf c20
          clear ht hf
          refine xr_iload_n 3 dX10_childFrom_45 rfl rfl ?_
          refine xr_iconst (-1) dX10_childFrom_46 (by decide) ?_
          obtain ⟨ht, hf⟩ := h
          refine xr_icmp_eq 66 dX10_childFrom_47 (by decide) (fun c19 => ?_) (fun c19 => ?_)
          · replace h := ht c19
            clear ht hf
            refine xr_iload dX10_childFrom_66 rfl ?_
            refine zistore_n 3 dX10_childFrom_68 rfl (L1 := [(1, va_rf (some a0)), (1, .int x1), (1, .int x2), (1, .int x4), (1, .int x4)]) (by decide) rfl ?_
            refine ziinc (x4 + 1) dX10_childFrom_69 rfl rfl (L1 := [(1, va_rf (some a0)), (1, .int x1), (1, .int x2), (1, .int x4), (1, .int (x4 + 1))]) (by decide) rfl ?_
            refine xr_goto 5 dX10_childFrom_72 (by decide) ?_
            exact h
          · replace h := hf c19
            clear ht hf
            refine xr_aload_n 0 dX10_childFrom_50 rfl rfl ?_
            refine yr_getR dX10_childFrom_51 fl_RX10_20 rfl t1 ?_
            refine xr_iload dX10_childFrom_54 rfl ?_
            obtain ⟨i14, t15, h⟩ := h
            refine yr_iald dX10_childFrom_56 e11 t15 ?_
            refine xr_aload_n 0 dX10_childFrom_57 rfl rfl ?_
            refine yr_getR dX10_childFrom_58 fl_RX10_20 rfl t1 ?_
            refine xr_iload_n 3 dX10_childFrom_61 rfl rfl ?_
            obtain ⟨i16, t17, h⟩ := h
            refine yr_iald dX10_childFrom_62 e11 t17 ?_
            obtain ⟨ht, hf⟩ := h
            refine xr_icmp_ge 69 dX10_childFrom_63 (by decide) (fun c18 => ?_) (fun c18 => ?_)
            · replace h := ht c18
              clear ht hf
              refine ziinc (x4 + 1) dX10_childFrom_69 rfl rfl (L1 := [(1, va_rf (some a0)), (1, .int x1), (1, .int x2), (1, .int x3), (1, .int (x4 + 1))]) (by decide) rfl ?_
              refine xr_goto 5 dX10_childFrom_72 (by decide) ?_
              exact h
            · replace h := hf c18
              clear ht hf
              refine xr_iload dX10_childFrom_66 rfl ?_
              refine zistore_n 3 dX10_childFrom_68 rfl (L1 := [(1, va_rf (some a0)), (1, .int x1), (1, .int x2), (1, .int x4), (1, .int x4)]) (by decide) rfl ?_
              refine ziinc (x4 + 1) dX10_childFrom_69 rfl rfl (L1 := [(1, va_rf (some a0)), (1, .int x1), (1, .int x2), (1, .int x4), (1, .int (x4 + 1))]) (by decide) rfl ?_
              refine xr_goto 5 dX10_childFrom_72 (by decide) ?_
              exact h
set_option maxRecDepth 100000 in
set_option maxHeartbeats 4000000 in
theorem bX10_childFrom_0 {l : Launch} {g : xG} (a0 : Nat) (x1 : Int32) (x2 : Int32) {M : xM} {Q : Option Value → xM → Prop} (h : xWp l g mX10_childFrom 0 0 5 [(1, va_rf (some a0)), (1, .int x1), (1, .int x2), (1, .int (-1)), (1, .int 0)] [] (0, 0) M Q) : xWp l g mX10_childFrom 0 0 0 [(1, va_rf (some a0)), (1, .int x1), (1, .int x2), (0, .null), (0, .null)] [] (0, 0) M Q := by
  refine xr_iconst (-1) dX10_childFrom_0 (by decide) ?_
  refine zistore_n 3 dX10_childFrom_1 rfl (L1 := [(1, va_rf (some a0)), (1, .int x1), (1, .int x2), (1, .int (-1)), (0, .null)]) (by decide) rfl ?_
  refine xr_iconst 0 dX10_childFrom_2 (by decide) ?_
  refine zistore dX10_childFrom_3 (L1 := [(1, va_rf (some a0)), (1, .int x1), (1, .int x2), (1, .int (-1)), (1, .int 0)]) (by decide) rfl ?_
  exact h
theorem dX10_child_0 : decode cX10_child 0 = .ok (.aload_n 0, 1) := by decide +kernel
theorem dX10_child_1 : decode cX10_child 1 = .ok (.iload_n 1, 1) := by decide +kernel
theorem dX10_child_2 : decode cX10_child 2 = .ok (.iload_n 2, 1) := by decide +kernel
theorem dX10_child_3 : decode cX10_child 3 = .ok (.invokevirtual 96, 3) := by decide +kernel
theorem dX10_child_6 : decode cX10_child 6 = .ok (.istore_n 3, 1) := by decide +kernel
theorem dX10_child_7 : decode cX10_child 7 = .ok (.iload_n 3, 1) := by decide +kernel
theorem dX10_child_8 : decode cX10_child 8 = .ok (.iconst (-1), 1) := by decide +kernel
theorem dX10_child_9 : decode cX10_child 9 = .ok (.if_icmp .eq 17, 3) := by decide +kernel
theorem dX10_child_12 : decode cX10_child 12 = .ok (.aload_n 0, 1) := by decide +kernel
theorem dX10_child_13 : decode cX10_child 13 = .ok (.getfield 20, 3) := by decide +kernel
theorem dX10_child_16 : decode cX10_child 16 = .ok (.iload_n 3, 1) := by decide +kernel
theorem dX10_child_17 : decode cX10_child 17 = .ok (.iaload, 1) := by decide +kernel
theorem dX10_child_18 : decode cX10_child 18 = .ok (.iload_n 2, 1) := by decide +kernel
theorem dX10_child_19 : decode cX10_child 19 = .ok (.if_icmp .ne 7, 3) := by decide +kernel
theorem dX10_child_22 : decode cX10_child 22 = .ok (.iload_n 3, 1) := by decide +kernel
theorem dX10_child_23 : decode cX10_child 23 = .ok (.goto 4, 3) := by decide +kernel
theorem dX10_child_26 : decode cX10_child 26 = .ok (.iconst (-1), 1) := by decide +kernel
theorem dX10_child_27 : decode cX10_child 27 = .ok (.ireturn, 1) := by decide +kernel
set_option maxRecDepth 100000 in
set_option maxHeartbeats 4000000 in
theorem bX10_child_0 {l : Launch} {g : xG} (a0 : Nat) (x1 : Int32) (x2 : Int32) {M : xM} {Q : Option Value → xM → Prop} (h : (xat M a0 7 ∧ xSp l g mX10_childFrom 0 0 [va_rf (some a0), .int x1, .int x2] M (fun ρ3 M2 => ∃ v1 : Int32, ρ3 = some (.int v1) ∧ ((v1 = (-1) → (Q (some (.int (-1))) M2)) ∧ (¬ v1 = (-1) → (xat M2 a0 7 ∧ (∃ a7, (xR M2 a0 6) = some a7 ∧ ∃ i9, xai M2 a7 9 v1 i9 ∧ ((¬ (xI M2 a7 i9) = x2 → (Q (some (.int (-1))) M2)) ∧ ((xI M2 a7 i9) = x2 → (Q (some (.int v1)) M2)))))))))) : xWp l g mX10_child 0 0 0 [(1, va_rf (some a0)), (1, .int x1), (1, .int x2), (0, .null)] [] (0, 0) M Q := by
  refine xr_aload_n 0 dX10_child_0 rfl rfl ?_
  refine xr_iload_n 1 dX10_child_1 rfl rfl ?_
  refine xr_iload_n 2 dX10_child_2 rfl rfl ?_
  obtain ⟨t5, h⟩ := h
  refine yr_callV (r := (some a0)) [.int x1, .int x2] dX10_child_3 cv_X10_child_96 rfl t5 rfl (Nat.le_trans wt_0 (by decide)) (by decide) (xSp.mono h ?_)
  clear h
  intro ρ3 M2 h
  obtain ⟨v1, rfl, h⟩ := h
  refine zistore_n 3 dX10_child_6 rfl (L1 := [(1, va_rf (some a0)), (1, .int x1), (1, .int x2), (1, .int v1)]) (by decide) rfl ?_
  refine xr_iload_n 3 dX10_child_7 rfl rfl ?_
  refine xr_iconst (-1) dX10_child_8 (by decide) ?_
  obtain ⟨ht, hf⟩ := h
  refine xr_icmp_eq 26 dX10_child_9 (by decide) (fun c12 => ?_) (fun c12 => ?_)
  · replace h := ht c12
    clear ht hf
    refine xr_iconst (-1) dX10_child_26 (by decide) ?_
    exact xr_retv (by decide) (xRi rfl rfl dX10_child_27) h
  · replace h := hf c12
    clear ht hf
    refine xr_aload_n 0 dX10_child_12 rfl rfl ?_
    obtain ⟨t6, h⟩ := h
    refine yr_getR dX10_child_13 fl_RX10_20 rfl t6 ?_
    refine xr_iload_n 3 dX10_child_16 rfl rfl ?_
    obtain ⟨a7, e8, h⟩ := h
    obtain ⟨i9, t10, h⟩ := h
    refine yr_iald dX10_child_17 e8 t10 ?_
    refine xr_iload_n 2 dX10_child_18 rfl rfl ?_
    obtain ⟨ht, hf⟩ := h
    refine xr_icmp_ne 26 dX10_child_19 (by decide) (fun c11 => ?_) (fun c11 => ?_)
    · replace h := ht c11
      clear ht hf
      refine xr_iconst (-1) dX10_child_26 (by decide) ?_
      exact xr_retv (by decide) (xRi rfl rfl dX10_child_27) h
    · replace h := hf c11
      clear ht hf
      refine xr_iload_n 3 dX10_child_22 rfl rfl ?_
      refine xr_goto 27 dX10_child_23 (by decide) ?_
      exact xr_retv (by decide) (xRi rfl rfl dX10_child_27) h
theorem dX10_children_0 : decode cX10_children 0 = .ok (.iconst 0, 1) := by decide +kernel
theorem dX10_children_1 : decode cX10_children 1 = .ok (.istore_n 2, 1) := by decide +kernel
theorem dX10_children_2 : decode cX10_children 2 = .ok (.iconst 0, 1) := by decide +kernel
theorem dX10_children_3 : decode cX10_children 3 = .ok (.istore_n 3, 1) := by decide +kernel
theorem dX10_children_4 : decode cX10_children 4 = .ok (.iload_n 3, 1) := by decide +kernel
theorem dX10_children_5 : decode cX10_children 5 = .ok (.sipush 220, 3) := by decide +kernel
theorem dX10_children_8 : decode cX10_children 8 = .ok (.if_icmp .ge 36, 3) := by decide +kernel
theorem dX10_children_11 : decode cX10_children 11 = .ok (.iload_n 2, 1) := by decide +kernel
theorem dX10_children_12 : decode cX10_children 12 = .ok (.aload_n 0, 1) := by decide +kernel
theorem dX10_children_13 : decode cX10_children 13 = .ok (.getfield 13, 3) := by decide +kernel
theorem dX10_children_16 : decode cX10_children 16 = .ok (.iload_n 3, 1) := by decide +kernel
theorem dX10_children_17 : decode cX10_children 17 = .ok (.baload, 1) := by decide +kernel
theorem dX10_children_18 : decode cX10_children 18 = .ok (.ifCond .eq 17, 3) := by decide +kernel
theorem dX10_children_21 : decode cX10_children 21 = .ok (.aload_n 0, 1) := by decide +kernel
theorem dX10_children_22 : decode cX10_children 22 = .ok (.getfield 17, 3) := by decide +kernel
theorem dX10_children_25 : decode cX10_children 25 = .ok (.iload_n 3, 1) := by decide +kernel
theorem dX10_children_26 : decode cX10_children 26 = .ok (.iaload, 1) := by decide +kernel
theorem dX10_children_27 : decode cX10_children 27 = .ok (.iload_n 1, 1) := by decide +kernel
theorem dX10_children_28 : decode cX10_children 28 = .ok (.if_icmp .ne 7, 3) := by decide +kernel
theorem dX10_children_31 : decode cX10_children 31 = .ok (.iconst 1, 1) := by decide +kernel
theorem dX10_children_32 : decode cX10_children 32 = .ok (.goto 4, 3) := by decide +kernel
theorem dX10_children_35 : decode cX10_children 35 = .ok (.iconst 0, 1) := by decide +kernel
theorem dX10_children_36 : decode cX10_children 36 = .ok (.iadd, 1) := by decide +kernel
theorem dX10_children_37 : decode cX10_children 37 = .ok (.istore_n 2, 1) := by decide +kernel
theorem dX10_children_38 : decode cX10_children 38 = .ok (.iinc 3 1, 3) := by decide +kernel
theorem dX10_children_41 : decode cX10_children 41 = .ok (.goto (-37), 3) := by decide +kernel
theorem dX10_children_44 : decode cX10_children 44 = .ok (.iload_n 2, 1) := by decide +kernel
theorem dX10_children_45 : decode cX10_children 45 = .ok (.ireturn, 1) := by decide +kernel
set_option maxRecDepth 100000 in
set_option maxHeartbeats 4000000 in
theorem bX10_children_4 {l : Launch} {g : xG} (a0 : Nat) (x1 : Int32) (x2 : Int32) (x3 : Int32) {M : xM} {Q : Option Value → xM → Prop} (h : ((220 ≤ x3 → (Q (some (.int x2)) M)) ∧ (¬ 220 ≤ x3 → (xat M a0 7 ∧ (∃ a2, (xR M a0 4) = some a2 ∧ ∃ i4, xai M a2 11 x3 i4 ∧ (((xI M a2 i4) = 0 → xWp l g mX10_children 0 0 4 [(1, va_rf (some a0)), (1, .int x1), (1, .int (x2 + 0)), (1, .int (x3 + 1))] [] (0, 0) M Q) ∧ (¬ (xI M a2 i4) = 0 → (∃ a6, (xR M a0 5) = some a6 ∧ ∃ i8, xai M a6 9 x3 i8 ∧ ((¬ (xI M a6 i8) = x1 → xWp l g mX10_children 0 0 4 [(1, va_rf (some a0)), (1, .int x1), (1, .int (x2 + 0)), (1, .int (x3 + 1))] [] (0, 0) M Q) ∧ ((xI M a6 i8) = x1 → xWp l g mX10_children 0 0 4 [(1, va_rf (some a0)), (1, .int x1), (1, .int (x2 + 1)), (1, .int (x3 + 1))] [] (0, 0) M Q)))))))))) : xWp l g mX10_children 0 0 4 [(1, va_rf (some a0)), (1, .int x1), (1, .int x2), (1, .int x3)] [] (0, 0) M Q := by
  refine xr_iload_n 3 dX10_children_4 rfl rfl ?_
  refine xr_sipush 220 dX10_children_5 (by decide) ?_
  obtain ⟨ht, hf⟩ := h
  refine xr_icmp_ge 44 dX10_children_8 (by decide) (fun c12 => ?_) (fun c12 => ?_)
  · replace h := ht c12
    clear ht hf
    refine xr_iload_n 2 dX10_children_44 rfl rfl ?_
    exact xr_retv (by decide) (xRi rfl rfl dX10_children_45) h
  · replace h := hf c12
    clear ht hf
    refine xr_iload_n 2 dX10_children_11 rfl rfl ?_
    refine xr_aload_n 0 dX10_children_12 rfl rfl ?_
    obtain ⟨t1, h⟩ := h
    refine yr_getR dX10_children_13 fl_RX10_13 rfl t1 ?_
    refine xr_iload_n 3 dX10_children_16 rfl rfl ?_
    obtain ⟨a2, e3, h⟩ := h
    obtain ⟨i4, t5, h⟩ := h
    refine yr_zald dX10_children_17 e3 t5 ?_
    obtain ⟨ht, hf⟩ := h
    refine xr_if_eq 35 dX10_children_18 (by decide) (fun c11 => ?_) (fun c11 => ?_)
    · replace h := ht c11
      clear ht hf
      refine xr_iconst 0 dX10_children_35 (by decide) ?_
      refine xr_iadd dX10_children_36 ?_
      refine zistore_n 2 dX10_children_37 rfl (L1 := [(1, va_rf (some a0)), (1, .int x1), (1, .int (x2 + 0)), (1, .int x3)]) (by decide) rfl ?_
      refine ziinc (x3 + 1) dX10_children_38 rfl rfl (L1 := [(1, va_rf (some a0)), (1, .int x1), (1, .int (x2 + 0)), (1, .int (x3 + 1))]) (by decide) rfl ?_
      refine xr_goto 4 dX10_children_41 (by decide) ?_
      exact h
    · replace h := hf c11
      clear ht hf
      refine xr_aload_n 0 dX10_children_21 rfl rfl ?_
      refine yr_getR dX10_children_22 fl_RX10_17 rfl t1 ?_
      refine xr_iload_n 3 dX10_children_25 rfl rfl ?_
      obtain ⟨a6, e7, h⟩ := h
      obtain ⟨i8, t9, h⟩ := h
      refine yr_iald dX10_children_26 e7 t9 ?_
      refine xr_iload_n 1 dX10_children_27 rfl rfl ?_
      obtain ⟨ht, hf⟩ := h
      refine xr_icmp_ne 35 dX10_children_28 (by decide) (fun c10 => ?_) (fun c10 => ?_)
      · replace h := ht c10
        clear ht hf
        refine xr_iconst 0 dX10_children_35 (by decide) ?_
        refine xr_iadd dX10_children_36 ?_
        refine zistore_n 2 dX10_children_37 rfl (L1 := [(1, va_rf (some a0)), (1, .int x1), (1, .int (x2 + 0)), (1, .int x3)]) (by decide) rfl ?_
        refine ziinc (x3 + 1) dX10_children_38 rfl rfl (L1 := [(1, va_rf (some a0)), (1, .int x1), (1, .int (x2 + 0)), (1, .int (x3 + 1))]) (by decide) rfl ?_
        refine xr_goto 4 dX10_children_41 (by decide) ?_
        exact h
      · replace h := hf c10
        clear ht hf
        refine xr_iconst 1 dX10_children_31 (by decide) ?_
        refine xr_goto 36 dX10_children_32 (by decide) ?_
        refine xr_iadd dX10_children_36 ?_
        refine zistore_n 2 dX10_children_37 rfl (L1 := [(1, va_rf (some a0)), (1, .int x1), (1, .int (x2 + 1)), (1, .int x3)]) (by decide) rfl ?_
        refine ziinc (x3 + 1) dX10_children_38 rfl rfl (L1 := [(1, va_rf (some a0)), (1, .int x1), (1, .int (x2 + 1)), (1, .int (x3 + 1))]) (by decide) rfl ?_
        refine xr_goto 4 dX10_children_41 (by decide) ?_
        exact h
set_option maxRecDepth 100000 in
set_option maxHeartbeats 4000000 in
theorem bX10_children_0 {l : Launch} {g : xG} (a0 : Nat) (x1 : Int32) {M : xM} {Q : Option Value → xM → Prop} (h : xWp l g mX10_children 0 0 4 [(1, va_rf (some a0)), (1, .int x1), (1, .int 0), (1, .int 0)] [] (0, 0) M Q) : xWp l g mX10_children 0 0 0 [(1, va_rf (some a0)), (1, .int x1), (0, .null), (0, .null)] [] (0, 0) M Q := by
  refine xr_iconst 0 dX10_children_0 (by decide) ?_
  refine zistore_n 2 dX10_children_1 rfl (L1 := [(1, va_rf (some a0)), (1, .int x1), (1, .int 0), (0, .null)]) (by decide) rfl ?_
  refine xr_iconst 0 dX10_children_2 (by decide) ?_
  refine zistore_n 3 dX10_children_3 rfl (L1 := [(1, va_rf (some a0)), (1, .int x1), (1, .int 0), (1, .int 0)]) (by decide) rfl ?_
  exact h
theorem dX10_room_0 : decode cX10_room 0 = .ok (.iload_n 0, 1) := by decide +kernel
theorem dX10_room_1 : decode cX10_room 1 = .ok (.iconst 1, 1) := by decide +kernel
theorem dX10_room_2 : decode cX10_room 2 = .ok (.if_icmp .ne 7, 3) := by decide +kernel
theorem dX10_room_5 : decode cX10_room 5 = .ok (.iconst 4, 1) := by decide +kernel
theorem dX10_room_6 : decode cX10_room 6 = .ok (.goto 26, 3) := by decide +kernel
theorem dX10_room_9 : decode cX10_room 9 = .ok (.iload_n 0, 1) := by decide +kernel
theorem dX10_room_10 : decode cX10_room 10 = .ok (.iconst 2, 1) := by decide +kernel
theorem dX10_room_11 : decode cX10_room 11 = .ok (.if_icmp .ne 8, 3) := by decide +kernel
theorem dX10_room_14 : decode cX10_room 14 = .ok (.bipush 16, 2) := by decide +kernel
theorem dX10_room_16 : decode cX10_room 16 = .ok (.goto 16, 3) := by decide +kernel
theorem dX10_room_19 : decode cX10_room 19 = .ok (.iload_n 0, 1) := by decide +kernel
theorem dX10_room_20 : decode cX10_room 20 = .ok (.iconst 3, 1) := by decide +kernel
theorem dX10_room_21 : decode cX10_room 21 = .ok (.if_icmp .ne 8, 3) := by decide +kernel
theorem dX10_room_24 : decode cX10_room 24 = .ok (.bipush 48, 2) := by decide +kernel
theorem dX10_room_26 : decode cX10_room 26 = .ok (.goto 6, 3) := by decide +kernel
theorem dX10_room_29 : decode cX10_room 29 = .ok (.sipush 256, 3) := by decide +kernel
theorem dX10_room_32 : decode cX10_room 32 = .ok (.ireturn, 1) := by decide +kernel
set_option maxRecDepth 100000 in
set_option maxHeartbeats 4000000 in
theorem bX10_room_0 {l : Launch} {g : xG} (x0 : Int32) {M : xM} {Q : Option Value → xM → Prop} (h : ((¬ x0 = 1 → ((¬ x0 = 2 → ((¬ x0 = 3 → (Q (some (.int 256)) M)) ∧ (x0 = 3 → (Q (some (.int 48)) M)))) ∧ (x0 = 2 → (Q (some (.int 16)) M)))) ∧ (x0 = 1 → (Q (some (.int 4)) M)))) : xWp l g mX10_room 0 0 0 [(1, .int x0)] [] (0, 0) M Q := by
  refine xr_iload_n 0 dX10_room_0 rfl rfl ?_
  refine xr_iconst 1 dX10_room_1 (by decide) ?_
  obtain ⟨ht, hf⟩ := h
  refine xr_icmp_ne 9 dX10_room_2 (by decide) (fun c3 => ?_) (fun c3 => ?_)
  · replace h := ht c3
    clear ht hf
    refine xr_iload_n 0 dX10_room_9 rfl rfl ?_
    refine xr_iconst 2 dX10_room_10 (by decide) ?_
    obtain ⟨ht, hf⟩ := h
    refine xr_icmp_ne 19 dX10_room_11 (by decide) (fun c2 => ?_) (fun c2 => ?_)
    · replace h := ht c2
      clear ht hf
      refine xr_iload_n 0 dX10_room_19 rfl rfl ?_
      refine xr_iconst 3 dX10_room_20 (by decide) ?_
      obtain ⟨ht, hf⟩ := h
      refine xr_icmp_ne 29 dX10_room_21 (by decide) (fun c1 => ?_) (fun c1 => ?_)
      · replace h := ht c1
        clear ht hf
        refine xr_sipush 256 dX10_room_29 (by decide) ?_
        exact xr_retv (by decide) (xRi rfl rfl dX10_room_32) h
      · replace h := hf c1
        clear ht hf
        refine xr_bipush 48 dX10_room_24 (by decide) ?_
        refine xr_goto 32 dX10_room_26 (by decide) ?_
        exact xr_retv (by decide) (xRi rfl rfl dX10_room_32) h
    · replace h := hf c2
      clear ht hf
      refine xr_bipush 16 dX10_room_14 (by decide) ?_
      refine xr_goto 32 dX10_room_16 (by decide) ?_
      exact xr_retv (by decide) (xRi rfl rfl dX10_room_32) h
  · replace h := hf c3
    clear ht hf
    refine xr_iconst 4 dX10_room_5 (by decide) ?_
    refine xr_goto 32 dX10_room_6 (by decide) ?_
    exact xr_retv (by decide) (xRi rfl rfl dX10_room_32) h
theorem dX10_next_0 : decode cX10_next 0 = .ok (.aload_n 0, 1) := by decide +kernel
theorem dX10_next_1 : decode cX10_next 1 = .ok (.iload_n 1, 1) := by decide +kernel
theorem dX10_next_2 : decode cX10_next 2 = .ok (.iconst 0, 1) := by decide +kernel
theorem dX10_next_3 : decode cX10_next 3 = .ok (.invokevirtual 96, 3) := by decide +kernel
theorem dX10_next_6 : decode cX10_next 6 = .ok (.istore_n 2, 1) := by decide +kernel
theorem dX10_next_7 : decode cX10_next 7 = .ok (.iload_n 1, 1) := by decide +kernel
theorem dX10_next_8 : decode cX10_next 8 = .ok (.istore_n 3, 1) := by decide +kernel
theorem dX10_next_9 : decode cX10_next 9 = .ok (.iload_n 2, 1) := by decide +kernel
theorem dX10_next_10 : decode cX10_next 10 = .ok (.iconst (-1), 1) := by decide +kernel
theorem dX10_next_11 : decode cX10_next 11 = .ok (.if_icmp .ne 40, 3) := by decide +kernel
theorem dX10_next_14 : decode cX10_next 14 = .ok (.iload_n 3, 1) := by decide +kernel
theorem dX10_next_15 : decode cX10_next 15 = .ok (.aload_n 0, 1) := by decide +kernel
theorem dX10_next_16 : decode cX10_next 16 = .ok (.getfield 75, 3) := by decide +kernel
theorem dX10_next_19 : decode cX10_next 19 = .ok (.if_icmp .eq 32, 3) := by decide +kernel
theorem dX10_next_22 : decode cX10_next 22 = .ok (.aload_n 0, 1) := by decide +kernel
theorem dX10_next_23 : decode cX10_next 23 = .ok (.aload_n 0, 1) := by decide +kernel
theorem dX10_next_24 : decode cX10_next 24 = .ok (.getfield 17, 3) := by decide +kernel
theorem dX10_next_27 : decode cX10_next 27 = .ok (.iload_n 3, 1) := by decide +kernel
theorem dX10_next_28 : decode cX10_next 28 = .ok (.iaload, 1) := by decide +kernel
theorem dX10_next_29 : decode cX10_next 29 = .ok (.aload_n 0, 1) := by decide +kernel
theorem dX10_next_30 : decode cX10_next 30 = .ok (.getfield 20, 3) := by decide +kernel
theorem dX10_next_33 : decode cX10_next 33 = .ok (.iload_n 3, 1) := by decide +kernel
theorem dX10_next_34 : decode cX10_next 34 = .ok (.iaload, 1) := by decide +kernel
theorem dX10_next_35 : decode cX10_next 35 = .ok (.iconst 1, 1) := by decide +kernel
theorem dX10_next_36 : decode cX10_next 36 = .ok (.iadd, 1) := by decide +kernel
theorem dX10_next_37 : decode cX10_next 37 = .ok (.invokevirtual 96, 3) := by decide +kernel
theorem dX10_next_40 : decode cX10_next 40 = .ok (.istore_n 2, 1) := by decide +kernel
theorem dX10_next_41 : decode cX10_next 41 = .ok (.aload_n 0, 1) := by decide +kernel
theorem dX10_next_42 : decode cX10_next 42 = .ok (.getfield 17, 3) := by decide +kernel
theorem dX10_next_45 : decode cX10_next 45 = .ok (.iload_n 3, 1) := by decide +kernel
theorem dX10_next_46 : decode cX10_next 46 = .ok (.iaload, 1) := by decide +kernel
theorem dX10_next_47 : decode cX10_next 47 = .ok (.istore_n 3, 1) := by decide +kernel
theorem dX10_next_48 : decode cX10_next 48 = .ok (.goto (-39), 3) := by decide +kernel
theorem dX10_next_51 : decode cX10_next 51 = .ok (.iload_n 2, 1) := by decide +kernel
theorem dX10_next_52 : decode cX10_next 52 = .ok (.ireturn, 1) := by decide +kernel
set_option maxRecDepth 100000 in
set_option maxHeartbeats 4000000 in
theorem bX10_next_9 {l : Launch} {g : xG} (a0 : Nat) (x1 : Int32) (x2 : Int32) (x3 : Int32) {M : xM} {Q : Option Value → xM → Prop} (h : ((¬ x2 = (-1) → (Q (some (.int x2)) M)) ∧ (x2 = (-1) → (xat M a0 7 ∧ ((x3 = (xI M a0 14) → (Q (some (.int x2)) M)) ∧ (¬ x3 = (xI M a0 14) → (∃ a2, (xR M a0 5) = some a2 ∧ ∃ i4, xai M a2 9 x3 i4 ∧ (∃ a6, (xR M a0 6) = some a6 ∧ ∃ i8, xai M a6 9 x3 i8 ∧ (xSp l g mX10_childFrom 0 0 [va_rf (some a0), .int (xI M a2 i4), .int ((xI M a6 i8) + 1)] M (fun ρ12 M11 => ∃ v10 : Int32, ρ12 = some (.int v10) ∧ (xat M11 a0 7 ∧ (∃ a15, (xR M11 a0 5) = some a15 ∧ ∃ i17, xai M11 a15 9 x3 i17 ∧ xWp l g mX10_next 0 0 9 [(1, va_rf (some a0)), (1, .int x1), (1, .int v10), (1, .int (xI M11 a15 i17))] [] (0, 0) M11 Q)))))))))))) : xWp l g mX10_next 0 0 9 [(1, va_rf (some a0)), (1, .int x1), (1, .int x2), (1, .int x3)] [] (0, 0) M Q := by
  refine xr_iload_n 2 dX10_next_9 rfl rfl ?_
  refine xr_iconst (-1) dX10_next_10 (by decide) ?_
  obtain ⟨ht, hf⟩ := h
  refine xr_icmp_ne 51 dX10_next_11 (by decide) (fun c20 => ?_) (fun c20 => ?_)
  · replace h := ht c20
    clear ht hf
    refine xr_iload_n 2 dX10_next_51 rfl rfl ?_
    exact xr_retv (by decide) (xRi rfl rfl dX10_next_52) h
  · replace h := hf c20
    clear ht hf
    refine xr_iload_n 3 dX10_next_14 rfl rfl ?_
    refine xr_aload_n 0 dX10_next_15 rfl rfl ?_
    obtain ⟨t1, h⟩ := h
    refine yr_getI dX10_next_16 fl_RX10_75 rfl t1 ?_
    obtain ⟨ht, hf⟩ := h
    refine xr_icmp_eq 51 dX10_next_19 (by decide) (fun c19 => ?_) (fun c19 => ?_)
    · replace h := ht c19
      clear ht hf
      refine xr_iload_n 2 dX10_next_51 rfl rfl ?_
      exact xr_retv (by decide) (xRi rfl rfl dX10_next_52) h
    · replace h := hf c19
      clear ht hf
      refine xr_aload_n 0 dX10_next_22 rfl rfl ?_
      refine xr_aload_n 0 dX10_next_23 rfl rfl ?_
      refine yr_getR dX10_next_24 fl_RX10_17 rfl t1 ?_
      refine xr_iload_n 3 dX10_next_27 rfl rfl ?_
      obtain ⟨a2, e3, h⟩ := h
      obtain ⟨i4, t5, h⟩ := h
      refine yr_iald dX10_next_28 e3 t5 ?_
      refine xr_aload_n 0 dX10_next_29 rfl rfl ?_
      refine yr_getR dX10_next_30 fl_RX10_20 rfl t1 ?_
      refine xr_iload_n 3 dX10_next_33 rfl rfl ?_
      obtain ⟨a6, e7, h⟩ := h
      obtain ⟨i8, t9, h⟩ := h
      refine yr_iald dX10_next_34 e7 t9 ?_
      refine xr_iconst 1 dX10_next_35 (by decide) ?_
      refine xr_iadd dX10_next_36 ?_
      refine yr_callV (r := (some a0)) [.int (xI M a2 i4), .int ((xI M a6 i8) + 1)] dX10_next_37 cv_X10_next_96 rfl t1 rfl (Nat.le_trans wt_0 (by decide)) (by decide) (xSp.mono h ?_)
      clear h
      intro ρ12 M11 h
      obtain ⟨v10, rfl, h⟩ := h
      refine zistore_n 2 dX10_next_40 rfl (L1 := [(1, va_rf (some a0)), (1, .int x1), (1, .int v10), (1, .int x3)]) (by decide) rfl ?_
      refine xr_aload_n 0 dX10_next_41 rfl rfl ?_
      obtain ⟨t14, h⟩ := h
      refine yr_getR dX10_next_42 fl_RX10_17 rfl t14 ?_
      refine xr_iload_n 3 dX10_next_45 rfl rfl ?_
      obtain ⟨a15, e16, h⟩ := h
      obtain ⟨i17, t18, h⟩ := h
      refine yr_iald dX10_next_46 e16 t18 ?_
      refine zistore_n 3 dX10_next_47 rfl (L1 := [(1, va_rf (some a0)), (1, .int x1), (1, .int v10), (1, .int (xI M11 a15 i17))]) (by decide) rfl ?_
      refine xr_goto 9 dX10_next_48 (by decide) ?_
      exact h
set_option maxRecDepth 100000 in
set_option maxHeartbeats 4000000 in
theorem bX10_next_0 {l : Launch} {g : xG} (a0 : Nat) (x1 : Int32) {M : xM} {Q : Option Value → xM → Prop} (h : (xat M a0 7 ∧ xSp l g mX10_childFrom 0 0 [va_rf (some a0), .int x1, .int 0] M (fun ρ3 M2 => ∃ v1 : Int32, ρ3 = some (.int v1) ∧ xWp l g mX10_next 0 0 9 [(1, va_rf (some a0)), (1, .int x1), (1, .int v1), (1, .int x1)] [] (0, 0) M2 Q))) : xWp l g mX10_next 0 0 0 [(1, va_rf (some a0)), (1, .int x1), (0, .null), (0, .null)] [] (0, 0) M Q := by
  refine xr_aload_n 0 dX10_next_0 rfl rfl ?_
  refine xr_iload_n 1 dX10_next_1 rfl rfl ?_
  refine xr_iconst 0 dX10_next_2 (by decide) ?_
  obtain ⟨t5, h⟩ := h
  refine yr_callV (r := (some a0)) [.int x1, .int 0] dX10_next_3 cv_X10_next_96 rfl t5 rfl (Nat.le_trans wt_0 (by decide)) (by decide) (xSp.mono h ?_)
  clear h
  intro ρ3 M2 h
  obtain ⟨v1, rfl, h⟩ := h
  refine zistore_n 2 dX10_next_6 rfl (L1 := [(1, va_rf (some a0)), (1, .int x1), (1, .int v1), (0, .null)]) (by decide) rfl ?_
  refine xr_iload_n 1 dX10_next_7 rfl rfl ?_
  refine zistore_n 3 dX10_next_8 rfl (L1 := [(1, va_rf (some a0)), (1, .int x1), (1, .int v1), (1, .int x1)]) (by decide) rfl ?_
  exact h
theorem dX10_freshen_0 : decode cX10_freshen 0 = .ok (.iload_n 1, 1) := by decide +kernel
theorem dX10_freshen_1 : decode cX10_freshen 1 = .ok (.istore_n 2, 1) := by decide +kernel
theorem dX10_freshen_2 : decode cX10_freshen 2 = .ok (.iload_n 2, 1) := by decide +kernel
theorem dX10_freshen_3 : decode cX10_freshen 3 = .ok (.iconst (-1), 1) := by decide +kernel
theorem dX10_freshen_4 : decode cX10_freshen 4 = .ok (.if_icmp .eq 27, 3) := by decide +kernel
theorem dX10_freshen_7 : decode cX10_freshen 7 = .ok (.aload_n 0, 1) := by decide +kernel
theorem dX10_freshen_8 : decode cX10_freshen 8 = .ok (.getfield 42, 3) := by decide +kernel
theorem dX10_freshen_11 : decode cX10_freshen 11 = .ok (.iload_n 2, 1) := by decide +kernel
theorem dX10_freshen_12 : decode cX10_freshen 12 = .ok (.iconst 1, 1) := by decide +kernel
theorem dX10_freshen_13 : decode cX10_freshen 13 = .ok (.bastore, 1) := by decide +kernel
theorem dX10_freshen_14 : decode cX10_freshen 14 = .ok (.aload_n 0, 1) := by decide +kernel
theorem dX10_freshen_15 : decode cX10_freshen 15 = .ok (.getfield 39, 3) := by decide +kernel
theorem dX10_freshen_18 : decode cX10_freshen 18 = .ok (.iload_n 2, 1) := by decide +kernel
theorem dX10_freshen_19 : decode cX10_freshen 19 = .ok (.iconst 0, 1) := by decide +kernel
theorem dX10_freshen_20 : decode cX10_freshen 20 = .ok (.iastore, 1) := by decide +kernel
theorem dX10_freshen_21 : decode cX10_freshen 21 = .ok (.aload_n 0, 1) := by decide +kernel
theorem dX10_freshen_22 : decode cX10_freshen 22 = .ok (.getfield 17, 3) := by decide +kernel
theorem dX10_freshen_25 : decode cX10_freshen 25 = .ok (.iload_n 2, 1) := by decide +kernel
theorem dX10_freshen_26 : decode cX10_freshen 26 = .ok (.iaload, 1) := by decide +kernel
theorem dX10_freshen_27 : decode cX10_freshen 27 = .ok (.istore_n 2, 1) := by decide +kernel
theorem dX10_freshen_28 : decode cX10_freshen 28 = .ok (.goto (-26), 3) := by decide +kernel
theorem dX10_freshen_31 : decode cX10_freshen 31 = .ok (.return_, 1) := by decide +kernel
set_option maxRecDepth 100000 in
set_option maxHeartbeats 4000000 in
theorem bX10_freshen_2 {l : Launch} {g : xG} (a0 : Nat) (x1 : Int32) (x2 : Int32) {M : xM} {Q : Option Value → xM → Prop} (h : ((x2 = (-1) → (Q none M)) ∧ (¬ x2 = (-1) → (xat M a0 7 ∧ (∃ a2, (xR M a0 13) = some a2 ∧ ∃ i4, xai M a2 11 x2 i4 ∧ (∃ a6, (xR (xsI M a2 i4 ((1 : Int32) &&& 1)) a0 12) = some a6 ∧ ∃ i8, xai (xsI M a2 i4 ((1 : Int32) &&& 1)) a6 9 x2 i8 ∧ (∃ a10, (xR (xsI (xsI M a2 i4 ((1 : Int32) &&& 1)) a6 i8 0) a0 5) = some a10 ∧ ∃ i12, xai (xsI (xsI M a2 i4 ((1 : Int32) &&& 1)) a6 i8 0) a10 9 x2 i12 ∧ xWp l g mX10_freshen 0 0 2 [(1, va_rf (some a0)), (1, .int x1), (1, .int (xI (xsI (xsI M a2 i4 ((1 : Int32) &&& 1)) a6 i8 0) a10 i12))] [] (0, 0) (xsI (xsI M a2 i4 ((1 : Int32) &&& 1)) a6 i8 0) Q))))))) : xWp l g mX10_freshen 0 0 2 [(1, va_rf (some a0)), (1, .int x1), (1, .int x2)] [] (0, 0) M Q := by
  refine xr_iload_n 2 dX10_freshen_2 rfl rfl ?_
  refine xr_iconst (-1) dX10_freshen_3 (by decide) ?_
  obtain ⟨ht, hf⟩ := h
  refine xr_icmp_eq 31 dX10_freshen_4 (by decide) (fun c14 => ?_) (fun c14 => ?_)
  · replace h := ht c14
    clear ht hf
    exact xr_ret (by decide) (xRv rfl dX10_freshen_31) h
  · replace h := hf c14
    clear ht hf
    refine xr_aload_n 0 dX10_freshen_7 rfl rfl ?_
    obtain ⟨t1, h⟩ := h
    refine yr_getR dX10_freshen_8 fl_RX10_42 rfl t1 ?_
    refine xr_iload_n 2 dX10_freshen_11 rfl rfl ?_
    refine xr_iconst 1 dX10_freshen_12 (by decide) ?_
    obtain ⟨a2, e3, h⟩ := h
    obtain ⟨i4, t5, h⟩ := h
    refine yr_zast dX10_freshen_13 e3 t5 ?_
    refine xr_aload_n 0 dX10_freshen_14 rfl rfl ?_
    refine yr_getR dX10_freshen_15 fl_RX10_39 rfl t1 ?_
    refine xr_iload_n 2 dX10_freshen_18 rfl rfl ?_
    refine xr_iconst 0 dX10_freshen_19 (by decide) ?_
    obtain ⟨a6, e7, h⟩ := h
    obtain ⟨i8, t9, h⟩ := h
    refine yr_iast dX10_freshen_20 e7 t9 ?_
    refine xr_aload_n 0 dX10_freshen_21 rfl rfl ?_
    refine yr_getR dX10_freshen_22 fl_RX10_17 rfl t1 ?_
    refine xr_iload_n 2 dX10_freshen_25 rfl rfl ?_
    obtain ⟨a10, e11, h⟩ := h
    obtain ⟨i12, t13, h⟩ := h
    refine yr_iald dX10_freshen_26 e11 t13 ?_
    refine zistore_n 2 dX10_freshen_27 rfl (L1 := [(1, va_rf (some a0)), (1, .int x1), (1, .int (xI (xsI (xsI M a2 i4 ((1 : Int32) &&& 1)) a6 i8 0) a10 i12))]) (by decide) rfl ?_
    refine xr_goto 2 dX10_freshen_28 (by decide) ?_
    exact h
set_option maxRecDepth 100000 in
set_option maxHeartbeats 4000000 in
theorem bX10_freshen_0 {l : Launch} {g : xG} (a0 : Nat) (x1 : Int32) {M : xM} {Q : Option Value → xM → Prop} (h : xWp l g mX10_freshen 0 0 2 [(1, va_rf (some a0)), (1, .int x1), (1, .int x1)] [] (0, 0) M Q) : xWp l g mX10_freshen 0 0 0 [(1, va_rf (some a0)), (1, .int x1), (0, .null)] [] (0, 0) M Q := by
  refine xr_iload_n 1 dX10_freshen_0 rfl rfl ?_
  refine zistore_n 2 dX10_freshen_1 rfl (L1 := [(1, va_rf (some a0)), (1, .int x1), (1, .int x1)]) (by decide) rfl ?_
  exact h
theorem dX10_lead_0 : decode cX10_lead 0 = .ok (.iconst 0, 1) := by decide +kernel
theorem dX10_lead_1 : decode cX10_lead 1 = .ok (.istore_n 2, 1) := by decide +kernel
theorem dX10_lead_2 : decode cX10_lead 2 = .ok (.iload_n 1, 1) := by decide +kernel
theorem dX10_lead_3 : decode cX10_lead 3 = .ok (.istore_n 3, 1) := by decide +kernel
theorem dX10_lead_4 : decode cX10_lead 4 = .ok (.iload_n 3, 1) := by decide +kernel
theorem dX10_lead_5 : decode cX10_lead 5 = .ok (.aload_n 0, 1) := by decide +kernel
theorem dX10_lead_6 : decode cX10_lead 6 = .ok (.getfield 75, 3) := by decide +kernel
theorem dX10_lead_9 : decode cX10_lead 9 = .ok (.if_icmp .eq 29, 3) := by decide +kernel
theorem dX10_lead_12 : decode cX10_lead 12 = .ok (.iload_n 2, 1) := by decide +kernel
theorem dX10_lead_13 : decode cX10_lead 13 = .ok (.iconst 1, 1) := by decide +kernel
theorem dX10_lead_14 : decode cX10_lead 14 = .ok (.aload_n 0, 1) := by decide +kernel
theorem dX10_lead_15 : decode cX10_lead 15 = .ok (.getfield 26, 3) := by decide +kernel
theorem dX10_lead_18 : decode cX10_lead 18 = .ok (.aload_n 0, 1) := by decide +kernel
theorem dX10_lead_19 : decode cX10_lead 19 = .ok (.getfield 17, 3) := by decide +kernel
theorem dX10_lead_22 : decode cX10_lead 22 = .ok (.iload_n 3, 1) := by decide +kernel
theorem dX10_lead_23 : decode cX10_lead 23 = .ok (.iaload, 1) := by decide +kernel
theorem dX10_lead_24 : decode cX10_lead 24 = .ok (.iaload, 1) := by decide +kernel
theorem dX10_lead_25 : decode cX10_lead 25 = .ok (.iadd, 1) := by decide +kernel
theorem dX10_lead_26 : decode cX10_lead 26 = .ok (.iadd, 1) := by decide +kernel
theorem dX10_lead_27 : decode cX10_lead 27 = .ok (.istore_n 2, 1) := by decide +kernel
theorem dX10_lead_28 : decode cX10_lead 28 = .ok (.aload_n 0, 1) := by decide +kernel
theorem dX10_lead_29 : decode cX10_lead 29 = .ok (.getfield 17, 3) := by decide +kernel
theorem dX10_lead_32 : decode cX10_lead 32 = .ok (.iload_n 3, 1) := by decide +kernel
theorem dX10_lead_33 : decode cX10_lead 33 = .ok (.iaload, 1) := by decide +kernel
theorem dX10_lead_34 : decode cX10_lead 34 = .ok (.istore_n 3, 1) := by decide +kernel
theorem dX10_lead_35 : decode cX10_lead 35 = .ok (.goto (-31), 3) := by decide +kernel
theorem dX10_lead_38 : decode cX10_lead 38 = .ok (.iload_n 2, 1) := by decide +kernel
theorem dX10_lead_39 : decode cX10_lead 39 = .ok (.ireturn, 1) := by decide +kernel
set_option maxRecDepth 100000 in
set_option maxHeartbeats 4000000 in
theorem bX10_lead_4 {l : Launch} {g : xG} (a0 : Nat) (x1 : Int32) (x2 : Int32) (x3 : Int32) {M : xM} {Q : Option Value → xM → Prop} (h : (xat M a0 7 ∧ ((x3 = (xI M a0 14) → (Q (some (.int x2)) M)) ∧ (¬ x3 = (xI M a0 14) → (∃ a2, (xR M a0 5) = some a2 ∧ ∃ i4, xai M a2 9 x3 i4 ∧ (∃ a6, (xR M a0 8) = some a6 ∧ ∃ i8, xai M a6 9 (xI M a2 i4) i8 ∧ (∃ i10, xai M a2 9 x3 i10 ∧ xWp l g mX10_lead 0 0 4 [(1, va_rf (some a0)), (1, .int x1), (1, .int (x2 + (1 + (xI M a6 i8)))), (1, .int (xI M a2 i10))] [] (0, 0) M Q))))))) : xWp l g mX10_lead 0 0 4 [(1, va_rf (some a0)), (1, .int x1), (1, .int x2), (1, .int x3)] [] (0, 0) M Q := by
  refine xr_iload_n 3 dX10_lead_4 rfl rfl ?_
  refine xr_aload_n 0 dX10_lead_5 rfl rfl ?_
  obtain ⟨t1, h⟩ := h
  refine yr_getI dX10_lead_6 fl_RX10_75 rfl t1 ?_
  obtain ⟨ht, hf⟩ := h
  refine xr_icmp_eq 38 dX10_lead_9 (by decide) (fun c12 => ?_) (fun c12 => ?_)
  · replace h := ht c12
    clear ht hf
    refine xr_iload_n 2 dX10_lead_38 rfl rfl ?_
    exact xr_retv (by decide) (xRi rfl rfl dX10_lead_39) h
  · replace h := hf c12
    clear ht hf
    refine xr_iload_n 2 dX10_lead_12 rfl rfl ?_
    refine xr_iconst 1 dX10_lead_13 (by decide) ?_
    refine xr_aload_n 0 dX10_lead_14 rfl rfl ?_
    refine yr_getR dX10_lead_15 fl_RX10_26 rfl t1 ?_
    refine xr_aload_n 0 dX10_lead_18 rfl rfl ?_
    refine yr_getR dX10_lead_19 fl_RX10_17 rfl t1 ?_
    refine xr_iload_n 3 dX10_lead_22 rfl rfl ?_
    obtain ⟨a2, e3, h⟩ := h
    obtain ⟨i4, t5, h⟩ := h
    refine yr_iald dX10_lead_23 e3 t5 ?_
    obtain ⟨a6, e7, h⟩ := h
    obtain ⟨i8, t9, h⟩ := h
    refine yr_iald dX10_lead_24 e7 t9 ?_
    refine xr_iadd dX10_lead_25 ?_
    refine xr_iadd dX10_lead_26 ?_
    refine zistore_n 2 dX10_lead_27 rfl (L1 := [(1, va_rf (some a0)), (1, .int x1), (1, .int (x2 + (1 + (xI M a6 i8)))), (1, .int x3)]) (by decide) rfl ?_
    refine xr_aload_n 0 dX10_lead_28 rfl rfl ?_
    refine yr_getR dX10_lead_29 fl_RX10_17 rfl t1 ?_
    refine xr_iload_n 3 dX10_lead_32 rfl rfl ?_
    obtain ⟨i10, t11, h⟩ := h
    refine yr_iald dX10_lead_33 e3 t11 ?_
    refine zistore_n 3 dX10_lead_34 rfl (L1 := [(1, va_rf (some a0)), (1, .int x1), (1, .int (x2 + (1 + (xI M a6 i8)))), (1, .int (xI M a2 i10))]) (by decide) rfl ?_
    refine xr_goto 4 dX10_lead_35 (by decide) ?_
    exact h
set_option maxRecDepth 100000 in
set_option maxHeartbeats 4000000 in
theorem bX10_lead_0 {l : Launch} {g : xG} (a0 : Nat) (x1 : Int32) {M : xM} {Q : Option Value → xM → Prop} (h : xWp l g mX10_lead 0 0 4 [(1, va_rf (some a0)), (1, .int x1), (1, .int 0), (1, .int x1)] [] (0, 0) M Q) : xWp l g mX10_lead 0 0 0 [(1, va_rf (some a0)), (1, .int x1), (0, .null), (0, .null)] [] (0, 0) M Q := by
  refine xr_iconst 0 dX10_lead_0 (by decide) ?_
  refine zistore_n 2 dX10_lead_1 rfl (L1 := [(1, va_rf (some a0)), (1, .int x1), (1, .int 0), (0, .null)]) (by decide) rfl ?_
  refine xr_iload_n 1 dX10_lead_2 rfl rfl ?_
  refine zistore_n 3 dX10_lead_3 rfl (L1 := [(1, va_rf (some a0)), (1, .int x1), (1, .int 0), (1, .int x1)]) (by decide) rfl ?_
  exact h
theorem dX10_seek_0 : decode cX10_seek 0 = .ok (.aload_n 0, 1) := by decide +kernel
theorem dX10_seek_1 : decode cX10_seek 1 = .ok (.aload_n 0, 1) := by decide +kernel
theorem dX10_seek_2 : decode cX10_seek 2 = .ok (.getfield 75, 3) := by decide +kernel
theorem dX10_seek_5 : decode cX10_seek 5 = .ok (.putfield 99, 3) := by decide +kernel
theorem dX10_seek_8 : decode cX10_seek 8 = .ok (.aload_n 0, 1) := by decide +kernel
theorem dX10_seek_9 : decode cX10_seek 9 = .ok (.iconst 0, 1) := by decide +kernel
theorem dX10_seek_10 : decode cX10_seek 10 = .ok (.putfield 102, 3) := by decide +kernel
theorem dX10_seek_13 : decode cX10_seek 13 = .ok (.iconst 1, 1) := by decide +kernel
theorem dX10_seek_14 : decode cX10_seek 14 = .ok (.istore_n 1, 1) := by decide +kernel
theorem dX10_seek_15 : decode cX10_seek 15 = .ok (.iload_n 1, 1) := by decide +kernel
theorem dX10_seek_16 : decode cX10_seek 16 = .ok (.ifCond .eq 169, 3) := by decide +kernel
theorem dX10_seek_19 : decode cX10_seek 19 = .ok (.aload_n 0, 1) := by decide +kernel
theorem dX10_seek_20 : decode cX10_seek 20 = .ok (.iconst 0, 1) := by decide +kernel
theorem dX10_seek_21 : decode cX10_seek 21 = .ok (.putfield 105, 3) := by decide +kernel
theorem dX10_seek_24 : decode cX10_seek 24 = .ok (.aload_n 0, 1) := by decide +kernel
theorem dX10_seek_25 : decode cX10_seek 25 = .ok (.getfield 105, 3) := by decide +kernel
theorem dX10_seek_28 : decode cX10_seek 28 = .ok (.aload_n 0, 1) := by decide +kernel
theorem dX10_seek_29 : decode cX10_seek 29 = .ok (.getfield 26, 3) := by decide +kernel
theorem dX10_seek_32 : decode cX10_seek 32 = .ok (.aload_n 0, 1) := by decide +kernel
theorem dX10_seek_33 : decode cX10_seek 33 = .ok (.getfield 99, 3) := by decide +kernel
theorem dX10_seek_36 : decode cX10_seek 36 = .ok (.iaload, 1) := by decide +kernel
theorem dX10_seek_37 : decode cX10_seek 37 = .ok (.if_icmp .ge 66, 3) := by decide +kernel
theorem dX10_seek_40 : decode cX10_seek 40 = .ok (.aload_n 0, 1) := by decide +kernel
theorem dX10_seek_41 : decode cX10_seek 41 = .ok (.getfield 102, 3) := by decide +kernel
theorem dX10_seek_44 : decode cX10_seek 44 = .ok (.aload_n 0, 1) := by decide +kernel
theorem dX10_seek_45 : decode cX10_seek 45 = .ok (.getfield 91, 3) := by decide +kernel
theorem dX10_seek_48 : decode cX10_seek 48 = .ok (.if_icmp .ge 55, 3) := by decide +kernel
theorem dX10_seek_51 : decode cX10_seek 51 = .ok (.aload_n 0, 1) := by decide +kernel
theorem dX10_seek_52 : decode cX10_seek 52 = .ok (.getfield 23, 3) := by decide +kernel
theorem dX10_seek_55 : decode cX10_seek 55 = .ok (.bipush 12, 2) := by decide +kernel
theorem dX10_seek_57 : decode cX10_seek 57 = .ok (.aload_n 0, 1) := by decide +kernel
theorem dX10_seek_58 : decode cX10_seek 58 = .ok (.getfield 99, 3) := by decide +kernel
theorem dX10_seek_61 : decode cX10_seek 61 = .ok (.imul, 1) := by decide +kernel
theorem dX10_seek_62 : decode cX10_seek 62 = .ok (.aload_n 0, 1) := by decide +kernel
theorem dX10_seek_63 : decode cX10_seek 63 = .ok (.getfield 105, 3) := by decide +kernel
theorem dX10_seek_66 : decode cX10_seek 66 = .ok (.iadd, 1) := by decide +kernel
theorem dX10_seek_67 : decode cX10_seek 67 = .ok (.iaload, 1) := by decide +kernel
theorem dX10_seek_68 : decode cX10_seek 68 = .ok (.aload_n 0, 1) := by decide +kernel
theorem dX10_seek_69 : decode cX10_seek 69 = .ok (.getfield 7, 3) := by decide +kernel
theorem dX10_seek_72 : decode cX10_seek 72 = .ok (.aload_n 0, 1) := by decide +kernel
theorem dX10_seek_73 : decode cX10_seek 73 = .ok (.getfield 102, 3) := by decide +kernel
theorem dX10_seek_76 : decode cX10_seek 76 = .ok (.iaload, 1) := by decide +kernel
theorem dX10_seek_77 : decode cX10_seek 77 = .ok (.if_icmp .ne 26, 3) := by decide +kernel
theorem dX10_seek_80 : decode cX10_seek 80 = .ok (.aload_n 0, 1) := by decide +kernel
theorem dX10_seek_81 : decode cX10_seek 81 = .ok (.dup, 1) := by decide +kernel
theorem dX10_seek_82 : decode cX10_seek 82 = .ok (.getfield 105, 3) := by decide +kernel
theorem dX10_seek_85 : decode cX10_seek 85 = .ok (.iconst 1, 1) := by decide +kernel
theorem dX10_seek_86 : decode cX10_seek 86 = .ok (.iadd, 1) := by decide +kernel
theorem dX10_seek_87 : decode cX10_seek 87 = .ok (.putfield 105, 3) := by decide +kernel
theorem dX10_seek_90 : decode cX10_seek 90 = .ok (.aload_n 0, 1) := by decide +kernel
theorem dX10_seek_91 : decode cX10_seek 91 = .ok (.dup, 1) := by decide +kernel
theorem dX10_seek_92 : decode cX10_seek 92 = .ok (.getfield 102, 3) := by decide +kernel
theorem dX10_seek_95 : decode cX10_seek 95 = .ok (.iconst 1, 1) := by decide +kernel
theorem dX10_seek_96 : decode cX10_seek 96 = .ok (.iadd, 1) := by decide +kernel
theorem dX10_seek_97 : decode cX10_seek 97 = .ok (.putfield 102, 3) := by decide +kernel
theorem dX10_seek_100 : decode cX10_seek 100 = .ok (.goto (-76), 3) := by decide +kernel
theorem dX10_seek_103 : decode cX10_seek 103 = .ok (.aload_n 0, 1) := by decide +kernel
theorem dX10_seek_104 : decode cX10_seek 104 = .ok (.getfield 105, 3) := by decide +kernel
theorem dX10_seek_107 : decode cX10_seek 107 = .ok (.aload_n 0, 1) := by decide +kernel
theorem dX10_seek_108 : decode cX10_seek 108 = .ok (.getfield 26, 3) := by decide +kernel
theorem dX10_seek_111 : decode cX10_seek 111 = .ok (.aload_n 0, 1) := by decide +kernel
theorem dX10_seek_112 : decode cX10_seek 112 = .ok (.getfield 99, 3) := by decide +kernel
theorem dX10_seek_115 : decode cX10_seek 115 = .ok (.iaload, 1) := by decide +kernel
theorem dX10_seek_116 : decode cX10_seek 116 = .ok (.if_icmp .ne 34, 3) := by decide +kernel
theorem dX10_seek_119 : decode cX10_seek 119 = .ok (.aload_n 0, 1) := by decide +kernel
theorem dX10_seek_120 : decode cX10_seek 120 = .ok (.getfield 102, 3) := by decide +kernel
theorem dX10_seek_123 : decode cX10_seek 123 = .ok (.aload_n 0, 1) := by decide +kernel
theorem dX10_seek_124 : decode cX10_seek 124 = .ok (.getfield 91, 3) := by decide +kernel
theorem dX10_seek_127 : decode cX10_seek 127 = .ok (.if_icmp .ge 23, 3) := by decide +kernel
theorem dX10_seek_130 : decode cX10_seek 130 = .ok (.aload_n 0, 1) := by decide +kernel
theorem dX10_seek_131 : decode cX10_seek 131 = .ok (.aload_n 0, 1) := by decide +kernel
theorem dX10_seek_132 : decode cX10_seek 132 = .ok (.getfield 99, 3) := by decide +kernel
theorem dX10_seek_135 : decode cX10_seek 135 = .ok (.aload_n 0, 1) := by decide +kernel
theorem dX10_seek_136 : decode cX10_seek 136 = .ok (.getfield 7, 3) := by decide +kernel
theorem dX10_seek_139 : decode cX10_seek 139 = .ok (.aload_n 0, 1) := by decide +kernel
theorem dX10_seek_140 : decode cX10_seek 140 = .ok (.getfield 102, 3) := by decide +kernel
theorem dX10_seek_143 : decode cX10_seek 143 = .ok (.iaload, 1) := by decide +kernel
theorem dX10_seek_144 : decode cX10_seek 144 = .ok (.invokevirtual 108, 3) := by decide +kernel
theorem dX10_seek_147 : decode cX10_seek 147 = .ok (.goto 4, 3) := by decide +kernel
theorem dX10_seek_150 : decode cX10_seek 150 = .ok (.iconst (-1), 1) := by decide +kernel
theorem dX10_seek_151 : decode cX10_seek 151 = .ok (.istore_n 2, 1) := by decide +kernel
theorem dX10_seek_152 : decode cX10_seek 152 = .ok (.iload_n 2, 1) := by decide +kernel
theorem dX10_seek_153 : decode cX10_seek 153 = .ok (.iconst (-1), 1) := by decide +kernel
theorem dX10_seek_154 : decode cX10_seek 154 = .ok (.if_icmp .eq 7, 3) := by decide +kernel
theorem dX10_seek_157 : decode cX10_seek 157 = .ok (.iconst 1, 1) := by decide +kernel
theorem dX10_seek_158 : decode cX10_seek 158 = .ok (.goto 4, 3) := by decide +kernel
theorem dX10_seek_161 : decode cX10_seek 161 = .ok (.iconst 0, 1) := by decide +kernel
theorem dX10_seek_162 : decode cX10_seek 162 = .ok (.istore_n 1, 1) := by decide +kernel
theorem dX10_seek_163 : decode cX10_seek 163 = .ok (.iload_n 1, 1) := by decide +kernel
theorem dX10_seek_164 : decode cX10_seek 164 = .ok (.ifCond .eq 18, 3) := by decide +kernel
theorem dX10_seek_167 : decode cX10_seek 167 = .ok (.aload_n 0, 1) := by decide +kernel
theorem dX10_seek_168 : decode cX10_seek 168 = .ok (.iload_n 2, 1) := by decide +kernel
theorem dX10_seek_169 : decode cX10_seek 169 = .ok (.putfield 99, 3) := by decide +kernel
theorem dX10_seek_172 : decode cX10_seek 172 = .ok (.aload_n 0, 1) := by decide +kernel
theorem dX10_seek_173 : decode cX10_seek 173 = .ok (.dup, 1) := by decide +kernel
theorem dX10_seek_174 : decode cX10_seek 174 = .ok (.getfield 102, 3) := by decide +kernel
theorem dX10_seek_177 : decode cX10_seek 177 = .ok (.iconst 1, 1) := by decide +kernel
theorem dX10_seek_178 : decode cX10_seek 178 = .ok (.iadd, 1) := by decide +kernel
theorem dX10_seek_179 : decode cX10_seek 179 = .ok (.putfield 102, 3) := by decide +kernel
theorem dX10_seek_182 : decode cX10_seek 182 = .ok (.goto (-167), 3) := by decide +kernel
theorem dX10_seek_185 : decode cX10_seek 185 = .ok (.return_, 1) := by decide +kernel
set_option maxRecDepth 100000 in
set_option maxHeartbeats 4000000 in
theorem bX10_seek_151 {l : Launch} {g : xG} (a0 : Nat) (x1 : Int32) (w2 : Value) (sx0 : Int32) {M : xM} {Q : Option Value → xM → Prop} (h : ((sx0 = (-1) → (((0 : Int32) = 0 → xWp l g mX10_seek 0 0 15 [(1, va_rf (some a0)), (1, .int 0), (1, .int sx0)] [] (0, 0) M Q) ∧ (¬ (0 : Int32) = 0 → (xat M a0 7 ∧ xWp l g mX10_seek 0 0 15 [(1, va_rf (some a0)), (1, .int 0), (1, .int sx0)] [] (0, 0) (xsI (xsI M a0 20 sx0) a0 22 ((xI (xsI M a0 20 sx0) a0 22) + 1)) Q)))) ∧ (¬ sx0 = (-1) → (((1 : Int32) = 0 → xWp l g mX10_seek 0 0 15 [(1, va_rf (some a0)), (1, .int 1), (1, .int sx0)] [] (0, 0) M Q) ∧ (¬ (1 : Int32) = 0 → (xat M a0 7 ∧ xWp l g mX10_seek 0 0 15 [(1, va_rf (some a0)), (1, .int 1), (1, .int sx0)] [] (0, 0) (xsI (xsI M a0 20 sx0) a0 22 ((xI (xsI M a0 20 sx0) a0 22) + 1)) Q)))))) : xWp l g mX10_seek 0 0 151 [(1, va_rf (some a0)), (1, .int x1), (0, w2)] [.int sx0] (0, 0) M Q := by
  refine zistore_n 2 dX10_seek_151 rfl (L1 := [(1, va_rf (some a0)), (1, .int x1), (1, .int sx0)]) (by decide) rfl ?_
  refine xr_iload_n 2 dX10_seek_152 rfl rfl ?_
  refine xr_iconst (-1) dX10_seek_153 (by decide) ?_
  obtain ⟨ht, hf⟩ := h
  refine xr_icmp_eq 161 dX10_seek_154 (by decide) (fun c5 => ?_) (fun c5 => ?_)
  · replace h := ht c5
    clear ht hf
    refine xr_iconst 0 dX10_seek_161 (by decide) ?_
    refine zistore_n 1 dX10_seek_162 rfl (L1 := [(1, va_rf (some a0)), (1, .int 0), (1, .int sx0)]) (by decide) rfl ?_
    refine xr_iload_n 1 dX10_seek_163 rfl rfl ?_
    obtain ⟨ht, hf⟩ := h
    refine xr_if_eq 182 dX10_seek_164 (by decide) (fun c2 => ?_) (fun c2 => ?_)
    · replace h := ht c2
      clear ht hf
      refine xr_goto 15 dX10_seek_182 (by decide) ?_
      exact h
    · replace h := hf c2
      clear ht hf
      refine xr_aload_n 0 dX10_seek_167 rfl rfl ?_
      refine xr_iload_n 2 dX10_seek_168 rfl rfl ?_
      obtain ⟨t1, h⟩ := h
      refine yr_putI dX10_seek_169 fp_RX10_99 rfl t1 ?_
      refine xr_aload_n 0 dX10_seek_172 rfl rfl ?_
      refine xr_dup dX10_seek_173 (va_rf_cat _) ?_
      refine yr_getI dX10_seek_174 fl_RX10_102 rfl t1 ?_
      refine xr_iconst 1 dX10_seek_177 (by decide) ?_
      refine xr_iadd dX10_seek_178 ?_
      refine yr_putI dX10_seek_179 fp_RX10_102 rfl t1 ?_
      refine xr_goto 15 dX10_seek_182 (by decide) ?_
      exact h
  · replace h := hf c5
    clear ht hf
    refine xr_iconst 1 dX10_seek_157 (by decide) ?_
    refine xr_goto 162 dX10_seek_158 (by decide) ?_
    refine zistore_n 1 dX10_seek_162 rfl (L1 := [(1, va_rf (some a0)), (1, .int 1), (1, .int sx0)]) (by decide) rfl ?_
    refine xr_iload_n 1 dX10_seek_163 rfl rfl ?_
    obtain ⟨ht, hf⟩ := h
    refine xr_if_eq 182 dX10_seek_164 (by decide) (fun c4 => ?_) (fun c4 => ?_)
    · replace h := ht c4
      clear ht hf
      refine xr_goto 15 dX10_seek_182 (by decide) ?_
      exact h
    · replace h := hf c4
      clear ht hf
      refine xr_aload_n 0 dX10_seek_167 rfl rfl ?_
      refine xr_iload_n 2 dX10_seek_168 rfl rfl ?_
      obtain ⟨t3, h⟩ := h
      refine yr_putI dX10_seek_169 fp_RX10_99 rfl t3 ?_
      refine xr_aload_n 0 dX10_seek_172 rfl rfl ?_
      refine xr_dup dX10_seek_173 (va_rf_cat _) ?_
      refine yr_getI dX10_seek_174 fl_RX10_102 rfl t3 ?_
      refine xr_iconst 1 dX10_seek_177 (by decide) ?_
      refine xr_iadd dX10_seek_178 ?_
      refine yr_putI dX10_seek_179 fp_RX10_102 rfl t3 ?_
      refine xr_goto 15 dX10_seek_182 (by decide) ?_
      exact h
set_option maxRecDepth 100000 in
set_option maxHeartbeats 4000000 in
theorem bX10_seek_103 {l : Launch} {g : xG} (a0 : Nat) (x1 : Int32) (w2 : Value) {M : xM} {Q : Option Value → xM → Prop} (h : (xat M a0 7 ∧ (∃ a2, (xR M a0 8) = some a2 ∧ ∃ i4, xai M a2 9 (xI M a0 20) i4 ∧ ((¬ (xI M a0 21) = (xI M a2 i4) → xWp l g mX10_seek 0 0 151 [(1, va_rf (some a0)), (1, .int x1), (0, w2)] [.int (-1)] (0, 0) M Q) ∧ ((xI M a0 21) = (xI M a2 i4) → (((xI M a0 2) ≤ (xI M a0 22) → xWp l g mX10_seek 0 0 151 [(1, va_rf (some a0)), (1, .int x1), (0, w2)] [.int (-1)] (0, 0) M Q) ∧ (¬ (xI M a0 2) ≤ (xI M a0 22) → (∃ a6, (xR M a0 1) = some a6 ∧ ∃ i8, xai M a6 9 (xI M a0 22) i8 ∧ (xSp l g mX10_child 0 0 [va_rf (some a0), .int (xI M a0 20), .int (xI M a6 i8)] M (fun ρ12 M11 => ∃ v10 : Int32, ρ12 = some (.int v10) ∧ xWp l g mX10_seek 0 0 151 [(1, va_rf (some a0)), (1, .int x1), (0, w2)] [.int v10] (0, 0) M11 Q)))))))))) : xWp l g mX10_seek 0 0 103 [(1, va_rf (some a0)), (1, .int x1), (0, w2)] [] (0, 0) M Q := by
  refine xr_aload_n 0 dX10_seek_103 rfl rfl ?_
  obtain ⟨t1, h⟩ := h
  refine yr_getI dX10_seek_104 fl_RX10_105 rfl t1 ?_
  refine xr_aload_n 0 dX10_seek_107 rfl rfl ?_
  refine yr_getR dX10_seek_108 fl_RX10_26 rfl t1 ?_
  refine xr_aload_n 0 dX10_seek_111 rfl rfl ?_
  refine yr_getI dX10_seek_112 fl_RX10_99 rfl t1 ?_
  obtain ⟨a2, e3, h⟩ := h
  obtain ⟨i4, t5, h⟩ := h
  refine yr_iald dX10_seek_115 e3 t5 ?_
  obtain ⟨ht, hf⟩ := h
  refine xr_icmp_ne 150 dX10_seek_116 (by decide) (fun c15 => ?_) (fun c15 => ?_)
  · replace h := ht c15
    clear ht hf
    refine xr_iconst (-1) dX10_seek_150 (by decide) ?_
    exact h
  · replace h := hf c15
    clear ht hf
    refine xr_aload_n 0 dX10_seek_119 rfl rfl ?_
    refine yr_getI dX10_seek_120 fl_RX10_102 rfl t1 ?_
    refine xr_aload_n 0 dX10_seek_123 rfl rfl ?_
    refine yr_getI dX10_seek_124 fl_RX10_91 rfl t1 ?_
    obtain ⟨ht, hf⟩ := h
    refine xr_icmp_ge 150 dX10_seek_127 (by decide) (fun c14 => ?_) (fun c14 => ?_)
    · replace h := ht c14
      clear ht hf
      refine xr_iconst (-1) dX10_seek_150 (by decide) ?_
      exact h
    · replace h := hf c14
      clear ht hf
      refine xr_aload_n 0 dX10_seek_130 rfl rfl ?_
      refine xr_aload_n 0 dX10_seek_131 rfl rfl ?_
      refine yr_getI dX10_seek_132 fl_RX10_99 rfl t1 ?_
      refine xr_aload_n 0 dX10_seek_135 rfl rfl ?_
      refine yr_getR dX10_seek_136 fl_RX10_7 rfl t1 ?_
      refine xr_aload_n 0 dX10_seek_139 rfl rfl ?_
      refine yr_getI dX10_seek_140 fl_RX10_102 rfl t1 ?_
      obtain ⟨a6, e7, h⟩ := h
      obtain ⟨i8, t9, h⟩ := h
      refine yr_iald dX10_seek_143 e7 t9 ?_
      refine yr_callV (r := (some a0)) [.int (xI M a0 20), .int (xI M a6 i8)] dX10_seek_144 cv_X10_seek_108 rfl t1 rfl (Nat.le_trans wt_0 (by decide)) (by decide) (xSp.mono h ?_)
      clear h
      intro ρ12 M11 h
      obtain ⟨v10, rfl, h⟩ := h
      refine xr_goto 151 dX10_seek_147 (by decide) ?_
      exact h
set_option maxRecDepth 100000 in
set_option maxHeartbeats 4000000 in
theorem bX10_seek_24 {l : Launch} {g : xG} (a0 : Nat) (x1 : Int32) (w2 : Value) {M : xM} {Q : Option Value → xM → Prop} (h : (xat M a0 7 ∧ (∃ a2, (xR M a0 8) = some a2 ∧ ∃ i4, xai M a2 9 (xI M a0 20) i4 ∧ (((xI M a2 i4) ≤ (xI M a0 21) → xWp l g mX10_seek 0 0 103 [(1, va_rf (some a0)), (1, .int x1), (0, w2)] [] (0, 0) M Q) ∧ (¬ (xI M a2 i4) ≤ (xI M a0 21) → (((xI M a0 2) ≤ (xI M a0 22) → xWp l g mX10_seek 0 0 103 [(1, va_rf (some a0)), (1, .int x1), (0, w2)] [] (0, 0) M Q) ∧ (¬ (xI M a0 2) ≤ (xI M a0 22) → (∃ a6, (xR M a0 7) = some a6 ∧ ∃ i8, xai M a6 9 ((12 * (xI M a0 20)) + (xI M a0 21)) i8 ∧ (∃ a10, (xR M a0 1) = some a10 ∧ ∃ i12, xai M a10 9 (xI M a0 22) i12 ∧ ((¬ (xI M a6 i8) = (xI M a10 i12) → xWp l g mX10_seek 0 0 103 [(1, va_rf (some a0)), (1, .int x1), (0, w2)] [] (0, 0) M Q) ∧ ((xI M a6 i8) = (xI M a10 i12) → xWp l g mX10_seek 0 0 24 [(1, va_rf (some a0)), (1, .int x1), (0, w2)] [] (0, 0) (xsI (xsI M a0 21 ((xI M a0 21) + 1)) a0 22 ((xI (xsI M a0 21 ((xI M a0 21) + 1)) a0 22) + 1)) Q))))))))))) : xWp l g mX10_seek 0 0 24 [(1, va_rf (some a0)), (1, .int x1), (0, w2)] [] (0, 0) M Q := by
  refine xr_aload_n 0 dX10_seek_24 rfl rfl ?_
  obtain ⟨t1, h⟩ := h
  refine yr_getI dX10_seek_25 fl_RX10_105 rfl t1 ?_
  refine xr_aload_n 0 dX10_seek_28 rfl rfl ?_
  refine yr_getR dX10_seek_29 fl_RX10_26 rfl t1 ?_
  refine xr_aload_n 0 dX10_seek_32 rfl rfl ?_
  refine yr_getI dX10_seek_33 fl_RX10_99 rfl t1 ?_
  obtain ⟨a2, e3, h⟩ := h
  obtain ⟨i4, t5, h⟩ := h
  refine yr_iald dX10_seek_36 e3 t5 ?_
  obtain ⟨ht, hf⟩ := h
  refine xr_icmp_ge 103 dX10_seek_37 (by decide) (fun c16 => ?_) (fun c16 => ?_)
  · replace h := ht c16
    clear ht hf
    exact h
  · replace h := hf c16
    clear ht hf
    refine xr_aload_n 0 dX10_seek_40 rfl rfl ?_
    refine yr_getI dX10_seek_41 fl_RX10_102 rfl t1 ?_
    refine xr_aload_n 0 dX10_seek_44 rfl rfl ?_
    refine yr_getI dX10_seek_45 fl_RX10_91 rfl t1 ?_
    obtain ⟨ht, hf⟩ := h
    refine xr_icmp_ge 103 dX10_seek_48 (by decide) (fun c15 => ?_) (fun c15 => ?_)
    · replace h := ht c15
      clear ht hf
      exact h
    · replace h := hf c15
      clear ht hf
      refine xr_aload_n 0 dX10_seek_51 rfl rfl ?_
      refine yr_getR dX10_seek_52 fl_RX10_23 rfl t1 ?_
      refine xr_bipush 12 dX10_seek_55 (by decide) ?_
      refine xr_aload_n 0 dX10_seek_57 rfl rfl ?_
      refine yr_getI dX10_seek_58 fl_RX10_99 rfl t1 ?_
      refine xr_imul dX10_seek_61 ?_
      refine xr_aload_n 0 dX10_seek_62 rfl rfl ?_
      refine yr_getI dX10_seek_63 fl_RX10_105 rfl t1 ?_
      refine xr_iadd dX10_seek_66 ?_
      obtain ⟨a6, e7, h⟩ := h
      obtain ⟨i8, t9, h⟩ := h
      refine yr_iald dX10_seek_67 e7 t9 ?_
      refine xr_aload_n 0 dX10_seek_68 rfl rfl ?_
      refine yr_getR dX10_seek_69 fl_RX10_7 rfl t1 ?_
      refine xr_aload_n 0 dX10_seek_72 rfl rfl ?_
      refine yr_getI dX10_seek_73 fl_RX10_102 rfl t1 ?_
      obtain ⟨a10, e11, h⟩ := h
      obtain ⟨i12, t13, h⟩ := h
      refine yr_iald dX10_seek_76 e11 t13 ?_
      obtain ⟨ht, hf⟩ := h
      refine xr_icmp_ne 103 dX10_seek_77 (by decide) (fun c14 => ?_) (fun c14 => ?_)
      · replace h := ht c14
        clear ht hf
        exact h
      · replace h := hf c14
        clear ht hf
        refine xr_aload_n 0 dX10_seek_80 rfl rfl ?_
        refine xr_dup dX10_seek_81 (va_rf_cat _) ?_
        refine yr_getI dX10_seek_82 fl_RX10_105 rfl t1 ?_
        refine xr_iconst 1 dX10_seek_85 (by decide) ?_
        refine xr_iadd dX10_seek_86 ?_
        refine yr_putI dX10_seek_87 fp_RX10_105 rfl t1 ?_
        refine xr_aload_n 0 dX10_seek_90 rfl rfl ?_
        refine xr_dup dX10_seek_91 (va_rf_cat _) ?_
        refine yr_getI dX10_seek_92 fl_RX10_102 rfl t1 ?_
        refine xr_iconst 1 dX10_seek_95 (by decide) ?_
        refine xr_iadd dX10_seek_96 ?_
        refine yr_putI dX10_seek_97 fp_RX10_102 rfl t1 ?_
        refine xr_goto 24 dX10_seek_100 (by decide) ?_
        exact h
set_option maxRecDepth 100000 in
set_option maxHeartbeats 4000000 in
theorem bX10_seek_15 {l : Launch} {g : xG} (a0 : Nat) (x1 : Int32) (w2 : Value) {M : xM} {Q : Option Value → xM → Prop} (h : ((x1 = 0 → (Q none M)) ∧ (¬ x1 = 0 → (xat M a0 7 ∧ xWp l g mX10_seek 0 0 24 [(1, va_rf (some a0)), (1, .int x1), (0, w2)] [] (0, 0) (xsI M a0 21 0) Q)))) : xWp l g mX10_seek 0 0 15 [(1, va_rf (some a0)), (1, .int x1), (0, w2)] [] (0, 0) M Q := by
  refine xr_iload_n 1 dX10_seek_15 rfl rfl ?_
  obtain ⟨ht, hf⟩ := h
  refine xr_if_eq 185 dX10_seek_16 (by decide) (fun c2 => ?_) (fun c2 => ?_)
  · replace h := ht c2
    clear ht hf
    exact xr_ret (by decide) (xRv rfl dX10_seek_185) h
  · replace h := hf c2
    clear ht hf
    refine xr_aload_n 0 dX10_seek_19 rfl rfl ?_
    refine xr_iconst 0 dX10_seek_20 (by decide) ?_
    obtain ⟨t1, h⟩ := h
    refine yr_putI dX10_seek_21 fp_RX10_105 rfl t1 ?_
    exact h
set_option maxRecDepth 100000 in
set_option maxHeartbeats 4000000 in
theorem bX10_seek_0 {l : Launch} {g : xG} (a0 : Nat) {M : xM} {Q : Option Value → xM → Prop} (h : (xat M a0 7 ∧ xWp l g mX10_seek 0 0 15 [(1, va_rf (some a0)), (1, .int 1), (0, .null)] [] (0, 0) (xsI (xsI M a0 20 (xI M a0 14)) a0 22 0) Q)) : xWp l g mX10_seek 0 0 0 [(1, va_rf (some a0)), (0, .null), (0, .null)] [] (0, 0) M Q := by
  refine xr_aload_n 0 dX10_seek_0 rfl rfl ?_
  refine xr_aload_n 0 dX10_seek_1 rfl rfl ?_
  obtain ⟨t1, h⟩ := h
  refine yr_getI dX10_seek_2 fl_RX10_75 rfl t1 ?_
  refine yr_putI dX10_seek_5 fp_RX10_99 rfl t1 ?_
  refine xr_aload_n 0 dX10_seek_8 rfl rfl ?_
  refine xr_iconst 0 dX10_seek_9 (by decide) ?_
  refine yr_putI dX10_seek_10 fp_RX10_102 rfl t1 ?_
  refine xr_iconst 1 dX10_seek_13 (by decide) ?_
  refine zistore_n 1 dX10_seek_14 rfl (L1 := [(1, va_rf (some a0)), (1, .int 1), (0, .null)]) (by decide) rfl ?_
  exact h
theorem dX10_isFound_0 : decode cX10_isFound 0 = .ok (.aload_n 0, 1) := by decide +kernel
theorem dX10_isFound_1 : decode cX10_isFound 1 = .ok (.invokevirtual 111, 3) := by decide +kernel
theorem dX10_isFound_4 : decode cX10_isFound 4 = .ok (.aload_n 0, 1) := by decide +kernel
theorem dX10_isFound_5 : decode cX10_isFound 5 = .ok (.getfield 105, 3) := by decide +kernel
theorem dX10_isFound_8 : decode cX10_isFound 8 = .ok (.aload_n 0, 1) := by decide +kernel
theorem dX10_isFound_9 : decode cX10_isFound 9 = .ok (.getfield 26, 3) := by decide +kernel
theorem dX10_isFound_12 : decode cX10_isFound 12 = .ok (.aload_n 0, 1) := by decide +kernel
theorem dX10_isFound_13 : decode cX10_isFound 13 = .ok (.getfield 99, 3) := by decide +kernel
theorem dX10_isFound_16 : decode cX10_isFound 16 = .ok (.iaload, 1) := by decide +kernel
theorem dX10_isFound_17 : decode cX10_isFound 17 = .ok (.if_icmp .ne 30, 3) := by decide +kernel
theorem dX10_isFound_20 : decode cX10_isFound 20 = .ok (.aload_n 0, 1) := by decide +kernel
theorem dX10_isFound_21 : decode cX10_isFound 21 = .ok (.getfield 102, 3) := by decide +kernel
theorem dX10_isFound_24 : decode cX10_isFound 24 = .ok (.aload_n 0, 1) := by decide +kernel
theorem dX10_isFound_25 : decode cX10_isFound 25 = .ok (.getfield 91, 3) := by decide +kernel
theorem dX10_isFound_28 : decode cX10_isFound 28 = .ok (.if_icmp .ne 19, 3) := by decide +kernel
theorem dX10_isFound_31 : decode cX10_isFound 31 = .ok (.aload_n 0, 1) := by decide +kernel
theorem dX10_isFound_32 : decode cX10_isFound 32 = .ok (.getfield 29, 3) := by decide +kernel
theorem dX10_isFound_35 : decode cX10_isFound 35 = .ok (.aload_n 0, 1) := by decide +kernel
theorem dX10_isFound_36 : decode cX10_isFound 36 = .ok (.getfield 99, 3) := by decide +kernel
theorem dX10_isFound_39 : decode cX10_isFound 39 = .ok (.baload, 1) := by decide +kernel
theorem dX10_isFound_40 : decode cX10_isFound 40 = .ok (.ifCond .eq 7, 3) := by decide +kernel
theorem dX10_isFound_43 : decode cX10_isFound 43 = .ok (.iconst 1, 1) := by decide +kernel
theorem dX10_isFound_44 : decode cX10_isFound 44 = .ok (.goto 4, 3) := by decide +kernel
theorem dX10_isFound_47 : decode cX10_isFound 47 = .ok (.iconst 0, 1) := by decide +kernel
theorem dX10_isFound_48 : decode cX10_isFound 48 = .ok (.ireturn, 1) := by decide +kernel
set_option maxRecDepth 100000 in
set_option maxHeartbeats 4000000 in
theorem bX10_isFound_0 {l : Launch} {g : xG} (a0 : Nat) {M : xM} {Q : Option Value → xM → Prop} (h : (xat M a0 7 ∧ xSp l g mX10_seek 0 0 [va_rf (some a0)] M (fun ρ3 M2 => ρ3 = none ∧ (xat M2 a0 7 ∧ (∃ a7, (xR M2 a0 8) = some a7 ∧ ∃ i9, xai M2 a7 9 (xI M2 a0 20) i9 ∧ ((¬ (xI M2 a0 21) = (xI M2 a7 i9) → (Q (some (.int 0)) M2)) ∧ ((xI M2 a0 21) = (xI M2 a7 i9) → ((¬ (xI M2 a0 22) = (xI M2 a0 2) → (Q (some (.int 0)) M2)) ∧ ((xI M2 a0 22) = (xI M2 a0 2) → (∃ a11, (xR M2 a0 9) = some a11 ∧ ∃ i13, xai M2 a11 11 (xI M2 a0 20) i13 ∧ (((xI M2 a11 i13) = 0 → (Q (some (.int 0)) M2)) ∧ (¬ (xI M2 a11 i13) = 0 → (Q (some (.int 1)) M2))))))))))))) : xWp l g mX10_isFound 0 0 0 [(1, va_rf (some a0))] [] (0, 0) M Q := by
  refine xr_aload_n 0 dX10_isFound_0 rfl rfl ?_
  obtain ⟨t5, h⟩ := h
  refine yr_callV (r := (some a0)) [] dX10_isFound_1 cv_X10_isFound_111 rfl t5 rfl (Nat.le_trans wt_0 (by decide)) (by decide) (xSp.mono h ?_)
  clear h
  intro ρ3 M2 h
  obtain ⟨rfl, h⟩ := h
  refine xr_aload_n 0 dX10_isFound_4 rfl rfl ?_
  obtain ⟨t6, h⟩ := h
  refine yr_getI dX10_isFound_5 fl_RX10_105 rfl t6 ?_
  refine xr_aload_n 0 dX10_isFound_8 rfl rfl ?_
  refine yr_getR dX10_isFound_9 fl_RX10_26 rfl t6 ?_
  refine xr_aload_n 0 dX10_isFound_12 rfl rfl ?_
  refine yr_getI dX10_isFound_13 fl_RX10_99 rfl t6 ?_
  obtain ⟨a7, e8, h⟩ := h
  obtain ⟨i9, t10, h⟩ := h
  refine yr_iald dX10_isFound_16 e8 t10 ?_
  obtain ⟨ht, hf⟩ := h
  refine xr_icmp_ne 47 dX10_isFound_17 (by decide) (fun c17 => ?_) (fun c17 => ?_)
  · replace h := ht c17
    clear ht hf
    refine xr_iconst 0 dX10_isFound_47 (by decide) ?_
    exact xr_retv (by decide) (xRi rfl rfl dX10_isFound_48) h
  · replace h := hf c17
    clear ht hf
    refine xr_aload_n 0 dX10_isFound_20 rfl rfl ?_
    refine yr_getI dX10_isFound_21 fl_RX10_102 rfl t6 ?_
    refine xr_aload_n 0 dX10_isFound_24 rfl rfl ?_
    refine yr_getI dX10_isFound_25 fl_RX10_91 rfl t6 ?_
    obtain ⟨ht, hf⟩ := h
    refine xr_icmp_ne 47 dX10_isFound_28 (by decide) (fun c16 => ?_) (fun c16 => ?_)
    · replace h := ht c16
      clear ht hf
      refine xr_iconst 0 dX10_isFound_47 (by decide) ?_
      exact xr_retv (by decide) (xRi rfl rfl dX10_isFound_48) h
    · replace h := hf c16
      clear ht hf
      refine xr_aload_n 0 dX10_isFound_31 rfl rfl ?_
      refine yr_getR dX10_isFound_32 fl_RX10_29 rfl t6 ?_
      refine xr_aload_n 0 dX10_isFound_35 rfl rfl ?_
      refine yr_getI dX10_isFound_36 fl_RX10_99 rfl t6 ?_
      obtain ⟨a11, e12, h⟩ := h
      obtain ⟨i13, t14, h⟩ := h
      refine yr_zald dX10_isFound_39 e12 t14 ?_
      obtain ⟨ht, hf⟩ := h
      refine xr_if_eq 47 dX10_isFound_40 (by decide) (fun c15 => ?_) (fun c15 => ?_)
      · replace h := ht c15
        clear ht hf
        refine xr_iconst 0 dX10_isFound_47 (by decide) ?_
        exact xr_retv (by decide) (xRi rfl rfl dX10_isFound_48) h
      · replace h := hf c15
        clear ht hf
        refine xr_iconst 1 dX10_isFound_43 (by decide) ?_
        refine xr_goto 48 dX10_isFound_44 (by decide) ?_
        exact xr_retv (by decide) (xRi rfl rfl dX10_isFound_48) h
