/-! Decode rows and blocks: 21.bMc -/
theorem dX10_writeNode_0 : decode cX10_writeNode 0 = .ok (.aload_n 0, 1) := by decide +kernel
theorem dX10_writeNode_1 : decode cX10_writeNode 1 = .ok (.invokevirtual 193, 3) := by decide +kernel
theorem dX10_writeNode_4 : decode cX10_writeNode 4 = .ok (.aload_n 0, 1) := by decide +kernel
theorem dX10_writeNode_5 : decode cX10_writeNode 5 = .ok (.getfield 56, 3) := by decide +kernel
theorem dX10_writeNode_8 : decode cX10_writeNode 8 = .ok (.iconst 0, 1) := by decide +kernel
theorem dX10_writeNode_9 : decode cX10_writeNode 9 = .ok (.aload_n 0, 1) := by decide +kernel
theorem dX10_writeNode_10 : decode cX10_writeNode 10 = .ok (.getfield 36, 3) := by decide +kernel
theorem dX10_writeNode_13 : decode cX10_writeNode 13 = .ok (.iload_n 1, 1) := by decide +kernel
theorem dX10_writeNode_14 : decode cX10_writeNode 14 = .ok (.iaload, 1) := by decide +kernel
theorem dX10_writeNode_15 : decode cX10_writeNode 15 = .ok (.iastore, 1) := by decide +kernel
theorem dX10_writeNode_16 : decode cX10_writeNode 16 = .ok (.aload_n 0, 1) := by decide +kernel
theorem dX10_writeNode_17 : decode cX10_writeNode 17 = .ok (.getfield 56, 3) := by decide +kernel
theorem dX10_writeNode_20 : decode cX10_writeNode 20 = .ok (.iconst 1, 1) := by decide +kernel
theorem dX10_writeNode_21 : decode cX10_writeNode 21 = .ok (.aload_n 0, 1) := by decide +kernel
theorem dX10_writeNode_22 : decode cX10_writeNode 22 = .ok (.getfield 29, 3) := by decide +kernel
theorem dX10_writeNode_25 : decode cX10_writeNode 25 = .ok (.iload_n 1, 1) := by decide +kernel
theorem dX10_writeNode_26 : decode cX10_writeNode 26 = .ok (.baload, 1) := by decide +kernel
theorem dX10_writeNode_27 : decode cX10_writeNode 27 = .ok (.ifCond .eq 7, 3) := by decide +kernel
theorem dX10_writeNode_30 : decode cX10_writeNode 30 = .ok (.iconst 1, 1) := by decide +kernel
theorem dX10_writeNode_31 : decode cX10_writeNode 31 = .ok (.goto 4, 3) := by decide +kernel
theorem dX10_writeNode_34 : decode cX10_writeNode 34 = .ok (.iconst 0, 1) := by decide +kernel
theorem dX10_writeNode_35 : decode cX10_writeNode 35 = .ok (.iastore, 1) := by decide +kernel
theorem dX10_writeNode_36 : decode cX10_writeNode 36 = .ok (.aload_n 0, 1) := by decide +kernel
theorem dX10_writeNode_37 : decode cX10_writeNode 37 = .ok (.iconst 2, 1) := by decide +kernel
theorem dX10_writeNode_38 : decode cX10_writeNode 38 = .ok (.bipush 8, 2) := by decide +kernel
theorem dX10_writeNode_40 : decode cX10_writeNode 40 = .ok (.aload_n 0, 1) := by decide +kernel
theorem dX10_writeNode_41 : decode cX10_writeNode 41 = .ok (.getfield 32, 3) := by decide +kernel
theorem dX10_writeNode_44 : decode cX10_writeNode 44 = .ok (.iload_n 1, 1) := by decide +kernel
theorem dX10_writeNode_45 : decode cX10_writeNode 45 = .ok (.laload, 1) := by decide +kernel
theorem dX10_writeNode_46 : decode cX10_writeNode 46 = .ok (.invokevirtual 186, 3) := by decide +kernel
theorem dX10_writeNode_49 : decode cX10_writeNode 49 = .ok (.aload_n 0, 1) := by decide +kernel
theorem dX10_writeNode_50 : decode cX10_writeNode 50 = .ok (.getfield 56, 3) := by decide +kernel
theorem dX10_writeNode_53 : decode cX10_writeNode 53 = .ok (.bipush 10, 2) := by decide +kernel
theorem dX10_writeNode_55 : decode cX10_writeNode 55 = .ok (.aload_n 0, 1) := by decide +kernel
theorem dX10_writeNode_56 : decode cX10_writeNode 56 = .ok (.getfield 26, 3) := by decide +kernel
theorem dX10_writeNode_59 : decode cX10_writeNode 59 = .ok (.iload_n 1, 1) := by decide +kernel
theorem dX10_writeNode_60 : decode cX10_writeNode 60 = .ok (.iaload, 1) := by decide +kernel
theorem dX10_writeNode_61 : decode cX10_writeNode 61 = .ok (.iastore, 1) := by decide +kernel
theorem dX10_writeNode_62 : decode cX10_writeNode 62 = .ok (.iconst 0, 1) := by decide +kernel
theorem dX10_writeNode_63 : decode cX10_writeNode 63 = .ok (.istore_n 2, 1) := by decide +kernel
theorem dX10_writeNode_64 : decode cX10_writeNode 64 = .ok (.iload_n 2, 1) := by decide +kernel
theorem dX10_writeNode_65 : decode cX10_writeNode 65 = .ok (.aload_n 0, 1) := by decide +kernel
theorem dX10_writeNode_66 : decode cX10_writeNode 66 = .ok (.getfield 26, 3) := by decide +kernel
theorem dX10_writeNode_69 : decode cX10_writeNode 69 = .ok (.iload_n 1, 1) := by decide +kernel
theorem dX10_writeNode_70 : decode cX10_writeNode 70 = .ok (.iaload, 1) := by decide +kernel
theorem dX10_writeNode_71 : decode cX10_writeNode 71 = .ok (.if_icmp .ge 29, 3) := by decide +kernel
theorem dX10_writeNode_74 : decode cX10_writeNode 74 = .ok (.aload_n 0, 1) := by decide +kernel
theorem dX10_writeNode_75 : decode cX10_writeNode 75 = .ok (.getfield 56, 3) := by decide +kernel
theorem dX10_writeNode_78 : decode cX10_writeNode 78 = .ok (.bipush 11, 2) := by decide +kernel
theorem dX10_writeNode_80 : decode cX10_writeNode 80 = .ok (.iload_n 2, 1) := by decide +kernel
theorem dX10_writeNode_81 : decode cX10_writeNode 81 = .ok (.iadd, 1) := by decide +kernel
theorem dX10_writeNode_82 : decode cX10_writeNode 82 = .ok (.aload_n 0, 1) := by decide +kernel
theorem dX10_writeNode_83 : decode cX10_writeNode 83 = .ok (.getfield 23, 3) := by decide +kernel
theorem dX10_writeNode_86 : decode cX10_writeNode 86 = .ok (.bipush 12, 2) := by decide +kernel
theorem dX10_writeNode_88 : decode cX10_writeNode 88 = .ok (.iload_n 1, 1) := by decide +kernel
theorem dX10_writeNode_89 : decode cX10_writeNode 89 = .ok (.imul, 1) := by decide +kernel
theorem dX10_writeNode_90 : decode cX10_writeNode 90 = .ok (.iload_n 2, 1) := by decide +kernel
theorem dX10_writeNode_91 : decode cX10_writeNode 91 = .ok (.iadd, 1) := by decide +kernel
theorem dX10_writeNode_92 : decode cX10_writeNode 92 = .ok (.iaload, 1) := by decide +kernel
theorem dX10_writeNode_93 : decode cX10_writeNode 93 = .ok (.iastore, 1) := by decide +kernel
theorem dX10_writeNode_94 : decode cX10_writeNode 94 = .ok (.iinc 2 1, 3) := by decide +kernel
theorem dX10_writeNode_97 : decode cX10_writeNode 97 = .ok (.goto (-33), 3) := by decide +kernel
theorem dX10_writeNode_100 : decode cX10_writeNode 100 = .ok (.iconst 0, 1) := by decide +kernel
theorem dX10_writeNode_101 : decode cX10_writeNode 101 = .ok (.istore_n 2, 1) := by decide +kernel
theorem dX10_writeNode_102 : decode cX10_writeNode 102 = .ok (.aload_n 0, 1) := by decide +kernel
theorem dX10_writeNode_103 : decode cX10_writeNode 103 = .ok (.iload_n 1, 1) := by decide +kernel
theorem dX10_writeNode_104 : decode cX10_writeNode 104 = .ok (.iconst 0, 1) := by decide +kernel
theorem dX10_writeNode_105 : decode cX10_writeNode 105 = .ok (.invokevirtual 96, 3) := by decide +kernel
theorem dX10_writeNode_108 : decode cX10_writeNode 108 = .ok (.istore_n 3, 1) := by decide +kernel
theorem dX10_writeNode_109 : decode cX10_writeNode 109 = .ok (.iload_n 3, 1) := by decide +kernel
theorem dX10_writeNode_110 : decode cX10_writeNode 110 = .ok (.iconst (-1), 1) := by decide +kernel
theorem dX10_writeNode_111 : decode cX10_writeNode 111 = .ok (.if_icmp .eq 142, 3) := by decide +kernel
theorem dX10_writeNode_114 : decode cX10_writeNode 114 = .ok (.aload_n 0, 1) := by decide +kernel
theorem dX10_writeNode_115 : decode cX10_writeNode 115 = .ok (.getfield 36, 3) := by decide +kernel
theorem dX10_writeNode_118 : decode cX10_writeNode 118 = .ok (.iload_n 1, 1) := by decide +kernel
theorem dX10_writeNode_119 : decode cX10_writeNode 119 = .ok (.iaload, 1) := by decide +kernel
theorem dX10_writeNode_120 : decode cX10_writeNode 120 = .ok (.iconst 3, 1) := by decide +kernel
theorem dX10_writeNode_121 : decode cX10_writeNode 121 = .ok (.if_icmp .ge 46, 3) := by decide +kernel
theorem dX10_writeNode_124 : decode cX10_writeNode 124 = .ok (.aload_n 0, 1) := by decide +kernel
theorem dX10_writeNode_125 : decode cX10_writeNode 125 = .ok (.getfield 56, 3) := by decide +kernel
theorem dX10_writeNode_128 : decode cX10_writeNode 128 = .ok (.bipush 24, 2) := by decide +kernel
theorem dX10_writeNode_130 : decode cX10_writeNode 130 = .ok (.iload_n 2, 1) := by decide +kernel
theorem dX10_writeNode_131 : decode cX10_writeNode 131 = .ok (.iadd, 1) := by decide +kernel
theorem dX10_writeNode_132 : decode cX10_writeNode 132 = .ok (.aload_n 0, 1) := by decide +kernel
theorem dX10_writeNode_133 : decode cX10_writeNode 133 = .ok (.getfield 20, 3) := by decide +kernel
theorem dX10_writeNode_136 : decode cX10_writeNode 136 = .ok (.iload_n 3, 1) := by decide +kernel
theorem dX10_writeNode_137 : decode cX10_writeNode 137 = .ok (.iaload, 1) := by decide +kernel
theorem dX10_writeNode_138 : decode cX10_writeNode 138 = .ok (.iastore, 1) := by decide +kernel
theorem dX10_writeNode_139 : decode cX10_writeNode 139 = .ok (.aload_n 0, 1) := by decide +kernel
theorem dX10_writeNode_140 : decode cX10_writeNode 140 = .ok (.getfield 56, 3) := by decide +kernel
theorem dX10_writeNode_143 : decode cX10_writeNode 143 = .ok (.bipush 24, 2) := by decide +kernel
theorem dX10_writeNode_145 : decode cX10_writeNode 145 = .ok (.aload_n 0, 1) := by decide +kernel
theorem dX10_writeNode_146 : decode cX10_writeNode 146 = .ok (.getfield 36, 3) := by decide +kernel
theorem dX10_writeNode_149 : decode cX10_writeNode 149 = .ok (.iload_n 1, 1) := by decide +kernel
theorem dX10_writeNode_150 : decode cX10_writeNode 150 = .ok (.iaload, 1) := by decide +kernel
theorem dX10_writeNode_151 : decode cX10_writeNode 151 = .ok (.invokestatic 149, 3) := by decide +kernel
theorem dX10_writeNode_154 : decode cX10_writeNode 154 = .ok (.iadd, 1) := by decide +kernel
theorem dX10_writeNode_155 : decode cX10_writeNode 155 = .ok (.iload_n 2, 1) := by decide +kernel
theorem dX10_writeNode_156 : decode cX10_writeNode 156 = .ok (.iadd, 1) := by decide +kernel
theorem dX10_writeNode_157 : decode cX10_writeNode 157 = .ok (.aload_n 0, 1) := by decide +kernel
theorem dX10_writeNode_158 : decode cX10_writeNode 158 = .ok (.getfield 39, 3) := by decide +kernel
theorem dX10_writeNode_161 : decode cX10_writeNode 161 = .ok (.iload_n 3, 1) := by decide +kernel
theorem dX10_writeNode_162 : decode cX10_writeNode 162 = .ok (.iaload, 1) := by decide +kernel
theorem dX10_writeNode_163 : decode cX10_writeNode 163 = .ok (.iastore, 1) := by decide +kernel
theorem dX10_writeNode_164 : decode cX10_writeNode 164 = .ok (.goto 69, 3) := by decide +kernel
theorem dX10_writeNode_167 : decode cX10_writeNode 167 = .ok (.aload_n 0, 1) := by decide +kernel
theorem dX10_writeNode_168 : decode cX10_writeNode 168 = .ok (.getfield 36, 3) := by decide +kernel
theorem dX10_writeNode_171 : decode cX10_writeNode 171 = .ok (.iload_n 1, 1) := by decide +kernel
theorem dX10_writeNode_172 : decode cX10_writeNode 172 = .ok (.iaload, 1) := by decide +kernel
theorem dX10_writeNode_173 : decode cX10_writeNode 173 = .ok (.iconst 3, 1) := by decide +kernel
theorem dX10_writeNode_174 : decode cX10_writeNode 174 = .ok (.if_icmp .ne 39, 3) := by decide +kernel
theorem dX10_writeNode_177 : decode cX10_writeNode 177 = .ok (.aload_n 0, 1) := by decide +kernel
theorem dX10_writeNode_178 : decode cX10_writeNode 178 = .ok (.getfield 56, 3) := by decide +kernel
theorem dX10_writeNode_181 : decode cX10_writeNode 181 = .ok (.bipush 24, 2) := by decide +kernel
theorem dX10_writeNode_183 : decode cX10_writeNode 183 = .ok (.aload_n 0, 1) := by decide +kernel
theorem dX10_writeNode_184 : decode cX10_writeNode 184 = .ok (.getfield 20, 3) := by decide +kernel
theorem dX10_writeNode_187 : decode cX10_writeNode 187 = .ok (.iload_n 3, 1) := by decide +kernel
theorem dX10_writeNode_188 : decode cX10_writeNode 188 = .ok (.iaload, 1) := by decide +kernel
theorem dX10_writeNode_189 : decode cX10_writeNode 189 = .ok (.iadd, 1) := by decide +kernel
theorem dX10_writeNode_190 : decode cX10_writeNode 190 = .ok (.iload_n 2, 1) := by decide +kernel
theorem dX10_writeNode_191 : decode cX10_writeNode 191 = .ok (.iconst 1, 1) := by decide +kernel
theorem dX10_writeNode_192 : decode cX10_writeNode 192 = .ok (.iadd, 1) := by decide +kernel
theorem dX10_writeNode_193 : decode cX10_writeNode 193 = .ok (.iastore, 1) := by decide +kernel
theorem dX10_writeNode_194 : decode cX10_writeNode 194 = .ok (.aload_n 0, 1) := by decide +kernel
theorem dX10_writeNode_195 : decode cX10_writeNode 195 = .ok (.getfield 56, 3) := by decide +kernel
theorem dX10_writeNode_198 : decode cX10_writeNode 198 = .ok (.sipush 280, 3) := by decide +kernel
theorem dX10_writeNode_201 : decode cX10_writeNode 201 = .ok (.iload_n 2, 1) := by decide +kernel
theorem dX10_writeNode_202 : decode cX10_writeNode 202 = .ok (.iadd, 1) := by decide +kernel
theorem dX10_writeNode_203 : decode cX10_writeNode 203 = .ok (.aload_n 0, 1) := by decide +kernel
theorem dX10_writeNode_204 : decode cX10_writeNode 204 = .ok (.getfield 39, 3) := by decide +kernel
theorem dX10_writeNode_207 : decode cX10_writeNode 207 = .ok (.iload_n 3, 1) := by decide +kernel
theorem dX10_writeNode_208 : decode cX10_writeNode 208 = .ok (.iaload, 1) := by decide +kernel
theorem dX10_writeNode_209 : decode cX10_writeNode 209 = .ok (.iastore, 1) := by decide +kernel
theorem dX10_writeNode_210 : decode cX10_writeNode 210 = .ok (.goto 23, 3) := by decide +kernel
theorem dX10_writeNode_213 : decode cX10_writeNode 213 = .ok (.aload_n 0, 1) := by decide +kernel
theorem dX10_writeNode_214 : decode cX10_writeNode 214 = .ok (.getfield 56, 3) := by decide +kernel
theorem dX10_writeNode_217 : decode cX10_writeNode 217 = .ok (.bipush 24, 2) := by decide +kernel
theorem dX10_writeNode_219 : decode cX10_writeNode 219 = .ok (.aload_n 0, 1) := by decide +kernel
theorem dX10_writeNode_220 : decode cX10_writeNode 220 = .ok (.getfield 20, 3) := by decide +kernel
theorem dX10_writeNode_223 : decode cX10_writeNode 223 = .ok (.iload_n 3, 1) := by decide +kernel
theorem dX10_writeNode_224 : decode cX10_writeNode 224 = .ok (.iaload, 1) := by decide +kernel
theorem dX10_writeNode_225 : decode cX10_writeNode 225 = .ok (.iadd, 1) := by decide +kernel
theorem dX10_writeNode_226 : decode cX10_writeNode 226 = .ok (.aload_n 0, 1) := by decide +kernel
theorem dX10_writeNode_227 : decode cX10_writeNode 227 = .ok (.getfield 39, 3) := by decide +kernel
theorem dX10_writeNode_230 : decode cX10_writeNode 230 = .ok (.iload_n 3, 1) := by decide +kernel
theorem dX10_writeNode_231 : decode cX10_writeNode 231 = .ok (.iaload, 1) := by decide +kernel
theorem dX10_writeNode_232 : decode cX10_writeNode 232 = .ok (.iastore, 1) := by decide +kernel
theorem dX10_writeNode_233 : decode cX10_writeNode 233 = .ok (.iinc 2 1, 3) := by decide +kernel
theorem dX10_writeNode_236 : decode cX10_writeNode 236 = .ok (.aload_n 0, 1) := by decide +kernel
theorem dX10_writeNode_237 : decode cX10_writeNode 237 = .ok (.iload_n 1, 1) := by decide +kernel
theorem dX10_writeNode_238 : decode cX10_writeNode 238 = .ok (.aload_n 0, 1) := by decide +kernel
theorem dX10_writeNode_239 : decode cX10_writeNode 239 = .ok (.getfield 20, 3) := by decide +kernel
theorem dX10_writeNode_242 : decode cX10_writeNode 242 = .ok (.iload_n 3, 1) := by decide +kernel
theorem dX10_writeNode_243 : decode cX10_writeNode 243 = .ok (.iaload, 1) := by decide +kernel
theorem dX10_writeNode_244 : decode cX10_writeNode 244 = .ok (.iconst 1, 1) := by decide +kernel
theorem dX10_writeNode_245 : decode cX10_writeNode 245 = .ok (.iadd, 1) := by decide +kernel
theorem dX10_writeNode_246 : decode cX10_writeNode 246 = .ok (.invokevirtual 96, 3) := by decide +kernel
theorem dX10_writeNode_249 : decode cX10_writeNode 249 = .ok (.istore_n 3, 1) := by decide +kernel
theorem dX10_writeNode_250 : decode cX10_writeNode 250 = .ok (.goto (-141), 3) := by decide +kernel
theorem dX10_writeNode_253 : decode cX10_writeNode 253 = .ok (.aload_n 0, 1) := by decide +kernel
theorem dX10_writeNode_254 : decode cX10_writeNode 254 = .ok (.getfield 56, 3) := by decide +kernel
theorem dX10_writeNode_257 : decode cX10_writeNode 257 = .ok (.bipush 23, 2) := by decide +kernel
theorem dX10_writeNode_259 : decode cX10_writeNode 259 = .ok (.iload_n 2, 1) := by decide +kernel
theorem dX10_writeNode_260 : decode cX10_writeNode 260 = .ok (.iastore, 1) := by decide +kernel
theorem dX10_writeNode_261 : decode cX10_writeNode 261 = .ok (.aload_n 0, 1) := by decide +kernel
theorem dX10_writeNode_262 : decode cX10_writeNode 262 = .ok (.aload_n 0, 1) := by decide +kernel
theorem dX10_writeNode_263 : decode cX10_writeNode 263 = .ok (.getfield 39, 3) := by decide +kernel
theorem dX10_writeNode_266 : decode cX10_writeNode 266 = .ok (.iload_n 1, 1) := by decide +kernel
theorem dX10_writeNode_267 : decode cX10_writeNode 267 = .ok (.iaload, 1) := by decide +kernel
theorem dX10_writeNode_268 : decode cX10_writeNode 268 = .ok (.invokevirtual 196, 3) := by decide +kernel
theorem dX10_writeNode_271 : decode cX10_writeNode 271 = .ok (.ireturn, 1) := by decide +kernel
set_option maxRecDepth 100000 in
set_option maxHeartbeats 4000000 in
theorem bX10_writeNode_109 {l : Launch} {g : xG} (a0 : Nat) (x1 : Int32) (x2 : Int32) (x3 : Int32) {M : xM} {Q : Option Value → xM → Prop} (h : ((x3 = (-1) → (xat M a0 7 ∧ (∃ a2, (xR M a0 25) = some a2 ∧ ∃ i4, xai M a2 9 (23 : Int32) i4 ∧ (∃ a6, (xR (xsI M a2 i4 x2) a0 12) = some a6 ∧ ∃ i8, xai (xsI M a2 i4 x2) a6 9 x1 i8 ∧ (xSp l g mX10_write 0 0 [va_rf (some a0), .int (xI (xsI M a2 i4 x2) a6 i8)] (xsI M a2 i4 x2) (fun ρ12 M11 => ∃ v10 : Int32, ρ12 = some (.int v10) ∧ ((v10 = 0 ∨ v10 = 1) ∧ Q (some (.int v10)) M11))))))) ∧ (¬ x3 = (-1) → (xat M a0 7 ∧ (∃ a16, (xR M a0 11) = some a16 ∧ ∃ i18, xai M a16 9 x1 i18 ∧ ((3 ≤ (xI M a16 i18) → (∃ i20, xai M a16 9 x1 i20 ∧ ((¬ (xI M a16 i20) = 3 → (∃ a22, (xR M a0 6) = some a22 ∧ ∃ i24, xai M a22 9 x3 i24 ∧ (∃ a26, (xR M a0 12) = some a26 ∧ ∃ i28, xai M a26 9 x3 i28 ∧ (∃ a30, (xR M a0 25) = some a30 ∧ ∃ i32, xai M a30 9 (24 + (xI M a22 i24)) i32 ∧ (∃ a34, (xR (xsI M a30 i32 (xI M a26 i28)) a0 6) = some a34 ∧ ∃ i36, xai (xsI M a30 i32 (xI M a26 i28)) a34 9 x3 i36 ∧ (xSp l g mX10_childFrom 0 0 [va_rf (some a0), .int x1, .int ((xI (xsI M a30 i32 (xI M a26 i28)) a34 i36) + 1)] (xsI M a30 i32 (xI M a26 i28)) (fun ρ40 M39 => ∃ v38 : Int32, ρ40 = some (.int v38) ∧ xWp l g mX10_writeNode 0 0 109 [(1, va_rf (some a0)), (1, .int x1), (1, .int (x2 + 1)), (1, .int v38)] [] (0, 0) M39 Q))))))) ∧ ((xI M a16 i20) = 3 → (∃ a42, (xR M a0 6) = some a42 ∧ ∃ i44, xai M a42 9 x3 i44 ∧ (∃ a46, (xR M a0 25) = some a46 ∧ ∃ i48, xai M a46 9 (24 + (xI M a42 i44)) i48 ∧ (∃ a50, (xR (xsI M a46 i48 (x2 + 1)) a0 12) = some a50 ∧ ∃ i52, xai (xsI M a46 i48 (x2 + 1)) a50 9 x3 i52 ∧ (∃ a54, (xR (xsI M a46 i48 (x2 + 1)) a0 25) = some a54 ∧ ∃ i56, xai (xsI M a46 i48 (x2 + 1)) a54 9 (280 + x2) i56 ∧ (∃ a58, (xR (xsI (xsI M a46 i48 (x2 + 1)) a54 i56 (xI (xsI M a46 i48 (x2 + 1)) a50 i52)) a0 6) = some a58 ∧ ∃ i60, xai (xsI (xsI M a46 i48 (x2 + 1)) a54 i56 (xI (xsI M a46 i48 (x2 + 1)) a50 i52)) a58 9 x3 i60 ∧ (xSp l g mX10_childFrom 0 0 [va_rf (some a0), .int x1, .int ((xI (xsI (xsI M a46 i48 (x2 + 1)) a54 i56 (xI (xsI M a46 i48 (x2 + 1)) a50 i52)) a58 i60) + 1)] (xsI (xsI M a46 i48 (x2 + 1)) a54 i56 (xI (xsI M a46 i48 (x2 + 1)) a50 i52)) (fun ρ64 M63 => ∃ v62 : Int32, ρ64 = some (.int v62) ∧ xWp l g mX10_writeNode 0 0 109 [(1, va_rf (some a0)), (1, .int x1), (1, .int (x2 + 1)), (1, .int v62)] [] (0, 0) M63 Q))))))))))) ∧ (¬ 3 ≤ (xI M a16 i18) → (∃ a67, (xR M a0 6) = some a67 ∧ ∃ i69, xai M a67 9 x3 i69 ∧ (∃ a71, (xR M a0 25) = some a71 ∧ ∃ i73, xai M a71 9 (24 + x2) i73 ∧ (∃ a75, (xR (xsI M a71 i73 (xI M a67 i69)) a0 11) = some a75 ∧ ∃ i77, xai (xsI M a71 i73 (xI M a67 i69)) a75 9 x1 i77 ∧ (xSp l g mX10_room 0 0 [.int (xI (xsI M a71 i73 (xI M a67 i69)) a75 i77)] (xsI M a71 i73 (xI M a67 i69)) (fun ρ81 M80 => ∃ v79 : Int32, ρ81 = some (.int v79) ∧ (xat M80 a0 7 ∧ (∃ a84, (xR M80 a0 12) = some a84 ∧ ∃ i86, xai M80 a84 9 x3 i86 ∧ (∃ a88, (xR (xsI M a71 i73 (xI M a67 i69)) a0 25) = some a88 ∧ ∃ i90, xai M80 a88 9 ((24 + v79) + x2) i90 ∧ (∃ a92, (xR (xsI M80 a88 i90 (xI M80 a84 i86)) a0 6) = some a92 ∧ ∃ i94, xai (xsI M80 a88 i90 (xI M80 a84 i86)) a92 9 x3 i94 ∧ (xSp l g mX10_childFrom 0 0 [va_rf (some a0), .int x1, .int ((xI (xsI M80 a88 i90 (xI M80 a84 i86)) a92 i94) + 1)] (xsI M80 a88 i90 (xI M80 a84 i86)) (fun ρ98 M97 => ∃ v96 : Int32, ρ98 = some (.int v96) ∧ xWp l g mX10_writeNode 0 0 109 [(1, va_rf (some a0)), (1, .int x1), (1, .int (x2 + 1)), (1, .int v96)] [] (0, 0) M97 Q)))))))))))))))))) : xWp l g mX10_writeNode 0 0 109 [(1, va_rf (some a0)), (1, .int x1), (1, .int x2), (1, .int x3)] [] (0, 0) M Q := by
  refine xr_iload_n 3 dX10_writeNode_109 rfl rfl ?_
  refine xr_iconst (-1) dX10_writeNode_110 (by decide) ?_
  obtain ⟨ht, hf⟩ := h
  refine xr_icmp_eq 253 dX10_writeNode_111 (by decide) (fun c101 => ?_) (fun c101 => ?_)
  · replace h := ht c101
    clear ht hf
    refine xr_aload_n 0 dX10_writeNode_253 rfl rfl ?_
    obtain ⟨t1, h⟩ := h
    refine yr_getR dX10_writeNode_254 fl_RX10_56 rfl t1 ?_
    refine xr_bipush 23 dX10_writeNode_257 (by decide) ?_
    refine xr_iload_n 2 dX10_writeNode_259 rfl rfl ?_
    obtain ⟨a2, e3, h⟩ := h
    obtain ⟨i4, t5, h⟩ := h
    refine yr_iast dX10_writeNode_260 e3 t5 ?_
    refine xr_aload_n 0 dX10_writeNode_261 rfl rfl ?_
    refine xr_aload_n 0 dX10_writeNode_262 rfl rfl ?_
    refine yr_getR dX10_writeNode_263 fl_RX10_39 rfl t1 ?_
    refine xr_iload_n 1 dX10_writeNode_266 rfl rfl ?_
    obtain ⟨a6, e7, h⟩ := h
    obtain ⟨i8, t9, h⟩ := h
    refine yr_iald dX10_writeNode_267 e7 t9 ?_
    refine yr_callV (r := (some a0)) [.int (xI (xsI M a2 i4 x2) a6 i8)] dX10_writeNode_268 cv_X10_writeNode_196 rfl t1 rfl (Nat.le_trans wt_0 (by decide)) (by decide) (xSp.mono h ?_)
    clear h
    intro ρ12 M11 h
    obtain ⟨v10, rfl, h⟩ := h
    obtain ⟨z14, h⟩ := h
    exact xr_retv (by decide) (xRi rfl (nar_z z14) dX10_writeNode_271) h
  · replace h := hf c101
    clear ht hf
    refine xr_aload_n 0 dX10_writeNode_114 rfl rfl ?_
    obtain ⟨t15, h⟩ := h
    refine yr_getR dX10_writeNode_115 fl_RX10_36 rfl t15 ?_
    refine xr_iload_n 1 dX10_writeNode_118 rfl rfl ?_
    obtain ⟨a16, e17, h⟩ := h
    obtain ⟨i18, t19, h⟩ := h
    refine yr_iald dX10_writeNode_119 e17 t19 ?_
    refine xr_iconst 3 dX10_writeNode_120 (by decide) ?_
    obtain ⟨ht, hf⟩ := h
    refine xr_icmp_ge 167 dX10_writeNode_121 (by decide) (fun c100 => ?_) (fun c100 => ?_)
    · replace h := ht c100
      clear ht hf
      refine xr_aload_n 0 dX10_writeNode_167 rfl rfl ?_
      refine yr_getR dX10_writeNode_168 fl_RX10_36 rfl t15 ?_
      refine xr_iload_n 1 dX10_writeNode_171 rfl rfl ?_
      obtain ⟨i20, t21, h⟩ := h
      refine yr_iald dX10_writeNode_172 e17 t21 ?_
      refine xr_iconst 3 dX10_writeNode_173 (by decide) ?_
      obtain ⟨ht, hf⟩ := h
      refine xr_icmp_ne 213 dX10_writeNode_174 (by decide) (fun c66 => ?_) (fun c66 => ?_)
      · replace h := ht c66
        clear ht hf
        refine xr_aload_n 0 dX10_writeNode_213 rfl rfl ?_
        refine yr_getR dX10_writeNode_214 fl_RX10_56 rfl t15 ?_
        refine xr_bipush 24 dX10_writeNode_217 (by decide) ?_
        refine xr_aload_n 0 dX10_writeNode_219 rfl rfl ?_
        refine yr_getR dX10_writeNode_220 fl_RX10_20 rfl t15 ?_
        refine xr_iload_n 3 dX10_writeNode_223 rfl rfl ?_
        obtain ⟨a22, e23, h⟩ := h
        obtain ⟨i24, t25, h⟩ := h
        refine yr_iald dX10_writeNode_224 e23 t25 ?_
        refine xr_iadd dX10_writeNode_225 ?_
        refine xr_aload_n 0 dX10_writeNode_226 rfl rfl ?_
        refine yr_getR dX10_writeNode_227 fl_RX10_39 rfl t15 ?_
        refine xr_iload_n 3 dX10_writeNode_230 rfl rfl ?_
        obtain ⟨a26, e27, h⟩ := h
        obtain ⟨i28, t29, h⟩ := h
        refine yr_iald dX10_writeNode_231 e27 t29 ?_
        obtain ⟨a30, e31, h⟩ := h
        obtain ⟨i32, t33, h⟩ := h
        refine yr_iast dX10_writeNode_232 e31 t33 ?_
        refine ziinc (x2 + 1) dX10_writeNode_233 rfl rfl (L1 := [(1, va_rf (some a0)), (1, .int x1), (1, .int (x2 + 1)), (1, .int x3)]) (by decide) rfl ?_
        refine xr_aload_n 0 dX10_writeNode_236 rfl rfl ?_
        refine xr_iload_n 1 dX10_writeNode_237 rfl rfl ?_
        refine xr_aload_n 0 dX10_writeNode_238 rfl rfl ?_
        refine yr_getR dX10_writeNode_239 fl_RX10_20 rfl t15 ?_
        refine xr_iload_n 3 dX10_writeNode_242 rfl rfl ?_
        obtain ⟨a34, e35, h⟩ := h
        obtain ⟨i36, t37, h⟩ := h
        refine yr_iald dX10_writeNode_243 e35 t37 ?_
        refine xr_iconst 1 dX10_writeNode_244 (by decide) ?_
        refine xr_iadd dX10_writeNode_245 ?_
        refine yr_callV (r := (some a0)) [.int x1, .int ((xI (xsI M a30 i32 (xI M a26 i28)) a34 i36) + 1)] dX10_writeNode_246 cv_X10_writeNode_96 rfl t15 rfl (Nat.le_trans wt_0 (by decide)) (by decide) (xSp.mono h ?_)
        clear h
        intro ρ40 M39 h
        obtain ⟨v38, rfl, h⟩ := h
        refine zistore_n 3 dX10_writeNode_249 rfl (L1 := [(1, va_rf (some a0)), (1, .int x1), (1, .int (x2 + 1)), (1, .int v38)]) (by decide) rfl ?_
        refine xr_goto 109 dX10_writeNode_250 (by decide) ?_
        exact h
      · replace h := hf c66
        clear ht hf
        refine xr_aload_n 0 dX10_writeNode_177 rfl rfl ?_
        refine yr_getR dX10_writeNode_178 fl_RX10_56 rfl t15 ?_
        refine xr_bipush 24 dX10_writeNode_181 (by decide) ?_
        refine xr_aload_n 0 dX10_writeNode_183 rfl rfl ?_
        refine yr_getR dX10_writeNode_184 fl_RX10_20 rfl t15 ?_
        refine xr_iload_n 3 dX10_writeNode_187 rfl rfl ?_
        obtain ⟨a42, e43, h⟩ := h
        obtain ⟨i44, t45, h⟩ := h
        refine yr_iald dX10_writeNode_188 e43 t45 ?_
        refine xr_iadd dX10_writeNode_189 ?_
        refine xr_iload_n 2 dX10_writeNode_190 rfl rfl ?_
        refine xr_iconst 1 dX10_writeNode_191 (by decide) ?_
        refine xr_iadd dX10_writeNode_192 ?_
        obtain ⟨a46, e47, h⟩ := h
        obtain ⟨i48, t49, h⟩ := h
        refine yr_iast dX10_writeNode_193 e47 t49 ?_
        refine xr_aload_n 0 dX10_writeNode_194 rfl rfl ?_
        refine yr_getR dX10_writeNode_195 fl_RX10_56 rfl t15 ?_
        refine xr_sipush 280 dX10_writeNode_198 (by decide) ?_
        refine xr_iload_n 2 dX10_writeNode_201 rfl rfl ?_
        refine xr_iadd dX10_writeNode_202 ?_
        refine xr_aload_n 0 dX10_writeNode_203 rfl rfl ?_
        refine yr_getR dX10_writeNode_204 fl_RX10_39 rfl t15 ?_
        refine xr_iload_n 3 dX10_writeNode_207 rfl rfl ?_
        obtain ⟨a50, e51, h⟩ := h
        obtain ⟨i52, t53, h⟩ := h
        refine yr_iald dX10_writeNode_208 e51 t53 ?_
        obtain ⟨a54, e55, h⟩ := h
        obtain ⟨i56, t57, h⟩ := h
        refine yr_iast dX10_writeNode_209 e55 t57 ?_
        refine xr_goto 233 dX10_writeNode_210 (by decide) ?_
        refine ziinc (x2 + 1) dX10_writeNode_233 rfl rfl (L1 := [(1, va_rf (some a0)), (1, .int x1), (1, .int (x2 + 1)), (1, .int x3)]) (by decide) rfl ?_
        refine xr_aload_n 0 dX10_writeNode_236 rfl rfl ?_
        refine xr_iload_n 1 dX10_writeNode_237 rfl rfl ?_
        refine xr_aload_n 0 dX10_writeNode_238 rfl rfl ?_
        refine yr_getR dX10_writeNode_239 fl_RX10_20 rfl t15 ?_
        refine xr_iload_n 3 dX10_writeNode_242 rfl rfl ?_
        obtain ⟨a58, e59, h⟩ := h
        obtain ⟨i60, t61, h⟩ := h
        refine yr_iald dX10_writeNode_243 e59 t61 ?_
        refine xr_iconst 1 dX10_writeNode_244 (by decide) ?_
        refine xr_iadd dX10_writeNode_245 ?_
        refine yr_callV (r := (some a0)) [.int x1, .int ((xI (xsI (xsI M a46 i48 (x2 + 1)) a54 i56 (xI (xsI M a46 i48 (x2 + 1)) a50 i52)) a58 i60) + 1)] dX10_writeNode_246 cv_X10_writeNode_96 rfl t15 rfl (Nat.le_trans wt_0 (by decide)) (by decide) (xSp.mono h ?_)
        clear h
        intro ρ64 M63 h
        obtain ⟨v62, rfl, h⟩ := h
        refine zistore_n 3 dX10_writeNode_249 rfl (L1 := [(1, va_rf (some a0)), (1, .int x1), (1, .int (x2 + 1)), (1, .int v62)]) (by decide) rfl ?_
        refine xr_goto 109 dX10_writeNode_250 (by decide) ?_
        exact h
    · replace h := hf c100
      clear ht hf
      refine xr_aload_n 0 dX10_writeNode_124 rfl rfl ?_
      refine yr_getR dX10_writeNode_125 fl_RX10_56 rfl t15 ?_
      refine xr_bipush 24 dX10_writeNode_128 (by decide) ?_
      refine xr_iload_n 2 dX10_writeNode_130 rfl rfl ?_
      refine xr_iadd dX10_writeNode_131 ?_
      refine xr_aload_n 0 dX10_writeNode_132 rfl rfl ?_
      refine yr_getR dX10_writeNode_133 fl_RX10_20 rfl t15 ?_
      refine xr_iload_n 3 dX10_writeNode_136 rfl rfl ?_
      obtain ⟨a67, e68, h⟩ := h
      obtain ⟨i69, t70, h⟩ := h
      refine yr_iald dX10_writeNode_137 e68 t70 ?_
      obtain ⟨a71, e72, h⟩ := h
      obtain ⟨i73, t74, h⟩ := h
      refine yr_iast dX10_writeNode_138 e72 t74 ?_
      refine xr_aload_n 0 dX10_writeNode_139 rfl rfl ?_
      refine yr_getR dX10_writeNode_140 fl_RX10_56 rfl t15 ?_
      refine xr_bipush 24 dX10_writeNode_143 (by decide) ?_
      refine xr_aload_n 0 dX10_writeNode_145 rfl rfl ?_
      refine yr_getR dX10_writeNode_146 fl_RX10_36 rfl t15 ?_
      refine xr_iload_n 1 dX10_writeNode_149 rfl rfl ?_
      obtain ⟨a75, e76, h⟩ := h
      obtain ⟨i77, t78, h⟩ := h
      refine yr_iald dX10_writeNode_150 e76 t78 ?_
      refine xr_callS [.int (xI (xsI M a71 i73 (xI M a67 i69)) a75 i77)] dX10_writeNode_151 cs_X10_writeNode_149 rfl (Nat.le_trans (wt_i (wt_r wt_0)) (by decide)) (by decide) (xSp.mono h ?_)
      clear h
      intro ρ81 M80 h
      obtain ⟨v79, rfl, h⟩ := h
      refine xr_iadd dX10_writeNode_154 ?_
      refine xr_iload_n 2 dX10_writeNode_155 rfl rfl ?_
      refine xr_iadd dX10_writeNode_156 ?_
      refine xr_aload_n 0 dX10_writeNode_157 rfl rfl ?_
      obtain ⟨t83, h⟩ := h
      refine yr_getR dX10_writeNode_158 fl_RX10_39 rfl t83 ?_
      refine xr_iload_n 3 dX10_writeNode_161 rfl rfl ?_
      obtain ⟨a84, e85, h⟩ := h
      obtain ⟨i86, t87, h⟩ := h
      refine yr_iald dX10_writeNode_162 e85 t87 ?_
      obtain ⟨a88, e89, h⟩ := h
      obtain ⟨i90, t91, h⟩ := h
      refine yr_iast dX10_writeNode_163 e89 t91 ?_
      refine xr_goto 233 dX10_writeNode_164 (by decide) ?_
      refine ziinc (x2 + 1) dX10_writeNode_233 rfl rfl (L1 := [(1, va_rf (some a0)), (1, .int x1), (1, .int (x2 + 1)), (1, .int x3)]) (by decide) rfl ?_
      refine xr_aload_n 0 dX10_writeNode_236 rfl rfl ?_
      refine xr_iload_n 1 dX10_writeNode_237 rfl rfl ?_
      refine xr_aload_n 0 dX10_writeNode_238 rfl rfl ?_
      refine yr_getR dX10_writeNode_239 fl_RX10_20 rfl t83 ?_
      refine xr_iload_n 3 dX10_writeNode_242 rfl rfl ?_
      obtain ⟨a92, e93, h⟩ := h
      obtain ⟨i94, t95, h⟩ := h
      refine yr_iald dX10_writeNode_243 e93 t95 ?_
      refine xr_iconst 1 dX10_writeNode_244 (by decide) ?_
      refine xr_iadd dX10_writeNode_245 ?_
      refine yr_callV (r := (some a0)) [.int x1, .int ((xI (xsI M80 a88 i90 (xI M80 a84 i86)) a92 i94) + 1)] dX10_writeNode_246 cv_X10_writeNode_96 rfl t83 rfl (Nat.le_trans wt_0 (by decide)) (by decide) (xSp.mono h ?_)
      clear h
      intro ρ98 M97 h
      obtain ⟨v96, rfl, h⟩ := h
      refine zistore_n 3 dX10_writeNode_249 rfl (L1 := [(1, va_rf (some a0)), (1, .int x1), (1, .int (x2 + 1)), (1, .int v96)]) (by decide) rfl ?_
      refine xr_goto 109 dX10_writeNode_250 (by decide) ?_
      exact h
set_option maxRecDepth 100000 in
set_option maxHeartbeats 4000000 in
theorem bX10_writeNode_64 {l : Launch} {g : xG} (a0 : Nat) (x1 : Int32) (x2 : Int32) (w3 : Value) {M : xM} {Q : Option Value → xM → Prop} (h : (xat M a0 7 ∧ (∃ a2, (xR M a0 8) = some a2 ∧ ∃ i4, xai M a2 9 x1 i4 ∧ (((xI M a2 i4) ≤ x2 → (xSp l g mX10_childFrom 0 0 [va_rf (some a0), .int x1, .int 0] M (fun ρ8 M7 => ∃ v6 : Int32, ρ8 = some (.int v6) ∧ xWp l g mX10_writeNode 0 0 109 [(1, va_rf (some a0)), (1, .int x1), (1, .int 0), (1, .int v6)] [] (0, 0) M7 Q))) ∧ (¬ (xI M a2 i4) ≤ x2 → (∃ a10, (xR M a0 7) = some a10 ∧ ∃ i12, xai M a10 9 ((12 * x1) + x2) i12 ∧ (∃ a14, (xR M a0 25) = some a14 ∧ ∃ i16, xai M a14 9 (11 + x2) i16 ∧ xWp l g mX10_writeNode 0 0 64 [(1, va_rf (some a0)), (1, .int x1), (1, .int (x2 + 1)), (0, w3)] [] (0, 0) (xsI M a14 i16 (xI M a10 i12)) Q))))))) : xWp l g mX10_writeNode 0 0 64 [(1, va_rf (some a0)), (1, .int x1), (1, .int x2), (0, w3)] [] (0, 0) M Q := by
  refine xr_iload_n 2 dX10_writeNode_64 rfl rfl ?_
  refine xr_aload_n 0 dX10_writeNode_65 rfl rfl ?_
  obtain ⟨t1, h⟩ := h
  refine yr_getR dX10_writeNode_66 fl_RX10_26 rfl t1 ?_
  refine xr_iload_n 1 dX10_writeNode_69 rfl rfl ?_
  obtain ⟨a2, e3, h⟩ := h
  obtain ⟨i4, t5, h⟩ := h
  refine yr_iald dX10_writeNode_70 e3 t5 ?_
  obtain ⟨ht, hf⟩ := h
  refine xr_icmp_ge 100 dX10_writeNode_71 (by decide) (fun c18 => ?_) (fun c18 => ?_)
  · replace h := ht c18
    clear ht hf
    refine xr_iconst 0 dX10_writeNode_100 (by decide) ?_
    refine zistore_n 2 dX10_writeNode_101 rfl (L1 := [(1, va_rf (some a0)), (1, .int x1), (1, .int 0), (0, w3)]) (by decide) rfl ?_
    refine xr_aload_n 0 dX10_writeNode_102 rfl rfl ?_
    refine xr_iload_n 1 dX10_writeNode_103 rfl rfl ?_
    refine xr_iconst 0 dX10_writeNode_104 (by decide) ?_
    refine yr_callV (r := (some a0)) [.int x1, .int 0] dX10_writeNode_105 cv_X10_writeNode_96 rfl t1 rfl (Nat.le_trans wt_0 (by decide)) (by decide) (xSp.mono h ?_)
    clear h
    intro ρ8 M7 h
    obtain ⟨v6, rfl, h⟩ := h
    refine zistore_n 3 dX10_writeNode_108 rfl (L1 := [(1, va_rf (some a0)), (1, .int x1), (1, .int 0), (1, .int v6)]) (by decide) rfl ?_
    exact h
  · replace h := hf c18
    clear ht hf
    refine xr_aload_n 0 dX10_writeNode_74 rfl rfl ?_
    refine yr_getR dX10_writeNode_75 fl_RX10_56 rfl t1 ?_
    refine xr_bipush 11 dX10_writeNode_78 (by decide) ?_
    refine xr_iload_n 2 dX10_writeNode_80 rfl rfl ?_
    refine xr_iadd dX10_writeNode_81 ?_
    refine xr_aload_n 0 dX10_writeNode_82 rfl rfl ?_
    refine yr_getR dX10_writeNode_83 fl_RX10_23 rfl t1 ?_
    refine xr_bipush 12 dX10_writeNode_86 (by decide) ?_
    refine xr_iload_n 1 dX10_writeNode_88 rfl rfl ?_
    refine xr_imul dX10_writeNode_89 ?_
    refine xr_iload_n 2 dX10_writeNode_90 rfl rfl ?_
    refine xr_iadd dX10_writeNode_91 ?_
    obtain ⟨a10, e11, h⟩ := h
    obtain ⟨i12, t13, h⟩ := h
    refine yr_iald dX10_writeNode_92 e11 t13 ?_
    obtain ⟨a14, e15, h⟩ := h
    obtain ⟨i16, t17, h⟩ := h
    refine yr_iast dX10_writeNode_93 e15 t17 ?_
    refine ziinc (x2 + 1) dX10_writeNode_94 rfl rfl (L1 := [(1, va_rf (some a0)), (1, .int x1), (1, .int (x2 + 1)), (0, w3)]) (by decide) rfl ?_
    refine xr_goto 64 dX10_writeNode_97 (by decide) ?_
    exact h
set_option maxRecDepth 100000 in
set_option maxHeartbeats 4000000 in
theorem bX10_writeNode_0 {l : Launch} {g : xG} (a0 : Nat) (x1 : Int32) {M : xM} {Q : Option Value → xM → Prop} (h : (xat M a0 7 ∧ xSp l g mX10_beginSheet 0 0 [va_rf (some a0)] M (fun ρ3 M2 => ρ3 = none ∧ (xat M2 a0 7 ∧ (∃ a7, (xR M2 a0 11) = some a7 ∧ ∃ i9, xai M2 a7 9 x1 i9 ∧ (∃ a11, (xR M2 a0 25) = some a11 ∧ ∃ i13, xai M2 a11 9 (0 : Int32) i13 ∧ (∃ a15, (xR (xsI M2 a11 i13 (xI M2 a7 i9)) a0 9) = some a15 ∧ ∃ i17, xai (xsI M2 a11 i13 (xI M2 a7 i9)) a15 11 x1 i17 ∧ (((xI (xsI M2 a11 i13 (xI M2 a7 i9)) a15 i17) = 0 → (∃ a19, (xR (xsI M2 a11 i13 (xI M2 a7 i9)) a0 25) = some a19 ∧ ∃ i21, xai (xsI M2 a11 i13 (xI M2 a7 i9)) a19 9 (1 : Int32) i21 ∧ (∃ a23, (xR (xsI (xsI M2 a11 i13 (xI M2 a7 i9)) a19 i21 0) a0 10) = some a23 ∧ ∃ i25, xai (xsI (xsI M2 a11 i13 (xI M2 a7 i9)) a19 i21 0) a23 10 x1 i25 ∧ (xSp l g mX10_number 0 0 [va_rf (some a0), .int 2, .int 8, .long (xJ (xsI (xsI M2 a11 i13 (xI M2 a7 i9)) a19 i21 0) a23 i25)] (xsI (xsI M2 a11 i13 (xI M2 a7 i9)) a19 i21 0) (fun ρ29 M28 => ρ29 = none ∧ (xat M28 a0 7 ∧ (∃ a32, (xR M28 a0 8) = some a32 ∧ ∃ i34, xai M28 a32 9 x1 i34 ∧ (∃ a36, (xR M28 a0 25) = some a36 ∧ ∃ i38, xai M28 a36 9 (10 : Int32) i38 ∧ xWp l g mX10_writeNode 0 0 64 [(1, va_rf (some a0)), (1, .int x1), (1, .int 0), (0, .null)] [] (0, 0) (xsI M28 a36 i38 (xI M28 a32 i34)) Q)))))))) ∧ (¬ (xI (xsI M2 a11 i13 (xI M2 a7 i9)) a15 i17) = 0 → (∃ a40, (xR (xsI M2 a11 i13 (xI M2 a7 i9)) a0 25) = some a40 ∧ ∃ i42, xai (xsI M2 a11 i13 (xI M2 a7 i9)) a40 9 (1 : Int32) i42 ∧ (∃ a44, (xR (xsI (xsI M2 a11 i13 (xI M2 a7 i9)) a40 i42 1) a0 10) = some a44 ∧ ∃ i46, xai (xsI (xsI M2 a11 i13 (xI M2 a7 i9)) a40 i42 1) a44 10 x1 i46 ∧ (xSp l g mX10_number 0 0 [va_rf (some a0), .int 2, .int 8, .long (xJ (xsI (xsI M2 a11 i13 (xI M2 a7 i9)) a40 i42 1) a44 i46)] (xsI (xsI M2 a11 i13 (xI M2 a7 i9)) a40 i42 1) (fun ρ50 M49 => ρ50 = none ∧ (xat M49 a0 7 ∧ (∃ a53, (xR M49 a0 8) = some a53 ∧ ∃ i55, xai M49 a53 9 x1 i55 ∧ (∃ a57, (xR M49 a0 25) = some a57 ∧ ∃ i59, xai M49 a57 9 (10 : Int32) i59 ∧ xWp l g mX10_writeNode 0 0 64 [(1, va_rf (some a0)), (1, .int x1), (1, .int 0), (0, .null)] [] (0, 0) (xsI M49 a57 i59 (xI M49 a53 i55)) Q)))))))))))))))) : xWp l g mX10_writeNode 0 0 0 [(1, va_rf (some a0)), (1, .int x1), (0, .null), (0, .null)] [] (0, 0) M Q := by
  refine xr_aload_n 0 dX10_writeNode_0 rfl rfl ?_
  obtain ⟨t5, h⟩ := h
  refine yr_callV (r := (some a0)) [] dX10_writeNode_1 cv_X10_writeNode_193 rfl t5 rfl (Nat.le_trans wt_0 (by decide)) (by decide) (xSp.mono h ?_)
  clear h
  intro ρ3 M2 h
  obtain ⟨rfl, h⟩ := h
  refine xr_aload_n 0 dX10_writeNode_4 rfl rfl ?_
  obtain ⟨t6, h⟩ := h
  refine yr_getR dX10_writeNode_5 fl_RX10_56 rfl t6 ?_
  refine xr_iconst 0 dX10_writeNode_8 (by decide) ?_
  refine xr_aload_n 0 dX10_writeNode_9 rfl rfl ?_
  refine yr_getR dX10_writeNode_10 fl_RX10_36 rfl t6 ?_
  refine xr_iload_n 1 dX10_writeNode_13 rfl rfl ?_
  obtain ⟨a7, e8, h⟩ := h
  obtain ⟨i9, t10, h⟩ := h
  refine yr_iald dX10_writeNode_14 e8 t10 ?_
  obtain ⟨a11, e12, h⟩ := h
  obtain ⟨i13, t14, h⟩ := h
  refine yr_iast dX10_writeNode_15 e12 t14 ?_
  refine xr_aload_n 0 dX10_writeNode_16 rfl rfl ?_
  refine yr_getR dX10_writeNode_17 fl_RX10_56 rfl t6 ?_
  refine xr_iconst 1 dX10_writeNode_20 (by decide) ?_
  refine xr_aload_n 0 dX10_writeNode_21 rfl rfl ?_
  refine yr_getR dX10_writeNode_22 fl_RX10_29 rfl t6 ?_
  refine xr_iload_n 1 dX10_writeNode_25 rfl rfl ?_
  obtain ⟨a15, e16, h⟩ := h
  obtain ⟨i17, t18, h⟩ := h
  refine yr_zald dX10_writeNode_26 e16 t18 ?_
  obtain ⟨ht, hf⟩ := h
  refine xr_if_eq 34 dX10_writeNode_27 (by decide) (fun c61 => ?_) (fun c61 => ?_)
  · replace h := ht c61
    clear ht hf
    refine xr_iconst 0 dX10_writeNode_34 (by decide) ?_
    obtain ⟨a19, e20, h⟩ := h
    obtain ⟨i21, t22, h⟩ := h
    refine yr_iast dX10_writeNode_35 e20 t22 ?_
    refine xr_aload_n 0 dX10_writeNode_36 rfl rfl ?_
    refine xr_iconst 2 dX10_writeNode_37 (by decide) ?_
    refine xr_bipush 8 dX10_writeNode_38 (by decide) ?_
    refine xr_aload_n 0 dX10_writeNode_40 rfl rfl ?_
    refine yr_getR dX10_writeNode_41 fl_RX10_32 rfl t6 ?_
    refine xr_iload_n 1 dX10_writeNode_44 rfl rfl ?_
    obtain ⟨a23, e24, h⟩ := h
    obtain ⟨i25, t26, h⟩ := h
    refine yr_lald dX10_writeNode_45 e24 t26 ?_
    refine yr_callV (r := (some a0)) [.int 2, .int 8, .long (xJ (xsI (xsI M2 a11 i13 (xI M2 a7 i9)) a19 i21 0) a23 i25)] dX10_writeNode_46 cv_X10_writeNode_186 rfl t6 rfl (Nat.le_trans wt_0 (by decide)) (by decide) (xSp.mono h ?_)
    clear h
    intro ρ29 M28 h
    obtain ⟨rfl, h⟩ := h
    refine xr_aload_n 0 dX10_writeNode_49 rfl rfl ?_
    obtain ⟨t31, h⟩ := h
    refine yr_getR dX10_writeNode_50 fl_RX10_56 rfl t31 ?_
    refine xr_bipush 10 dX10_writeNode_53 (by decide) ?_
    refine xr_aload_n 0 dX10_writeNode_55 rfl rfl ?_
    refine yr_getR dX10_writeNode_56 fl_RX10_26 rfl t31 ?_
    refine xr_iload_n 1 dX10_writeNode_59 rfl rfl ?_
    obtain ⟨a32, e33, h⟩ := h
    obtain ⟨i34, t35, h⟩ := h
    refine yr_iald dX10_writeNode_60 e33 t35 ?_
    obtain ⟨a36, e37, h⟩ := h
    obtain ⟨i38, t39, h⟩ := h
    refine yr_iast dX10_writeNode_61 e37 t39 ?_
    refine xr_iconst 0 dX10_writeNode_62 (by decide) ?_
    refine zistore_n 2 dX10_writeNode_63 rfl (L1 := [(1, va_rf (some a0)), (1, .int x1), (1, .int 0), (0, .null)]) (by decide) rfl ?_
    exact h
  · replace h := hf c61
    clear ht hf
    refine xr_iconst 1 dX10_writeNode_30 (by decide) ?_
    refine xr_goto 35 dX10_writeNode_31 (by decide) ?_
    obtain ⟨a40, e41, h⟩ := h
    obtain ⟨i42, t43, h⟩ := h
    refine yr_iast dX10_writeNode_35 e41 t43 ?_
    refine xr_aload_n 0 dX10_writeNode_36 rfl rfl ?_
    refine xr_iconst 2 dX10_writeNode_37 (by decide) ?_
    refine xr_bipush 8 dX10_writeNode_38 (by decide) ?_
    refine xr_aload_n 0 dX10_writeNode_40 rfl rfl ?_
    refine yr_getR dX10_writeNode_41 fl_RX10_32 rfl t6 ?_
    refine xr_iload_n 1 dX10_writeNode_44 rfl rfl ?_
    obtain ⟨a44, e45, h⟩ := h
    obtain ⟨i46, t47, h⟩ := h
    refine yr_lald dX10_writeNode_45 e45 t47 ?_
    refine yr_callV (r := (some a0)) [.int 2, .int 8, .long (xJ (xsI (xsI M2 a11 i13 (xI M2 a7 i9)) a40 i42 1) a44 i46)] dX10_writeNode_46 cv_X10_writeNode_186 rfl t6 rfl (Nat.le_trans wt_0 (by decide)) (by decide) (xSp.mono h ?_)
    clear h
    intro ρ50 M49 h
    obtain ⟨rfl, h⟩ := h
    refine xr_aload_n 0 dX10_writeNode_49 rfl rfl ?_
    obtain ⟨t52, h⟩ := h
    refine yr_getR dX10_writeNode_50 fl_RX10_56 rfl t52 ?_
    refine xr_bipush 10 dX10_writeNode_53 (by decide) ?_
    refine xr_aload_n 0 dX10_writeNode_55 rfl rfl ?_
    refine yr_getR dX10_writeNode_56 fl_RX10_26 rfl t52 ?_
    refine xr_iload_n 1 dX10_writeNode_59 rfl rfl ?_
    obtain ⟨a53, e54, h⟩ := h
    obtain ⟨i55, t56, h⟩ := h
    refine yr_iald dX10_writeNode_60 e54 t56 ?_
    obtain ⟨a57, e58, h⟩ := h
    obtain ⟨i59, t60, h⟩ := h
    refine yr_iast dX10_writeNode_61 e58 t60 ?_
    refine xr_iconst 0 dX10_writeNode_62 (by decide) ?_
    refine zistore_n 2 dX10_writeNode_63 rfl (L1 := [(1, va_rf (some a0)), (1, .int x1), (1, .int 0), (0, .null)]) (by decide) rfl ?_
    exact h
theorem dX10_deepest_0 : decode cX10_deepest 0 = .ok (.iload_n 1, 1) := by decide +kernel
theorem dX10_deepest_1 : decode cX10_deepest 1 = .ok (.istore_n 2, 1) := by decide +kernel
theorem dX10_deepest_2 : decode cX10_deepest 2 = .ok (.aload_n 0, 1) := by decide +kernel
theorem dX10_deepest_3 : decode cX10_deepest 3 = .ok (.iload_n 1, 1) := by decide +kernel
theorem dX10_deepest_4 : decode cX10_deepest 4 = .ok (.iconst 0, 1) := by decide +kernel
theorem dX10_deepest_5 : decode cX10_deepest 5 = .ok (.invokevirtual 96, 3) := by decide +kernel
theorem dX10_deepest_8 : decode cX10_deepest 8 = .ok (.istore_n 3, 1) := by decide +kernel
theorem dX10_deepest_9 : decode cX10_deepest 9 = .ok (.iload_n 3, 1) := by decide +kernel
theorem dX10_deepest_10 : decode cX10_deepest 10 = .ok (.iconst (-1), 1) := by decide +kernel
theorem dX10_deepest_11 : decode cX10_deepest 11 = .ok (.if_icmp .eq 15, 3) := by decide +kernel
theorem dX10_deepest_14 : decode cX10_deepest 14 = .ok (.iload_n 3, 1) := by decide +kernel
theorem dX10_deepest_15 : decode cX10_deepest 15 = .ok (.istore_n 2, 1) := by decide +kernel
theorem dX10_deepest_16 : decode cX10_deepest 16 = .ok (.aload_n 0, 1) := by decide +kernel
theorem dX10_deepest_17 : decode cX10_deepest 17 = .ok (.iload_n 3, 1) := by decide +kernel
theorem dX10_deepest_18 : decode cX10_deepest 18 = .ok (.iconst 0, 1) := by decide +kernel
theorem dX10_deepest_19 : decode cX10_deepest 19 = .ok (.invokevirtual 96, 3) := by decide +kernel
theorem dX10_deepest_22 : decode cX10_deepest 22 = .ok (.istore_n 3, 1) := by decide +kernel
theorem dX10_deepest_23 : decode cX10_deepest 23 = .ok (.goto (-14), 3) := by decide +kernel
theorem dX10_deepest_26 : decode cX10_deepest 26 = .ok (.iload_n 2, 1) := by decide +kernel
theorem dX10_deepest_27 : decode cX10_deepest 27 = .ok (.ireturn, 1) := by decide +kernel
set_option maxRecDepth 100000 in
set_option maxHeartbeats 4000000 in
theorem bX10_deepest_9 {l : Launch} {g : xG} (a0 : Nat) (x1 : Int32) (x2 : Int32) (x3 : Int32) {M : xM} {Q : Option Value → xM → Prop} (h : ((x3 = (-1) → (Q (some (.int x2)) M)) ∧ (¬ x3 = (-1) → (xat M a0 7 ∧ xSp l g mX10_childFrom 0 0 [va_rf (some a0), .int x3, .int 0] M (fun ρ3 M2 => ∃ v1 : Int32, ρ3 = some (.int v1) ∧ xWp l g mX10_deepest 0 0 9 [(1, va_rf (some a0)), (1, .int x1), (1, .int x3), (1, .int v1)] [] (0, 0) M2 Q))))) : xWp l g mX10_deepest 0 0 9 [(1, va_rf (some a0)), (1, .int x1), (1, .int x2), (1, .int x3)] [] (0, 0) M Q := by
  refine xr_iload_n 3 dX10_deepest_9 rfl rfl ?_
  refine xr_iconst (-1) dX10_deepest_10 (by decide) ?_
  obtain ⟨ht, hf⟩ := h
  refine xr_icmp_eq 26 dX10_deepest_11 (by decide) (fun c6 => ?_) (fun c6 => ?_)
  · replace h := ht c6
    clear ht hf
    refine xr_iload_n 2 dX10_deepest_26 rfl rfl ?_
    exact xr_retv (by decide) (xRi rfl rfl dX10_deepest_27) h
  · replace h := hf c6
    clear ht hf
    refine xr_iload_n 3 dX10_deepest_14 rfl rfl ?_
    refine zistore_n 2 dX10_deepest_15 rfl (L1 := [(1, va_rf (some a0)), (1, .int x1), (1, .int x3), (1, .int x3)]) (by decide) rfl ?_
    refine xr_aload_n 0 dX10_deepest_16 rfl rfl ?_
    refine xr_iload_n 3 dX10_deepest_17 rfl rfl ?_
    refine xr_iconst 0 dX10_deepest_18 (by decide) ?_
    obtain ⟨t5, h⟩ := h
    refine yr_callV (r := (some a0)) [.int x3, .int 0] dX10_deepest_19 cv_X10_deepest_96 rfl t5 rfl (Nat.le_trans wt_0 (by decide)) (by decide) (xSp.mono h ?_)
    clear h
    intro ρ3 M2 h
    obtain ⟨v1, rfl, h⟩ := h
    refine zistore_n 3 dX10_deepest_22 rfl (L1 := [(1, va_rf (some a0)), (1, .int x1), (1, .int x3), (1, .int v1)]) (by decide) rfl ?_
    refine xr_goto 9 dX10_deepest_23 (by decide) ?_
    exact h
set_option maxRecDepth 100000 in
set_option maxHeartbeats 4000000 in
theorem bX10_deepest_0 {l : Launch} {g : xG} (a0 : Nat) (x1 : Int32) {M : xM} {Q : Option Value → xM → Prop} (h : (xat M a0 7 ∧ xSp l g mX10_childFrom 0 0 [va_rf (some a0), .int x1, .int 0] M (fun ρ3 M2 => ∃ v1 : Int32, ρ3 = some (.int v1) ∧ xWp l g mX10_deepest 0 0 9 [(1, va_rf (some a0)), (1, .int x1), (1, .int x1), (1, .int v1)] [] (0, 0) M2 Q))) : xWp l g mX10_deepest 0 0 0 [(1, va_rf (some a0)), (1, .int x1), (0, .null), (0, .null)] [] (0, 0) M Q := by
  refine xr_iload_n 1 dX10_deepest_0 rfl rfl ?_
  refine zistore_n 2 dX10_deepest_1 rfl (L1 := [(1, va_rf (some a0)), (1, .int x1), (1, .int x1), (0, .null)]) (by decide) rfl ?_
  refine xr_aload_n 0 dX10_deepest_2 rfl rfl ?_
  refine xr_iload_n 1 dX10_deepest_3 rfl rfl ?_
  refine xr_iconst 0 dX10_deepest_4 (by decide) ?_
  obtain ⟨t5, h⟩ := h
  refine yr_callV (r := (some a0)) [.int x1, .int 0] dX10_deepest_5 cv_X10_deepest_96 rfl t5 rfl (Nat.le_trans wt_0 (by decide)) (by decide) (xSp.mono h ?_)
  clear h
  intro ρ3 M2 h
  obtain ⟨v1, rfl, h⟩ := h
  refine zistore_n 3 dX10_deepest_8 rfl (L1 := [(1, va_rf (some a0)), (1, .int x1), (1, .int x1), (1, .int v1)]) (by decide) rfl ?_
  exact h
theorem dX10_freshMany_0 : decode cX10_freshMany 0 = .ok (.iconst 0, 1) := by decide +kernel
theorem dX10_freshMany_1 : decode cX10_freshMany 1 = .ok (.istore_n 1, 1) := by decide +kernel
theorem dX10_freshMany_2 : decode cX10_freshMany 2 = .ok (.iconst 0, 1) := by decide +kernel
theorem dX10_freshMany_3 : decode cX10_freshMany 3 = .ok (.istore_n 2, 1) := by decide +kernel
theorem dX10_freshMany_4 : decode cX10_freshMany 4 = .ok (.iload_n 2, 1) := by decide +kernel
theorem dX10_freshMany_5 : decode cX10_freshMany 5 = .ok (.sipush 220, 3) := by decide +kernel
theorem dX10_freshMany_8 : decode cX10_freshMany 8 = .ok (.if_icmp .ge 35, 3) := by decide +kernel
theorem dX10_freshMany_11 : decode cX10_freshMany 11 = .ok (.iload_n 1, 1) := by decide +kernel
theorem dX10_freshMany_12 : decode cX10_freshMany 12 = .ok (.aload_n 0, 1) := by decide +kernel
theorem dX10_freshMany_13 : decode cX10_freshMany 13 = .ok (.getfield 13, 3) := by decide +kernel
theorem dX10_freshMany_16 : decode cX10_freshMany 16 = .ok (.iload_n 2, 1) := by decide +kernel
theorem dX10_freshMany_17 : decode cX10_freshMany 17 = .ok (.baload, 1) := by decide +kernel
theorem dX10_freshMany_18 : decode cX10_freshMany 18 = .ok (.ifCond .eq 16, 3) := by decide +kernel
theorem dX10_freshMany_21 : decode cX10_freshMany 21 = .ok (.aload_n 0, 1) := by decide +kernel
theorem dX10_freshMany_22 : decode cX10_freshMany 22 = .ok (.getfield 42, 3) := by decide +kernel
theorem dX10_freshMany_25 : decode cX10_freshMany 25 = .ok (.iload_n 2, 1) := by decide +kernel
theorem dX10_freshMany_26 : decode cX10_freshMany 26 = .ok (.baload, 1) := by decide +kernel
theorem dX10_freshMany_27 : decode cX10_freshMany 27 = .ok (.ifCond .eq 7, 3) := by decide +kernel
theorem dX10_freshMany_30 : decode cX10_freshMany 30 = .ok (.iconst 1, 1) := by decide +kernel
theorem dX10_freshMany_31 : decode cX10_freshMany 31 = .ok (.goto 4, 3) := by decide +kernel
theorem dX10_freshMany_34 : decode cX10_freshMany 34 = .ok (.iconst 0, 1) := by decide +kernel
theorem dX10_freshMany_35 : decode cX10_freshMany 35 = .ok (.iadd, 1) := by decide +kernel
theorem dX10_freshMany_36 : decode cX10_freshMany 36 = .ok (.istore_n 1, 1) := by decide +kernel
theorem dX10_freshMany_37 : decode cX10_freshMany 37 = .ok (.iinc 2 1, 3) := by decide +kernel
theorem dX10_freshMany_40 : decode cX10_freshMany 40 = .ok (.goto (-36), 3) := by decide +kernel
theorem dX10_freshMany_43 : decode cX10_freshMany 43 = .ok (.iload_n 1, 1) := by decide +kernel
theorem dX10_freshMany_44 : decode cX10_freshMany 44 = .ok (.ireturn, 1) := by decide +kernel
set_option maxRecDepth 100000 in
set_option maxHeartbeats 4000000 in
theorem bX10_freshMany_4 {l : Launch} {g : xG} (a0 : Nat) (x1 : Int32) (x2 : Int32) {M : xM} {Q : Option Value → xM → Prop} (h : ((220 ≤ x2 → (Q (some (.int x1)) M)) ∧ (¬ 220 ≤ x2 → (xat M a0 7 ∧ (∃ a2, (xR M a0 4) = some a2 ∧ ∃ i4, xai M a2 11 x2 i4 ∧ (((xI M a2 i4) = 0 → xWp l g mX10_freshMany 0 0 4 [(1, va_rf (some a0)), (1, .int (x1 + 0)), (1, .int (x2 + 1))] [] (0, 0) M Q) ∧ (¬ (xI M a2 i4) = 0 → (∃ a6, (xR M a0 13) = some a6 ∧ ∃ i8, xai M a6 11 x2 i8 ∧ (((xI M a6 i8) = 0 → xWp l g mX10_freshMany 0 0 4 [(1, va_rf (some a0)), (1, .int (x1 + 0)), (1, .int (x2 + 1))] [] (0, 0) M Q) ∧ (¬ (xI M a6 i8) = 0 → xWp l g mX10_freshMany 0 0 4 [(1, va_rf (some a0)), (1, .int (x1 + 1)), (1, .int (x2 + 1))] [] (0, 0) M Q)))))))))) : xWp l g mX10_freshMany 0 0 4 [(1, va_rf (some a0)), (1, .int x1), (1, .int x2)] [] (0, 0) M Q := by
  refine xr_iload_n 2 dX10_freshMany_4 rfl rfl ?_
  refine xr_sipush 220 dX10_freshMany_5 (by decide) ?_
  obtain ⟨ht, hf⟩ := h
  refine xr_icmp_ge 43 dX10_freshMany_8 (by decide) (fun c12 => ?_) (fun c12 => ?_)
  · replace h := ht c12
    clear ht hf
    refine xr_iload_n 1 dX10_freshMany_43 rfl rfl ?_
    exact xr_retv (by decide) (xRi rfl rfl dX10_freshMany_44) h
  · replace h := hf c12
    clear ht hf
    refine xr_iload_n 1 dX10_freshMany_11 rfl rfl ?_
    refine xr_aload_n 0 dX10_freshMany_12 rfl rfl ?_
    obtain ⟨t1, h⟩ := h
    refine yr_getR dX10_freshMany_13 fl_RX10_13 rfl t1 ?_
    refine xr_iload_n 2 dX10_freshMany_16 rfl rfl ?_
    obtain ⟨a2, e3, h⟩ := h
    obtain ⟨i4, t5, h⟩ := h
    refine yr_zald dX10_freshMany_17 e3 t5 ?_
    obtain ⟨ht, hf⟩ := h
    refine xr_if_eq 34 dX10_freshMany_18 (by decide) (fun c11 => ?_) (fun c11 => ?_)
    · replace h := ht c11
      clear ht hf
      refine xr_iconst 0 dX10_freshMany_34 (by decide) ?_
      refine xr_iadd dX10_freshMany_35 ?_
      refine zistore_n 1 dX10_freshMany_36 rfl (L1 := [(1, va_rf (some a0)), (1, .int (x1 + 0)), (1, .int x2)]) (by decide) rfl ?_
      refine ziinc (x2 + 1) dX10_freshMany_37 rfl rfl (L1 := [(1, va_rf (some a0)), (1, .int (x1 + 0)), (1, .int (x2 + 1))]) (by decide) rfl ?_
      refine xr_goto 4 dX10_freshMany_40 (by decide) ?_
      exact h
    · replace h := hf c11
      clear ht hf
      refine xr_aload_n 0 dX10_freshMany_21 rfl rfl ?_
      refine yr_getR dX10_freshMany_22 fl_RX10_42 rfl t1 ?_
      refine xr_iload_n 2 dX10_freshMany_25 rfl rfl ?_
      obtain ⟨a6, e7, h⟩ := h
      obtain ⟨i8, t9, h⟩ := h
      refine yr_zald dX10_freshMany_26 e7 t9 ?_
      obtain ⟨ht, hf⟩ := h
      refine xr_if_eq 34 dX10_freshMany_27 (by decide) (fun c10 => ?_) (fun c10 => ?_)
      · replace h := ht c10
        clear ht hf
        refine xr_iconst 0 dX10_freshMany_34 (by decide) ?_
        refine xr_iadd dX10_freshMany_35 ?_
        refine zistore_n 1 dX10_freshMany_36 rfl (L1 := [(1, va_rf (some a0)), (1, .int (x1 + 0)), (1, .int x2)]) (by decide) rfl ?_
        refine ziinc (x2 + 1) dX10_freshMany_37 rfl rfl (L1 := [(1, va_rf (some a0)), (1, .int (x1 + 0)), (1, .int (x2 + 1))]) (by decide) rfl ?_
        refine xr_goto 4 dX10_freshMany_40 (by decide) ?_
        exact h
      · replace h := hf c10
        clear ht hf
        refine xr_iconst 1 dX10_freshMany_30 (by decide) ?_
        refine xr_goto 35 dX10_freshMany_31 (by decide) ?_
        refine xr_iadd dX10_freshMany_35 ?_
        refine zistore_n 1 dX10_freshMany_36 rfl (L1 := [(1, va_rf (some a0)), (1, .int (x1 + 1)), (1, .int x2)]) (by decide) rfl ?_
        refine ziinc (x2 + 1) dX10_freshMany_37 rfl rfl (L1 := [(1, va_rf (some a0)), (1, .int (x1 + 1)), (1, .int (x2 + 1))]) (by decide) rfl ?_
        refine xr_goto 4 dX10_freshMany_40 (by decide) ?_
        exact h
set_option maxRecDepth 100000 in
set_option maxHeartbeats 4000000 in
theorem bX10_freshMany_0 {l : Launch} {g : xG} (a0 : Nat) {M : xM} {Q : Option Value → xM → Prop} (h : xWp l g mX10_freshMany 0 0 4 [(1, va_rf (some a0)), (1, .int 0), (1, .int 0)] [] (0, 0) M Q) : xWp l g mX10_freshMany 0 0 0 [(1, va_rf (some a0)), (0, .null), (0, .null)] [] (0, 0) M Q := by
  refine xr_iconst 0 dX10_freshMany_0 (by decide) ?_
  refine zistore_n 1 dX10_freshMany_1 rfl (L1 := [(1, va_rf (some a0)), (1, .int 0), (0, .null)]) (by decide) rfl ?_
  refine xr_iconst 0 dX10_freshMany_2 (by decide) ?_
  refine zistore_n 2 dX10_freshMany_3 rfl (L1 := [(1, va_rf (some a0)), (1, .int 0), (1, .int 0)]) (by decide) rfl ?_
  exact h
theorem dX10_findTaken_0 : decode cX10_findTaken 0 = .ok (.sipush 254, 3) := by decide +kernel
theorem dX10_findTaken_3 : decode cX10_findTaken 3 = .ok (.istore_n 1, 1) := by decide +kernel
theorem dX10_findTaken_4 : decode cX10_findTaken 4 = .ok (.iconst 0, 1) := by decide +kernel
theorem dX10_findTaken_5 : decode cX10_findTaken 5 = .ok (.istore_n 2, 1) := by decide +kernel
theorem dX10_findTaken_6 : decode cX10_findTaken 6 = .ok (.iload_n 2, 1) := by decide +kernel
theorem dX10_findTaken_7 : decode cX10_findTaken 7 = .ok (.sipush 256, 3) := by decide +kernel
theorem dX10_findTaken_10 : decode cX10_findTaken 10 = .ok (.if_icmp .ge 25, 3) := by decide +kernel
theorem dX10_findTaken_13 : decode cX10_findTaken 13 = .ok (.aload_n 0, 1) := by decide +kernel
theorem dX10_findTaken_14 : decode cX10_findTaken 14 = .ok (.getfield 59, 3) := by decide +kernel
theorem dX10_findTaken_17 : decode cX10_findTaken 17 = .ok (.iload_n 2, 1) := by decide +kernel
theorem dX10_findTaken_18 : decode cX10_findTaken 18 = .ok (.iload_n 2, 1) := by decide +kernel
theorem dX10_findTaken_19 : decode cX10_findTaken 19 = .ok (.iconst 2, 1) := by decide +kernel
theorem dX10_findTaken_20 : decode cX10_findTaken 20 = .ok (.if_icmp .ge 7, 3) := by decide +kernel
theorem dX10_findTaken_23 : decode cX10_findTaken 23 = .ok (.iconst 1, 1) := by decide +kernel
theorem dX10_findTaken_24 : decode cX10_findTaken 24 = .ok (.goto 4, 3) := by decide +kernel
theorem dX10_findTaken_27 : decode cX10_findTaken 27 = .ok (.iconst 0, 1) := by decide +kernel
theorem dX10_findTaken_28 : decode cX10_findTaken 28 = .ok (.bastore, 1) := by decide +kernel
theorem dX10_findTaken_29 : decode cX10_findTaken 29 = .ok (.iinc 2 1, 3) := by decide +kernel
theorem dX10_findTaken_32 : decode cX10_findTaken 32 = .ok (.goto (-26), 3) := by decide +kernel
theorem dX10_findTaken_35 : decode cX10_findTaken 35 = .ok (.sipush 220, 3) := by decide +kernel
theorem dX10_findTaken_38 : decode cX10_findTaken 38 = .ok (.istore_n 2, 1) := by decide +kernel
theorem dX10_findTaken_39 : decode cX10_findTaken 39 = .ok (.iload_n 2, 1) := by decide +kernel
theorem dX10_findTaken_40 : decode cX10_findTaken 40 = .ok (.sipush 440, 3) := by decide +kernel
theorem dX10_findTaken_43 : decode cX10_findTaken 43 = .ok (.if_icmp .ge 45, 3) := by decide +kernel
theorem dX10_findTaken_46 : decode cX10_findTaken 46 = .ok (.aload_n 0, 1) := by decide +kernel
theorem dX10_findTaken_47 : decode cX10_findTaken 47 = .ok (.getfield 13, 3) := by decide +kernel
theorem dX10_findTaken_50 : decode cX10_findTaken 50 = .ok (.iload_n 2, 1) := by decide +kernel
theorem dX10_findTaken_51 : decode cX10_findTaken 51 = .ok (.baload, 1) := by decide +kernel
theorem dX10_findTaken_52 : decode cX10_findTaken 52 = .ok (.ifCond .eq 30, 3) := by decide +kernel
theorem dX10_findTaken_55 : decode cX10_findTaken 55 = .ok (.aload_n 0, 1) := by decide +kernel
theorem dX10_findTaken_56 : decode cX10_findTaken 56 = .ok (.getfield 39, 3) := by decide +kernel
theorem dX10_findTaken_59 : decode cX10_findTaken 59 = .ok (.iload_n 2, 1) := by decide +kernel
theorem dX10_findTaken_60 : decode cX10_findTaken 60 = .ok (.iaload, 1) := by decide +kernel
theorem dX10_findTaken_61 : decode cX10_findTaken 61 = .ok (.ifCond .ne 6, 3) := by decide +kernel
theorem dX10_findTaken_64 : decode cX10_findTaken 64 = .ok (.goto 18, 3) := by decide +kernel
theorem dX10_findTaken_67 : decode cX10_findTaken 67 = .ok (.aload_n 0, 1) := by decide +kernel
theorem dX10_findTaken_68 : decode cX10_findTaken 68 = .ok (.getfield 59, 3) := by decide +kernel
theorem dX10_findTaken_71 : decode cX10_findTaken 71 = .ok (.aload_n 0, 1) := by decide +kernel
theorem dX10_findTaken_72 : decode cX10_findTaken 72 = .ok (.getfield 39, 3) := by decide +kernel
theorem dX10_findTaken_75 : decode cX10_findTaken 75 = .ok (.iload_n 2, 1) := by decide +kernel
theorem dX10_findTaken_76 : decode cX10_findTaken 76 = .ok (.iaload, 1) := by decide +kernel
theorem dX10_findTaken_77 : decode cX10_findTaken 77 = .ok (.iconst 1, 1) := by decide +kernel
theorem dX10_findTaken_78 : decode cX10_findTaken 78 = .ok (.bastore, 1) := by decide +kernel
theorem dX10_findTaken_79 : decode cX10_findTaken 79 = .ok (.iinc 1 (-1), 3) := by decide +kernel
theorem dX10_findTaken_82 : decode cX10_findTaken 82 = .ok (.iinc 2 1, 3) := by decide +kernel
theorem dX10_findTaken_85 : decode cX10_findTaken 85 = .ok (.goto (-46), 3) := by decide +kernel
theorem dX10_findTaken_88 : decode cX10_findTaken 88 = .ok (.iload_n 1, 1) := by decide +kernel
theorem dX10_findTaken_89 : decode cX10_findTaken 89 = .ok (.ireturn, 1) := by decide +kernel
set_option maxRecDepth 100000 in
set_option maxHeartbeats 4000000 in
theorem bX10_findTaken_39 {l : Launch} {g : xG} (a0 : Nat) (x1 : Int32) (x2 : Int32) {M : xM} {Q : Option Value → xM → Prop} (h : ((440 ≤ x2 → (Q (some (.int x1)) M)) ∧ (¬ 440 ≤ x2 → (xat M a0 7 ∧ (∃ a2, (xR M a0 4) = some a2 ∧ ∃ i4, xai M a2 11 x2 i4 ∧ (((xI M a2 i4) = 0 → xWp l g mX10_findTaken 0 0 39 [(1, va_rf (some a0)), (1, .int x1), (1, .int (x2 + 1))] [] (0, 0) M Q) ∧ (¬ (xI M a2 i4) = 0 → (∃ a6, (xR M a0 12) = some a6 ∧ ∃ i8, xai M a6 9 x2 i8 ∧ ((¬ (xI M a6 i8) = 0 → (∃ i10, xai M a6 9 x2 i10 ∧ (∃ a12, (xR M a0 26) = some a12 ∧ ∃ i14, xai M a12 11 (xI M a6 i10) i14 ∧ xWp l g mX10_findTaken 0 0 39 [(1, va_rf (some a0)), (1, .int (x1 + (-1))), (1, .int (x2 + 1))] [] (0, 0) (xsI M a12 i14 ((1 : Int32) &&& 1)) Q))) ∧ ((xI M a6 i8) = 0 → xWp l g mX10_findTaken 0 0 39 [(1, va_rf (some a0)), (1, .int x1), (1, .int (x2 + 1))] [] (0, 0) M Q)))))))))) : xWp l g mX10_findTaken 0 0 39 [(1, va_rf (some a0)), (1, .int x1), (1, .int x2)] [] (0, 0) M Q := by
  refine xr_iload_n 2 dX10_findTaken_39 rfl rfl ?_
  refine xr_sipush 440 dX10_findTaken_40 (by decide) ?_
  obtain ⟨ht, hf⟩ := h
  refine xr_icmp_ge 88 dX10_findTaken_43 (by decide) (fun c18 => ?_) (fun c18 => ?_)
  · replace h := ht c18
    clear ht hf
    refine xr_iload_n 1 dX10_findTaken_88 rfl rfl ?_
    exact xr_retv (by decide) (xRi rfl rfl dX10_findTaken_89) h
  · replace h := hf c18
    clear ht hf
    refine xr_aload_n 0 dX10_findTaken_46 rfl rfl ?_
    obtain ⟨t1, h⟩ := h
    refine yr_getR dX10_findTaken_47 fl_RX10_13 rfl t1 ?_
    refine xr_iload_n 2 dX10_findTaken_50 rfl rfl ?_
    obtain ⟨a2, e3, h⟩ := h
    obtain ⟨i4, t5, h⟩ := h
    refine yr_zald dX10_findTaken_51 e3 t5 ?_
    obtain ⟨ht, hf⟩ := h
    refine xr_if_eq 82 dX10_findTaken_52 (by decide) (fun c17 => ?_) (fun c17 => ?_)
    · replace h := ht c17
      clear ht hf
      refine ziinc (x2 + 1) dX10_findTaken_82 rfl rfl (L1 := [(1, va_rf (some a0)), (1, .int x1), (1, .int (x2 + 1))]) (by decide) rfl ?_
      refine xr_goto 39 dX10_findTaken_85 (by decide) ?_
      exact h
    · replace h := hf c17
      clear ht hf
      refine xr_aload_n 0 dX10_findTaken_55 rfl rfl ?_
      refine yr_getR dX10_findTaken_56 fl_RX10_39 rfl t1 ?_
      refine xr_iload_n 2 dX10_findTaken_59 rfl rfl ?_
      obtain ⟨a6, e7, h⟩ := h
      obtain ⟨i8, t9, h⟩ := h
      refine yr_iald dX10_findTaken_60 e7 t9 ?_
      obtain ⟨ht, hf⟩ := h
      refine xr_if_ne 67 dX10_findTaken_61 (by decide) (fun c16 => ?_) (fun c16 => ?_)
      · replace h := ht c16
        clear ht hf
        refine xr_aload_n 0 dX10_findTaken_67 rfl rfl ?_
        refine yr_getR dX10_findTaken_68 fl_RX10_59 rfl t1 ?_
        refine xr_aload_n 0 dX10_findTaken_71 rfl rfl ?_
        refine yr_getR dX10_findTaken_72 fl_RX10_39 rfl t1 ?_
        refine xr_iload_n 2 dX10_findTaken_75 rfl rfl ?_
        obtain ⟨i10, t11, h⟩ := h
        refine yr_iald dX10_findTaken_76 e7 t11 ?_
        refine xr_iconst 1 dX10_findTaken_77 (by decide) ?_
        obtain ⟨a12, e13, h⟩ := h
        obtain ⟨i14, t15, h⟩ := h
        refine yr_zast dX10_findTaken_78 e13 t15 ?_
        refine ziinc (x1 + (-1)) dX10_findTaken_79 rfl rfl (L1 := [(1, va_rf (some a0)), (1, .int (x1 + (-1))), (1, .int x2)]) (by decide) rfl ?_
        refine ziinc (x2 + 1) dX10_findTaken_82 rfl rfl (L1 := [(1, va_rf (some a0)), (1, .int (x1 + (-1))), (1, .int (x2 + 1))]) (by decide) rfl ?_
        refine xr_goto 39 dX10_findTaken_85 (by decide) ?_
        exact h
      · replace h := hf c16
        clear ht hf
        refine xr_goto 82 dX10_findTaken_64 (by decide) ?_
        refine ziinc (x2 + 1) dX10_findTaken_82 rfl rfl (L1 := [(1, va_rf (some a0)), (1, .int x1), (1, .int (x2 + 1))]) (by decide) rfl ?_
        refine xr_goto 39 dX10_findTaken_85 (by decide) ?_
        exact h
set_option maxRecDepth 100000 in
set_option maxHeartbeats 4000000 in
theorem bX10_findTaken_6 {l : Launch} {g : xG} (a0 : Nat) (x1 : Int32) (x2 : Int32) {M : xM} {Q : Option Value → xM → Prop} (h : ((256 ≤ x2 → xWp l g mX10_findTaken 0 0 39 [(1, va_rf (some a0)), (1, .int x1), (1, .int 220)] [] (0, 0) M Q) ∧ (¬ 256 ≤ x2 → (xat M a0 7 ∧ ((2 ≤ x2 → (∃ a2, (xR M a0 26) = some a2 ∧ ∃ i4, xai M a2 11 x2 i4 ∧ xWp l g mX10_findTaken 0 0 6 [(1, va_rf (some a0)), (1, .int x1), (1, .int (x2 + 1))] [] (0, 0) (xsI M a2 i4 ((0 : Int32) &&& 1)) Q)) ∧ (¬ 2 ≤ x2 → (∃ a6, (xR M a0 26) = some a6 ∧ ∃ i8, xai M a6 11 x2 i8 ∧ xWp l g mX10_findTaken 0 0 6 [(1, va_rf (some a0)), (1, .int x1), (1, .int (x2 + 1))] [] (0, 0) (xsI M a6 i8 ((1 : Int32) &&& 1)) Q))))))) : xWp l g mX10_findTaken 0 0 6 [(1, va_rf (some a0)), (1, .int x1), (1, .int x2)] [] (0, 0) M Q := by
  refine xr_iload_n 2 dX10_findTaken_6 rfl rfl ?_
  refine xr_sipush 256 dX10_findTaken_7 (by decide) ?_
  obtain ⟨ht, hf⟩ := h
  refine xr_icmp_ge 35 dX10_findTaken_10 (by decide) (fun c11 => ?_) (fun c11 => ?_)
  · replace h := ht c11
    clear ht hf
    refine xr_sipush 220 dX10_findTaken_35 (by decide) ?_
    refine zistore_n 2 dX10_findTaken_38 rfl (L1 := [(1, va_rf (some a0)), (1, .int x1), (1, .int 220)]) (by decide) rfl ?_
    exact h
  · replace h := hf c11
    clear ht hf
    refine xr_aload_n 0 dX10_findTaken_13 rfl rfl ?_
    obtain ⟨t1, h⟩ := h
    refine yr_getR dX10_findTaken_14 fl_RX10_59 rfl t1 ?_
    refine xr_iload_n 2 dX10_findTaken_17 rfl rfl ?_
    refine xr_iload_n 2 dX10_findTaken_18 rfl rfl ?_
    refine xr_iconst 2 dX10_findTaken_19 (by decide) ?_
    obtain ⟨ht, hf⟩ := h
    refine xr_icmp_ge 27 dX10_findTaken_20 (by decide) (fun c10 => ?_) (fun c10 => ?_)
    · replace h := ht c10
      clear ht hf
      refine xr_iconst 0 dX10_findTaken_27 (by decide) ?_
      obtain ⟨a2, e3, h⟩ := h
      obtain ⟨i4, t5, h⟩ := h
      refine yr_zast dX10_findTaken_28 e3 t5 ?_
      refine ziinc (x2 + 1) dX10_findTaken_29 rfl rfl (L1 := [(1, va_rf (some a0)), (1, .int x1), (1, .int (x2 + 1))]) (by decide) rfl ?_
      refine xr_goto 6 dX10_findTaken_32 (by decide) ?_
      exact h
    · replace h := hf c10
      clear ht hf
      refine xr_iconst 1 dX10_findTaken_23 (by decide) ?_
      refine xr_goto 28 dX10_findTaken_24 (by decide) ?_
      obtain ⟨a6, e7, h⟩ := h
      obtain ⟨i8, t9, h⟩ := h
      refine yr_zast dX10_findTaken_28 e7 t9 ?_
      refine ziinc (x2 + 1) dX10_findTaken_29 rfl rfl (L1 := [(1, va_rf (some a0)), (1, .int x1), (1, .int (x2 + 1))]) (by decide) rfl ?_
      refine xr_goto 6 dX10_findTaken_32 (by decide) ?_
      exact h
set_option maxRecDepth 100000 in
set_option maxHeartbeats 4000000 in
theorem bX10_findTaken_0 {l : Launch} {g : xG} (a0 : Nat) {M : xM} {Q : Option Value → xM → Prop} (h : xWp l g mX10_findTaken 0 0 6 [(1, va_rf (some a0)), (1, .int 254), (1, .int 0)] [] (0, 0) M Q) : xWp l g mX10_findTaken 0 0 0 [(1, va_rf (some a0)), (0, .null), (0, .null)] [] (0, 0) M Q := by
  refine xr_sipush 254 dX10_findTaken_0 (by decide) ?_
  refine zistore_n 1 dX10_findTaken_3 rfl (L1 := [(1, va_rf (some a0)), (1, .int 254), (0, .null)]) (by decide) rfl ?_
  refine xr_iconst 0 dX10_findTaken_4 (by decide) ?_
  refine zistore_n 2 dX10_findTaken_5 rfl (L1 := [(1, va_rf (some a0)), (1, .int 254), (1, .int 0)]) (by decide) rfl ?_
  exact h
theorem dX10_commit_0 : decode cX10_commit 0 = .ok (.aload_n 0, 1) := by decide +kernel
theorem dX10_commit_1 : decode cX10_commit 1 = .ok (.iconst 0, 1) := by decide +kernel
theorem dX10_commit_2 : decode cX10_commit 2 = .ok (.putfield 68, 3) := by decide +kernel
theorem dX10_commit_5 : decode cX10_commit 5 = .ok (.aload_n 0, 1) := by decide +kernel
theorem dX10_commit_6 : decode cX10_commit 6 = .ok (.getfield 114, 3) := by decide +kernel
theorem dX10_commit_9 : decode cX10_commit 9 = .ok (.ifCond .eq 6, 3) := by decide +kernel
theorem dX10_commit_12 : decode cX10_commit 12 = .ok (.bipush (-4), 2) := by decide +kernel
theorem dX10_commit_14 : decode cX10_commit 14 = .ok (.ireturn, 1) := by decide +kernel
theorem dX10_commit_15 : decode cX10_commit 15 = .ok (.aload_n 0, 1) := by decide +kernel
theorem dX10_commit_16 : decode cX10_commit 16 = .ok (.invokevirtual 200, 3) := by decide +kernel
theorem dX10_commit_19 : decode cX10_commit 19 = .ok (.istore_n 1, 1) := by decide +kernel
theorem dX10_commit_20 : decode cX10_commit 20 = .ok (.iload_n 1, 1) := by decide +kernel
theorem dX10_commit_21 : decode cX10_commit 21 = .ok (.ifCond .ne 5, 3) := by decide +kernel
theorem dX10_commit_24 : decode cX10_commit 24 = .ok (.iconst 0, 1) := by decide +kernel
theorem dX10_commit_25 : decode cX10_commit 25 = .ok (.ireturn, 1) := by decide +kernel
theorem dX10_commit_26 : decode cX10_commit 26 = .ok (.aload_n 0, 1) := by decide +kernel
theorem dX10_commit_27 : decode cX10_commit 27 = .ok (.invokevirtual 203, 3) := by decide +kernel
theorem dX10_commit_30 : decode cX10_commit 30 = .ok (.iload_n 1, 1) := by decide +kernel
theorem dX10_commit_31 : decode cX10_commit 31 = .ok (.if_icmp .ge 6, 3) := by decide +kernel
theorem dX10_commit_34 : decode cX10_commit 34 = .ok (.bipush (-2), 2) := by decide +kernel
theorem dX10_commit_36 : decode cX10_commit 36 = .ok (.ireturn, 1) := by decide +kernel
theorem dX10_commit_37 : decode cX10_commit 37 = .ok (.aload_n 0, 1) := by decide +kernel
theorem dX10_commit_38 : decode cX10_commit 38 = .ok (.aload_n 0, 1) := by decide +kernel
theorem dX10_commit_39 : decode cX10_commit 39 = .ok (.getfield 75, 3) := by decide +kernel
theorem dX10_commit_42 : decode cX10_commit 42 = .ok (.invokevirtual 206, 3) := by decide +kernel
theorem dX10_commit_45 : decode cX10_commit 45 = .ok (.istore_n 2, 1) := by decide +kernel
theorem dX10_commit_46 : decode cX10_commit 46 = .ok (.iload_n 2, 1) := by decide +kernel
theorem dX10_commit_47 : decode cX10_commit 47 = .ok (.iconst (-1), 1) := by decide +kernel
theorem dX10_commit_48 : decode cX10_commit 48 = .ok (.if_icmp .eq 108, 3) := by decide +kernel
theorem dX10_commit_51 : decode cX10_commit 51 = .ok (.aload_n 0, 1) := by decide +kernel
theorem dX10_commit_52 : decode cX10_commit 52 = .ok (.getfield 42, 3) := by decide +kernel
theorem dX10_commit_55 : decode cX10_commit 55 = .ok (.iload_n 2, 1) := by decide +kernel
theorem dX10_commit_56 : decode cX10_commit 56 = .ok (.baload, 1) := by decide +kernel
theorem dX10_commit_57 : decode cX10_commit 57 = .ok (.ifCond .eq 45, 3) := by decide +kernel
theorem dX10_commit_60 : decode cX10_commit 60 = .ok (.iconst 2, 1) := by decide +kernel
theorem dX10_commit_61 : decode cX10_commit 61 = .ok (.istore_n 3, 1) := by decide +kernel
theorem dX10_commit_62 : decode cX10_commit 62 = .ok (.aload_n 0, 1) := by decide +kernel
theorem dX10_commit_63 : decode cX10_commit 63 = .ok (.getfield 59, 3) := by decide +kernel
theorem dX10_commit_66 : decode cX10_commit 66 = .ok (.iload_n 3, 1) := by decide +kernel
theorem dX10_commit_67 : decode cX10_commit 67 = .ok (.baload, 1) := by decide +kernel
theorem dX10_commit_68 : decode cX10_commit 68 = .ok (.ifCond .eq 9, 3) := by decide +kernel
theorem dX10_commit_71 : decode cX10_commit 71 = .ok (.iinc 3 1, 3) := by decide +kernel
theorem dX10_commit_74 : decode cX10_commit 74 = .ok (.goto (-12), 3) := by decide +kernel
theorem dX10_commit_77 : decode cX10_commit 77 = .ok (.aload_n 0, 1) := by decide +kernel
theorem dX10_commit_78 : decode cX10_commit 78 = .ok (.getfield 59, 3) := by decide +kernel
theorem dX10_commit_81 : decode cX10_commit 81 = .ok (.iload_n 3, 1) := by decide +kernel
theorem dX10_commit_82 : decode cX10_commit 82 = .ok (.iconst 1, 1) := by decide +kernel
theorem dX10_commit_83 : decode cX10_commit 83 = .ok (.bastore, 1) := by decide +kernel
theorem dX10_commit_84 : decode cX10_commit 84 = .ok (.aload_n 0, 1) := by decide +kernel
theorem dX10_commit_85 : decode cX10_commit 85 = .ok (.getfield 39, 3) := by decide +kernel
theorem dX10_commit_88 : decode cX10_commit 88 = .ok (.iload_n 2, 1) := by decide +kernel
theorem dX10_commit_89 : decode cX10_commit 89 = .ok (.iload_n 3, 1) := by decide +kernel
theorem dX10_commit_90 : decode cX10_commit 90 = .ok (.iastore, 1) := by decide +kernel
theorem dX10_commit_91 : decode cX10_commit 91 = .ok (.aload_n 0, 1) := by decide +kernel
theorem dX10_commit_92 : decode cX10_commit 92 = .ok (.iload_n 2, 1) := by decide +kernel
theorem dX10_commit_93 : decode cX10_commit 93 = .ok (.invokevirtual 209, 3) := by decide +kernel
theorem dX10_commit_96 : decode cX10_commit 96 = .ok (.ifCond .ne 6, 3) := by decide +kernel
theorem dX10_commit_99 : decode cX10_commit 99 = .ok (.bipush (-3), 2) := by decide +kernel
theorem dX10_commit_101 : decode cX10_commit 101 = .ok (.ireturn, 1) := by decide +kernel
theorem dX10_commit_102 : decode cX10_commit 102 = .ok (.iload_n 2, 1) := by decide +kernel
theorem dX10_commit_103 : decode cX10_commit 103 = .ok (.aload_n 0, 1) := by decide +kernel
theorem dX10_commit_104 : decode cX10_commit 104 = .ok (.getfield 75, 3) := by decide +kernel
theorem dX10_commit_107 : decode cX10_commit 107 = .ok (.if_icmp .ne 7, 3) := by decide +kernel
theorem dX10_commit_110 : decode cX10_commit 110 = .ok (.iconst (-1), 1) := by decide +kernel
theorem dX10_commit_111 : decode cX10_commit 111 = .ok (.goto 21, 3) := by decide +kernel
theorem dX10_commit_114 : decode cX10_commit 114 = .ok (.aload_n 0, 1) := by decide +kernel
theorem dX10_commit_115 : decode cX10_commit 115 = .ok (.aload_n 0, 1) := by decide +kernel
theorem dX10_commit_116 : decode cX10_commit 116 = .ok (.getfield 17, 3) := by decide +kernel
theorem dX10_commit_119 : decode cX10_commit 119 = .ok (.iload_n 2, 1) := by decide +kernel
theorem dX10_commit_120 : decode cX10_commit 120 = .ok (.iaload, 1) := by decide +kernel
theorem dX10_commit_121 : decode cX10_commit 121 = .ok (.aload_n 0, 1) := by decide +kernel
theorem dX10_commit_122 : decode cX10_commit 122 = .ok (.getfield 20, 3) := by decide +kernel
theorem dX10_commit_125 : decode cX10_commit 125 = .ok (.iload_n 2, 1) := by decide +kernel
theorem dX10_commit_126 : decode cX10_commit 126 = .ok (.iaload, 1) := by decide +kernel
theorem dX10_commit_127 : decode cX10_commit 127 = .ok (.iconst 1, 1) := by decide +kernel
theorem dX10_commit_128 : decode cX10_commit 128 = .ok (.iadd, 1) := by decide +kernel
theorem dX10_commit_129 : decode cX10_commit 129 = .ok (.invokevirtual 96, 3) := by decide +kernel
theorem dX10_commit_132 : decode cX10_commit 132 = .ok (.istore_n 3, 1) := by decide +kernel
theorem dX10_commit_133 : decode cX10_commit 133 = .ok (.iload_n 3, 1) := by decide +kernel
theorem dX10_commit_134 : decode cX10_commit 134 = .ok (.iconst (-1), 1) := by decide +kernel
theorem dX10_commit_135 : decode cX10_commit 135 = .ok (.if_icmp .eq 11, 3) := by decide +kernel
theorem dX10_commit_138 : decode cX10_commit 138 = .ok (.aload_n 0, 1) := by decide +kernel
theorem dX10_commit_139 : decode cX10_commit 139 = .ok (.iload_n 3, 1) := by decide +kernel
theorem dX10_commit_140 : decode cX10_commit 140 = .ok (.invokevirtual 206, 3) := by decide +kernel
theorem dX10_commit_143 : decode cX10_commit 143 = .ok (.goto 9, 3) := by decide +kernel
theorem dX10_commit_146 : decode cX10_commit 146 = .ok (.aload_n 0, 1) := by decide +kernel
theorem dX10_commit_147 : decode cX10_commit 147 = .ok (.getfield 17, 3) := by decide +kernel
theorem dX10_commit_150 : decode cX10_commit 150 = .ok (.iload_n 2, 1) := by decide +kernel
theorem dX10_commit_151 : decode cX10_commit 151 = .ok (.iaload, 1) := by decide +kernel
theorem dX10_commit_152 : decode cX10_commit 152 = .ok (.istore_n 2, 1) := by decide +kernel
theorem dX10_commit_153 : decode cX10_commit 153 = .ok (.goto (-107), 3) := by decide +kernel
theorem dX10_commit_156 : decode cX10_commit 156 = .ok (.aload_n 0, 1) := by decide +kernel
theorem dX10_commit_157 : decode cX10_commit 157 = .ok (.invokevirtual 193, 3) := by decide +kernel
theorem dX10_commit_160 : decode cX10_commit 160 = .ok (.aload_n 0, 1) := by decide +kernel
theorem dX10_commit_161 : decode cX10_commit 161 = .ok (.getfield 56, 3) := by decide +kernel
theorem dX10_commit_164 : decode cX10_commit 164 = .ok (.iconst 0, 1) := by decide +kernel
theorem dX10_commit_165 : decode cX10_commit 165 = .ok (.iconst 1, 1) := by decide +kernel
theorem dX10_commit_166 : decode cX10_commit 166 = .ok (.iastore, 1) := by decide +kernel
theorem dX10_commit_167 : decode cX10_commit 167 = .ok (.aload_n 0, 1) := by decide +kernel
theorem dX10_commit_168 : decode cX10_commit 168 = .ok (.iconst 1, 1) := by decide +kernel
theorem dX10_commit_169 : decode cX10_commit 169 = .ok (.bipush 8, 2) := by decide +kernel
theorem dX10_commit_171 : decode cX10_commit 171 = .ok (.aload_n 0, 1) := by decide +kernel
theorem dX10_commit_172 : decode cX10_commit 172 = .ok (.getfield 212, 3) := by decide +kernel
theorem dX10_commit_175 : decode cX10_commit 175 = .ok (.lconst 1, 1) := by decide +kernel
theorem dX10_commit_176 : decode cX10_commit 176 = .ok (.ladd, 1) := by decide +kernel
theorem dX10_commit_177 : decode cX10_commit 177 = .ok (.invokevirtual 186, 3) := by decide +kernel
theorem dX10_commit_180 : decode cX10_commit 180 = .ok (.aload_n 0, 1) := by decide +kernel
theorem dX10_commit_181 : decode cX10_commit 181 = .ok (.getfield 56, 3) := by decide +kernel
theorem dX10_commit_184 : decode cX10_commit 184 = .ok (.bipush 9, 2) := by decide +kernel
theorem dX10_commit_186 : decode cX10_commit 186 = .ok (.aload_n 0, 1) := by decide +kernel
theorem dX10_commit_187 : decode cX10_commit 187 = .ok (.getfield 39, 3) := by decide +kernel
theorem dX10_commit_190 : decode cX10_commit 190 = .ok (.aload_n 0, 1) := by decide +kernel
theorem dX10_commit_191 : decode cX10_commit 191 = .ok (.getfield 75, 3) := by decide +kernel
theorem dX10_commit_194 : decode cX10_commit 194 = .ok (.iaload, 1) := by decide +kernel
theorem dX10_commit_195 : decode cX10_commit 195 = .ok (.iastore, 1) := by decide +kernel
theorem dX10_commit_196 : decode cX10_commit 196 = .ok (.aload_n 0, 1) := by decide +kernel
theorem dX10_commit_197 : decode cX10_commit 197 = .ok (.bipush 10, 2) := by decide +kernel
theorem dX10_commit_199 : decode cX10_commit 199 = .ok (.iconst 2, 1) := by decide +kernel
theorem dX10_commit_200 : decode cX10_commit 200 = .ok (.aload_n 0, 1) := by decide +kernel
theorem dX10_commit_201 : decode cX10_commit 201 = .ok (.invokevirtual 177, 3) := by decide +kernel
theorem dX10_commit_204 : decode cX10_commit 204 = .ok (.i2l, 1) := by decide +kernel
theorem dX10_commit_205 : decode cX10_commit 205 = .ok (.invokevirtual 186, 3) := by decide +kernel
theorem dX10_commit_208 : decode cX10_commit 208 = .ok (.aload_n 0, 1) := by decide +kernel
theorem dX10_commit_209 : decode cX10_commit 209 = .ok (.aload_n 0, 1) := by decide +kernel
theorem dX10_commit_210 : decode cX10_commit 210 = .ok (.getfield 212, 3) := by decide +kernel
theorem dX10_commit_213 : decode cX10_commit 213 = .ok (.lconst 1, 1) := by decide +kernel
theorem dX10_commit_214 : decode cX10_commit 214 = .ok (.ladd, 1) := by decide +kernel
theorem dX10_commit_215 : decode cX10_commit 215 = .ok (.ldc2_w 216, 3) := by decide +kernel
theorem dX10_commit_218 : decode cX10_commit 218 = .ok (.lrem, 1) := by decide +kernel
theorem dX10_commit_219 : decode cX10_commit 219 = .ok (.l2i, 1) := by decide +kernel
theorem dX10_commit_220 : decode cX10_commit 220 = .ok (.invokevirtual 196, 3) := by decide +kernel
theorem dX10_commit_223 : decode cX10_commit 223 = .ok (.ifCond .ne 6, 3) := by decide +kernel
theorem dX10_commit_226 : decode cX10_commit 226 = .ok (.bipush (-3), 2) := by decide +kernel
theorem dX10_commit_228 : decode cX10_commit 228 = .ok (.ireturn, 1) := by decide +kernel
theorem dX10_commit_229 : decode cX10_commit 229 = .ok (.aload_n 0, 1) := by decide +kernel
theorem dX10_commit_230 : decode cX10_commit 230 = .ok (.dup, 1) := by decide +kernel
theorem dX10_commit_231 : decode cX10_commit 231 = .ok (.getfield 212, 3) := by decide +kernel
theorem dX10_commit_234 : decode cX10_commit 234 = .ok (.lconst 1, 1) := by decide +kernel
theorem dX10_commit_235 : decode cX10_commit 235 = .ok (.ladd, 1) := by decide +kernel
theorem dX10_commit_236 : decode cX10_commit 236 = .ok (.putfield 212, 3) := by decide +kernel
theorem dX10_commit_239 : decode cX10_commit 239 = .ok (.iconst 0, 1) := by decide +kernel
theorem dX10_commit_240 : decode cX10_commit 240 = .ok (.istore_n 3, 1) := by decide +kernel
theorem dX10_commit_241 : decode cX10_commit 241 = .ok (.iload_n 3, 1) := by decide +kernel
theorem dX10_commit_242 : decode cX10_commit 242 = .ok (.sipush 220, 3) := by decide +kernel
theorem dX10_commit_245 : decode cX10_commit 245 = .ok (.if_icmp .ge 16, 3) := by decide +kernel
theorem dX10_commit_248 : decode cX10_commit 248 = .ok (.aload_n 0, 1) := by decide +kernel
theorem dX10_commit_249 : decode cX10_commit 249 = .ok (.getfield 42, 3) := by decide +kernel
theorem dX10_commit_252 : decode cX10_commit 252 = .ok (.iload_n 3, 1) := by decide +kernel
theorem dX10_commit_253 : decode cX10_commit 253 = .ok (.iconst 0, 1) := by decide +kernel
theorem dX10_commit_254 : decode cX10_commit 254 = .ok (.bastore, 1) := by decide +kernel
theorem dX10_commit_255 : decode cX10_commit 255 = .ok (.iinc 3 1, 3) := by decide +kernel
theorem dX10_commit_258 : decode cX10_commit 258 = .ok (.goto (-17), 3) := by decide +kernel
theorem dX10_commit_261 : decode cX10_commit 261 = .ok (.aload_n 0, 1) := by decide +kernel
theorem dX10_commit_262 : decode cX10_commit 262 = .ok (.invokevirtual 65, 3) := by decide +kernel
theorem dX10_commit_265 : decode cX10_commit 265 = .ok (.iload_n 1, 1) := by decide +kernel
theorem dX10_commit_266 : decode cX10_commit 266 = .ok (.iconst 1, 1) := by decide +kernel
theorem dX10_commit_267 : decode cX10_commit 267 = .ok (.iadd, 1) := by decide +kernel
theorem dX10_commit_268 : decode cX10_commit 268 = .ok (.ireturn, 1) := by decide +kernel
set_option maxRecDepth 100000 in
set_option maxHeartbeats 4000000 in
theorem bX10_commit_241 {l : Launch} {g : xG} (a0 : Nat) (x1 : Int32) (x2 : Int32) (x3 : Int32) {M : xM} {Q : Option Value → xM → Prop} (h : ((220 ≤ x3 → (xat M a0 7 ∧ xSp l g mX10_keep 0 0 [va_rf (some a0)] M (fun ρ3 M2 => ρ3 = none ∧ (Q (some (.int (x1 + 1))) M2)))) ∧ (¬ 220 ≤ x3 → (xat M a0 7 ∧ (∃ a7, (xR M a0 13) = some a7 ∧ ∃ i9, xai M a7 11 x3 i9 ∧ xWp l g mX10_commit 0 0 241 [(1, va_rf (some a0)), (1, .int x1), (1, .int x2), (1, .int (x3 + 1))] [] (0, 0) (xsI M a7 i9 ((0 : Int32) &&& 1)) Q))))) : xWp l g mX10_commit 0 0 241 [(1, va_rf (some a0)), (1, .int x1), (1, .int x2), (1, .int x3)] [] (0, 0) M Q := by
  refine xr_iload_n 3 dX10_commit_241 rfl rfl ?_
  refine xr_sipush 220 dX10_commit_242 (by decide) ?_
  obtain ⟨ht, hf⟩ := h
  refine xr_icmp_ge 261 dX10_commit_245 (by decide) (fun c11 => ?_) (fun c11 => ?_)
  · replace h := ht c11
    clear ht hf
    refine xr_aload_n 0 dX10_commit_261 rfl rfl ?_
    obtain ⟨t5, h⟩ := h
    refine yr_callV (r := (some a0)) [] dX10_commit_262 cv_X10_commit_65 rfl t5 rfl (Nat.le_trans wt_0 (by decide)) (by decide) (xSp.mono h ?_)
    clear h
    intro ρ3 M2 h
    obtain ⟨rfl, h⟩ := h
    refine xr_iload_n 1 dX10_commit_265 rfl rfl ?_
    refine xr_iconst 1 dX10_commit_266 (by decide) ?_
    refine xr_iadd dX10_commit_267 ?_
    exact xr_retv (by decide) (xRi rfl rfl dX10_commit_268) h
  · replace h := hf c11
    clear ht hf
    refine xr_aload_n 0 dX10_commit_248 rfl rfl ?_
    obtain ⟨t6, h⟩ := h
    refine yr_getR dX10_commit_249 fl_RX10_42 rfl t6 ?_
    refine xr_iload_n 3 dX10_commit_252 rfl rfl ?_
    refine xr_iconst 0 dX10_commit_253 (by decide) ?_
    obtain ⟨a7, e8, h⟩ := h
    obtain ⟨i9, t10, h⟩ := h
    refine yr_zast dX10_commit_254 e8 t10 ?_
    refine ziinc (x3 + 1) dX10_commit_255 rfl rfl (L1 := [(1, va_rf (some a0)), (1, .int x1), (1, .int x2), (1, .int (x3 + 1))]) (by decide) rfl ?_
    refine xr_goto 241 dX10_commit_258 (by decide) ?_
    exact h
set_option maxRecDepth 100000 in
set_option maxHeartbeats 4000000 in
theorem bX10_commit_102 {l : Launch} {g : xG} (a0 : Nat) (x1 : Int32) (x2 : Int32) (w3 : Value) {M : xM} {Q : Option Value → xM → Prop} (h : (xat M a0 7 ∧ ((¬ x2 = (xI M a0 14) → (∃ a2, (xR M a0 5) = some a2 ∧ ∃ i4, xai M a2 9 x2 i4 ∧ (∃ a6, (xR M a0 6) = some a6 ∧ ∃ i8, xai M a6 9 x2 i8 ∧ (xSp l g mX10_childFrom 0 0 [va_rf (some a0), .int (xI M a2 i4), .int ((xI M a6 i8) + 1)] M (fun ρ12 M11 => ∃ v10 : Int32, ρ12 = some (.int v10) ∧ ((v10 = (-1) → (xat M11 a0 7 ∧ (∃ a15, (xR M11 a0 5) = some a15 ∧ ∃ i17, xai M11 a15 9 x2 i17 ∧ xWp l g mX10_commit 0 0 46 [(1, va_rf (some a0)), (1, .int x1), (1, .int (xI M11 a15 i17)), (1, .int v10)] [] (0, 0) M11 Q))) ∧ (¬ v10 = (-1) → (xat M11 a0 7 ∧ xSp l g mX10_deepest 0 0 [va_rf (some a0), .int v10] M11 (fun ρ21 M20 => ∃ v19 : Int32, ρ21 = some (.int v19) ∧ xWp l g mX10_commit 0 0 46 [(1, va_rf (some a0)), (1, .int x1), (1, .int v19), (1, .int v10)] [] (0, 0) M20 Q))))))))) ∧ (x2 = (xI M a0 14) → ((((-1) : Int32) = (-1) → (∃ a25, (xR M a0 5) = some a25 ∧ ∃ i27, xai M a25 9 x2 i27 ∧ xWp l g mX10_commit 0 0 46 [(1, va_rf (some a0)), (1, .int x1), (1, .int (xI M a25 i27)), (1, .int (-1))] [] (0, 0) M Q)) ∧ (¬ ((-1) : Int32) = (-1) → (xSp l g mX10_deepest 0 0 [va_rf (some a0), .int (-1)] M (fun ρ31 M30 => ∃ v29 : Int32, ρ31 = some (.int v29) ∧ xWp l g mX10_commit 0 0 46 [(1, va_rf (some a0)), (1, .int x1), (1, .int v29), (1, .int (-1))] [] (0, 0) M30 Q)))))))) : xWp l g mX10_commit 0 0 102 [(1, va_rf (some a0)), (1, .int x1), (1, .int x2), (0, w3)] [] (0, 0) M Q := by
  refine xr_iload_n 2 dX10_commit_102 rfl rfl ?_
  refine xr_aload_n 0 dX10_commit_103 rfl rfl ?_
  obtain ⟨t1, h⟩ := h
  refine yr_getI dX10_commit_104 fl_RX10_75 rfl t1 ?_
  obtain ⟨ht, hf⟩ := h
  refine xr_icmp_ne 114 dX10_commit_107 (by decide) (fun c34 => ?_) (fun c34 => ?_)
  · replace h := ht c34
    clear ht hf
    refine xr_aload_n 0 dX10_commit_114 rfl rfl ?_
    refine xr_aload_n 0 dX10_commit_115 rfl rfl ?_
    refine yr_getR dX10_commit_116 fl_RX10_17 rfl t1 ?_
    refine xr_iload_n 2 dX10_commit_119 rfl rfl ?_
    obtain ⟨a2, e3, h⟩ := h
    obtain ⟨i4, t5, h⟩ := h
    refine yr_iald dX10_commit_120 e3 t5 ?_
    refine xr_aload_n 0 dX10_commit_121 rfl rfl ?_
    refine yr_getR dX10_commit_122 fl_RX10_20 rfl t1 ?_
    refine xr_iload_n 2 dX10_commit_125 rfl rfl ?_
    obtain ⟨a6, e7, h⟩ := h
    obtain ⟨i8, t9, h⟩ := h
    refine yr_iald dX10_commit_126 e7 t9 ?_
    refine xr_iconst 1 dX10_commit_127 (by decide) ?_
    refine xr_iadd dX10_commit_128 ?_
    refine yr_callV (r := (some a0)) [.int (xI M a2 i4), .int ((xI M a6 i8) + 1)] dX10_commit_129 cv_X10_commit_96 rfl t1 rfl (Nat.le_trans wt_0 (by decide)) (by decide) (xSp.mono h ?_)
    clear h
    intro ρ12 M11 h
    obtain ⟨v10, rfl, h⟩ := h
    refine zistore_n 3 dX10_commit_132 rfl (L1 := [(1, va_rf (some a0)), (1, .int x1), (1, .int x2), (1, .int v10)]) (by decide) rfl ?_
    refine xr_iload_n 3 dX10_commit_133 rfl rfl ?_
    refine xr_iconst (-1) dX10_commit_134 (by decide) ?_
    obtain ⟨ht, hf⟩ := h
    refine xr_icmp_eq 146 dX10_commit_135 (by decide) (fun c24 => ?_) (fun c24 => ?_)
    · replace h := ht c24
      clear ht hf
      refine xr_aload_n 0 dX10_commit_146 rfl rfl ?_
      obtain ⟨t14, h⟩ := h
      refine yr_getR dX10_commit_147 fl_RX10_17 rfl t14 ?_
      refine xr_iload_n 2 dX10_commit_150 rfl rfl ?_
      obtain ⟨a15, e16, h⟩ := h
      obtain ⟨i17, t18, h⟩ := h
      refine yr_iald dX10_commit_151 e16 t18 ?_
      refine zistore_n 2 dX10_commit_152 rfl (L1 := [(1, va_rf (some a0)), (1, .int x1), (1, .int (xI M11 a15 i17)), (1, .int v10)]) (by decide) rfl ?_
      refine xr_goto 46 dX10_commit_153 (by decide) ?_
      exact h
    · replace h := hf c24
      clear ht hf
      refine xr_aload_n 0 dX10_commit_138 rfl rfl ?_
      refine xr_iload_n 3 dX10_commit_139 rfl rfl ?_
      obtain ⟨t23, h⟩ := h
      refine yr_callV (r := (some a0)) [.int v10] dX10_commit_140 cv_X10_commit_206 rfl t23 rfl (Nat.le_trans wt_0 (by decide)) (by decide) (xSp.mono h ?_)
      clear h
      intro ρ21 M20 h
      obtain ⟨v19, rfl, h⟩ := h
      refine xr_goto 152 dX10_commit_143 (by decide) ?_
      refine zistore_n 2 dX10_commit_152 rfl (L1 := [(1, va_rf (some a0)), (1, .int x1), (1, .int v19), (1, .int v10)]) (by decide) rfl ?_
      refine xr_goto 46 dX10_commit_153 (by decide) ?_
      exact h
  · replace h := hf c34
    clear ht hf
    refine xr_iconst (-1) dX10_commit_110 (by decide) ?_
    refine xr_goto 132 dX10_commit_111 (by decide) ?_
    refine zistore_n 3 dX10_commit_132 rfl (L1 := [(1, va_rf (some a0)), (1, .int x1), (1, .int x2), (1, .int (-1))]) (by decide) rfl ?_
    refine xr_iload_n 3 dX10_commit_133 rfl rfl ?_
    refine xr_iconst (-1) dX10_commit_134 (by decide) ?_
    obtain ⟨ht, hf⟩ := h
    refine xr_icmp_eq 146 dX10_commit_135 (by decide) (fun c33 => ?_) (fun c33 => ?_)
    · replace h := ht c33
      clear ht hf
      refine xr_aload_n 0 dX10_commit_146 rfl rfl ?_
      refine yr_getR dX10_commit_147 fl_RX10_17 rfl t1 ?_
      refine xr_iload_n 2 dX10_commit_150 rfl rfl ?_
      obtain ⟨a25, e26, h⟩ := h
      obtain ⟨i27, t28, h⟩ := h
      refine yr_iald dX10_commit_151 e26 t28 ?_
      refine zistore_n 2 dX10_commit_152 rfl (L1 := [(1, va_rf (some a0)), (1, .int x1), (1, .int (xI M a25 i27)), (1, .int (-1))]) (by decide) rfl ?_
      refine xr_goto 46 dX10_commit_153 (by decide) ?_
      exact h
    · replace h := hf c33
      clear ht hf
      refine xr_aload_n 0 dX10_commit_138 rfl rfl ?_
      refine xr_iload_n 3 dX10_commit_139 rfl rfl ?_
      refine yr_callV (r := (some a0)) [.int (-1)] dX10_commit_140 cv_X10_commit_206 rfl t1 rfl (Nat.le_trans wt_0 (by decide)) (by decide) (xSp.mono h ?_)
      clear h
      intro ρ31 M30 h
      obtain ⟨v29, rfl, h⟩ := h
      refine xr_goto 152 dX10_commit_143 (by decide) ?_
      refine zistore_n 2 dX10_commit_152 rfl (L1 := [(1, va_rf (some a0)), (1, .int x1), (1, .int v29), (1, .int (-1))]) (by decide) rfl ?_
      refine xr_goto 46 dX10_commit_153 (by decide) ?_
      exact h
set_option maxRecDepth 100000 in
set_option maxHeartbeats 4000000 in
theorem bX10_commit_62 {l : Launch} {g : xG} (a0 : Nat) (x1 : Int32) (x2 : Int32) (x3 : Int32) {M : xM} {Q : Option Value → xM → Prop} (h : (xat M a0 7 ∧ (∃ a2, (xR M a0 26) = some a2 ∧ ∃ i4, xai M a2 11 x3 i4 ∧ (((xI M a2 i4) = 0 → (∃ i6, xai M a2 11 x3 i6 ∧ (∃ a8, (xR (xsI M a2 i6 ((1 : Int32) &&& 1)) a0 12) = some a8 ∧ ∃ i10, xai (xsI M a2 i6 ((1 : Int32) &&& 1)) a8 9 x2 i10 ∧ (xSp l g mX10_writeNode 0 0 [va_rf (some a0), .int x2] (xsI (xsI M a2 i6 ((1 : Int32) &&& 1)) a8 i10 x3) (fun ρ14 M13 => ∃ v12 : Int32, ρ14 = some (.int v12) ∧ ((¬ v12 = 0 → xWp l g mX10_commit 0 0 102 [(1, va_rf (some a0)), (1, .int x1), (1, .int x2), (1, .int x3)] [] (0, 0) M13 Q) ∧ (v12 = 0 → (Q (some (.int (-3))) M13)))))))) ∧ (¬ (xI M a2 i4) = 0 → xWp l g mX10_commit 0 0 62 [(1, va_rf (some a0)), (1, .int x1), (1, .int x2), (1, .int (x3 + 1))] [] (0, 0) M Q))))) : xWp l g mX10_commit 0 0 62 [(1, va_rf (some a0)), (1, .int x1), (1, .int x2), (1, .int x3)] [] (0, 0) M Q := by
  refine xr_aload_n 0 dX10_commit_62 rfl rfl ?_
  obtain ⟨t1, h⟩ := h
  refine yr_getR dX10_commit_63 fl_RX10_59 rfl t1 ?_
  refine xr_iload_n 3 dX10_commit_66 rfl rfl ?_
  obtain ⟨a2, e3, h⟩ := h
  obtain ⟨i4, t5, h⟩ := h
  refine yr_zald dX10_commit_67 e3 t5 ?_
  obtain ⟨ht, hf⟩ := h
  refine xr_if_eq 77 dX10_commit_68 (by decide) (fun c17 => ?_) (fun c17 => ?_)
  · replace h := ht c17
    clear ht hf
    refine xr_aload_n 0 dX10_commit_77 rfl rfl ?_
    refine yr_getR dX10_commit_78 fl_RX10_59 rfl t1 ?_
    refine xr_iload_n 3 dX10_commit_81 rfl rfl ?_
    refine xr_iconst 1 dX10_commit_82 (by decide) ?_
    obtain ⟨i6, t7, h⟩ := h
    refine yr_zast dX10_commit_83 e3 t7 ?_
    refine xr_aload_n 0 dX10_commit_84 rfl rfl ?_
    refine yr_getR dX10_commit_85 fl_RX10_39 rfl t1 ?_
    refine xr_iload_n 2 dX10_commit_88 rfl rfl ?_
    refine xr_iload_n 3 dX10_commit_89 rfl rfl ?_
    obtain ⟨a8, e9, h⟩ := h
    obtain ⟨i10, t11, h⟩ := h
    refine yr_iast dX10_commit_90 e9 t11 ?_
    refine xr_aload_n 0 dX10_commit_91 rfl rfl ?_
    refine xr_iload_n 2 dX10_commit_92 rfl rfl ?_
    refine yr_callV (r := (some a0)) [.int x2] dX10_commit_93 cv_X10_commit_209 rfl t1 rfl (Nat.le_trans wt_0 (by decide)) (by decide) (xSp.mono h ?_)
    clear h
    intro ρ14 M13 h
    obtain ⟨v12, rfl, h⟩ := h
    obtain ⟨ht, hf⟩ := h
    refine xr_if_ne 102 dX10_commit_96 (by decide) (fun c16 => ?_) (fun c16 => ?_)
    · replace h := ht c16
      clear ht hf
      exact h
    · replace h := hf c16
      clear ht hf
      refine xr_bipush (-3) dX10_commit_99 (by decide) ?_
      exact xr_retv (by decide) (xRi rfl rfl dX10_commit_101) h
  · replace h := hf c17
    clear ht hf
    refine ziinc (x3 + 1) dX10_commit_71 rfl rfl (L1 := [(1, va_rf (some a0)), (1, .int x1), (1, .int x2), (1, .int (x3 + 1))]) (by decide) rfl ?_
    refine xr_goto 62 dX10_commit_74 (by decide) ?_
    exact h
set_option maxRecDepth 100000 in
set_option maxHeartbeats 4000000 in
theorem bX10_commit_46 {l : Launch} {g : xG} (a0 : Nat) (x1 : Int32) (x2 : Int32) (w3 : Value) {M : xM} {Q : Option Value → xM → Prop} (h : ((x2 = (-1) → (xat M a0 7 ∧ xSp l g mX10_beginSheet 0 0 [va_rf (some a0)] M (fun ρ3 M2 => ρ3 = none ∧ (xat M2 a0 7 ∧ (∃ a7, (xR M2 a0 25) = some a7 ∧ ∃ i9, xai M2 a7 9 (0 : Int32) i9 ∧ (xSp l g mX10_number 0 0 [va_rf (some a0), .int 1, .int 8, .long ((xJ (xsI M2 a7 i9 1) a0 16) + 1)] (xsI M2 a7 i9 1) (fun ρ13 M12 => ρ13 = none ∧ (xat M12 a0 7 ∧ (∃ a16, (xR M12 a0 12) = some a16 ∧ ∃ i18, xai M12 a16 9 (xI M12 a0 14) i18 ∧ (∃ a20, (xR M12 a0 25) = some a20 ∧ ∃ i22, xai M12 a20 9 (9 : Int32) i22 ∧ (xSp l g mX10_keys 0 0 [va_rf (some a0)] (xsI M12 a20 i22 (xI M12 a16 i18)) (fun ρ26 M25 => ∃ v24 : Int32, ρ26 = some (.int v24) ∧ (xat M25 a0 7 ∧ xSp l g mX10_number 0 0 [va_rf (some a0), .int 10, .int 2, .long v24.toInt64] M25 (fun ρ30 M29 => ρ30 = none ∧ (xat M29 a0 7 ∧ (xSp l g mX10_write 0 0 [va_rf (some a0), .int (((xJ M29 a0 16) + 1) - ((xJ M29 a0 16) + 1) / 2 * 2).toInt32] M29 (fun ρ36 M35 => ∃ v34 : Int32, ρ36 = some (.int v34) ∧ ((¬ v34 = 0 → (xat M35 a0 7 ∧ xWp l g mX10_commit 0 0 241 [(1, va_rf (some a0)), (1, .int x1), (1, .int x2), (1, .int 0)] [] (0, 0) (xsJ M35 a0 16 ((xJ M35 a0 16) + 1)) Q)) ∧ (v34 = 0 → (Q (some (.int (-3))) M35)))))))))))))))))))) ∧ (¬ x2 = (-1) → (xat M a0 7 ∧ (∃ a41, (xR M a0 13) = some a41 ∧ ∃ i43, xai M a41 11 x2 i43 ∧ (((xI M a41 i43) = 0 → xWp l g mX10_commit 0 0 102 [(1, va_rf (some a0)), (1, .int x1), (1, .int x2), (0, w3)] [] (0, 0) M Q) ∧ (¬ (xI M a41 i43) = 0 → xWp l g mX10_commit 0 0 62 [(1, va_rf (some a0)), (1, .int x1), (1, .int x2), (1, .int 2)] [] (0, 0) M Q))))))) : xWp l g mX10_commit 0 0 46 [(1, va_rf (some a0)), (1, .int x1), (1, .int x2), (0, w3)] [] (0, 0) M Q := by
  refine xr_iload_n 2 dX10_commit_46 rfl rfl ?_
  refine xr_iconst (-1) dX10_commit_47 (by decide) ?_
  obtain ⟨ht, hf⟩ := h
  refine xr_icmp_eq 156 dX10_commit_48 (by decide) (fun c46 => ?_) (fun c46 => ?_)
  · replace h := ht c46
    clear ht hf
    refine xr_aload_n 0 dX10_commit_156 rfl rfl ?_
    obtain ⟨t5, h⟩ := h
    refine yr_callV (r := (some a0)) [] dX10_commit_157 cv_X10_commit_193 rfl t5 rfl (Nat.le_trans wt_0 (by decide)) (by decide) (xSp.mono h ?_)
    clear h
    intro ρ3 M2 h
    obtain ⟨rfl, h⟩ := h
    refine xr_aload_n 0 dX10_commit_160 rfl rfl ?_
    obtain ⟨t6, h⟩ := h
    refine yr_getR dX10_commit_161 fl_RX10_56 rfl t6 ?_
    refine xr_iconst 0 dX10_commit_164 (by decide) ?_
    refine xr_iconst 1 dX10_commit_165 (by decide) ?_
    obtain ⟨a7, e8, h⟩ := h
    obtain ⟨i9, t10, h⟩ := h
    refine yr_iast dX10_commit_166 e8 t10 ?_
    refine xr_aload_n 0 dX10_commit_167 rfl rfl ?_
    refine xr_iconst 1 dX10_commit_168 (by decide) ?_
    refine xr_bipush 8 dX10_commit_169 (by decide) ?_
    refine xr_aload_n 0 dX10_commit_171 rfl rfl ?_
    refine yr_getJ dX10_commit_172 fl_RX10_212 rfl t6 ?_
    refine xr_lconst 1 dX10_commit_175 (by decide) ?_
    refine xr_ladd dX10_commit_176 ?_
    refine yr_callV (r := (some a0)) [.int 1, .int 8, .long ((xJ (xsI M2 a7 i9 1) a0 16) + 1)] dX10_commit_177 cv_X10_commit_186 rfl t6 rfl (Nat.le_trans wt_0 (by decide)) (by decide) (xSp.mono h ?_)
    clear h
    intro ρ13 M12 h
    obtain ⟨rfl, h⟩ := h
    refine xr_aload_n 0 dX10_commit_180 rfl rfl ?_
    obtain ⟨t15, h⟩ := h
    refine yr_getR dX10_commit_181 fl_RX10_56 rfl t15 ?_
    refine xr_bipush 9 dX10_commit_184 (by decide) ?_
    refine xr_aload_n 0 dX10_commit_186 rfl rfl ?_
    refine yr_getR dX10_commit_187 fl_RX10_39 rfl t15 ?_
    refine xr_aload_n 0 dX10_commit_190 rfl rfl ?_
    refine yr_getI dX10_commit_191 fl_RX10_75 rfl t15 ?_
    obtain ⟨a16, e17, h⟩ := h
    obtain ⟨i18, t19, h⟩ := h
    refine yr_iald dX10_commit_194 e17 t19 ?_
    obtain ⟨a20, e21, h⟩ := h
    obtain ⟨i22, t23, h⟩ := h
    refine yr_iast dX10_commit_195 e21 t23 ?_
    refine xr_aload_n 0 dX10_commit_196 rfl rfl ?_
    refine xr_bipush 10 dX10_commit_197 (by decide) ?_
    refine xr_iconst 2 dX10_commit_199 (by decide) ?_
    refine xr_aload_n 0 dX10_commit_200 rfl rfl ?_
    refine yr_callV (r := (some a0)) [] dX10_commit_201 cv_X10_commit_177 rfl t15 rfl (Nat.le_trans (wt_i (wt_i (wt_r wt_0))) (by decide)) (by decide) (xSp.mono h ?_)
    clear h
    intro ρ26 M25 h
    obtain ⟨v24, rfl, h⟩ := h
    refine xr_i2l dX10_commit_204 ?_
    obtain ⟨t32, h⟩ := h
    refine yr_callV (r := (some a0)) [.int 10, .int 2, .long v24.toInt64] dX10_commit_205 cv_X10_commit_186 rfl t32 rfl (Nat.le_trans wt_0 (by decide)) (by decide) (xSp.mono h ?_)
    clear h
    intro ρ30 M29 h
    obtain ⟨rfl, h⟩ := h
    refine xr_aload_n 0 dX10_commit_208 rfl rfl ?_
    refine xr_aload_n 0 dX10_commit_209 rfl rfl ?_
    obtain ⟨t33, h⟩ := h
    refine yr_getJ dX10_commit_210 fl_RX10_212 rfl t33 ?_
    refine xr_lconst 1 dX10_commit_213 (by decide) ?_
    refine xr_ladd dX10_commit_214 ?_
    refine xr_ldc2 2 dX10_commit_215 ct_RX10_216 ?_
    refine xr_lrem dX10_commit_218 (by decide) ?_
    refine xr_l2i dX10_commit_219 ?_
    refine yr_callV (r := (some a0)) [.int (((xJ M29 a0 16) + 1) - ((xJ M29 a0 16) + 1) / 2 * 2).toInt32] dX10_commit_220 cv_X10_commit_196 rfl t33 rfl (Nat.le_trans wt_0 (by decide)) (by decide) (xSp.mono h ?_)
    clear h
    intro ρ36 M35 h
    obtain ⟨v34, rfl, h⟩ := h
    obtain ⟨ht, hf⟩ := h
    refine xr_if_ne 229 dX10_commit_223 (by decide) (fun c39 => ?_) (fun c39 => ?_)
    · replace h := ht c39
      clear ht hf
      refine xr_aload_n 0 dX10_commit_229 rfl rfl ?_
      refine xr_dup dX10_commit_230 (va_rf_cat _) ?_
      obtain ⟨t38, h⟩ := h
      refine yr_getJ dX10_commit_231 fl_RX10_212 rfl t38 ?_
      refine xr_lconst 1 dX10_commit_234 (by decide) ?_
      refine xr_ladd dX10_commit_235 ?_
      refine yr_putJ dX10_commit_236 fp_RX10_212 rfl t38 ?_
      refine xr_iconst 0 dX10_commit_239 (by decide) ?_
      refine zistore_n 3 dX10_commit_240 rfl (L1 := [(1, va_rf (some a0)), (1, .int x1), (1, .int x2), (1, .int 0)]) (by decide) rfl ?_
      exact h
    · replace h := hf c39
      clear ht hf
      refine xr_bipush (-3) dX10_commit_226 (by decide) ?_
      exact xr_retv (by decide) (xRi rfl rfl dX10_commit_228) h
  · replace h := hf c46
    clear ht hf
    refine xr_aload_n 0 dX10_commit_51 rfl rfl ?_
    obtain ⟨t40, h⟩ := h
    refine yr_getR dX10_commit_52 fl_RX10_42 rfl t40 ?_
    refine xr_iload_n 2 dX10_commit_55 rfl rfl ?_
    obtain ⟨a41, e42, h⟩ := h
    obtain ⟨i43, t44, h⟩ := h
    refine yr_zald dX10_commit_56 e42 t44 ?_
    obtain ⟨ht, hf⟩ := h
    refine xr_if_eq 102 dX10_commit_57 (by decide) (fun c45 => ?_) (fun c45 => ?_)
    · replace h := ht c45
      clear ht hf
      exact h
    · replace h := hf c45
      clear ht hf
      refine xr_iconst 2 dX10_commit_60 (by decide) ?_
      refine zistore_n 3 dX10_commit_61 rfl (L1 := [(1, va_rf (some a0)), (1, .int x1), (1, .int x2), (1, .int 2)]) (by decide) rfl ?_
      exact h
set_option maxRecDepth 100000 in
set_option maxHeartbeats 4000000 in
theorem bX10_commit_0 {l : Launch} {g : xG} (a0 : Nat) {M : xM} {Q : Option Value → xM → Prop} (h : (xat M a0 7 ∧ (((xI (xsI M a0 0 0) a0 3) = 0 → (xSp l g mX10_freshMany 0 0 [va_rf (some a0)] (xsI M a0 0 0) (fun ρ4 M3 => ∃ v2 : Int32, ρ4 = some (.int v2) ∧ ((¬ v2 = 0 → (xat M3 a0 7 ∧ xSp l g mX10_findTaken 0 0 [va_rf (some a0)] M3 (fun ρ8 M7 => ∃ v6 : Int32, ρ8 = some (.int v6) ∧ ((v2 ≤ v6 → (xat M7 a0 7 ∧ (xSp l g mX10_deepest 0 0 [va_rf (some a0), .int (xI M7 a0 14)] M7 (fun ρ14 M13 => ∃ v12 : Int32, ρ14 = some (.int v12) ∧ xWp l g mX10_commit 0 0 46 [(1, va_rf (some a0)), (1, .int v2), (1, .int v12), (0, .null)] [] (0, 0) M13 Q)))) ∧ (¬ v2 ≤ v6 → (Q (some (.int (-2))) M7)))))) ∧ (v2 = 0 → (Q (some (.int 0)) M3)))))) ∧ (¬ (xI (xsI M a0 0 0) a0 3) = 0 → (Q (some (.int (-4))) (xsI M a0 0 0)))))) : xWp l g mX10_commit 0 0 0 [(1, va_rf (some a0)), (0, .null), (0, .null), (0, .null)] [] (0, 0) M Q := by
  refine xr_aload_n 0 dX10_commit_0 rfl rfl ?_
  refine xr_iconst 0 dX10_commit_1 (by decide) ?_
  obtain ⟨t1, h⟩ := h
  refine yr_putI dX10_commit_2 fp_RX10_68 rfl t1 ?_
  refine xr_aload_n 0 dX10_commit_5 rfl rfl ?_
  refine yr_getZ dX10_commit_6 fl_RX10_114 rfl t1 ?_
  obtain ⟨ht, hf⟩ := h
  refine xr_if_eq 15 dX10_commit_9 (by decide) (fun c18 => ?_) (fun c18 => ?_)
  · replace h := ht c18
    clear ht hf
    refine xr_aload_n 0 dX10_commit_15 rfl rfl ?_
    refine yr_callV (r := (some a0)) [] dX10_commit_16 cv_X10_commit_200 rfl t1 rfl (Nat.le_trans wt_0 (by decide)) (by decide) (xSp.mono h ?_)
    clear h
    intro ρ4 M3 h
    obtain ⟨v2, rfl, h⟩ := h
    refine zistore_n 1 dX10_commit_19 rfl (L1 := [(1, va_rf (some a0)), (1, .int v2), (0, .null), (0, .null)]) (by decide) rfl ?_
    refine xr_iload_n 1 dX10_commit_20 rfl rfl ?_
    obtain ⟨ht, hf⟩ := h
    refine xr_if_ne 26 dX10_commit_21 (by decide) (fun c17 => ?_) (fun c17 => ?_)
    · replace h := ht c17
      clear ht hf
      refine xr_aload_n 0 dX10_commit_26 rfl rfl ?_
      obtain ⟨t10, h⟩ := h
      refine yr_callV (r := (some a0)) [] dX10_commit_27 cv_X10_commit_203 rfl t10 rfl (Nat.le_trans wt_0 (by decide)) (by decide) (xSp.mono h ?_)
      clear h
      intro ρ8 M7 h
      obtain ⟨v6, rfl, h⟩ := h
      refine xr_iload_n 1 dX10_commit_30 rfl rfl ?_
      obtain ⟨ht, hf⟩ := h
      refine xr_icmp_ge 37 dX10_commit_31 (by decide) (fun c16 => ?_) (fun c16 => ?_)
      · replace h := ht c16
        clear ht hf
        refine xr_aload_n 0 dX10_commit_37 rfl rfl ?_
        refine xr_aload_n 0 dX10_commit_38 rfl rfl ?_
        obtain ⟨t11, h⟩ := h
        refine yr_getI dX10_commit_39 fl_RX10_75 rfl t11 ?_
        refine yr_callV (r := (some a0)) [.int (xI M7 a0 14)] dX10_commit_42 cv_X10_commit_206 rfl t11 rfl (Nat.le_trans wt_0 (by decide)) (by decide) (xSp.mono h ?_)
        clear h
        intro ρ14 M13 h
        obtain ⟨v12, rfl, h⟩ := h
        refine zistore_n 2 dX10_commit_45 rfl (L1 := [(1, va_rf (some a0)), (1, .int v2), (1, .int v12), (0, .null)]) (by decide) rfl ?_
        exact h
      · replace h := hf c16
        clear ht hf
        refine xr_bipush (-2) dX10_commit_34 (by decide) ?_
        exact xr_retv (by decide) (xRi rfl rfl dX10_commit_36) h
    · replace h := hf c17
      clear ht hf
      refine xr_iconst 0 dX10_commit_24 (by decide) ?_
      exact xr_retv (by decide) (xRi rfl rfl dX10_commit_25) h
  · replace h := hf c18
    clear ht hf
    refine xr_bipush (-4) dX10_commit_12 (by decide) ?_
    exact xr_retv (by decide) (xRi rfl rfl dX10_commit_14) h
theorem dX10_back_0 : decode cX10_back 0 = .ok (.aload_n 0, 1) := by decide +kernel
theorem dX10_back_1 : decode cX10_back 1 = .ok (.iconst 0, 1) := by decide +kernel
theorem dX10_back_2 : decode cX10_back 2 = .ok (.putfield 68, 3) := by decide +kernel
theorem dX10_back_5 : decode cX10_back 5 = .ok (.aload_n 0, 1) := by decide +kernel
theorem dX10_back_6 : decode cX10_back 6 = .ok (.getfield 114, 3) := by decide +kernel
theorem dX10_back_9 : decode cX10_back 9 = .ok (.ifCond .eq 6, 3) := by decide +kernel
theorem dX10_back_12 : decode cX10_back 12 = .ok (.bipush (-4), 2) := by decide +kernel
theorem dX10_back_14 : decode cX10_back 14 = .ok (.ireturn, 1) := by decide +kernel
theorem dX10_back_15 : decode cX10_back 15 = .ok (.aload_n 0, 1) := by decide +kernel
theorem dX10_back_16 : decode cX10_back 16 = .ok (.invokevirtual 200, 3) := by decide +kernel
theorem dX10_back_19 : decode cX10_back 19 = .ok (.istore_n 1, 1) := by decide +kernel
theorem dX10_back_20 : decode cX10_back 20 = .ok (.aload_n 0, 1) := by decide +kernel
theorem dX10_back_21 : decode cX10_back 21 = .ok (.sipush 220, 3) := by decide +kernel
theorem dX10_back_24 : decode cX10_back 24 = .ok (.iconst 0, 1) := by decide +kernel
theorem dX10_back_25 : decode cX10_back 25 = .ok (.invokevirtual 78, 3) := by decide +kernel
theorem dX10_back_28 : decode cX10_back 28 = .ok (.aload_n 0, 1) := by decide +kernel
theorem dX10_back_29 : decode cX10_back 29 = .ok (.aload_n 0, 1) := by decide +kernel
theorem dX10_back_30 : decode cX10_back 30 = .ok (.getfield 82, 3) := by decide +kernel
theorem dX10_back_33 : decode cX10_back 33 = .ok (.putfield 75, 3) := by decide +kernel
theorem dX10_back_36 : decode cX10_back 36 = .ok (.iload_n 1, 1) := by decide +kernel
theorem dX10_back_37 : decode cX10_back 37 = .ok (.ireturn, 1) := by decide +kernel
set_option maxRecDepth 100000 in
set_option maxHeartbeats 4000000 in
theorem bX10_back_0 {l : Launch} {g : xG} (a0 : Nat) {M : xM} {Q : Option Value → xM → Prop} (h : (xat M a0 7 ∧ (((xI (xsI M a0 0 0) a0 3) = 0 → (xSp l g mX10_freshMany 0 0 [va_rf (some a0)] (xsI M a0 0 0) (fun ρ4 M3 => ∃ v2 : Int32, ρ4 = some (.int v2) ∧ (xat M3 a0 7 ∧ xSp l g mX10_copy 0 0 [va_rf (some a0), .int 220, .int 0] M3 (fun ρ8 M7 => ρ8 = none ∧ (xat M7 a0 7 ∧ (Q (some (.int v2)) (xsI M7 a0 14 (xI M7 a0 15))))))))) ∧ (¬ (xI (xsI M a0 0 0) a0 3) = 0 → (Q (some (.int (-4))) (xsI M a0 0 0)))))) : xWp l g mX10_back 0 0 0 [(1, va_rf (some a0)), (0, .null)] [] (0, 0) M Q := by
  refine xr_aload_n 0 dX10_back_0 rfl rfl ?_
  refine xr_iconst 0 dX10_back_1 (by decide) ?_
  obtain ⟨t1, h⟩ := h
  refine yr_putI dX10_back_2 fp_RX10_68 rfl t1 ?_
  refine xr_aload_n 0 dX10_back_5 rfl rfl ?_
  refine yr_getZ dX10_back_6 fl_RX10_114 rfl t1 ?_
  obtain ⟨ht, hf⟩ := h
  refine xr_if_eq 15 dX10_back_9 (by decide) (fun c12 => ?_) (fun c12 => ?_)
  · replace h := ht c12
    clear ht hf
    refine xr_aload_n 0 dX10_back_15 rfl rfl ?_
    refine yr_callV (r := (some a0)) [] dX10_back_16 cv_X10_back_200 rfl t1 rfl (Nat.le_trans wt_0 (by decide)) (by decide) (xSp.mono h ?_)
    clear h
    intro ρ4 M3 h
    obtain ⟨v2, rfl, h⟩ := h
    refine zistore_n 1 dX10_back_19 rfl (L1 := [(1, va_rf (some a0)), (1, .int v2)]) (by decide) rfl ?_
    refine xr_aload_n 0 dX10_back_20 rfl rfl ?_
    refine xr_sipush 220 dX10_back_21 (by decide) ?_
    refine xr_iconst 0 dX10_back_24 (by decide) ?_
    obtain ⟨t10, h⟩ := h
    refine yr_callV (r := (some a0)) [.int 220, .int 0] dX10_back_25 cv_X10_back_78 rfl t10 rfl (Nat.le_trans wt_0 (by decide)) (by decide) (xSp.mono h ?_)
    clear h
    intro ρ8 M7 h
    obtain ⟨rfl, h⟩ := h
    refine xr_aload_n 0 dX10_back_28 rfl rfl ?_
    refine xr_aload_n 0 dX10_back_29 rfl rfl ?_
    obtain ⟨t11, h⟩ := h
    refine yr_getI dX10_back_30 fl_RX10_82 rfl t11 ?_
    refine yr_putI dX10_back_33 fp_RX10_75 rfl t11 ?_
    refine xr_iload_n 1 dX10_back_36 rfl rfl ?_
    exact xr_retv (by decide) (xRi rfl rfl dX10_back_37) h
  · replace h := hf c12
    clear ht hf
    refine xr_bipush (-4) dX10_back_12 (by decide) ?_
    exact xr_retv (by decide) (xRi rfl rfl dX10_back_14) h
theorem dX10_depth_0 : decode cX10_depth 0 = .ok (.iconst 0, 1) := by decide +kernel
theorem dX10_depth_1 : decode cX10_depth 1 = .ok (.istore_n 1, 1) := by decide +kernel
theorem dX10_depth_2 : decode cX10_depth 2 = .ok (.iconst 0, 1) := by decide +kernel
theorem dX10_depth_3 : decode cX10_depth 3 = .ok (.istore_n 2, 1) := by decide +kernel
theorem dX10_depth_4 : decode cX10_depth 4 = .ok (.iload_n 2, 1) := by decide +kernel
theorem dX10_depth_5 : decode cX10_depth 5 = .ok (.sipush 220, 3) := by decide +kernel
theorem dX10_depth_8 : decode cX10_depth 8 = .ok (.if_icmp .ge 57, 3) := by decide +kernel
theorem dX10_depth_11 : decode cX10_depth 11 = .ok (.aload_n 0, 1) := by decide +kernel
theorem dX10_depth_12 : decode cX10_depth 12 = .ok (.getfield 13, 3) := by decide +kernel
theorem dX10_depth_15 : decode cX10_depth 15 = .ok (.iload_n 2, 1) := by decide +kernel
theorem dX10_depth_16 : decode cX10_depth 16 = .ok (.baload, 1) := by decide +kernel
theorem dX10_depth_17 : decode cX10_depth 17 = .ok (.ifCond .ne 6, 3) := by decide +kernel
theorem dX10_depth_20 : decode cX10_depth 20 = .ok (.goto 39, 3) := by decide +kernel
theorem dX10_depth_23 : decode cX10_depth 23 = .ok (.iconst 1, 1) := by decide +kernel
theorem dX10_depth_24 : decode cX10_depth 24 = .ok (.istore_n 3, 1) := by decide +kernel
theorem dX10_depth_25 : decode cX10_depth 25 = .ok (.iload_n 2, 1) := by decide +kernel
theorem dX10_depth_26 : decode cX10_depth 26 = .ok (.istore 4, 2) := by decide +kernel
theorem dX10_depth_28 : decode cX10_depth 28 = .ok (.iload 4, 2) := by decide +kernel
theorem dX10_depth_30 : decode cX10_depth 30 = .ok (.aload_n 0, 1) := by decide +kernel
theorem dX10_depth_31 : decode cX10_depth 31 = .ok (.getfield 75, 3) := by decide +kernel
theorem dX10_depth_34 : decode cX10_depth 34 = .ok (.if_icmp .eq 18, 3) := by decide +kernel
theorem dX10_depth_37 : decode cX10_depth 37 = .ok (.iinc 3 1, 3) := by decide +kernel
theorem dX10_depth_40 : decode cX10_depth 40 = .ok (.aload_n 0, 1) := by decide +kernel
theorem dX10_depth_41 : decode cX10_depth 41 = .ok (.getfield 17, 3) := by decide +kernel
theorem dX10_depth_44 : decode cX10_depth 44 = .ok (.iload 4, 2) := by decide +kernel
theorem dX10_depth_46 : decode cX10_depth 46 = .ok (.iaload, 1) := by decide +kernel
theorem dX10_depth_47 : decode cX10_depth 47 = .ok (.istore 4, 2) := by decide +kernel
theorem dX10_depth_49 : decode cX10_depth 49 = .ok (.goto (-21), 3) := by decide +kernel
theorem dX10_depth_52 : decode cX10_depth 52 = .ok (.iload_n 3, 1) := by decide +kernel
theorem dX10_depth_53 : decode cX10_depth 53 = .ok (.iload_n 1, 1) := by decide +kernel
theorem dX10_depth_54 : decode cX10_depth 54 = .ok (.if_icmp .le 5, 3) := by decide +kernel
theorem dX10_depth_57 : decode cX10_depth 57 = .ok (.iload_n 3, 1) := by decide +kernel
theorem dX10_depth_58 : decode cX10_depth 58 = .ok (.istore_n 1, 1) := by decide +kernel
theorem dX10_depth_59 : decode cX10_depth 59 = .ok (.iinc 2 1, 3) := by decide +kernel
theorem dX10_depth_62 : decode cX10_depth 62 = .ok (.goto (-58), 3) := by decide +kernel
theorem dX10_depth_65 : decode cX10_depth 65 = .ok (.iload_n 1, 1) := by decide +kernel
theorem dX10_depth_66 : decode cX10_depth 66 = .ok (.ireturn, 1) := by decide +kernel
set_option maxRecDepth 100000 in
set_option maxHeartbeats 4000000 in
theorem bX10_depth_28 {l : Launch} {g : xG} (a0 : Nat) (x1 : Int32) (x2 : Int32) (x3 : Int32) (x4 : Int32) {M : xM} {Q : Option Value → xM → Prop} (h : (xat M a0 7 ∧ ((x4 = (xI M a0 14) → ((x3 ≤ x1 → xWp l g mX10_depth 0 0 4 [(1, va_rf (some a0)), (1, .int x1), (1, .int (x2 + 1)), (1, .int x3), (1, .int x4)] [] (0, 0) M Q) ∧ (¬ x3 ≤ x1 → xWp l g mX10_depth 0 0 4 [(1, va_rf (some a0)), (1, .int x3), (1, .int (x2 + 1)), (1, .int x3), (1, .int x4)] [] (0, 0) M Q))) ∧ (¬ x4 = (xI M a0 14) → (∃ a3, (xR M a0 5) = some a3 ∧ ∃ i5, xai M a3 9 x4 i5 ∧ xWp l g mX10_depth 0 0 28 [(1, va_rf (some a0)), (1, .int x1), (1, .int x2), (1, .int (x3 + 1)), (1, .int (xI M a3 i5))] [] (0, 0) M Q))))) : xWp l g mX10_depth 0 0 28 [(1, va_rf (some a0)), (1, .int x1), (1, .int x2), (1, .int x3), (1, .int x4)] [] (0, 0) M Q := by
  refine xr_iload dX10_depth_28 rfl ?_
  refine xr_aload_n 0 dX10_depth_30 rfl rfl ?_
  obtain ⟨t1, h⟩ := h
  refine yr_getI dX10_depth_31 fl_RX10_75 rfl t1 ?_
  obtain ⟨ht, hf⟩ := h
  refine xr_icmp_eq 52 dX10_depth_34 (by decide) (fun c7 => ?_) (fun c7 => ?_)
  · replace h := ht c7
    clear ht hf
    refine xr_iload_n 3 dX10_depth_52 rfl rfl ?_
    refine xr_iload_n 1 dX10_depth_53 rfl rfl ?_
    obtain ⟨ht, hf⟩ := h
    refine xr_icmp_le 59 dX10_depth_54 (by decide) (fun c2 => ?_) (fun c2 => ?_)
    · replace h := ht c2
      clear ht hf
      refine ziinc (x2 + 1) dX10_depth_59 rfl rfl (L1 := [(1, va_rf (some a0)), (1, .int x1), (1, .int (x2 + 1)), (1, .int x3), (1, .int x4)]) (by decide) rfl ?_
      refine xr_goto 4 dX10_depth_62 (by decide) ?_
      exact h
    · replace h := hf c2
      clear ht hf
      refine xr_iload_n 3 dX10_depth_57 rfl rfl ?_
      refine zistore_n 1 dX10_depth_58 rfl (L1 := [(1, va_rf (some a0)), (1, .int x3), (1, .int x2), (1, .int x3), (1, .int x4)]) (by decide) rfl ?_
      refine ziinc (x2 + 1) dX10_depth_59 rfl rfl (L1 := [(1, va_rf (some a0)), (1, .int x3), (1, .int (x2 + 1)), (1, .int x3), (1, .int x4)]) (by decide) rfl ?_
      refine xr_goto 4 dX10_depth_62 (by decide) ?_
      exact h
  · replace h := hf c7
    clear ht hf
    refine ziinc (x3 + 1) dX10_depth_37 rfl rfl (L1 := [(1, va_rf (some a0)), (1, .int x1), (1, .int x2), (1, .int (x3 + 1)), (1, .int x4)]) (by decide) rfl ?_
    refine xr_aload_n 0 dX10_depth_40 rfl rfl ?_
    refine yr_getR dX10_depth_41 fl_RX10_17 rfl t1 ?_
    refine xr_iload dX10_depth_44 rfl ?_
    obtain ⟨a3, e4, h⟩ := h
    obtain ⟨i5, t6, h⟩ := h
    refine yr_iald dX10_depth_46 e4 t6 ?_
    refine zistore dX10_depth_47 (L1 := [(1, va_rf (some a0)), (1, .int x1), (1, .int x2), (1, .int (x3 + 1)), (1, .int (xI M a3 i5))]) (by decide) rfl ?_
    refine xr_goto 28 dX10_depth_49 (by decide) ?_
    exact h
set_option maxRecDepth 100000 in
set_option maxHeartbeats 4000000 in
theorem bX10_depth_4 {l : Launch} {g : xG} (a0 : Nat) (x1 : Int32) (x2 : Int32) (w3 : Value) (w4 : Value) {M : xM} {Q : Option Value → xM → Prop} (h : ((220 ≤ x2 → (Q (some (.int x1)) M)) ∧ (¬ 220 ≤ x2 → (xat M a0 7 ∧ (∃ a2, (xR M a0 4) = some a2 ∧ ∃ i4, xai M a2 11 x2 i4 ∧ ((¬ (xI M a2 i4) = 0 → xWp l g mX10_depth 0 0 28 [(1, va_rf (some a0)), (1, .int x1), (1, .int x2), (1, .int 1), (1, .int x2)] [] (0, 0) M Q) ∧ ((xI M a2 i4) = 0 → xWp l g mX10_depth 0 0 4 [(1, va_rf (some a0)), (1, .int x1), (1, .int (x2 + 1)), (0, w3), (0, w4)] [] (0, 0) M Q))))))) : xWp l g mX10_depth 0 0 4 [(1, va_rf (some a0)), (1, .int x1), (1, .int x2), (0, w3), (0, w4)] [] (0, 0) M Q := by
  refine xr_iload_n 2 dX10_depth_4 rfl rfl ?_
  refine xr_sipush 220 dX10_depth_5 (by decide) ?_
  obtain ⟨ht, hf⟩ := h
  refine xr_icmp_ge 65 dX10_depth_8 (by decide) (fun c7 => ?_) (fun c7 => ?_)
  · replace h := ht c7
    clear ht hf
    refine xr_iload_n 1 dX10_depth_65 rfl rfl ?_
    exact xr_retv (by decide) (xRi rfl rfl dX10_depth_66) h
  · replace h := hf c7
    clear ht hf
    refine xr_aload_n 0 dX10_depth_11 rfl rfl ?_
    obtain ⟨t1, h⟩ := h
    refine yr_getR dX10_depth_12 fl_RX10_13 rfl t1 ?_
    refine xr_iload_n 2 dX10_depth_15 rfl rfl ?_
    obtain ⟨a2, e3, h⟩ := h
    obtain ⟨i4, t5, h⟩ := h
    refine yr_zald dX10_depth_16 e3 t5 ?_
    obtain ⟨ht, hf⟩ := h
    refine xr_if_ne 23 dX10_depth_17 (by decide) (fun c6 => ?_) (fun c6 => ?_)
    · replace h := ht c6
      clear ht hf
      refine xr_iconst 1 dX10_depth_23 (by decide) ?_
      refine zistore_n 3 dX10_depth_24 rfl (L1 := [(1, va_rf (some a0)), (1, .int x1), (1, .int x2), (1, .int 1), (0, w4)]) (by decide) rfl ?_
      refine xr_iload_n 2 dX10_depth_25 rfl rfl ?_
      refine zistore dX10_depth_26 (L1 := [(1, va_rf (some a0)), (1, .int x1), (1, .int x2), (1, .int 1), (1, .int x2)]) (by decide) rfl ?_
      exact h
    · replace h := hf c6
      clear ht hf
      refine xr_goto 59 dX10_depth_20 (by decide) ?_
      refine ziinc (x2 + 1) dX10_depth_59 rfl rfl (L1 := [(1, va_rf (some a0)), (1, .int x1), (1, .int (x2 + 1)), (0, w3), (0, w4)]) (by decide) rfl ?_
      refine xr_goto 4 dX10_depth_62 (by decide) ?_
      exact h
set_option maxRecDepth 100000 in
set_option maxHeartbeats 4000000 in
theorem bX10_depth_0 {l : Launch} {g : xG} (a0 : Nat) {M : xM} {Q : Option Value → xM → Prop} (h : xWp l g mX10_depth 0 0 4 [(1, va_rf (some a0)), (1, .int 0), (1, .int 0), (0, .null), (0, .null)] [] (0, 0) M Q) : xWp l g mX10_depth 0 0 0 [(1, va_rf (some a0)), (0, .null), (0, .null), (0, .null), (0, .null)] [] (0, 0) M Q := by
  refine xr_iconst 0 dX10_depth_0 (by decide) ?_
  refine zistore_n 1 dX10_depth_1 rfl (L1 := [(1, va_rf (some a0)), (1, .int 0), (0, .null), (0, .null), (0, .null)]) (by decide) rfl ?_
  refine xr_iconst 0 dX10_depth_2 (by decide) ?_
  refine zistore_n 2 dX10_depth_3 rfl (L1 := [(1, va_rf (some a0)), (1, .int 0), (1, .int 0), (0, .null), (0, .null)]) (by decide) rfl ?_
  exact h
theorem dX10_count_0 : decode cX10_count 0 = .ok (.aload_n 0, 1) := by decide +kernel
theorem dX10_count_1 : decode cX10_count 1 = .ok (.iconst 0, 1) := by decide +kernel
theorem dX10_count_2 : decode cX10_count 2 = .ok (.putfield 68, 3) := by decide +kernel
theorem dX10_count_5 : decode cX10_count 5 = .ok (.aload_n 0, 1) := by decide +kernel
theorem dX10_count_6 : decode cX10_count 6 = .ok (.getfield 114, 3) := by decide +kernel
theorem dX10_count_9 : decode cX10_count 9 = .ok (.ifCond .eq 6, 3) := by decide +kernel
theorem dX10_count_12 : decode cX10_count 12 = .ok (.bipush (-4), 2) := by decide +kernel
theorem dX10_count_14 : decode cX10_count 14 = .ok (.ireturn, 1) := by decide +kernel
theorem dX10_count_15 : decode cX10_count 15 = .ok (.iconst 0, 1) := by decide +kernel
theorem dX10_count_16 : decode cX10_count 16 = .ok (.istore_n 2, 1) := by decide +kernel
theorem dX10_count_17 : decode cX10_count 17 = .ok (.iload_n 1, 1) := by decide +kernel
theorem dX10_count_18 : decode cX10_count 18 = .ok (.tableswitch 145 0 10 #[58, 63, 68, 68, 68, 68, 114, 119, 124, 130, 140], 58) := by decide +kernel
theorem dX10_count_76 : decode cX10_count 76 = .ok (.aload_n 0, 1) := by decide +kernel
theorem dX10_count_77 : decode cX10_count 77 = .ok (.invokevirtual 177, 3) := by decide +kernel
theorem dX10_count_80 : decode cX10_count 80 = .ok (.ireturn, 1) := by decide +kernel
theorem dX10_count_81 : decode cX10_count 81 = .ok (.aload_n 0, 1) := by decide +kernel
theorem dX10_count_82 : decode cX10_count 82 = .ok (.invokevirtual 142, 3) := by decide +kernel
theorem dX10_count_85 : decode cX10_count 85 = .ok (.ireturn, 1) := by decide +kernel
theorem dX10_count_86 : decode cX10_count 86 = .ok (.iconst 0, 1) := by decide +kernel
theorem dX10_count_87 : decode cX10_count 87 = .ok (.istore_n 3, 1) := by decide +kernel
theorem dX10_count_88 : decode cX10_count 88 = .ok (.iload_n 3, 1) := by decide +kernel
theorem dX10_count_89 : decode cX10_count 89 = .ok (.sipush 220, 3) := by decide +kernel
theorem dX10_count_92 : decode cX10_count 92 = .ok (.if_icmp .ge 38, 3) := by decide +kernel
theorem dX10_count_95 : decode cX10_count 95 = .ok (.iload_n 2, 1) := by decide +kernel
theorem dX10_count_96 : decode cX10_count 96 = .ok (.aload_n 0, 1) := by decide +kernel
theorem dX10_count_97 : decode cX10_count 97 = .ok (.getfield 13, 3) := by decide +kernel
theorem dX10_count_100 : decode cX10_count 100 = .ok (.iload_n 3, 1) := by decide +kernel
theorem dX10_count_101 : decode cX10_count 101 = .ok (.baload, 1) := by decide +kernel
theorem dX10_count_102 : decode cX10_count 102 = .ok (.ifCond .eq 19, 3) := by decide +kernel
theorem dX10_count_105 : decode cX10_count 105 = .ok (.aload_n 0, 1) := by decide +kernel
theorem dX10_count_106 : decode cX10_count 106 = .ok (.getfield 36, 3) := by decide +kernel
theorem dX10_count_109 : decode cX10_count 109 = .ok (.iload_n 3, 1) := by decide +kernel
theorem dX10_count_110 : decode cX10_count 110 = .ok (.iaload, 1) := by decide +kernel
theorem dX10_count_111 : decode cX10_count 111 = .ok (.iload_n 1, 1) := by decide +kernel
theorem dX10_count_112 : decode cX10_count 112 = .ok (.iconst 1, 1) := by decide +kernel
theorem dX10_count_113 : decode cX10_count 113 = .ok (.isub, 1) := by decide +kernel
theorem dX10_count_114 : decode cX10_count 114 = .ok (.if_icmp .ne 7, 3) := by decide +kernel
theorem dX10_count_117 : decode cX10_count 117 = .ok (.iconst 1, 1) := by decide +kernel
theorem dX10_count_118 : decode cX10_count 118 = .ok (.goto 4, 3) := by decide +kernel
theorem dX10_count_121 : decode cX10_count 121 = .ok (.iconst 0, 1) := by decide +kernel
theorem dX10_count_122 : decode cX10_count 122 = .ok (.iadd, 1) := by decide +kernel
theorem dX10_count_123 : decode cX10_count 123 = .ok (.istore_n 2, 1) := by decide +kernel
theorem dX10_count_124 : decode cX10_count 124 = .ok (.iinc 3 1, 3) := by decide +kernel
theorem dX10_count_127 : decode cX10_count 127 = .ok (.goto (-39), 3) := by decide +kernel
theorem dX10_count_130 : decode cX10_count 130 = .ok (.iload_n 2, 1) := by decide +kernel
theorem dX10_count_131 : decode cX10_count 131 = .ok (.ireturn, 1) := by decide +kernel
theorem dX10_count_132 : decode cX10_count 132 = .ok (.aload_n 0, 1) := by decide +kernel
theorem dX10_count_133 : decode cX10_count 133 = .ok (.invokevirtual 200, 3) := by decide +kernel
theorem dX10_count_136 : decode cX10_count 136 = .ok (.ireturn, 1) := by decide +kernel
theorem dX10_count_137 : decode cX10_count 137 = .ok (.aload_n 0, 1) := by decide +kernel
theorem dX10_count_138 : decode cX10_count 138 = .ok (.invokevirtual 203, 3) := by decide +kernel
theorem dX10_count_141 : decode cX10_count 141 = .ok (.ireturn, 1) := by decide +kernel
theorem dX10_count_142 : decode cX10_count 142 = .ok (.aload_n 0, 1) := by decide +kernel
theorem dX10_count_143 : decode cX10_count 143 = .ok (.getfield 212, 3) := by decide +kernel
theorem dX10_count_146 : decode cX10_count 146 = .ok (.l2i, 1) := by decide +kernel
theorem dX10_count_147 : decode cX10_count 147 = .ok (.ireturn, 1) := by decide +kernel
theorem dX10_count_148 : decode cX10_count 148 = .ok (.aload_n 0, 1) := by decide +kernel
theorem dX10_count_149 : decode cX10_count 149 = .ok (.getfield 39, 3) := by decide +kernel
theorem dX10_count_152 : decode cX10_count 152 = .ok (.aload_n 0, 1) := by decide +kernel
theorem dX10_count_153 : decode cX10_count 153 = .ok (.getfield 75, 3) := by decide +kernel
theorem dX10_count_156 : decode cX10_count 156 = .ok (.iaload, 1) := by decide +kernel
theorem dX10_count_157 : decode cX10_count 157 = .ok (.ireturn, 1) := by decide +kernel
theorem dX10_count_158 : decode cX10_count 158 = .ok (.aload_n 0, 1) := by decide +kernel
theorem dX10_count_159 : decode cX10_count 159 = .ok (.invokevirtual 218, 3) := by decide +kernel
theorem dX10_count_162 : decode cX10_count 162 = .ok (.ireturn, 1) := by decide +kernel
theorem dX10_count_163 : decode cX10_count 163 = .ok (.iconst (-1), 1) := by decide +kernel
theorem dX10_count_164 : decode cX10_count 164 = .ok (.ireturn, 1) := by decide +kernel
set_option maxRecDepth 100000 in
set_option maxHeartbeats 4000000 in
theorem bX10_count_88 {l : Launch} {g : xG} (a0 : Nat) (x1 : Int32) (x2 : Int32) (x3 : Int32) {M : xM} {Q : Option Value → xM → Prop} (h : ((220 ≤ x3 → (Q (some (.int x2)) M)) ∧ (¬ 220 ≤ x3 → (xat M a0 7 ∧ (∃ a2, (xR M a0 4) = some a2 ∧ ∃ i4, xai M a2 11 x3 i4 ∧ (((xI M a2 i4) = 0 → xWp l g mX10_count 0 0 88 [(1, va_rf (some a0)), (1, .int x1), (1, .int (x2 + 0)), (1, .int (x3 + 1))] [] (0, 0) M Q) ∧ (¬ (xI M a2 i4) = 0 → (∃ a6, (xR M a0 11) = some a6 ∧ ∃ i8, xai M a6 9 x3 i8 ∧ ((¬ (xI M a6 i8) = (x1 - 1) → xWp l g mX10_count 0 0 88 [(1, va_rf (some a0)), (1, .int x1), (1, .int (x2 + 0)), (1, .int (x3 + 1))] [] (0, 0) M Q) ∧ ((xI M a6 i8) = (x1 - 1) → xWp l g mX10_count 0 0 88 [(1, va_rf (some a0)), (1, .int x1), (1, .int (x2 + 1)), (1, .int (x3 + 1))] [] (0, 0) M Q)))))))))) : xWp l g mX10_count 0 0 88 [(1, va_rf (some a0)), (1, .int x1), (1, .int x2), (1, .int x3)] [] (0, 0) M Q := by
  refine xr_iload_n 3 dX10_count_88 rfl rfl ?_
  refine xr_sipush 220 dX10_count_89 (by decide) ?_
  obtain ⟨ht, hf⟩ := h
  refine xr_icmp_ge 130 dX10_count_92 (by decide) (fun c12 => ?_) (fun c12 => ?_)
  · replace h := ht c12
    clear ht hf
    refine xr_iload_n 2 dX10_count_130 rfl rfl ?_
    exact xr_retv (by decide) (xRi rfl rfl dX10_count_131) h
  · replace h := hf c12
    clear ht hf
    refine xr_iload_n 2 dX10_count_95 rfl rfl ?_
    refine xr_aload_n 0 dX10_count_96 rfl rfl ?_
    obtain ⟨t1, h⟩ := h
    refine yr_getR dX10_count_97 fl_RX10_13 rfl t1 ?_
    refine xr_iload_n 3 dX10_count_100 rfl rfl ?_
    obtain ⟨a2, e3, h⟩ := h
    obtain ⟨i4, t5, h⟩ := h
    refine yr_zald dX10_count_101 e3 t5 ?_
    obtain ⟨ht, hf⟩ := h
    refine xr_if_eq 121 dX10_count_102 (by decide) (fun c11 => ?_) (fun c11 => ?_)
    · replace h := ht c11
      clear ht hf
      refine xr_iconst 0 dX10_count_121 (by decide) ?_
      refine xr_iadd dX10_count_122 ?_
      refine zistore_n 2 dX10_count_123 rfl (L1 := [(1, va_rf (some a0)), (1, .int x1), (1, .int (x2 + 0)), (1, .int x3)]) (by decide) rfl ?_
      refine ziinc (x3 + 1) dX10_count_124 rfl rfl (L1 := [(1, va_rf (some a0)), (1, .int x1), (1, .int (x2 + 0)), (1, .int (x3 + 1))]) (by decide) rfl ?_
      refine xr_goto 88 dX10_count_127 (by decide) ?_
      exact h
    · replace h := hf c11
      clear ht hf
      refine xr_aload_n 0 dX10_count_105 rfl rfl ?_
      refine yr_getR dX10_count_106 fl_RX10_36 rfl t1 ?_
      refine xr_iload_n 3 dX10_count_109 rfl rfl ?_
      obtain ⟨a6, e7, h⟩ := h
      obtain ⟨i8, t9, h⟩ := h
      refine yr_iald dX10_count_110 e7 t9 ?_
      refine xr_iload_n 1 dX10_count_111 rfl rfl ?_
      refine xr_iconst 1 dX10_count_112 (by decide) ?_
      refine xr_isub dX10_count_113 ?_
      obtain ⟨ht, hf⟩ := h
      refine xr_icmp_ne 121 dX10_count_114 (by decide) (fun c10 => ?_) (fun c10 => ?_)
      · replace h := ht c10
        clear ht hf
        refine xr_iconst 0 dX10_count_121 (by decide) ?_
        refine xr_iadd dX10_count_122 ?_
        refine zistore_n 2 dX10_count_123 rfl (L1 := [(1, va_rf (some a0)), (1, .int x1), (1, .int (x2 + 0)), (1, .int x3)]) (by decide) rfl ?_
        refine ziinc (x3 + 1) dX10_count_124 rfl rfl (L1 := [(1, va_rf (some a0)), (1, .int x1), (1, .int (x2 + 0)), (1, .int (x3 + 1))]) (by decide) rfl ?_
        refine xr_goto 88 dX10_count_127 (by decide) ?_
        exact h
      · replace h := hf c10
        clear ht hf
        refine xr_iconst 1 dX10_count_117 (by decide) ?_
        refine xr_goto 122 dX10_count_118 (by decide) ?_
        refine xr_iadd dX10_count_122 ?_
        refine zistore_n 2 dX10_count_123 rfl (L1 := [(1, va_rf (some a0)), (1, .int x1), (1, .int (x2 + 1)), (1, .int x3)]) (by decide) rfl ?_
        refine ziinc (x3 + 1) dX10_count_124 rfl rfl (L1 := [(1, va_rf (some a0)), (1, .int x1), (1, .int (x2 + 1)), (1, .int (x3 + 1))]) (by decide) rfl ?_
        refine xr_goto 88 dX10_count_127 (by decide) ?_
        exact h
set_option maxRecDepth 100000 in
set_option maxHeartbeats 4000000 in
theorem bX10_count_0 {l : Launch} {g : xG} (a0 : Nat) (x1 : Int32) {M : xM} {Q : Option Value → xM → Prop} (h : (xat M a0 7 ∧ (((xI (xsI M a0 0 0) a0 3) = 0 → ((x1 = 0 → (xSp l g mX10_keys 0 0 [va_rf (some a0)] (xsI M a0 0 0) (fun ρ4 M3 => ∃ v2 : Int32, ρ4 = some (.int v2) ∧ (Q (some (.int v2)) M3)))) ∧ (x1 = 1 → (xSp l g mX10_nodes 0 0 [va_rf (some a0)] (xsI M a0 0 0) (fun ρ8 M7 => ∃ v6 : Int32, ρ8 = some (.int v6) ∧ (Q (some (.int v6)) M7)))) ∧ (x1 = 2 → xWp l g mX10_count 0 0 88 [(1, va_rf (some a0)), (1, .int x1), (1, .int 0), (1, .int 0)] [] (0, 0) (xsI M a0 0 0) Q) ∧ (x1 = 3 → xWp l g mX10_count 0 0 88 [(1, va_rf (some a0)), (1, .int x1), (1, .int 0), (1, .int 0)] [] (0, 0) (xsI M a0 0 0) Q) ∧ (x1 = 4 → xWp l g mX10_count 0 0 88 [(1, va_rf (some a0)), (1, .int x1), (1, .int 0), (1, .int 0)] [] (0, 0) (xsI M a0 0 0) Q) ∧ (x1 = 5 → xWp l g mX10_count 0 0 88 [(1, va_rf (some a0)), (1, .int x1), (1, .int 0), (1, .int 0)] [] (0, 0) (xsI M a0 0 0) Q) ∧ (x1 = 6 → (xSp l g mX10_freshMany 0 0 [va_rf (some a0)] (xsI M a0 0 0) (fun ρ12 M11 => ∃ v10 : Int32, ρ12 = some (.int v10) ∧ (Q (some (.int v10)) M11)))) ∧ (x1 = 7 → (xSp l g mX10_findTaken 0 0 [va_rf (some a0)] (xsI M a0 0 0) (fun ρ16 M15 => ∃ v14 : Int32, ρ16 = some (.int v14) ∧ (Q (some (.int v14)) M15)))) ∧ (x1 = 8 → (Q (some (.int (xJ (xsI M a0 0 0) a0 16).toInt32)) (xsI M a0 0 0))) ∧ (x1 = 9 → (∃ a18, (xR (xsI M a0 0 0) a0 12) = some a18 ∧ ∃ i20, xai (xsI M a0 0 0) a18 9 (xI (xsI M a0 0 0) a0 14) i20 ∧ (Q (some (.int (xI (xsI M a0 0 0) a18 i20))) (xsI M a0 0 0)))) ∧ (x1 = 10 → (xSp l g mX10_depth 0 0 [va_rf (some a0)] (xsI M a0 0 0) (fun ρ24 M23 => ∃ v22 : Int32, ρ24 = some (.int v22) ∧ (Q (some (.int v22)) M23)))) ∧ ((∀ k : Nat, k ≤ 10 → ¬ x1 = nI k) → (Q (some (.int (-1))) (xsI M a0 0 0))))) ∧ (¬ (xI (xsI M a0 0 0) a0 3) = 0 → (Q (some (.int (-4))) (xsI M a0 0 0)))))) : xWp l g mX10_count 0 0 0 [(1, va_rf (some a0)), (1, .int x1), (0, .null), (0, .null)] [] (0, 0) M Q := by
  refine xr_aload_n 0 dX10_count_0 rfl rfl ?_
  refine xr_iconst 0 dX10_count_1 (by decide) ?_
  obtain ⟨t1, h⟩ := h
  refine yr_putI dX10_count_2 fp_RX10_68 rfl t1 ?_
  refine xr_aload_n 0 dX10_count_5 rfl rfl ?_
  refine yr_getZ dX10_count_6 fl_RX10_114 rfl t1 ?_
  obtain ⟨ht, hf⟩ := h
  refine xr_if_eq 15 dX10_count_9 (by decide) (fun c37 => ?_) (fun c37 => ?_)
  · replace h := ht c37
    clear ht hf
    refine xr_iconst 0 dX10_count_15 (by decide) ?_
    refine zistore_n 2 dX10_count_16 rfl (L1 := [(1, va_rf (some a0)), (1, .int x1), (1, .int 0), (0, .null)]) (by decide) rfl ?_
    refine xr_iload_n 1 dX10_count_17 rfl rfl ?_
    obtain ⟨h0_, h1_, h2_, h3_, h4_, h5_, h6_, h7_, h8_, h9_, h10_, h11_⟩ := h
    by_cases c26 : x1 = 0
    · replace h := h0_ c26
      refine xr_tableIn 76 dX10_count_18 (by rw [c26]; decide) (by rw [c26]; decide) (by rw [c26]; rfl) (by decide) ?_
      refine xr_aload_n 0 dX10_count_76 rfl rfl ?_
      refine yr_callV (r := (some a0)) [] dX10_count_77 cv_X10_count_177 rfl t1 rfl (Nat.le_trans wt_0 (by decide)) (by decide) (xSp.mono h ?_)
      clear h
      intro ρ4 M3 h
      obtain ⟨v2, rfl, h⟩ := h
      exact xr_retv (by decide) (xRi rfl rfl dX10_count_80) h
    by_cases c27 : x1 = 1
    · replace h := h1_ c27
      refine xr_tableIn 81 dX10_count_18 (by rw [c27]; decide) (by rw [c27]; decide) (by rw [c27]; rfl) (by decide) ?_
      refine xr_aload_n 0 dX10_count_81 rfl rfl ?_
      refine yr_callV (r := (some a0)) [] dX10_count_82 cv_X10_count_142 rfl t1 rfl (Nat.le_trans wt_0 (by decide)) (by decide) (xSp.mono h ?_)
      clear h
      intro ρ8 M7 h
      obtain ⟨v6, rfl, h⟩ := h
      exact xr_retv (by decide) (xRi rfl rfl dX10_count_85) h
    by_cases c28 : x1 = 2
    · replace h := h2_ c28
      refine xr_tableIn 86 dX10_count_18 (by rw [c28]; decide) (by rw [c28]; decide) (by rw [c28]; rfl) (by decide) ?_
      refine xr_iconst 0 dX10_count_86 (by decide) ?_
      refine zistore_n 3 dX10_count_87 rfl (L1 := [(1, va_rf (some a0)), (1, .int x1), (1, .int 0), (1, .int 0)]) (by decide) rfl ?_
      exact h
    by_cases c29 : x1 = 3
    · replace h := h3_ c29
      refine xr_tableIn 86 dX10_count_18 (by rw [c29]; decide) (by rw [c29]; decide) (by rw [c29]; rfl) (by decide) ?_
      refine xr_iconst 0 dX10_count_86 (by decide) ?_
      refine zistore_n 3 dX10_count_87 rfl (L1 := [(1, va_rf (some a0)), (1, .int x1), (1, .int 0), (1, .int 0)]) (by decide) rfl ?_
      exact h
    by_cases c30 : x1 = 4
    · replace h := h4_ c30
      refine xr_tableIn 86 dX10_count_18 (by rw [c30]; decide) (by rw [c30]; decide) (by rw [c30]; rfl) (by decide) ?_
      refine xr_iconst 0 dX10_count_86 (by decide) ?_
      refine zistore_n 3 dX10_count_87 rfl (L1 := [(1, va_rf (some a0)), (1, .int x1), (1, .int 0), (1, .int 0)]) (by decide) rfl ?_
      exact h
    by_cases c31 : x1 = 5
    · replace h := h5_ c31
      refine xr_tableIn 86 dX10_count_18 (by rw [c31]; decide) (by rw [c31]; decide) (by rw [c31]; rfl) (by decide) ?_
      refine xr_iconst 0 dX10_count_86 (by decide) ?_
      refine zistore_n 3 dX10_count_87 rfl (L1 := [(1, va_rf (some a0)), (1, .int x1), (1, .int 0), (1, .int 0)]) (by decide) rfl ?_
      exact h
    by_cases c32 : x1 = 6
    · replace h := h6_ c32
      refine xr_tableIn 132 dX10_count_18 (by rw [c32]; decide) (by rw [c32]; decide) (by rw [c32]; rfl) (by decide) ?_
      refine xr_aload_n 0 dX10_count_132 rfl rfl ?_
      refine yr_callV (r := (some a0)) [] dX10_count_133 cv_X10_count_200 rfl t1 rfl (Nat.le_trans wt_0 (by decide)) (by decide) (xSp.mono h ?_)
      clear h
      intro ρ12 M11 h
      obtain ⟨v10, rfl, h⟩ := h
      exact xr_retv (by decide) (xRi rfl rfl dX10_count_136) h
    by_cases c33 : x1 = 7
    · replace h := h7_ c33
      refine xr_tableIn 137 dX10_count_18 (by rw [c33]; decide) (by rw [c33]; decide) (by rw [c33]; rfl) (by decide) ?_
      refine xr_aload_n 0 dX10_count_137 rfl rfl ?_
      refine yr_callV (r := (some a0)) [] dX10_count_138 cv_X10_count_203 rfl t1 rfl (Nat.le_trans wt_0 (by decide)) (by decide) (xSp.mono h ?_)
      clear h
      intro ρ16 M15 h
      obtain ⟨v14, rfl, h⟩ := h
      exact xr_retv (by decide) (xRi rfl rfl dX10_count_141) h
    by_cases c34 : x1 = 8
    · replace h := h8_ c34
      refine xr_tableIn 142 dX10_count_18 (by rw [c34]; decide) (by rw [c34]; decide) (by rw [c34]; rfl) (by decide) ?_
      refine xr_aload_n 0 dX10_count_142 rfl rfl ?_
      refine yr_getJ dX10_count_143 fl_RX10_212 rfl t1 ?_
      refine xr_l2i dX10_count_146 ?_
      exact xr_retv (by decide) (xRi rfl rfl dX10_count_147) h
    by_cases c35 : x1 = 9
    · replace h := h9_ c35
      refine xr_tableIn 148 dX10_count_18 (by rw [c35]; decide) (by rw [c35]; decide) (by rw [c35]; rfl) (by decide) ?_
      refine xr_aload_n 0 dX10_count_148 rfl rfl ?_
      refine yr_getR dX10_count_149 fl_RX10_39 rfl t1 ?_
      refine xr_aload_n 0 dX10_count_152 rfl rfl ?_
      refine yr_getI dX10_count_153 fl_RX10_75 rfl t1 ?_
      obtain ⟨a18, e19, h⟩ := h
      obtain ⟨i20, t21, h⟩ := h
      refine yr_iald dX10_count_156 e19 t21 ?_
      exact xr_retv (by decide) (xRi rfl rfl dX10_count_157) h
    by_cases c36 : x1 = 10
    · replace h := h10_ c36
      refine xr_tableIn 158 dX10_count_18 (by rw [c36]; decide) (by rw [c36]; decide) (by rw [c36]; rfl) (by decide) ?_
      refine xr_aload_n 0 dX10_count_158 rfl rfl ?_
      refine yr_callV (r := (some a0)) [] dX10_count_159 cv_X10_count_218 rfl t1 rfl (Nat.le_trans wt_0 (by decide)) (by decide) (xSp.mono h ?_)
      clear h
      intro ρ24 M23 h
      obtain ⟨v22, rfl, h⟩ := h
      exact xr_retv (by decide) (xRi rfl rfl dX10_count_162) h
    have hout : ∀ k : Nat, k ≤ 10 → ¬ x1 = nI k := fun k hk => by
      rcases (show k = 0 ∨ k = 1 ∨ k = 2 ∨ k = 3 ∨ k = 4 ∨ k = 5 ∨ k = 6 ∨ k = 7 ∨ k = 8 ∨ k = 9 ∨ k = 10 by omega) with rfl | rfl | rfl | rfl | rfl | rfl | rfl | rfl | rfl | rfl | rfl
      · exact c26
      · exact c27
      · exact c28
      · exact c29
      · exact c30
      · exact c31
      · exact c32
      · exact c33
      · exact c34
      · exact c35
      · exact c36
    replace h := h11_ hout
    refine xr_tableOut 163 dX10_count_18 (sw_out 10 (by decide) hout) (by decide) ?_
    refine xr_iconst (-1) dX10_count_163 (by decide) ?_
    exact xr_retv (by decide) (xRi rfl rfl dX10_count_164) h
  · replace h := hf c37
    clear ht hf
    refine xr_bipush (-4) dX10_count_12 (by decide) ?_
    exact xr_retv (by decide) (xRi rfl rfl dX10_count_14) h
theorem dX10_node_0 : decode cX10_node 0 = .ok (.aload_n 0, 1) := by decide +kernel
theorem dX10_node_1 : decode cX10_node 1 = .ok (.iconst 0, 1) := by decide +kernel
theorem dX10_node_2 : decode cX10_node 2 = .ok (.putfield 68, 3) := by decide +kernel
theorem dX10_node_5 : decode cX10_node 5 = .ok (.aload_n 0, 1) := by decide +kernel
theorem dX10_node_6 : decode cX10_node 6 = .ok (.getfield 114, 3) := by decide +kernel
theorem dX10_node_9 : decode cX10_node 9 = .ok (.ifCond .eq 8, 3) := by decide +kernel
theorem dX10_node_12 : decode cX10_node 12 = .ok (.bipush (-4), 2) := by decide +kernel
theorem dX10_node_14 : decode cX10_node 14 = .ok (.goto 41, 3) := by decide +kernel
theorem dX10_node_17 : decode cX10_node 17 = .ok (.iload_n 1, 1) := by decide +kernel
theorem dX10_node_18 : decode cX10_node 18 = .ok (.i2l, 1) := by decide +kernel
theorem dX10_node_19 : decode cX10_node 19 = .ok (.lconst 0, 1) := by decide +kernel
theorem dX10_node_20 : decode cX10_node 20 = .ok (.aload_n 0, 1) := by decide +kernel
theorem dX10_node_21 : decode cX10_node 21 = .ok (.invokevirtual 142, 3) := by decide +kernel
theorem dX10_node_24 : decode cX10_node 24 = .ok (.iconst 1, 1) := by decide +kernel
theorem dX10_node_25 : decode cX10_node 25 = .ok (.isub, 1) := by decide +kernel
theorem dX10_node_26 : decode cX10_node 26 = .ok (.i2l, 1) := by decide +kernel
theorem dX10_node_27 : decode cX10_node 27 = .ok (.invokestatic 87, 3) := by decide +kernel
theorem dX10_node_30 : decode cX10_node 30 = .ok (.ifCond .eq 24, 3) := by decide +kernel
theorem dX10_node_33 : decode cX10_node 33 = .ok (.iload_n 2, 1) := by decide +kernel
theorem dX10_node_34 : decode cX10_node 34 = .ok (.i2l, 1) := by decide +kernel
theorem dX10_node_35 : decode cX10_node 35 = .ok (.lconst 0, 1) := by decide +kernel
theorem dX10_node_36 : decode cX10_node 36 = .ok (.ldc2_w 221, 3) := by decide +kernel
theorem dX10_node_39 : decode cX10_node 39 = .ok (.invokestatic 87, 3) := by decide +kernel
theorem dX10_node_42 : decode cX10_node 42 = .ok (.ifCond .eq 12, 3) := by decide +kernel
theorem dX10_node_45 : decode cX10_node 45 = .ok (.aload_n 0, 1) := by decide +kernel
theorem dX10_node_46 : decode cX10_node 46 = .ok (.iload_n 1, 1) := by decide +kernel
theorem dX10_node_47 : decode cX10_node 47 = .ok (.iload_n 2, 1) := by decide +kernel
theorem dX10_node_48 : decode cX10_node 48 = .ok (.invokevirtual 223, 3) := by decide +kernel
theorem dX10_node_51 : decode cX10_node 51 = .ok (.goto 4, 3) := by decide +kernel
theorem dX10_node_54 : decode cX10_node 54 = .ok (.iconst (-1), 1) := by decide +kernel
theorem dX10_node_55 : decode cX10_node 55 = .ok (.ireturn, 1) := by decide +kernel
set_option maxRecDepth 100000 in
set_option maxHeartbeats 4000000 in
theorem bX10_node_0 {l : Launch} {g : xG} (a0 : Nat) (x1 : Int32) (x2 : Int32) {M : xM} {Q : Option Value → xM → Prop} (h : (xat M a0 7 ∧ (((xI (xsI M a0 0 0) a0 3) = 0 → (xSp l g mX10_nodes 0 0 [va_rf (some a0)] (xsI M a0 0 0) (fun ρ4 M3 => ∃ v2 : Int32, ρ4 = some (.int v2) ∧ (xSp l g mX10_in 0 0 [.long x1.toInt64, .long 0, .long (v2 - 1).toInt64] M3 (fun ρ8 M7 => ∃ v6 : Int32, ρ8 = some (.int v6) ∧ ((v6 = 0 → (Q (some (.int (-1))) M7)) ∧ (¬ v6 = 0 → (xSp l g mX10_in 0 0 [.long x2.toInt64, .long 0, .long 5] M7 (fun ρ12 M11 => ∃ v10 : Int32, ρ12 = some (.int v10) ∧ ((v10 = 0 → (Q (some (.int (-1))) M11)) ∧ (¬ v10 = 0 → (xat M11 a0 7 ∧ xSp l g mX10_ofNode 0 0 [va_rf (some a0), .int x1, .int x2] M11 (fun ρ16 M15 => ∃ v14 : Int32, ρ16 = some (.int v14) ∧ (Q (some (.int v14)) M15)))))))))))))) ∧ (¬ (xI (xsI M a0 0 0) a0 3) = 0 → (Q (some (.int (-4))) (xsI M a0 0 0)))))) : xWp l g mX10_node 0 0 0 [(1, va_rf (some a0)), (1, .int x1), (1, .int x2)] [] (0, 0) M Q := by
  refine xr_aload_n 0 dX10_node_0 rfl rfl ?_
  refine xr_iconst 0 dX10_node_1 (by decide) ?_
  obtain ⟨t1, h⟩ := h
  refine yr_putI dX10_node_2 fp_RX10_68 rfl t1 ?_
  refine xr_aload_n 0 dX10_node_5 rfl rfl ?_
  refine yr_getZ dX10_node_6 fl_RX10_114 rfl t1 ?_
  obtain ⟨ht, hf⟩ := h
  refine xr_if_eq 17 dX10_node_9 (by decide) (fun c21 => ?_) (fun c21 => ?_)
  · replace h := ht c21
    clear ht hf
    refine xr_iload_n 1 dX10_node_17 rfl rfl ?_
    refine xr_i2l dX10_node_18 ?_
    refine xr_lconst 0 dX10_node_19 (by decide) ?_
    refine xr_aload_n 0 dX10_node_20 rfl rfl ?_
    refine yr_callV (r := (some a0)) [] dX10_node_21 cv_X10_node_142 rfl t1 rfl (Nat.le_trans (wt_j (wt_j wt_0)) (by decide)) (by decide) (xSp.mono h ?_)
    clear h
    intro ρ4 M3 h
    obtain ⟨v2, rfl, h⟩ := h
    refine xr_iconst 1 dX10_node_24 (by decide) ?_
    refine xr_isub dX10_node_25 ?_
    refine xr_i2l dX10_node_26 ?_
    refine xr_callS [.long x1.toInt64, .long 0, .long (v2 - 1).toInt64] dX10_node_27 cs_X10_node_87 rfl (Nat.le_trans wt_0 (by decide)) (by decide) (xSp.mono h ?_)
    clear h
    intro ρ8 M7 h
    obtain ⟨v6, rfl, h⟩ := h
    obtain ⟨ht, hf⟩ := h
    refine xr_if_eq 54 dX10_node_30 (by decide) (fun c20 => ?_) (fun c20 => ?_)
    · replace h := ht c20
      clear ht hf
      refine xr_iconst (-1) dX10_node_54 (by decide) ?_
      exact xr_retv (by decide) (xRi rfl rfl dX10_node_55) h
    · replace h := hf c20
      clear ht hf
      refine xr_iload_n 2 dX10_node_33 rfl rfl ?_
      refine xr_i2l dX10_node_34 ?_
      refine xr_lconst 0 dX10_node_35 (by decide) ?_
      refine xr_ldc2 5 dX10_node_36 ct_RX10_221 ?_
      refine xr_callS [.long x2.toInt64, .long 0, .long 5] dX10_node_39 cs_X10_node_87 rfl (Nat.le_trans wt_0 (by decide)) (by decide) (xSp.mono h ?_)
      clear h
      intro ρ12 M11 h
      obtain ⟨v10, rfl, h⟩ := h
      obtain ⟨ht, hf⟩ := h
      refine xr_if_eq 54 dX10_node_42 (by decide) (fun c19 => ?_) (fun c19 => ?_)
      · replace h := ht c19
        clear ht hf
        refine xr_iconst (-1) dX10_node_54 (by decide) ?_
        exact xr_retv (by decide) (xRi rfl rfl dX10_node_55) h
      · replace h := hf c19
        clear ht hf
        refine xr_aload_n 0 dX10_node_45 rfl rfl ?_
        refine xr_iload_n 1 dX10_node_46 rfl rfl ?_
        refine xr_iload_n 2 dX10_node_47 rfl rfl ?_
        obtain ⟨t18, h⟩ := h
        refine yr_callV (r := (some a0)) [.int x1, .int x2] dX10_node_48 cv_X10_node_223 rfl t18 rfl (Nat.le_trans wt_0 (by decide)) (by decide) (xSp.mono h ?_)
        clear h
        intro ρ16 M15 h
        obtain ⟨v14, rfl, h⟩ := h
        refine xr_goto 55 dX10_node_51 (by decide) ?_
        exact xr_retv (by decide) (xRi rfl rfl dX10_node_55) h
  · replace h := hf c21
    clear ht hf
    refine xr_bipush (-4) dX10_node_12 (by decide) ?_
    refine xr_goto 55 dX10_node_14 (by decide) ?_
    exact xr_retv (by decide) (xRi rfl rfl dX10_node_55) h
theorem dX10_ofNode_0 : decode cX10_ofNode 0 = .ok (.aload_n 0, 1) := by decide +kernel
theorem dX10_ofNode_1 : decode cX10_ofNode 1 = .ok (.getfield 75, 3) := by decide +kernel
theorem dX10_ofNode_4 : decode cX10_ofNode 4 = .ok (.istore_n 3, 1) := by decide +kernel
theorem dX10_ofNode_5 : decode cX10_ofNode 5 = .ok (.iconst 0, 1) := by decide +kernel
theorem dX10_ofNode_6 : decode cX10_ofNode 6 = .ok (.istore 4, 2) := by decide +kernel
theorem dX10_ofNode_8 : decode cX10_ofNode 8 = .ok (.iload 4, 2) := by decide +kernel
theorem dX10_ofNode_10 : decode cX10_ofNode 10 = .ok (.iload_n 1, 1) := by decide +kernel
theorem dX10_ofNode_11 : decode cX10_ofNode 11 = .ok (.if_icmp .ge 15, 3) := by decide +kernel
theorem dX10_ofNode_14 : decode cX10_ofNode 14 = .ok (.aload_n 0, 1) := by decide +kernel
theorem dX10_ofNode_15 : decode cX10_ofNode 15 = .ok (.iload_n 3, 1) := by decide +kernel
theorem dX10_ofNode_16 : decode cX10_ofNode 16 = .ok (.invokevirtual 174, 3) := by decide +kernel
theorem dX10_ofNode_19 : decode cX10_ofNode 19 = .ok (.istore_n 3, 1) := by decide +kernel
theorem dX10_ofNode_20 : decode cX10_ofNode 20 = .ok (.iinc 4 1, 3) := by decide +kernel
theorem dX10_ofNode_23 : decode cX10_ofNode 23 = .ok (.goto (-15), 3) := by decide +kernel
theorem dX10_ofNode_26 : decode cX10_ofNode 26 = .ok (.iload_n 2, 1) := by decide +kernel
theorem dX10_ofNode_27 : decode cX10_ofNode 27 = .ok (.tableswitch 75 0 4 #[33, 40, 46, 53, 68], 33) := by decide +kernel
theorem dX10_ofNode_60 : decode cX10_ofNode 60 = .ok (.aload_n 0, 1) := by decide +kernel
theorem dX10_ofNode_61 : decode cX10_ofNode 61 = .ok (.getfield 36, 3) := by decide +kernel
theorem dX10_ofNode_64 : decode cX10_ofNode 64 = .ok (.iload_n 3, 1) := by decide +kernel
theorem dX10_ofNode_65 : decode cX10_ofNode 65 = .ok (.iaload, 1) := by decide +kernel
theorem dX10_ofNode_66 : decode cX10_ofNode 66 = .ok (.ireturn, 1) := by decide +kernel
theorem dX10_ofNode_67 : decode cX10_ofNode 67 = .ok (.aload_n 0, 1) := by decide +kernel
theorem dX10_ofNode_68 : decode cX10_ofNode 68 = .ok (.iload_n 3, 1) := by decide +kernel
theorem dX10_ofNode_69 : decode cX10_ofNode 69 = .ok (.invokevirtual 131, 3) := by decide +kernel
theorem dX10_ofNode_72 : decode cX10_ofNode 72 = .ok (.ireturn, 1) := by decide +kernel
theorem dX10_ofNode_73 : decode cX10_ofNode 73 = .ok (.aload_n 0, 1) := by decide +kernel
theorem dX10_ofNode_74 : decode cX10_ofNode 74 = .ok (.getfield 26, 3) := by decide +kernel
theorem dX10_ofNode_77 : decode cX10_ofNode 77 = .ok (.iload_n 3, 1) := by decide +kernel
theorem dX10_ofNode_78 : decode cX10_ofNode 78 = .ok (.iaload, 1) := by decide +kernel
theorem dX10_ofNode_79 : decode cX10_ofNode 79 = .ok (.ireturn, 1) := by decide +kernel
theorem dX10_ofNode_80 : decode cX10_ofNode 80 = .ok (.aload_n 0, 1) := by decide +kernel
theorem dX10_ofNode_81 : decode cX10_ofNode 81 = .ok (.getfield 29, 3) := by decide +kernel
theorem dX10_ofNode_84 : decode cX10_ofNode 84 = .ok (.iload_n 3, 1) := by decide +kernel
theorem dX10_ofNode_85 : decode cX10_ofNode 85 = .ok (.baload, 1) := by decide +kernel
theorem dX10_ofNode_86 : decode cX10_ofNode 86 = .ok (.ifCond .eq 7, 3) := by decide +kernel
theorem dX10_ofNode_89 : decode cX10_ofNode 89 = .ok (.iconst 1, 1) := by decide +kernel
theorem dX10_ofNode_90 : decode cX10_ofNode 90 = .ok (.goto 4, 3) := by decide +kernel
theorem dX10_ofNode_93 : decode cX10_ofNode 93 = .ok (.iconst 0, 1) := by decide +kernel
theorem dX10_ofNode_94 : decode cX10_ofNode 94 = .ok (.ireturn, 1) := by decide +kernel
theorem dX10_ofNode_95 : decode cX10_ofNode 95 = .ok (.aload_n 0, 1) := by decide +kernel
theorem dX10_ofNode_96 : decode cX10_ofNode 96 = .ok (.getfield 39, 3) := by decide +kernel
theorem dX10_ofNode_99 : decode cX10_ofNode 99 = .ok (.iload_n 3, 1) := by decide +kernel
theorem dX10_ofNode_100 : decode cX10_ofNode 100 = .ok (.iaload, 1) := by decide +kernel
theorem dX10_ofNode_101 : decode cX10_ofNode 101 = .ok (.ireturn, 1) := by decide +kernel
theorem dX10_ofNode_102 : decode cX10_ofNode 102 = .ok (.aload_n 0, 1) := by decide +kernel
theorem dX10_ofNode_103 : decode cX10_ofNode 103 = .ok (.iload_n 3, 1) := by decide +kernel
theorem dX10_ofNode_104 : decode cX10_ofNode 104 = .ok (.invokevirtual 155, 3) := by decide +kernel
theorem dX10_ofNode_107 : decode cX10_ofNode 107 = .ok (.ireturn, 1) := by decide +kernel
set_option maxRecDepth 100000 in
set_option maxHeartbeats 4000000 in
theorem bX10_ofNode_8 {l : Launch} {g : xG} (a0 : Nat) (x1 : Int32) (x2 : Int32) (x3 : Int32) (x4 : Int32) {M : xM} {Q : Option Value → xM → Prop} (h : ((x1 ≤ x4 → ((x2 = 0 → (xat M a0 7 ∧ (∃ a2, (xR M a0 11) = some a2 ∧ ∃ i4, xai M a2 9 x3 i4 ∧ (Q (some (.int (xI M a2 i4))) M)))) ∧ (x2 = 1 → (xat M a0 7 ∧ xSp l g mX10_children 0 0 [va_rf (some a0), .int x3] M (fun ρ8 M7 => ∃ v6 : Int32, ρ8 = some (.int v6) ∧ (Q (some (.int v6)) M7)))) ∧ (x2 = 2 → (xat M a0 7 ∧ (∃ a12, (xR M a0 8) = some a12 ∧ ∃ i14, xai M a12 9 x3 i14 ∧ (Q (some (.int (xI M a12 i14))) M)))) ∧ (x2 = 3 → (xat M a0 7 ∧ (∃ a17, (xR M a0 9) = some a17 ∧ ∃ i19, xai M a17 11 x3 i19 ∧ (((xI M a17 i19) = 0 → (Q (some (.int 0)) M)) ∧ (¬ (xI M a17 i19) = 0 → (Q (some (.int 1)) M)))))) ∧ (x2 = 4 → (xat M a0 7 ∧ (∃ a23, (xR M a0 12) = some a23 ∧ ∃ i25, xai M a23 9 x3 i25 ∧ (Q (some (.int (xI M a23 i25))) M)))) ∧ ((∀ k : Nat, k ≤ 4 → ¬ x2 = nI k) → (xat M a0 7 ∧ xSp l g mX10_lead 0 0 [va_rf (some a0), .int x3] M (fun ρ29 M28 => ∃ v27 : Int32, ρ29 = some (.int v27) ∧ (Q (some (.int v27)) M28)))))) ∧ (¬ x1 ≤ x4 → (xat M a0 7 ∧ xSp l g mX10_next 0 0 [va_rf (some a0), .int x3] M (fun ρ39 M38 => ∃ v37 : Int32, ρ39 = some (.int v37) ∧ xWp l g mX10_ofNode 0 0 8 [(1, va_rf (some a0)), (1, .int x1), (1, .int x2), (1, .int v37), (1, .int (x4 + 1))] [] (0, 0) M38 Q))))) : xWp l g mX10_ofNode 0 0 8 [(1, va_rf (some a0)), (1, .int x1), (1, .int x2), (1, .int x3), (1, .int x4)] [] (0, 0) M Q := by
  refine xr_iload dX10_ofNode_8 rfl ?_
  refine xr_iload_n 1 dX10_ofNode_10 rfl rfl ?_
  obtain ⟨ht, hf⟩ := h
  refine xr_icmp_ge 26 dX10_ofNode_11 (by decide) (fun c42 => ?_) (fun c42 => ?_)
  · replace h := ht c42
    clear ht hf
    refine xr_iload_n 2 dX10_ofNode_26 rfl rfl ?_
    obtain ⟨h0_, h1_, h2_, h3_, h4_, h5_⟩ := h
    by_cases c32 : x2 = 0
    · replace h := h0_ c32
      refine xr_tableIn 60 dX10_ofNode_27 (by rw [c32]; decide) (by rw [c32]; decide) (by rw [c32]; rfl) (by decide) ?_
      refine xr_aload_n 0 dX10_ofNode_60 rfl rfl ?_
      obtain ⟨t1, h⟩ := h
      refine yr_getR dX10_ofNode_61 fl_RX10_36 rfl t1 ?_
      refine xr_iload_n 3 dX10_ofNode_64 rfl rfl ?_
      obtain ⟨a2, e3, h⟩ := h
      obtain ⟨i4, t5, h⟩ := h
      refine yr_iald dX10_ofNode_65 e3 t5 ?_
      exact xr_retv (by decide) (xRi rfl rfl dX10_ofNode_66) h
    by_cases c33 : x2 = 1
    · replace h := h1_ c33
      refine xr_tableIn 67 dX10_ofNode_27 (by rw [c33]; decide) (by rw [c33]; decide) (by rw [c33]; rfl) (by decide) ?_
      refine xr_aload_n 0 dX10_ofNode_67 rfl rfl ?_
      refine xr_iload_n 3 dX10_ofNode_68 rfl rfl ?_
      obtain ⟨t10, h⟩ := h
      refine yr_callV (r := (some a0)) [.int x3] dX10_ofNode_69 cv_X10_ofNode_131 rfl t10 rfl (Nat.le_trans wt_0 (by decide)) (by decide) (xSp.mono h ?_)
      clear h
      intro ρ8 M7 h
      obtain ⟨v6, rfl, h⟩ := h
      exact xr_retv (by decide) (xRi rfl rfl dX10_ofNode_72) h
    by_cases c34 : x2 = 2
    · replace h := h2_ c34
      refine xr_tableIn 73 dX10_ofNode_27 (by rw [c34]; decide) (by rw [c34]; decide) (by rw [c34]; rfl) (by decide) ?_
      refine xr_aload_n 0 dX10_ofNode_73 rfl rfl ?_
      obtain ⟨t11, h⟩ := h
      refine yr_getR dX10_ofNode_74 fl_RX10_26 rfl t11 ?_
      refine xr_iload_n 3 dX10_ofNode_77 rfl rfl ?_
      obtain ⟨a12, e13, h⟩ := h
      obtain ⟨i14, t15, h⟩ := h
      refine yr_iald dX10_ofNode_78 e13 t15 ?_
      exact xr_retv (by decide) (xRi rfl rfl dX10_ofNode_79) h
    by_cases c35 : x2 = 3
    · replace h := h3_ c35
      refine xr_tableIn 80 dX10_ofNode_27 (by rw [c35]; decide) (by rw [c35]; decide) (by rw [c35]; rfl) (by decide) ?_
      refine xr_aload_n 0 dX10_ofNode_80 rfl rfl ?_
      obtain ⟨t16, h⟩ := h
      refine yr_getR dX10_ofNode_81 fl_RX10_29 rfl t16 ?_
      refine xr_iload_n 3 dX10_ofNode_84 rfl rfl ?_
      obtain ⟨a17, e18, h⟩ := h
      obtain ⟨i19, t20, h⟩ := h
      refine yr_zald dX10_ofNode_85 e18 t20 ?_
      obtain ⟨ht, hf⟩ := h
      refine xr_if_eq 93 dX10_ofNode_86 (by decide) (fun c21 => ?_) (fun c21 => ?_)
      · replace h := ht c21
        clear ht hf
        refine xr_iconst 0 dX10_ofNode_93 (by decide) ?_
        exact xr_retv (by decide) (xRi rfl rfl dX10_ofNode_94) h
      · replace h := hf c21
        clear ht hf
        refine xr_iconst 1 dX10_ofNode_89 (by decide) ?_
        refine xr_goto 94 dX10_ofNode_90 (by decide) ?_
        exact xr_retv (by decide) (xRi rfl rfl dX10_ofNode_94) h
    by_cases c36 : x2 = 4
    · replace h := h4_ c36
      refine xr_tableIn 95 dX10_ofNode_27 (by rw [c36]; decide) (by rw [c36]; decide) (by rw [c36]; rfl) (by decide) ?_
      refine xr_aload_n 0 dX10_ofNode_95 rfl rfl ?_
      obtain ⟨t22, h⟩ := h
      refine yr_getR dX10_ofNode_96 fl_RX10_39 rfl t22 ?_
      refine xr_iload_n 3 dX10_ofNode_99 rfl rfl ?_
      obtain ⟨a23, e24, h⟩ := h
      obtain ⟨i25, t26, h⟩ := h
      refine yr_iald dX10_ofNode_100 e24 t26 ?_
      exact xr_retv (by decide) (xRi rfl rfl dX10_ofNode_101) h
    have hout : ∀ k : Nat, k ≤ 4 → ¬ x2 = nI k := fun k hk => by
      rcases (show k = 0 ∨ k = 1 ∨ k = 2 ∨ k = 3 ∨ k = 4 by omega) with rfl | rfl | rfl | rfl | rfl
      · exact c32
      · exact c33
      · exact c34
      · exact c35
      · exact c36
    replace h := h5_ hout
    refine xr_tableOut 102 dX10_ofNode_27 (sw_out 4 (by decide) hout) (by decide) ?_
    refine xr_aload_n 0 dX10_ofNode_102 rfl rfl ?_
    refine xr_iload_n 3 dX10_ofNode_103 rfl rfl ?_
    obtain ⟨t31, h⟩ := h
    refine yr_callV (r := (some a0)) [.int x3] dX10_ofNode_104 cv_X10_ofNode_155 rfl t31 rfl (Nat.le_trans wt_0 (by decide)) (by decide) (xSp.mono h ?_)
    clear h
    intro ρ29 M28 h
    obtain ⟨v27, rfl, h⟩ := h
    exact xr_retv (by decide) (xRi rfl rfl dX10_ofNode_107) h
  · replace h := hf c42
    clear ht hf
    refine xr_aload_n 0 dX10_ofNode_14 rfl rfl ?_
    refine xr_iload_n 3 dX10_ofNode_15 rfl rfl ?_
    obtain ⟨t41, h⟩ := h
    refine yr_callV (r := (some a0)) [.int x3] dX10_ofNode_16 cv_X10_ofNode_174 rfl t41 rfl (Nat.le_trans wt_0 (by decide)) (by decide) (xSp.mono h ?_)
    clear h
    intro ρ39 M38 h
    obtain ⟨v37, rfl, h⟩ := h
    refine zistore_n 3 dX10_ofNode_19 rfl (L1 := [(1, va_rf (some a0)), (1, .int x1), (1, .int x2), (1, .int v37), (1, .int x4)]) (by decide) rfl ?_
    refine ziinc (x4 + 1) dX10_ofNode_20 rfl rfl (L1 := [(1, va_rf (some a0)), (1, .int x1), (1, .int x2), (1, .int v37), (1, .int (x4 + 1))]) (by decide) rfl ?_
    refine xr_goto 8 dX10_ofNode_23 (by decide) ?_
    exact h
set_option maxRecDepth 100000 in
set_option maxHeartbeats 4000000 in
theorem bX10_ofNode_0 {l : Launch} {g : xG} (a0 : Nat) (x1 : Int32) (x2 : Int32) {M : xM} {Q : Option Value → xM → Prop} (h : (xat M a0 7 ∧ xWp l g mX10_ofNode 0 0 8 [(1, va_rf (some a0)), (1, .int x1), (1, .int x2), (1, .int (xI M a0 14)), (1, .int 0)] [] (0, 0) M Q)) : xWp l g mX10_ofNode 0 0 0 [(1, va_rf (some a0)), (1, .int x1), (1, .int x2), (0, .null), (0, .null)] [] (0, 0) M Q := by
  refine xr_aload_n 0 dX10_ofNode_0 rfl rfl ?_
  obtain ⟨t1, h⟩ := h
  refine yr_getI dX10_ofNode_1 fl_RX10_75 rfl t1 ?_
  refine zistore_n 3 dX10_ofNode_4 rfl (L1 := [(1, va_rf (some a0)), (1, .int x1), (1, .int x2), (1, .int (xI M a0 14)), (0, .null)]) (by decide) rfl ?_
  refine xr_iconst 0 dX10_ofNode_5 (by decide) ?_
  refine zistore dX10_ofNode_6 (L1 := [(1, va_rf (some a0)), (1, .int x1), (1, .int x2), (1, .int (xI M a0 14)), (1, .int 0)]) (by decide) rfl ?_
  exact h
theorem dX10_power_0 : decode cX10_power 0 = .ok (.aload_n 0, 1) := by decide +kernel
theorem dX10_power_1 : decode cX10_power 1 = .ok (.iconst 0, 1) := by decide +kernel
theorem dX10_power_2 : decode cX10_power 2 = .ok (.putfield 68, 3) := by decide +kernel
theorem dX10_power_5 : decode cX10_power 5 = .ok (.aload_n 0, 1) := by decide +kernel
theorem dX10_power_6 : decode cX10_power 6 = .ok (.getfield 114, 3) := by decide +kernel
theorem dX10_power_9 : decode cX10_power 9 = .ok (.ifCond .eq 6, 3) := by decide +kernel
theorem dX10_power_12 : decode cX10_power 12 = .ok (.bipush (-4), 2) := by decide +kernel
theorem dX10_power_14 : decode cX10_power 14 = .ok (.ireturn, 1) := by decide +kernel
theorem dX10_power_15 : decode cX10_power 15 = .ok (.iload_n 1, 1) := by decide +kernel
theorem dX10_power_16 : decode cX10_power 16 = .ok (.i2l, 1) := by decide +kernel
theorem dX10_power_17 : decode cX10_power 17 = .ok (.ldc2_w 226, 3) := by decide +kernel
theorem dX10_power_20 : decode cX10_power 20 = .ok (.ldc2_w 228, 3) := by decide +kernel
theorem dX10_power_23 : decode cX10_power 23 = .ok (.invokestatic 87, 3) := by decide +kernel
theorem dX10_power_26 : decode cX10_power 26 = .ok (.ifCond .eq 15, 3) := by decide +kernel
theorem dX10_power_29 : decode cX10_power 29 = .ok (.iload_n 2, 1) := by decide +kernel
theorem dX10_power_30 : decode cX10_power 30 = .ok (.i2l, 1) := by decide +kernel
theorem dX10_power_31 : decode cX10_power 31 = .ok (.lconst 0, 1) := by decide +kernel
theorem dX10_power_32 : decode cX10_power 32 = .ok (.ldc2_w 230, 3) := by decide +kernel
theorem dX10_power_35 : decode cX10_power 35 = .ok (.invokestatic 87, 3) := by decide +kernel
theorem dX10_power_38 : decode cX10_power 38 = .ok (.ifCond .ne 5, 3) := by decide +kernel
theorem dX10_power_41 : decode cX10_power 41 = .ok (.iconst (-1), 1) := by decide +kernel
theorem dX10_power_42 : decode cX10_power 42 = .ok (.ireturn, 1) := by decide +kernel
theorem dX10_power_43 : decode cX10_power 43 = .ok (.aload_n 0, 1) := by decide +kernel
theorem dX10_power_44 : decode cX10_power 44 = .ok (.iload_n 1, 1) := by decide +kernel
theorem dX10_power_45 : decode cX10_power 45 = .ok (.putfield 49, 3) := by decide +kernel
theorem dX10_power_48 : decode cX10_power 48 = .ok (.aload_n 0, 1) := by decide +kernel
theorem dX10_power_49 : decode cX10_power 49 = .ok (.iload_n 2, 1) := by decide +kernel
theorem dX10_power_50 : decode cX10_power 50 = .ok (.putfield 190, 3) := by decide +kernel
theorem dX10_power_53 : decode cX10_power 53 = .ok (.iconst 1, 1) := by decide +kernel
theorem dX10_power_54 : decode cX10_power 54 = .ok (.ireturn, 1) := by decide +kernel
set_option maxRecDepth 100000 in
set_option maxHeartbeats 4000000 in
theorem bX10_power_0 {l : Launch} {g : xG} (a0 : Nat) (x1 : Int32) (x2 : Int32) {M : xM} {Q : Option Value → xM → Prop} (h : (xat M a0 7 ∧ (((xI (xsI M a0 0 0) a0 3) = 0 → (xSp l g mX10_in 0 0 [.long x1.toInt64, .long (-1), .long 1000] (xsI M a0 0 0) (fun ρ4 M3 => ∃ v2 : Int32, ρ4 = some (.int v2) ∧ ((v2 = 0 → (Q (some (.int (-1))) M3)) ∧ (¬ v2 = 0 → (xSp l g mX10_in 0 0 [.long x2.toInt64, .long 0, .long 511] M3 (fun ρ8 M7 => ∃ v6 : Int32, ρ8 = some (.int v6) ∧ ((¬ v6 = 0 → (xat M7 a0 7 ∧ (Q (some (.int 1)) (xsI (xsI M7 a0 18 x1) a0 19 x2)))) ∧ (v6 = 0 → (Q (some (.int (-1))) M7)))))))))) ∧ (¬ (xI (xsI M a0 0 0) a0 3) = 0 → (Q (some (.int (-4))) (xsI M a0 0 0)))))) : xWp l g mX10_power 0 0 0 [(1, va_rf (some a0)), (1, .int x1), (1, .int x2)] [] (0, 0) M Q := by
  refine xr_aload_n 0 dX10_power_0 rfl rfl ?_
  refine xr_iconst 0 dX10_power_1 (by decide) ?_
  obtain ⟨t1, h⟩ := h
  refine yr_putI dX10_power_2 fp_RX10_68 rfl t1 ?_
  refine xr_aload_n 0 dX10_power_5 rfl rfl ?_
  refine yr_getZ dX10_power_6 fl_RX10_114 rfl t1 ?_
  obtain ⟨ht, hf⟩ := h
  refine xr_if_eq 15 dX10_power_9 (by decide) (fun c13 => ?_) (fun c13 => ?_)
  · replace h := ht c13
    clear ht hf
    refine xr_iload_n 1 dX10_power_15 rfl rfl ?_
    refine xr_i2l dX10_power_16 ?_
    refine xr_ldc2 (-1) dX10_power_17 ct_RX10_226 ?_
    refine xr_ldc2 1000 dX10_power_20 ct_RX10_228 ?_
    refine xr_callS [.long x1.toInt64, .long (-1), .long 1000] dX10_power_23 cs_X10_power_87 rfl (Nat.le_trans wt_0 (by decide)) (by decide) (xSp.mono h ?_)
    clear h
    intro ρ4 M3 h
    obtain ⟨v2, rfl, h⟩ := h
    obtain ⟨ht, hf⟩ := h
    refine xr_if_eq 41 dX10_power_26 (by decide) (fun c12 => ?_) (fun c12 => ?_)
    · replace h := ht c12
      clear ht hf
      refine xr_iconst (-1) dX10_power_41 (by decide) ?_
      exact xr_retv (by decide) (xRi rfl rfl dX10_power_42) h
    · replace h := hf c12
      clear ht hf
      refine xr_iload_n 2 dX10_power_29 rfl rfl ?_
      refine xr_i2l dX10_power_30 ?_
      refine xr_lconst 0 dX10_power_31 (by decide) ?_
      refine xr_ldc2 511 dX10_power_32 ct_RX10_230 ?_
      refine xr_callS [.long x2.toInt64, .long 0, .long 511] dX10_power_35 cs_X10_power_87 rfl (Nat.le_trans wt_0 (by decide)) (by decide) (xSp.mono h ?_)
      clear h
      intro ρ8 M7 h
      obtain ⟨v6, rfl, h⟩ := h
      obtain ⟨ht, hf⟩ := h
      refine xr_if_ne 43 dX10_power_38 (by decide) (fun c11 => ?_) (fun c11 => ?_)
      · replace h := ht c11
        clear ht hf
        refine xr_aload_n 0 dX10_power_43 rfl rfl ?_
        refine xr_iload_n 1 dX10_power_44 rfl rfl ?_
        obtain ⟨t10, h⟩ := h
        refine yr_putI dX10_power_45 fp_RX10_49 rfl t10 ?_
        refine xr_aload_n 0 dX10_power_48 rfl rfl ?_
        refine xr_iload_n 2 dX10_power_49 rfl rfl ?_
        refine yr_putI dX10_power_50 fp_RX10_190 rfl t10 ?_
        refine xr_iconst 1 dX10_power_53 (by decide) ?_
        exact xr_retv (by decide) (xRi rfl rfl dX10_power_54) h
      · replace h := hf c11
        clear ht hf
        refine xr_iconst (-1) dX10_power_41 (by decide) ?_
        exact xr_retv (by decide) (xRi rfl rfl dX10_power_42) h
  · replace h := hf c13
    clear ht hf
    refine xr_bipush (-4) dX10_power_12 (by decide) ?_
    exact xr_retv (by decide) (xRi rfl rfl dX10_power_14) h
theorem dX10_halt_0 : decode cX10_halt 0 = .ok (.aload_n 0, 1) := by decide +kernel
theorem dX10_halt_1 : decode cX10_halt 1 = .ok (.iconst 0, 1) := by decide +kernel
theorem dX10_halt_2 : decode cX10_halt 2 = .ok (.putfield 68, 3) := by decide +kernel
theorem dX10_halt_5 : decode cX10_halt 5 = .ok (.aload_n 0, 1) := by decide +kernel
theorem dX10_halt_6 : decode cX10_halt 6 = .ok (.getfield 114, 3) := by decide +kernel
theorem dX10_halt_9 : decode cX10_halt 9 = .ok (.ifCond .eq 6, 3) := by decide +kernel
theorem dX10_halt_12 : decode cX10_halt 12 = .ok (.bipush (-4), 2) := by decide +kernel
theorem dX10_halt_14 : decode cX10_halt 14 = .ok (.ireturn, 1) := by decide +kernel
theorem dX10_halt_15 : decode cX10_halt 15 = .ok (.aload_n 0, 1) := by decide +kernel
theorem dX10_halt_16 : decode cX10_halt 16 = .ok (.iconst 1, 1) := by decide +kernel
theorem dX10_halt_17 : decode cX10_halt 17 = .ok (.putfield 114, 3) := by decide +kernel
theorem dX10_halt_20 : decode cX10_halt 20 = .ok (.iconst 1, 1) := by decide +kernel
theorem dX10_halt_21 : decode cX10_halt 21 = .ok (.ireturn, 1) := by decide +kernel
set_option maxRecDepth 100000 in
set_option maxHeartbeats 4000000 in
theorem bX10_halt_0 {l : Launch} {g : xG} (a0 : Nat) {M : xM} {Q : Option Value → xM → Prop} (h : (xat M a0 7 ∧ (((xI (xsI M a0 0 0) a0 3) = 0 → (Q (some (.int 1)) (xsI (xsI M a0 0 0) a0 3 1))) ∧ (¬ (xI (xsI M a0 0 0) a0 3) = 0 → (Q (some (.int (-4))) (xsI M a0 0 0)))))) : xWp l g mX10_halt 0 0 0 [(1, va_rf (some a0))] [] (0, 0) M Q := by
  refine xr_aload_n 0 dX10_halt_0 rfl rfl ?_
  refine xr_iconst 0 dX10_halt_1 (by decide) ?_
  obtain ⟨t1, h⟩ := h
  refine yr_putI dX10_halt_2 fp_RX10_68 rfl t1 ?_
  refine xr_aload_n 0 dX10_halt_5 rfl rfl ?_
  refine yr_getZ dX10_halt_6 fl_RX10_114 rfl t1 ?_
  obtain ⟨ht, hf⟩ := h
  refine xr_if_eq 15 dX10_halt_9 (by decide) (fun c2 => ?_) (fun c2 => ?_)
  · replace h := ht c2
    clear ht hf
    refine xr_aload_n 0 dX10_halt_15 rfl rfl ?_
    refine xr_iconst 1 dX10_halt_16 (by decide) ?_
    refine yr_putZ dX10_halt_17 fp_RX10_114 rfl t1 (by decide) ?_
    refine xr_iconst 1 dX10_halt_20 (by decide) ?_
    exact xr_retv (by decide) (xRi rfl rfl dX10_halt_21) h
  · replace h := hf c2
    clear ht hf
    refine xr_bipush (-4) dX10_halt_12 (by decide) ?_
    exact xr_retv (by decide) (xRi rfl rfl dX10_halt_14) h
theorem dX10_numberAt_0 : decode cX10_numberAt 0 = .ok (.lconst 0, 1) := by decide +kernel
theorem dX10_numberAt_1 : decode cX10_numberAt 1 = .ok (.lstore_n 3, 1) := by decide +kernel
theorem dX10_numberAt_2 : decode cX10_numberAt 2 = .ok (.iconst 0, 1) := by decide +kernel
theorem dX10_numberAt_3 : decode cX10_numberAt 3 = .ok (.istore 5, 2) := by decide +kernel
theorem dX10_numberAt_5 : decode cX10_numberAt 5 = .ok (.iload 5, 2) := by decide +kernel
theorem dX10_numberAt_7 : decode cX10_numberAt 7 = .ok (.iload_n 2, 1) := by decide +kernel
theorem dX10_numberAt_8 : decode cX10_numberAt 8 = .ok (.if_icmp .ge 22, 3) := by decide +kernel
theorem dX10_numberAt_11 : decode cX10_numberAt 11 = .ok (.lload_n 3, 1) := by decide +kernel
theorem dX10_numberAt_12 : decode cX10_numberAt 12 = .ok (.bipush 8, 2) := by decide +kernel
theorem dX10_numberAt_14 : decode cX10_numberAt 14 = .ok (.lshl, 1) := by decide +kernel
theorem dX10_numberAt_15 : decode cX10_numberAt 15 = .ok (.aload_n 0, 1) := by decide +kernel
theorem dX10_numberAt_16 : decode cX10_numberAt 16 = .ok (.iload_n 1, 1) := by decide +kernel
theorem dX10_numberAt_17 : decode cX10_numberAt 17 = .ok (.iload 5, 2) := by decide +kernel
theorem dX10_numberAt_19 : decode cX10_numberAt 19 = .ok (.iadd, 1) := by decide +kernel
theorem dX10_numberAt_20 : decode cX10_numberAt 20 = .ok (.iaload, 1) := by decide +kernel
theorem dX10_numberAt_21 : decode cX10_numberAt 21 = .ok (.i2l, 1) := by decide +kernel
theorem dX10_numberAt_22 : decode cX10_numberAt 22 = .ok (.lor, 1) := by decide +kernel
theorem dX10_numberAt_23 : decode cX10_numberAt 23 = .ok (.lstore_n 3, 1) := by decide +kernel
theorem dX10_numberAt_24 : decode cX10_numberAt 24 = .ok (.iinc 5 1, 3) := by decide +kernel
theorem dX10_numberAt_27 : decode cX10_numberAt 27 = .ok (.goto (-22), 3) := by decide +kernel
theorem dX10_numberAt_30 : decode cX10_numberAt 30 = .ok (.lload_n 3, 1) := by decide +kernel
theorem dX10_numberAt_31 : decode cX10_numberAt 31 = .ok (.lreturn, 1) := by decide +kernel
set_option maxRecDepth 100000 in
set_option maxHeartbeats 4000000 in
theorem bX10_numberAt_5 {l : Launch} {g : xG} (r0 : Option Nat) (x1 : Int32) (x2 : Int32) (j3 : Int64) (w4 : Value) (x5 : Int32) {M : xM} {Q : Option Value → xM → Prop} (h : ((x2 ≤ x5 → (Q (some (.long j3)) M)) ∧ (¬ x2 ≤ x5 → (∃ a1, r0 = some a1 ∧ ∃ i3, xai M a1 9 (x1 + x5) i3 ∧ xWp l g mX10_numberAt 0 0 5 [(1, va_rf r0), (1, .int x1), (1, .int x2), (2, .long ((j3 <<< ((8 : Int32).toInt64 &&& 63)) ||| (xI M a1 i3).toInt64)), (0, (.long ((j3 <<< ((8 : Int32).toInt64 &&& 63)) ||| (xI M a1 i3).toInt64))), (1, .int (x5 + 1))] [] (0, 0) M Q)))) : xWp l g mX10_numberAt 0 0 5 [(1, va_rf r0), (1, .int x1), (1, .int x2), (2, .long j3), (0, w4), (1, .int x5)] [] (0, 0) M Q := by
  refine xr_iload dX10_numberAt_5 rfl ?_
  refine xr_iload_n 2 dX10_numberAt_7 rfl rfl ?_
  obtain ⟨ht, hf⟩ := h
  refine xr_icmp_ge 30 dX10_numberAt_8 (by decide) (fun c5 => ?_) (fun c5 => ?_)
  · replace h := ht c5
    clear ht hf
    refine xr_lload_n 3 dX10_numberAt_30 rfl rfl ?_
    exact xr_retv (by decide) (xRl rfl dX10_numberAt_31) h
  · replace h := hf c5
    clear ht hf
    refine xr_lload_n 3 dX10_numberAt_11 rfl rfl ?_
    refine xr_bipush 8 dX10_numberAt_12 (by decide) ?_
    refine xr_lshl dX10_numberAt_14 ?_
    refine xr_aload_n 0 dX10_numberAt_15 rfl rfl ?_
    refine xr_iload_n 1 dX10_numberAt_16 rfl rfl ?_
    refine xr_iload dX10_numberAt_17 rfl ?_
    refine xr_iadd dX10_numberAt_19 ?_
    obtain ⟨a1, e2, h⟩ := h
    obtain ⟨i3, t4, h⟩ := h
    refine yr_iald dX10_numberAt_20 e2 t4 ?_
    refine xr_i2l dX10_numberAt_21 ?_
    refine xr_lor dX10_numberAt_22 ?_
    refine zlstore_n 3 dX10_numberAt_23 rfl (L1 := [(1, va_rf r0), (1, .int x1), (1, .int x2), (2, .long ((j3 <<< ((8 : Int32).toInt64 &&& 63)) ||| (xI M a1 i3).toInt64)), (0, (.long ((j3 <<< ((8 : Int32).toInt64 &&& 63)) ||| (xI M a1 i3).toInt64))), (1, .int x5)]) (by decide) rfl ?_
    refine ziinc (x5 + 1) dX10_numberAt_24 rfl rfl (L1 := [(1, va_rf r0), (1, .int x1), (1, .int x2), (2, .long ((j3 <<< ((8 : Int32).toInt64 &&& 63)) ||| (xI M a1 i3).toInt64)), (0, (.long ((j3 <<< ((8 : Int32).toInt64 &&& 63)) ||| (xI M a1 i3).toInt64))), (1, .int (x5 + 1))]) (by decide) rfl ?_
    refine xr_goto 5 dX10_numberAt_27 (by decide) ?_
    exact h
set_option maxRecDepth 100000 in
set_option maxHeartbeats 4000000 in
theorem bX10_numberAt_0 {l : Launch} {g : xG} (r0 : Option Nat) (x1 : Int32) (x2 : Int32) {M : xM} {Q : Option Value → xM → Prop} (h : xWp l g mX10_numberAt 0 0 5 [(1, va_rf r0), (1, .int x1), (1, .int x2), (2, .long 0), (0, (.long 0)), (1, .int 0)] [] (0, 0) M Q) : xWp l g mX10_numberAt 0 0 0 [(1, va_rf r0), (1, .int x1), (1, .int x2), (0, .null), (0, .null), (0, .null)] [] (0, 0) M Q := by
  refine xr_lconst 0 dX10_numberAt_0 (by decide) ?_
  refine zlstore_n 3 dX10_numberAt_1 rfl (L1 := [(1, va_rf r0), (1, .int x1), (1, .int x2), (2, .long 0), (0, (.long 0)), (0, .null)]) (by decide) rfl ?_
  refine xr_iconst 0 dX10_numberAt_2 (by decide) ?_
  refine zistore dX10_numberAt_3 (L1 := [(1, va_rf r0), (1, .int x1), (1, .int x2), (2, .long 0), (0, (.long 0)), (1, .int 0)]) (by decide) rfl ?_
  exact h
theorem dX10_headOf_0 : decode cX10_headOf 0 = .ok (.sipush 512, 3) := by decide +kernel
theorem dX10_headOf_3 : decode cX10_headOf 3 = .ok (.iload_n 1, 1) := by decide +kernel
theorem dX10_headOf_4 : decode cX10_headOf 4 = .ok (.imul, 1) := by decide +kernel
theorem dX10_headOf_5 : decode cX10_headOf 5 = .ok (.istore_n 2, 1) := by decide +kernel
theorem dX10_headOf_6 : decode cX10_headOf 6 = .ok (.aload_n 0, 1) := by decide +kernel
theorem dX10_headOf_7 : decode cX10_headOf 7 = .ok (.getfield 46, 3) := by decide +kernel
theorem dX10_headOf_10 : decode cX10_headOf 10 = .ok (.iload_n 2, 1) := by decide +kernel
theorem dX10_headOf_11 : decode cX10_headOf 11 = .ok (.iconst 1, 1) := by decide +kernel
theorem dX10_headOf_12 : decode cX10_headOf 12 = .ok (.iadd, 1) := by decide +kernel
theorem dX10_headOf_13 : decode cX10_headOf 13 = .ok (.bipush 8, 2) := by decide +kernel
theorem dX10_headOf_15 : decode cX10_headOf 15 = .ok (.invokestatic 232, 3) := by decide +kernel
theorem dX10_headOf_18 : decode cX10_headOf 18 = .ok (.lstore_n 3, 1) := by decide +kernel
theorem dX10_headOf_19 : decode cX10_headOf 19 = .ok (.aload_n 0, 1) := by decide +kernel
theorem dX10_headOf_20 : decode cX10_headOf 20 = .ok (.getfield 46, 3) := by decide +kernel
theorem dX10_headOf_23 : decode cX10_headOf 23 = .ok (.iload_n 2, 1) := by decide +kernel
theorem dX10_headOf_24 : decode cX10_headOf 24 = .ok (.iaload, 1) := by decide +kernel
theorem dX10_headOf_25 : decode cX10_headOf 25 = .ok (.iconst 1, 1) := by decide +kernel
theorem dX10_headOf_26 : decode cX10_headOf 26 = .ok (.if_icmp .ne 68, 3) := by decide +kernel
theorem dX10_headOf_29 : decode cX10_headOf 29 = .ok (.aload_n 0, 1) := by decide +kernel
theorem dX10_headOf_30 : decode cX10_headOf 30 = .ok (.getfield 46, 3) := by decide +kernel
theorem dX10_headOf_33 : decode cX10_headOf 33 = .ok (.iload_n 2, 1) := by decide +kernel
theorem dX10_headOf_34 : decode cX10_headOf 34 = .ok (.sipush 504, 3) := by decide +kernel
theorem dX10_headOf_37 : decode cX10_headOf 37 = .ok (.iadd, 1) := by decide +kernel
theorem dX10_headOf_38 : decode cX10_headOf 38 = .ok (.bipush 8, 2) := by decide +kernel
theorem dX10_headOf_40 : decode cX10_headOf 40 = .ok (.invokestatic 232, 3) := by decide +kernel
theorem dX10_headOf_43 : decode cX10_headOf 43 = .ok (.aload_n 0, 1) := by decide +kernel
theorem dX10_headOf_44 : decode cX10_headOf 44 = .ok (.getfield 46, 3) := by decide +kernel
theorem dX10_headOf_47 : decode cX10_headOf 47 = .ok (.iload_n 2, 1) := by decide +kernel
theorem dX10_headOf_48 : decode cX10_headOf 48 = .ok (.invokestatic 182, 3) := by decide +kernel
theorem dX10_headOf_51 : decode cX10_headOf 51 = .ok (.lcmp, 1) := by decide +kernel
theorem dX10_headOf_52 : decode cX10_headOf 52 = .ok (.ifCond .ne 42, 3) := by decide +kernel
theorem dX10_headOf_55 : decode cX10_headOf 55 = .ok (.lload_n 3, 1) := by decide +kernel
theorem dX10_headOf_56 : decode cX10_headOf 56 = .ok (.lconst 1, 1) := by decide +kernel
theorem dX10_headOf_57 : decode cX10_headOf 57 = .ok (.ldc2_w 236, 3) := by decide +kernel
theorem dX10_headOf_60 : decode cX10_headOf 60 = .ok (.invokestatic 87, 3) := by decide +kernel
theorem dX10_headOf_63 : decode cX10_headOf 63 = .ok (.ifCond .eq 31, 3) := by decide +kernel
theorem dX10_headOf_66 : decode cX10_headOf 66 = .ok (.lload_n 3, 1) := by decide +kernel
theorem dX10_headOf_67 : decode cX10_headOf 67 = .ok (.ldc2_w 216, 3) := by decide +kernel
theorem dX10_headOf_70 : decode cX10_headOf 70 = .ok (.lrem, 1) := by decide +kernel
theorem dX10_headOf_71 : decode cX10_headOf 71 = .ok (.iload_n 1, 1) := by decide +kernel
theorem dX10_headOf_72 : decode cX10_headOf 72 = .ok (.i2l, 1) := by decide +kernel
theorem dX10_headOf_73 : decode cX10_headOf 73 = .ok (.lcmp, 1) := by decide +kernel
theorem dX10_headOf_74 : decode cX10_headOf 74 = .ok (.ifCond .ne 20, 3) := by decide +kernel
theorem dX10_headOf_77 : decode cX10_headOf 77 = .ok (.aload_n 0, 1) := by decide +kernel
theorem dX10_headOf_78 : decode cX10_headOf 78 = .ok (.getfield 46, 3) := by decide +kernel
theorem dX10_headOf_81 : decode cX10_headOf 81 = .ok (.iload_n 2, 1) := by decide +kernel
theorem dX10_headOf_82 : decode cX10_headOf 82 = .ok (.bipush 9, 2) := by decide +kernel
theorem dX10_headOf_84 : decode cX10_headOf 84 = .ok (.iadd, 1) := by decide +kernel
theorem dX10_headOf_85 : decode cX10_headOf 85 = .ok (.iaload, 1) := by decide +kernel
theorem dX10_headOf_86 : decode cX10_headOf 86 = .ok (.iconst 2, 1) := by decide +kernel
theorem dX10_headOf_87 : decode cX10_headOf 87 = .ok (.if_icmp .lt 7, 3) := by decide +kernel
theorem dX10_headOf_90 : decode cX10_headOf 90 = .ok (.iconst 1, 1) := by decide +kernel
theorem dX10_headOf_91 : decode cX10_headOf 91 = .ok (.goto 4, 3) := by decide +kernel
theorem dX10_headOf_94 : decode cX10_headOf 94 = .ok (.iconst 0, 1) := by decide +kernel
theorem dX10_headOf_95 : decode cX10_headOf 95 = .ok (.istore 5, 2) := by decide +kernel
theorem dX10_headOf_97 : decode cX10_headOf 97 = .ok (.bipush 12, 2) := by decide +kernel
theorem dX10_headOf_99 : decode cX10_headOf 99 = .ok (.istore 6, 2) := by decide +kernel
theorem dX10_headOf_101 : decode cX10_headOf 101 = .ok (.iload 6, 2) := by decide +kernel
theorem dX10_headOf_103 : decode cX10_headOf 103 = .ok (.sipush 504, 3) := by decide +kernel
theorem dX10_headOf_106 : decode cX10_headOf 106 = .ok (.if_icmp .ge 31, 3) := by decide +kernel
theorem dX10_headOf_109 : decode cX10_headOf 109 = .ok (.iload 5, 2) := by decide +kernel
theorem dX10_headOf_111 : decode cX10_headOf 111 = .ok (.aload_n 0, 1) := by decide +kernel
theorem dX10_headOf_112 : decode cX10_headOf 112 = .ok (.getfield 46, 3) := by decide +kernel
theorem dX10_headOf_115 : decode cX10_headOf 115 = .ok (.iload_n 2, 1) := by decide +kernel
theorem dX10_headOf_116 : decode cX10_headOf 116 = .ok (.iload 6, 2) := by decide +kernel
theorem dX10_headOf_118 : decode cX10_headOf 118 = .ok (.iadd, 1) := by decide +kernel
theorem dX10_headOf_119 : decode cX10_headOf 119 = .ok (.iaload, 1) := by decide +kernel
theorem dX10_headOf_120 : decode cX10_headOf 120 = .ok (.ifCond .ne 7, 3) := by decide +kernel
theorem dX10_headOf_123 : decode cX10_headOf 123 = .ok (.iconst 1, 1) := by decide +kernel
theorem dX10_headOf_124 : decode cX10_headOf 124 = .ok (.goto 4, 3) := by decide +kernel
theorem dX10_headOf_127 : decode cX10_headOf 127 = .ok (.iconst 0, 1) := by decide +kernel
theorem dX10_headOf_128 : decode cX10_headOf 128 = .ok (.iand, 1) := by decide +kernel
theorem dX10_headOf_129 : decode cX10_headOf 129 = .ok (.istore 5, 2) := by decide +kernel
theorem dX10_headOf_131 : decode cX10_headOf 131 = .ok (.iinc 6 1, 3) := by decide +kernel
theorem dX10_headOf_134 : decode cX10_headOf 134 = .ok (.goto (-33), 3) := by decide +kernel
theorem dX10_headOf_137 : decode cX10_headOf 137 = .ok (.iload 5, 2) := by decide +kernel
theorem dX10_headOf_139 : decode cX10_headOf 139 = .ok (.ifCond .eq 7, 3) := by decide +kernel
theorem dX10_headOf_142 : decode cX10_headOf 142 = .ok (.lload_n 3, 1) := by decide +kernel
theorem dX10_headOf_143 : decode cX10_headOf 143 = .ok (.goto 4, 3) := by decide +kernel
theorem dX10_headOf_146 : decode cX10_headOf 146 = .ok (.lconst 0, 1) := by decide +kernel
theorem dX10_headOf_147 : decode cX10_headOf 147 = .ok (.lreturn, 1) := by decide +kernel
set_option maxRecDepth 100000 in
set_option maxHeartbeats 4000000 in
theorem bX10_headOf_101 {l : Launch} {g : xG} (a0 : Nat) (x1 : Int32) (x2 : Int32) (j3 : Int64) (w4 : Value) (x5 : Int32) (x6 : Int32) {M : xM} {Q : Option Value → xM → Prop} (h : ((504 ≤ x6 → ((x5 = 0 → (Q (some (.long 0)) M)) ∧ (¬ x5 = 0 → (Q (some (.long j3)) M)))) ∧ (¬ 504 ≤ x6 → (xat M a0 7 ∧ (∃ a3, (xR M a0 17) = some a3 ∧ ∃ i5, xai M a3 9 (x2 + x6) i5 ∧ ((¬ (xI M a3 i5) = 0 → xWp l g mX10_headOf 0 0 101 [(1, va_rf (some a0)), (1, .int x1), (1, .int x2), (2, .long j3), (0, w4), (1, .int (x5 &&& 0)), (1, .int (x6 + 1))] [] (0, 0) M Q) ∧ ((xI M a3 i5) = 0 → xWp l g mX10_headOf 0 0 101 [(1, va_rf (some a0)), (1, .int x1), (1, .int x2), (2, .long j3), (0, w4), (1, .int (x5 &&& 1)), (1, .int (x6 + 1))] [] (0, 0) M Q))))))) : xWp l g mX10_headOf 0 0 101 [(1, va_rf (some a0)), (1, .int x1), (1, .int x2), (2, .long j3), (0, w4), (1, .int x5), (1, .int x6)] [] (0, 0) M Q := by
  refine xr_iload dX10_headOf_101 rfl ?_
  refine xr_sipush 504 dX10_headOf_103 (by decide) ?_
  obtain ⟨ht, hf⟩ := h
  refine xr_icmp_ge 137 dX10_headOf_106 (by decide) (fun c8 => ?_) (fun c8 => ?_)
  · replace h := ht c8
    clear ht hf
    refine xr_iload dX10_headOf_137 rfl ?_
    obtain ⟨ht, hf⟩ := h
    refine xr_if_eq 146 dX10_headOf_139 (by decide) (fun c1 => ?_) (fun c1 => ?_)
    · replace h := ht c1
      clear ht hf
      refine xr_lconst 0 dX10_headOf_146 (by decide) ?_
      exact xr_retv (by decide) (xRl rfl dX10_headOf_147) h
    · replace h := hf c1
      clear ht hf
      refine xr_lload_n 3 dX10_headOf_142 rfl rfl ?_
      refine xr_goto 147 dX10_headOf_143 (by decide) ?_
      exact xr_retv (by decide) (xRl rfl dX10_headOf_147) h
  · replace h := hf c8
    clear ht hf
    refine xr_iload dX10_headOf_109 rfl ?_
    refine xr_aload_n 0 dX10_headOf_111 rfl rfl ?_
    obtain ⟨t2, h⟩ := h
    refine yr_getR dX10_headOf_112 fl_RX10_46 rfl t2 ?_
    refine xr_iload_n 2 dX10_headOf_115 rfl rfl ?_
    refine xr_iload dX10_headOf_116 rfl ?_
    refine xr_iadd dX10_headOf_118 ?_
    obtain ⟨a3, e4, h⟩ := h
    obtain ⟨i5, t6, h⟩ := h
    refine yr_iald dX10_headOf_119 e4 t6 ?_
    obtain ⟨ht, hf⟩ := h
    refine xr_if_ne 127 dX10_headOf_120 (by decide) (fun c7 => ?_) (fun c7 => ?_)
    · replace h := ht c7
      clear ht hf
      refine xr_iconst 0 dX10_headOf_127 (by decide) ?_
      refine xr_iand dX10_headOf_128 ?_
      refine zistore dX10_headOf_129 (L1 := [(1, va_rf (some a0)), (1, .int x1), (1, .int x2), (2, .long j3), (0, w4), (1, .int (x5 &&& 0)), (1, .int x6)]) (by decide) rfl ?_
      refine ziinc (x6 + 1) dX10_headOf_131 rfl rfl (L1 := [(1, va_rf (some a0)), (1, .int x1), (1, .int x2), (2, .long j3), (0, w4), (1, .int (x5 &&& 0)), (1, .int (x6 + 1))]) (by decide) rfl ?_
      refine xr_goto 101 dX10_headOf_134 (by decide) ?_
      exact h
    · replace h := hf c7
      clear ht hf
      refine xr_iconst 1 dX10_headOf_123 (by decide) ?_
      refine xr_goto 128 dX10_headOf_124 (by decide) ?_
      refine xr_iand dX10_headOf_128 ?_
      refine zistore dX10_headOf_129 (L1 := [(1, va_rf (some a0)), (1, .int x1), (1, .int x2), (2, .long j3), (0, w4), (1, .int (x5 &&& 1)), (1, .int x6)]) (by decide) rfl ?_
      refine ziinc (x6 + 1) dX10_headOf_131 rfl rfl (L1 := [(1, va_rf (some a0)), (1, .int x1), (1, .int x2), (2, .long j3), (0, w4), (1, .int (x5 &&& 1)), (1, .int (x6 + 1))]) (by decide) rfl ?_
      refine xr_goto 101 dX10_headOf_134 (by decide) ?_
      exact h
set_option maxRecDepth 100000 in
set_option maxHeartbeats 4000000 in
theorem bX10_headOf_0 {l : Launch} {g : xG} (a0 : Nat) (x1 : Int32) {M : xM} {Q : Option Value → xM → Prop} (h : (xat M a0 7 ∧ (xSp l g mX10_numberAt 0 0 [va_rf (xR M a0 17), .int ((512 * x1) + 1), .int 8] M (fun ρ4 M3 => ∃ v2 : Int64, ρ4 = some (.long v2) ∧ (xat M3 a0 7 ∧ (∃ a7, (xR M3 a0 17) = some a7 ∧ ∃ i9, xai M3 a7 9 (512 * x1) i9 ∧ ((¬ (xI M3 a7 i9) = 1 → xWp l g mX10_headOf 0 0 101 [(1, va_rf (some a0)), (1, .int x1), (1, .int (512 * x1)), (2, .long v2), (0, (.long v2)), (1, .int 0), (1, .int 12)] [] (0, 0) M3 Q) ∧ ((xI M3 a7 i9) = 1 → (xSp l g mX10_numberAt 0 0 [va_rf (xR M3 a0 17), .int ((512 * x1) + 504), .int 8] M3 (fun ρ13 M12 => ∃ v11 : Int64, ρ13 = some (.long v11) ∧ (xat M12 a0 7 ∧ (xSp l g mX10_sum 0 0 [va_rf (xR M12 a0 17), .int (512 * x1)] M12 (fun ρ18 M17 => ∃ v16 : Int64, ρ18 = some (.long v16) ∧ ((¬ (lg_cmp v11 v16) = 0 → xWp l g mX10_headOf 0 0 101 [(1, va_rf (some a0)), (1, .int x1), (1, .int (512 * x1)), (2, .long v2), (0, (.long v2)), (1, .int 0), (1, .int 12)] [] (0, 0) M17 Q) ∧ ((lg_cmp v11 v16) = 0 → (xSp l g mX10_in 0 0 [.long v2, .long 1, .long 1000000000] M17 (fun ρ22 M21 => ∃ v20 : Int32, ρ22 = some (.int v20) ∧ ((v20 = 0 → xWp l g mX10_headOf 0 0 101 [(1, va_rf (some a0)), (1, .int x1), (1, .int (512 * x1)), (2, .long v2), (0, (.long v2)), (1, .int 0), (1, .int 12)] [] (0, 0) M21 Q) ∧ (¬ v20 = 0 → ((¬ (lg_cmp (v2 - v2 / 2 * 2) x1.toInt64) = 0 → xWp l g mX10_headOf 0 0 101 [(1, va_rf (some a0)), (1, .int x1), (1, .int (512 * x1)), (2, .long v2), (0, (.long v2)), (1, .int 0), (1, .int 12)] [] (0, 0) M21 Q) ∧ ((lg_cmp (v2 - v2 / 2 * 2) x1.toInt64) = 0 → (xat M21 a0 7 ∧ (∃ a25, (xR M21 a0 17) = some a25 ∧ ∃ i27, xai M21 a25 9 ((512 * x1) + 9) i27 ∧ (((xI M21 a25 i27) < 2 → xWp l g mX10_headOf 0 0 101 [(1, va_rf (some a0)), (1, .int x1), (1, .int (512 * x1)), (2, .long v2), (0, (.long v2)), (1, .int 0), (1, .int 12)] [] (0, 0) M21 Q) ∧ (¬ (xI M21 a25 i27) < 2 → xWp l g mX10_headOf 0 0 101 [(1, va_rf (some a0)), (1, .int x1), (1, .int (512 * x1)), (2, .long v2), (0, (.long v2)), (1, .int 1), (1, .int 12)] [] (0, 0) M21 Q))))))))))))))))))))))))) : xWp l g mX10_headOf 0 0 0 [(1, va_rf (some a0)), (1, .int x1), (0, .null), (0, .null), (0, .null), (0, .null), (0, .null)] [] (0, 0) M Q := by
  refine xr_sipush 512 dX10_headOf_0 (by decide) ?_
  refine xr_iload_n 1 dX10_headOf_3 rfl rfl ?_
  refine xr_imul dX10_headOf_4 ?_
  refine zistore_n 2 dX10_headOf_5 rfl (L1 := [(1, va_rf (some a0)), (1, .int x1), (1, .int (512 * x1)), (0, .null), (0, .null), (0, .null), (0, .null)]) (by decide) rfl ?_
  refine xr_aload_n 0 dX10_headOf_6 rfl rfl ?_
  obtain ⟨t1, h⟩ := h
  refine yr_getR dX10_headOf_7 fl_RX10_46 rfl t1 ?_
  refine xr_iload_n 2 dX10_headOf_10 rfl rfl ?_
  refine xr_iconst 1 dX10_headOf_11 (by decide) ?_
  refine xr_iadd dX10_headOf_12 ?_
  refine xr_bipush 8 dX10_headOf_13 (by decide) ?_
  refine xr_callS [va_rf (xR M a0 17), .int ((512 * x1) + 1), .int 8] dX10_headOf_15 cs_X10_headOf_232 rfl (Nat.le_trans wt_0 (by decide)) (by decide) (xSp.mono h ?_)
  clear h
  intro ρ4 M3 h
  obtain ⟨v2, rfl, h⟩ := h
  refine zlstore_n 3 dX10_headOf_18 rfl (L1 := [(1, va_rf (some a0)), (1, .int x1), (1, .int (512 * x1)), (2, .long v2), (0, (.long v2)), (0, .null), (0, .null)]) (by decide) rfl ?_
  refine xr_aload_n 0 dX10_headOf_19 rfl rfl ?_
  obtain ⟨t6, h⟩ := h
  refine yr_getR dX10_headOf_20 fl_RX10_46 rfl t6 ?_
  refine xr_iload_n 2 dX10_headOf_23 rfl rfl ?_
  obtain ⟨a7, e8, h⟩ := h
  obtain ⟨i9, t10, h⟩ := h
  refine yr_iald dX10_headOf_24 e8 t10 ?_
  refine xr_iconst 1 dX10_headOf_25 (by decide) ?_
  obtain ⟨ht, hf⟩ := h
  refine xr_icmp_ne 94 dX10_headOf_26 (by decide) (fun c33 => ?_) (fun c33 => ?_)
  · replace h := ht c33
    clear ht hf
    refine xr_iconst 0 dX10_headOf_94 (by decide) ?_
    refine zistore dX10_headOf_95 (L1 := [(1, va_rf (some a0)), (1, .int x1), (1, .int (512 * x1)), (2, .long v2), (0, (.long v2)), (1, .int 0), (0, .null)]) (by decide) rfl ?_
    refine xr_bipush 12 dX10_headOf_97 (by decide) ?_
    refine zistore dX10_headOf_99 (L1 := [(1, va_rf (some a0)), (1, .int x1), (1, .int (512 * x1)), (2, .long v2), (0, (.long v2)), (1, .int 0), (1, .int 12)]) (by decide) rfl ?_
    exact h
  · replace h := hf c33
    clear ht hf
    refine xr_aload_n 0 dX10_headOf_29 rfl rfl ?_
    refine yr_getR dX10_headOf_30 fl_RX10_46 rfl t6 ?_
    refine xr_iload_n 2 dX10_headOf_33 rfl rfl ?_
    refine xr_sipush 504 dX10_headOf_34 (by decide) ?_
    refine xr_iadd dX10_headOf_37 ?_
    refine xr_bipush 8 dX10_headOf_38 (by decide) ?_
    refine xr_callS [va_rf (xR M3 a0 17), .int ((512 * x1) + 504), .int 8] dX10_headOf_40 cs_X10_headOf_232 rfl (Nat.le_trans wt_0 (by decide)) (by decide) (xSp.mono h ?_)
    clear h
    intro ρ13 M12 h
    obtain ⟨v11, rfl, h⟩ := h
    refine xr_aload_n 0 dX10_headOf_43 rfl rfl ?_
    obtain ⟨t15, h⟩ := h
    refine yr_getR dX10_headOf_44 fl_RX10_46 rfl t15 ?_
    refine xr_iload_n 2 dX10_headOf_47 rfl rfl ?_
    refine xr_callS [va_rf (xR M12 a0 17), .int (512 * x1)] dX10_headOf_48 cs_X10_headOf_182 rfl (Nat.le_trans (wt_j wt_0) (by decide)) (by decide) (xSp.mono h ?_)
    clear h
    intro ρ18 M17 h
    obtain ⟨v16, rfl, h⟩ := h
    refine xr_lcmp dX10_headOf_51 ?_
    obtain ⟨ht, hf⟩ := h
    refine xr_if_ne 94 dX10_headOf_52 (by decide) (fun c32 => ?_) (fun c32 => ?_)
    · replace h := ht c32
      clear ht hf
      refine xr_iconst 0 dX10_headOf_94 (by decide) ?_
      refine zistore dX10_headOf_95 (L1 := [(1, va_rf (some a0)), (1, .int x1), (1, .int (512 * x1)), (2, .long v2), (0, (.long v2)), (1, .int 0), (0, .null)]) (by decide) rfl ?_
      refine xr_bipush 12 dX10_headOf_97 (by decide) ?_
      refine zistore dX10_headOf_99 (L1 := [(1, va_rf (some a0)), (1, .int x1), (1, .int (512 * x1)), (2, .long v2), (0, (.long v2)), (1, .int 0), (1, .int 12)]) (by decide) rfl ?_
      exact h
    · replace h := hf c32
      clear ht hf
      refine xr_lload_n 3 dX10_headOf_55 rfl rfl ?_
      refine xr_lconst 1 dX10_headOf_56 (by decide) ?_
      refine xr_ldc2 1000000000 dX10_headOf_57 ct_RX10_236 ?_
      refine xr_callS [.long v2, .long 1, .long 1000000000] dX10_headOf_60 cs_X10_headOf_87 rfl (Nat.le_trans wt_0 (by decide)) (by decide) (xSp.mono h ?_)
      clear h
      intro ρ22 M21 h
      obtain ⟨v20, rfl, h⟩ := h
      obtain ⟨ht, hf⟩ := h
      refine xr_if_eq 94 dX10_headOf_63 (by decide) (fun c31 => ?_) (fun c31 => ?_)
      · replace h := ht c31
        clear ht hf
        refine xr_iconst 0 dX10_headOf_94 (by decide) ?_
        refine zistore dX10_headOf_95 (L1 := [(1, va_rf (some a0)), (1, .int x1), (1, .int (512 * x1)), (2, .long v2), (0, (.long v2)), (1, .int 0), (0, .null)]) (by decide) rfl ?_
        refine xr_bipush 12 dX10_headOf_97 (by decide) ?_
        refine zistore dX10_headOf_99 (L1 := [(1, va_rf (some a0)), (1, .int x1), (1, .int (512 * x1)), (2, .long v2), (0, (.long v2)), (1, .int 0), (1, .int 12)]) (by decide) rfl ?_
        exact h
      · replace h := hf c31
        clear ht hf
        refine xr_lload_n 3 dX10_headOf_66 rfl rfl ?_
        refine xr_ldc2 2 dX10_headOf_67 ct_RX10_216 ?_
        refine xr_lrem dX10_headOf_70 (by decide) ?_
        refine xr_iload_n 1 dX10_headOf_71 rfl rfl ?_
        refine xr_i2l dX10_headOf_72 ?_
        refine xr_lcmp dX10_headOf_73 ?_
        obtain ⟨ht, hf⟩ := h
        refine xr_if_ne 94 dX10_headOf_74 (by decide) (fun c30 => ?_) (fun c30 => ?_)
        · replace h := ht c30
          clear ht hf
          refine xr_iconst 0 dX10_headOf_94 (by decide) ?_
          refine zistore dX10_headOf_95 (L1 := [(1, va_rf (some a0)), (1, .int x1), (1, .int (512 * x1)), (2, .long v2), (0, (.long v2)), (1, .int 0), (0, .null)]) (by decide) rfl ?_
          refine xr_bipush 12 dX10_headOf_97 (by decide) ?_
          refine zistore dX10_headOf_99 (L1 := [(1, va_rf (some a0)), (1, .int x1), (1, .int (512 * x1)), (2, .long v2), (0, (.long v2)), (1, .int 0), (1, .int 12)]) (by decide) rfl ?_
          exact h
        · replace h := hf c30
          clear ht hf
          refine xr_aload_n 0 dX10_headOf_77 rfl rfl ?_
          obtain ⟨t24, h⟩ := h
          refine yr_getR dX10_headOf_78 fl_RX10_46 rfl t24 ?_
          refine xr_iload_n 2 dX10_headOf_81 rfl rfl ?_
          refine xr_bipush 9 dX10_headOf_82 (by decide) ?_
          refine xr_iadd dX10_headOf_84 ?_
          obtain ⟨a25, e26, h⟩ := h
          obtain ⟨i27, t28, h⟩ := h
          refine yr_iald dX10_headOf_85 e26 t28 ?_
          refine xr_iconst 2 dX10_headOf_86 (by decide) ?_
          obtain ⟨ht, hf⟩ := h
          refine xr_icmp_lt 94 dX10_headOf_87 (by decide) (fun c29 => ?_) (fun c29 => ?_)
          · replace h := ht c29
            clear ht hf
            refine xr_iconst 0 dX10_headOf_94 (by decide) ?_
            refine zistore dX10_headOf_95 (L1 := [(1, va_rf (some a0)), (1, .int x1), (1, .int (512 * x1)), (2, .long v2), (0, (.long v2)), (1, .int 0), (0, .null)]) (by decide) rfl ?_
            refine xr_bipush 12 dX10_headOf_97 (by decide) ?_
            refine zistore dX10_headOf_99 (L1 := [(1, va_rf (some a0)), (1, .int x1), (1, .int (512 * x1)), (2, .long v2), (0, (.long v2)), (1, .int 0), (1, .int 12)]) (by decide) rfl ?_
            exact h
          · replace h := hf c29
            clear ht hf
            refine xr_iconst 1 dX10_headOf_90 (by decide) ?_
            refine xr_goto 95 dX10_headOf_91 (by decide) ?_
            refine zistore dX10_headOf_95 (L1 := [(1, va_rf (some a0)), (1, .int x1), (1, .int (512 * x1)), (2, .long v2), (0, (.long v2)), (1, .int 1), (0, .null)]) (by decide) rfl ?_
            refine xr_bipush 12 dX10_headOf_97 (by decide) ?_
            refine zistore dX10_headOf_99 (L1 := [(1, va_rf (some a0)), (1, .int x1), (1, .int (512 * x1)), (2, .long v2), (0, (.long v2)), (1, .int 1), (1, .int 12)]) (by decide) rfl ?_
            exact h
theorem dX10_readNode_0 : decode cX10_readNode 0 = .ok (.sipush 512, 3) := by decide +kernel
theorem dX10_readNode_3 : decode cX10_readNode 3 = .ok (.aload_n 0, 1) := by decide +kernel
theorem dX10_readNode_4 : decode cX10_readNode 4 = .ok (.getfield 39, 3) := by decide +kernel
theorem dX10_readNode_7 : decode cX10_readNode 7 = .ok (.iload_n 1, 1) := by decide +kernel
theorem dX10_readNode_8 : decode cX10_readNode 8 = .ok (.iaload, 1) := by decide +kernel
theorem dX10_readNode_9 : decode cX10_readNode 9 = .ok (.imul, 1) := by decide +kernel
theorem dX10_readNode_10 : decode cX10_readNode 10 = .ok (.istore_n 2, 1) := by decide +kernel
theorem dX10_readNode_11 : decode cX10_readNode 11 = .ok (.aload_n 0, 1) := by decide +kernel
theorem dX10_readNode_12 : decode cX10_readNode 12 = .ok (.getfield 46, 3) := by decide +kernel
theorem dX10_readNode_15 : decode cX10_readNode 15 = .ok (.iload_n 2, 1) := by decide +kernel
theorem dX10_readNode_16 : decode cX10_readNode 16 = .ok (.iaload, 1) := by decide +kernel
theorem dX10_readNode_17 : decode cX10_readNode 17 = .ok (.istore_n 3, 1) := by decide +kernel
theorem dX10_readNode_18 : decode cX10_readNode 18 = .ok (.aload_n 0, 1) := by decide +kernel
theorem dX10_readNode_19 : decode cX10_readNode 19 = .ok (.getfield 46, 3) := by decide +kernel
theorem dX10_readNode_22 : decode cX10_readNode 22 = .ok (.iload_n 2, 1) := by decide +kernel
theorem dX10_readNode_23 : decode cX10_readNode 23 = .ok (.bipush 10, 2) := by decide +kernel
theorem dX10_readNode_25 : decode cX10_readNode 25 = .ok (.iadd, 1) := by decide +kernel
theorem dX10_readNode_26 : decode cX10_readNode 26 = .ok (.iaload, 1) := by decide +kernel
theorem dX10_readNode_27 : decode cX10_readNode 27 = .ok (.istore 4, 2) := by decide +kernel
theorem dX10_readNode_29 : decode cX10_readNode 29 = .ok (.aload_n 0, 1) := by decide +kernel
theorem dX10_readNode_30 : decode cX10_readNode 30 = .ok (.getfield 46, 3) := by decide +kernel
theorem dX10_readNode_33 : decode cX10_readNode 33 = .ok (.iload_n 2, 1) := by decide +kernel
theorem dX10_readNode_34 : decode cX10_readNode 34 = .ok (.iconst 1, 1) := by decide +kernel
theorem dX10_readNode_35 : decode cX10_readNode 35 = .ok (.iadd, 1) := by decide +kernel
theorem dX10_readNode_36 : decode cX10_readNode 36 = .ok (.iaload, 1) := by decide +kernel
theorem dX10_readNode_37 : decode cX10_readNode 37 = .ok (.istore 5, 2) := by decide +kernel
theorem dX10_readNode_39 : decode cX10_readNode 39 = .ok (.aload_n 0, 1) := by decide +kernel
theorem dX10_readNode_40 : decode cX10_readNode 40 = .ok (.getfield 46, 3) := by decide +kernel
theorem dX10_readNode_43 : decode cX10_readNode 43 = .ok (.iload_n 2, 1) := by decide +kernel
theorem dX10_readNode_44 : decode cX10_readNode 44 = .ok (.bipush 23, 2) := by decide +kernel
theorem dX10_readNode_46 : decode cX10_readNode 46 = .ok (.iadd, 1) := by decide +kernel
theorem dX10_readNode_47 : decode cX10_readNode 47 = .ok (.iaload, 1) := by decide +kernel
theorem dX10_readNode_48 : decode cX10_readNode 48 = .ok (.istore 6, 2) := by decide +kernel
theorem dX10_readNode_50 : decode cX10_readNode 50 = .ok (.aload_n 0, 1) := by decide +kernel
theorem dX10_readNode_51 : decode cX10_readNode 51 = .ok (.getfield 46, 3) := by decide +kernel
theorem dX10_readNode_54 : decode cX10_readNode 54 = .ok (.iload_n 2, 1) := by decide +kernel
theorem dX10_readNode_55 : decode cX10_readNode 55 = .ok (.iconst 2, 1) := by decide +kernel
theorem dX10_readNode_56 : decode cX10_readNode 56 = .ok (.iadd, 1) := by decide +kernel
theorem dX10_readNode_57 : decode cX10_readNode 57 = .ok (.bipush 8, 2) := by decide +kernel
theorem dX10_readNode_59 : decode cX10_readNode 59 = .ok (.invokestatic 232, 3) := by decide +kernel
theorem dX10_readNode_62 : decode cX10_readNode 62 = .ok (.lstore 7, 2) := by decide +kernel
theorem dX10_readNode_64 : decode cX10_readNode 64 = .ok (.aload_n 0, 1) := by decide +kernel
theorem dX10_readNode_65 : decode cX10_readNode 65 = .ok (.getfield 46, 3) := by decide +kernel
theorem dX10_readNode_68 : decode cX10_readNode 68 = .ok (.iload_n 2, 1) := by decide +kernel
theorem dX10_readNode_69 : decode cX10_readNode 69 = .ok (.sipush 504, 3) := by decide +kernel
theorem dX10_readNode_72 : decode cX10_readNode 72 = .ok (.iadd, 1) := by decide +kernel
theorem dX10_readNode_73 : decode cX10_readNode 73 = .ok (.bipush 8, 2) := by decide +kernel
theorem dX10_readNode_75 : decode cX10_readNode 75 = .ok (.invokestatic 232, 3) := by decide +kernel
theorem dX10_readNode_78 : decode cX10_readNode 78 = .ok (.aload_n 0, 1) := by decide +kernel
theorem dX10_readNode_79 : decode cX10_readNode 79 = .ok (.getfield 46, 3) := by decide +kernel
theorem dX10_readNode_82 : decode cX10_readNode 82 = .ok (.iload_n 2, 1) := by decide +kernel
theorem dX10_readNode_83 : decode cX10_readNode 83 = .ok (.invokestatic 182, 3) := by decide +kernel
theorem dX10_readNode_86 : decode cX10_readNode 86 = .ok (.lcmp, 1) := by decide +kernel
theorem dX10_readNode_87 : decode cX10_readNode 87 = .ok (.ifCond .ne 58, 3) := by decide +kernel
theorem dX10_readNode_90 : decode cX10_readNode 90 = .ok (.iload_n 3, 1) := by decide +kernel
theorem dX10_readNode_91 : decode cX10_readNode 91 = .ok (.i2l, 1) := by decide +kernel
theorem dX10_readNode_92 : decode cX10_readNode 92 = .ok (.lconst 1, 1) := by decide +kernel
theorem dX10_readNode_93 : decode cX10_readNode 93 = .ok (.ldc2_w 238, 3) := by decide +kernel
theorem dX10_readNode_96 : decode cX10_readNode 96 = .ok (.invokestatic 87, 3) := by decide +kernel
theorem dX10_readNode_99 : decode cX10_readNode 99 = .ok (.ifCond .eq 46, 3) := by decide +kernel
theorem dX10_readNode_102 : decode cX10_readNode 102 = .ok (.iload 5, 2) := by decide +kernel
theorem dX10_readNode_104 : decode cX10_readNode 104 = .ok (.iconst 1, 1) := by decide +kernel
theorem dX10_readNode_105 : decode cX10_readNode 105 = .ok (.if_icmp .gt 40, 3) := by decide +kernel
theorem dX10_readNode_108 : decode cX10_readNode 108 = .ok (.iload 5, 2) := by decide +kernel
theorem dX10_readNode_110 : decode cX10_readNode 110 = .ok (.ifCond .ne 10, 3) := by decide +kernel
theorem dX10_readNode_113 : decode cX10_readNode 113 = .ok (.lload 7, 2) := by decide +kernel
theorem dX10_readNode_115 : decode cX10_readNode 115 = .ok (.lconst 0, 1) := by decide +kernel
theorem dX10_readNode_116 : decode cX10_readNode 116 = .ok (.lcmp, 1) := by decide +kernel
theorem dX10_readNode_117 : decode cX10_readNode 117 = .ok (.ifCond .ne 28, 3) := by decide +kernel
theorem dX10_readNode_120 : decode cX10_readNode 120 = .ok (.lload 7, 2) := by decide +kernel
theorem dX10_readNode_122 : decode cX10_readNode 122 = .ok (.ldc2_w 122, 3) := by decide +kernel
theorem dX10_readNode_125 : decode cX10_readNode 125 = .ok (.lcmp, 1) := by decide +kernel
theorem dX10_readNode_126 : decode cX10_readNode 126 = .ok (.ifCond .eq 19, 3) := by decide +kernel
theorem dX10_readNode_129 : decode cX10_readNode 129 = .ok (.iload 4, 2) := by decide +kernel
theorem dX10_readNode_131 : decode cX10_readNode 131 = .ok (.bipush 12, 2) := by decide +kernel
theorem dX10_readNode_133 : decode cX10_readNode 133 = .ok (.if_icmp .gt 12, 3) := by decide +kernel
theorem dX10_readNode_136 : decode cX10_readNode 136 = .ok (.iload 6, 2) := by decide +kernel
theorem dX10_readNode_138 : decode cX10_readNode 138 = .ok (.iload_n 3, 1) := by decide +kernel
theorem dX10_readNode_139 : decode cX10_readNode 139 = .ok (.invokestatic 149, 3) := by decide +kernel
theorem dX10_readNode_142 : decode cX10_readNode 142 = .ok (.if_icmp .le 5, 3) := by decide +kernel
theorem dX10_readNode_145 : decode cX10_readNode 145 = .ok (.iconst 0, 1) := by decide +kernel
theorem dX10_readNode_146 : decode cX10_readNode 146 = .ok (.ireturn, 1) := by decide +kernel
theorem dX10_readNode_147 : decode cX10_readNode 147 = .ok (.aload_n 0, 1) := by decide +kernel
theorem dX10_readNode_148 : decode cX10_readNode 148 = .ok (.getfield 36, 3) := by decide +kernel
theorem dX10_readNode_151 : decode cX10_readNode 151 = .ok (.iload_n 1, 1) := by decide +kernel
theorem dX10_readNode_152 : decode cX10_readNode 152 = .ok (.iload_n 3, 1) := by decide +kernel
theorem dX10_readNode_153 : decode cX10_readNode 153 = .ok (.iastore, 1) := by decide +kernel
theorem dX10_readNode_154 : decode cX10_readNode 154 = .ok (.aload_n 0, 1) := by decide +kernel
theorem dX10_readNode_155 : decode cX10_readNode 155 = .ok (.getfield 29, 3) := by decide +kernel
theorem dX10_readNode_158 : decode cX10_readNode 158 = .ok (.iload_n 1, 1) := by decide +kernel
theorem dX10_readNode_159 : decode cX10_readNode 159 = .ok (.iload 5, 2) := by decide +kernel
theorem dX10_readNode_161 : decode cX10_readNode 161 = .ok (.iconst 1, 1) := by decide +kernel
theorem dX10_readNode_162 : decode cX10_readNode 162 = .ok (.if_icmp .ne 7, 3) := by decide +kernel
theorem dX10_readNode_165 : decode cX10_readNode 165 = .ok (.iconst 1, 1) := by decide +kernel
theorem dX10_readNode_166 : decode cX10_readNode 166 = .ok (.goto 4, 3) := by decide +kernel
theorem dX10_readNode_169 : decode cX10_readNode 169 = .ok (.iconst 0, 1) := by decide +kernel
theorem dX10_readNode_170 : decode cX10_readNode 170 = .ok (.bastore, 1) := by decide +kernel
theorem dX10_readNode_171 : decode cX10_readNode 171 = .ok (.aload_n 0, 1) := by decide +kernel
theorem dX10_readNode_172 : decode cX10_readNode 172 = .ok (.getfield 32, 3) := by decide +kernel
theorem dX10_readNode_175 : decode cX10_readNode 175 = .ok (.iload_n 1, 1) := by decide +kernel
theorem dX10_readNode_176 : decode cX10_readNode 176 = .ok (.lload 7, 2) := by decide +kernel
theorem dX10_readNode_178 : decode cX10_readNode 178 = .ok (.lastore, 1) := by decide +kernel
theorem dX10_readNode_179 : decode cX10_readNode 179 = .ok (.aload_n 0, 1) := by decide +kernel
theorem dX10_readNode_180 : decode cX10_readNode 180 = .ok (.getfield 26, 3) := by decide +kernel
theorem dX10_readNode_183 : decode cX10_readNode 183 = .ok (.iload_n 1, 1) := by decide +kernel
theorem dX10_readNode_184 : decode cX10_readNode 184 = .ok (.iload 4, 2) := by decide +kernel
theorem dX10_readNode_186 : decode cX10_readNode 186 = .ok (.iastore, 1) := by decide +kernel
theorem dX10_readNode_187 : decode cX10_readNode 187 = .ok (.aload_n 0, 1) := by decide +kernel
theorem dX10_readNode_188 : decode cX10_readNode 188 = .ok (.getfield 42, 3) := by decide +kernel
theorem dX10_readNode_191 : decode cX10_readNode 191 = .ok (.iload_n 1, 1) := by decide +kernel
theorem dX10_readNode_192 : decode cX10_readNode 192 = .ok (.iconst 0, 1) := by decide +kernel
theorem dX10_readNode_193 : decode cX10_readNode 193 = .ok (.bastore, 1) := by decide +kernel
theorem dX10_readNode_194 : decode cX10_readNode 194 = .ok (.iconst 0, 1) := by decide +kernel
theorem dX10_readNode_195 : decode cX10_readNode 195 = .ok (.istore 9, 2) := by decide +kernel
theorem dX10_readNode_197 : decode cX10_readNode 197 = .ok (.iload 9, 2) := by decide +kernel
theorem dX10_readNode_199 : decode cX10_readNode 199 = .ok (.bipush 12, 2) := by decide +kernel
theorem dX10_readNode_201 : decode cX10_readNode 201 = .ok (.if_icmp .ge 57, 3) := by decide +kernel
theorem dX10_readNode_204 : decode cX10_readNode 204 = .ok (.aload_n 0, 1) := by decide +kernel
theorem dX10_readNode_205 : decode cX10_readNode 205 = .ok (.getfield 23, 3) := by decide +kernel
theorem dX10_readNode_208 : decode cX10_readNode 208 = .ok (.bipush 12, 2) := by decide +kernel
theorem dX10_readNode_210 : decode cX10_readNode 210 = .ok (.iload_n 1, 1) := by decide +kernel
theorem dX10_readNode_211 : decode cX10_readNode 211 = .ok (.imul, 1) := by decide +kernel
theorem dX10_readNode_212 : decode cX10_readNode 212 = .ok (.iload 9, 2) := by decide +kernel
theorem dX10_readNode_214 : decode cX10_readNode 214 = .ok (.iadd, 1) := by decide +kernel
theorem dX10_readNode_215 : decode cX10_readNode 215 = .ok (.aload_n 0, 1) := by decide +kernel
theorem dX10_readNode_216 : decode cX10_readNode 216 = .ok (.getfield 46, 3) := by decide +kernel
theorem dX10_readNode_219 : decode cX10_readNode 219 = .ok (.iload_n 2, 1) := by decide +kernel
theorem dX10_readNode_220 : decode cX10_readNode 220 = .ok (.bipush 11, 2) := by decide +kernel
theorem dX10_readNode_222 : decode cX10_readNode 222 = .ok (.iadd, 1) := by decide +kernel
theorem dX10_readNode_223 : decode cX10_readNode 223 = .ok (.iload 9, 2) := by decide +kernel
theorem dX10_readNode_225 : decode cX10_readNode 225 = .ok (.iadd, 1) := by decide +kernel
theorem dX10_readNode_226 : decode cX10_readNode 226 = .ok (.iaload, 1) := by decide +kernel
theorem dX10_readNode_227 : decode cX10_readNode 227 = .ok (.iastore, 1) := by decide +kernel
theorem dX10_readNode_228 : decode cX10_readNode 228 = .ok (.iload 9, 2) := by decide +kernel
theorem dX10_readNode_230 : decode cX10_readNode 230 = .ok (.iload 4, 2) := by decide +kernel
theorem dX10_readNode_232 : decode cX10_readNode 232 = .ok (.if_icmp .lt 20, 3) := by decide +kernel
theorem dX10_readNode_235 : decode cX10_readNode 235 = .ok (.aload_n 0, 1) := by decide +kernel
theorem dX10_readNode_236 : decode cX10_readNode 236 = .ok (.getfield 46, 3) := by decide +kernel
theorem dX10_readNode_239 : decode cX10_readNode 239 = .ok (.iload_n 2, 1) := by decide +kernel
theorem dX10_readNode_240 : decode cX10_readNode 240 = .ok (.bipush 11, 2) := by decide +kernel
theorem dX10_readNode_242 : decode cX10_readNode 242 = .ok (.iadd, 1) := by decide +kernel
theorem dX10_readNode_243 : decode cX10_readNode 243 = .ok (.iload 9, 2) := by decide +kernel
theorem dX10_readNode_245 : decode cX10_readNode 245 = .ok (.iadd, 1) := by decide +kernel
theorem dX10_readNode_246 : decode cX10_readNode 246 = .ok (.iaload, 1) := by decide +kernel
theorem dX10_readNode_247 : decode cX10_readNode 247 = .ok (.ifCond .eq 5, 3) := by decide +kernel
theorem dX10_readNode_250 : decode cX10_readNode 250 = .ok (.iconst 0, 1) := by decide +kernel
theorem dX10_readNode_251 : decode cX10_readNode 251 = .ok (.ireturn, 1) := by decide +kernel
theorem dX10_readNode_252 : decode cX10_readNode 252 = .ok (.iinc 9 1, 3) := by decide +kernel
theorem dX10_readNode_255 : decode cX10_readNode 255 = .ok (.goto (-58), 3) := by decide +kernel
theorem dX10_readNode_258 : decode cX10_readNode 258 = .ok (.iload_n 3, 1) := by decide +kernel
theorem dX10_readNode_259 : decode cX10_readNode 259 = .ok (.iconst 3, 1) := by decide +kernel
theorem dX10_readNode_260 : decode cX10_readNode 260 = .ok (.if_icmp .ge 15, 3) := by decide +kernel
theorem dX10_readNode_263 : decode cX10_readNode 263 = .ok (.bipush 24, 2) := by decide +kernel
theorem dX10_readNode_265 : decode cX10_readNode 265 = .ok (.iconst 2, 1) := by decide +kernel
theorem dX10_readNode_266 : decode cX10_readNode 266 = .ok (.iload_n 3, 1) := by decide +kernel
theorem dX10_readNode_267 : decode cX10_readNode 267 = .ok (.invokestatic 149, 3) := by decide +kernel
theorem dX10_readNode_270 : decode cX10_readNode 270 = .ok (.imul, 1) := by decide +kernel
theorem dX10_readNode_271 : decode cX10_readNode 271 = .ok (.iadd, 1) := by decide +kernel
theorem dX10_readNode_272 : decode cX10_readNode 272 = .ok (.goto 17, 3) := by decide +kernel
theorem dX10_readNode_275 : decode cX10_readNode 275 = .ok (.iload_n 3, 1) := by decide +kernel
theorem dX10_readNode_276 : decode cX10_readNode 276 = .ok (.iconst 3, 1) := by decide +kernel
theorem dX10_readNode_277 : decode cX10_readNode 277 = .ok (.if_icmp .ne 9, 3) := by decide +kernel
theorem dX10_readNode_280 : decode cX10_readNode 280 = .ok (.sipush 328, 3) := by decide +kernel
theorem dX10_readNode_283 : decode cX10_readNode 283 = .ok (.goto 6, 3) := by decide +kernel
theorem dX10_readNode_286 : decode cX10_readNode 286 = .ok (.sipush 280, 3) := by decide +kernel
theorem dX10_readNode_289 : decode cX10_readNode 289 = .ok (.istore 9, 2) := by decide +kernel
theorem dX10_readNode_291 : decode cX10_readNode 291 = .ok (.iload 9, 2) := by decide +kernel
theorem dX10_readNode_293 : decode cX10_readNode 293 = .ok (.istore 10, 2) := by decide +kernel
theorem dX10_readNode_295 : decode cX10_readNode 295 = .ok (.iload 10, 2) := by decide +kernel
theorem dX10_readNode_297 : decode cX10_readNode 297 = .ok (.sipush 504, 3) := by decide +kernel
theorem dX10_readNode_300 : decode cX10_readNode 300 = .ok (.if_icmp .ge 23, 3) := by decide +kernel
theorem dX10_readNode_303 : decode cX10_readNode 303 = .ok (.aload_n 0, 1) := by decide +kernel
theorem dX10_readNode_304 : decode cX10_readNode 304 = .ok (.getfield 46, 3) := by decide +kernel
theorem dX10_readNode_307 : decode cX10_readNode 307 = .ok (.iload_n 2, 1) := by decide +kernel
theorem dX10_readNode_308 : decode cX10_readNode 308 = .ok (.iload 10, 2) := by decide +kernel
theorem dX10_readNode_310 : decode cX10_readNode 310 = .ok (.iadd, 1) := by decide +kernel
theorem dX10_readNode_311 : decode cX10_readNode 311 = .ok (.iaload, 1) := by decide +kernel
theorem dX10_readNode_312 : decode cX10_readNode 312 = .ok (.ifCond .eq 5, 3) := by decide +kernel
theorem dX10_readNode_315 : decode cX10_readNode 315 = .ok (.iconst 0, 1) := by decide +kernel
theorem dX10_readNode_316 : decode cX10_readNode 316 = .ok (.ireturn, 1) := by decide +kernel
theorem dX10_readNode_317 : decode cX10_readNode 317 = .ok (.iinc 10 1, 3) := by decide +kernel
theorem dX10_readNode_320 : decode cX10_readNode 320 = .ok (.goto (-25), 3) := by decide +kernel
theorem dX10_readNode_323 : decode cX10_readNode 323 = .ok (.iload 5, 2) := by decide +kernel
theorem dX10_readNode_325 : decode cX10_readNode 325 = .ok (.iconst 1, 1) := by decide +kernel
theorem dX10_readNode_326 : decode cX10_readNode 326 = .ok (.if_icmp .eq 32, 3) := by decide +kernel
theorem dX10_readNode_329 : decode cX10_readNode 329 = .ok (.iload 6, 2) := by decide +kernel
theorem dX10_readNode_331 : decode cX10_readNode 331 = .ok (.iconst 1, 1) := by decide +kernel
theorem dX10_readNode_332 : decode cX10_readNode 332 = .ok (.if_icmp .gt 26, 3) := by decide +kernel
theorem dX10_readNode_335 : decode cX10_readNode 335 = .ok (.iload_n 1, 1) := by decide +kernel
theorem dX10_readNode_336 : decode cX10_readNode 336 = .ok (.aload_n 0, 1) := by decide +kernel
theorem dX10_readNode_337 : decode cX10_readNode 337 = .ok (.getfield 75, 3) := by decide +kernel
theorem dX10_readNode_340 : decode cX10_readNode 340 = .ok (.if_icmp .ne 22, 3) := by decide +kernel
theorem dX10_readNode_343 : decode cX10_readNode 343 = .ok (.iload 6, 2) := by decide +kernel
theorem dX10_readNode_345 : decode cX10_readNode 345 = .ok (.ifCond .ne 17, 3) := by decide +kernel
theorem dX10_readNode_348 : decode cX10_readNode 348 = .ok (.iload 4, 2) := by decide +kernel
theorem dX10_readNode_350 : decode cX10_readNode 350 = .ok (.ifCond .ne 12, 3) := by decide +kernel
theorem dX10_readNode_353 : decode cX10_readNode 353 = .ok (.iload_n 3, 1) := by decide +kernel
theorem dX10_readNode_354 : decode cX10_readNode 354 = .ok (.iconst 1, 1) := by decide +kernel
theorem dX10_readNode_355 : decode cX10_readNode 355 = .ok (.if_icmp .ne 7, 3) := by decide +kernel
theorem dX10_readNode_358 : decode cX10_readNode 358 = .ok (.iconst 1, 1) := by decide +kernel
theorem dX10_readNode_359 : decode cX10_readNode 359 = .ok (.goto 4, 3) := by decide +kernel
theorem dX10_readNode_362 : decode cX10_readNode 362 = .ok (.iconst 0, 1) := by decide +kernel
theorem dX10_readNode_363 : decode cX10_readNode 363 = .ok (.istore 10, 2) := by decide +kernel
theorem dX10_readNode_365 : decode cX10_readNode 365 = .ok (.iload 10, 2) := by decide +kernel
theorem dX10_readNode_367 : decode cX10_readNode 367 = .ok (.ifCond .eq 19, 3) := by decide +kernel
theorem dX10_readNode_370 : decode cX10_readNode 370 = .ok (.aload_n 0, 1) := by decide +kernel
theorem dX10_readNode_371 : decode cX10_readNode 371 = .ok (.iload_n 1, 1) := by decide +kernel
theorem dX10_readNode_372 : decode cX10_readNode 372 = .ok (.iload_n 2, 1) := by decide +kernel
theorem dX10_readNode_373 : decode cX10_readNode 373 = .ok (.iload_n 3, 1) := by decide +kernel
theorem dX10_readNode_374 : decode cX10_readNode 374 = .ok (.iload 6, 2) := by decide +kernel
theorem dX10_readNode_376 : decode cX10_readNode 376 = .ok (.invokevirtual 240, 3) := by decide +kernel
theorem dX10_readNode_379 : decode cX10_readNode 379 = .ok (.ifCond .eq 7, 3) := by decide +kernel
theorem dX10_readNode_382 : decode cX10_readNode 382 = .ok (.iconst 1, 1) := by decide +kernel
theorem dX10_readNode_383 : decode cX10_readNode 383 = .ok (.goto 4, 3) := by decide +kernel
theorem dX10_readNode_386 : decode cX10_readNode 386 = .ok (.iconst 0, 1) := by decide +kernel
theorem dX10_readNode_387 : decode cX10_readNode 387 = .ok (.ireturn, 1) := by decide +kernel
set_option maxRecDepth 100000 in
set_option maxHeartbeats 4000000 in
theorem bX10_readNode_295 {l : Launch} {g : xG} (a0 : Nat) (x1 : Int32) (x2 : Int32) (x3 : Int32) (x4 : Int32) (x5 : Int32) (x6 : Int32) (j7 : Int64) (w8 : Value) (x9 : Int32) (x10 : Int32) {M : xM} {Q : Option Value → xM → Prop} (h : ((504 ≤ x10 → ((x5 = 1 → (((1 : Int32) = 0 → (Q (some (.int 0)) M)) ∧ (¬ (1 : Int32) = 0 → (xat M a0 7 ∧ xSp l g mX10_readChildren 0 0 [va_rf (some a0), .int x1, .int x2, .int x3, .int x6] M (fun ρ3 M2 => ∃ v1 : Int32, ρ3 = some (.int v1) ∧ ((v1 = 0 → (Q (some (.int 0)) M2)) ∧ (¬ v1 = 0 → (Q (some (.int 1)) M2)))))))) ∧ (¬ x5 = 1 → ((1 < x6 → (((1 : Int32) = 0 → (Q (some (.int 0)) M)) ∧ (¬ (1 : Int32) = 0 → (xat M a0 7 ∧ xSp l g mX10_readChildren 0 0 [va_rf (some a0), .int x1, .int x2, .int x3, .int x6] M (fun ρ10 M9 => ∃ v8 : Int32, ρ10 = some (.int v8) ∧ ((v8 = 0 → (Q (some (.int 0)) M9)) ∧ (¬ v8 = 0 → (Q (some (.int 1)) M9)))))))) ∧ (¬ 1 < x6 → (xat M a0 7 ∧ ((¬ x1 = (xI M a0 14) → (((0 : Int32) = 0 → (Q (some (.int 0)) M)) ∧ (¬ (0 : Int32) = 0 → (xSp l g mX10_readChildren 0 0 [va_rf (some a0), .int x1, .int x2, .int x3, .int x6] M (fun ρ18 M17 => ∃ v16 : Int32, ρ18 = some (.int v16) ∧ ((v16 = 0 → (Q (some (.int 0)) M17)) ∧ (¬ v16 = 0 → (Q (some (.int 1)) M17)))))))) ∧ (x1 = (xI M a0 14) → ((¬ x6 = 0 → (((0 : Int32) = 0 → (Q (some (.int 0)) M)) ∧ (¬ (0 : Int32) = 0 → (xSp l g mX10_readChildren 0 0 [va_rf (some a0), .int x1, .int x2, .int x3, .int x6] M (fun ρ24 M23 => ∃ v22 : Int32, ρ24 = some (.int v22) ∧ ((v22 = 0 → (Q (some (.int 0)) M23)) ∧ (¬ v22 = 0 → (Q (some (.int 1)) M23)))))))) ∧ (x6 = 0 → ((¬ x4 = 0 → (((0 : Int32) = 0 → (Q (some (.int 0)) M)) ∧ (¬ (0 : Int32) = 0 → (xSp l g mX10_readChildren 0 0 [va_rf (some a0), .int x1, .int x2, .int x3, .int x6] M (fun ρ30 M29 => ∃ v28 : Int32, ρ30 = some (.int v28) ∧ ((v28 = 0 → (Q (some (.int 0)) M29)) ∧ (¬ v28 = 0 → (Q (some (.int 1)) M29)))))))) ∧ (x4 = 0 → ((¬ x3 = 1 → (((0 : Int32) = 0 → (Q (some (.int 0)) M)) ∧ (¬ (0 : Int32) = 0 → (xSp l g mX10_readChildren 0 0 [va_rf (some a0), .int x1, .int x2, .int x3, .int x6] M (fun ρ36 M35 => ∃ v34 : Int32, ρ36 = some (.int v34) ∧ ((v34 = 0 → (Q (some (.int 0)) M35)) ∧ (¬ v34 = 0 → (Q (some (.int 1)) M35)))))))) ∧ (x3 = 1 → (((1 : Int32) = 0 → (Q (some (.int 0)) M)) ∧ (¬ (1 : Int32) = 0 → (xSp l g mX10_readChildren 0 0 [va_rf (some a0), .int x1, .int x2, .int x3, .int x6] M (fun ρ42 M41 => ∃ v40 : Int32, ρ42 = some (.int v40) ∧ ((v40 = 0 → (Q (some (.int 0)) M41)) ∧ (¬ v40 = 0 → (Q (some (.int 1)) M41))))))))))))))))))))) ∧ (¬ 504 ≤ x10 → (xat M a0 7 ∧ (∃ a53, (xR M a0 17) = some a53 ∧ ∃ i55, xai M a53 9 (x2 + x10) i55 ∧ (((xI M a53 i55) = 0 → xWp l g mX10_readNode 0 0 295 [(1, va_rf (some a0)), (1, .int x1), (1, .int x2), (1, .int x3), (1, .int x4), (1, .int x5), (1, .int x6), (2, .long j7), (0, w8), (1, .int x9), (1, .int (x10 + 1))] [] (0, 0) M Q) ∧ (¬ (xI M a53 i55) = 0 → (Q (some (.int 0)) M)))))))) : xWp l g mX10_readNode 0 0 295 [(1, va_rf (some a0)), (1, .int x1), (1, .int x2), (1, .int x3), (1, .int x4), (1, .int x5), (1, .int x6), (2, .long j7), (0, w8), (1, .int x9), (1, .int x10)] [] (0, 0) M Q := by
  refine xr_iload dX10_readNode_295 rfl ?_
  refine xr_sipush 504 dX10_readNode_297 (by decide) ?_
  obtain ⟨ht, hf⟩ := h
  refine xr_icmp_ge 323 dX10_readNode_300 (by decide) (fun c58 => ?_) (fun c58 => ?_)
  · replace h := ht c58
    clear ht hf
    refine xr_iload dX10_readNode_323 rfl ?_
    refine xr_iconst 1 dX10_readNode_325 (by decide) ?_
    obtain ⟨ht, hf⟩ := h
    refine xr_icmp_eq 358 dX10_readNode_326 (by decide) (fun c51 => ?_) (fun c51 => ?_)
    · replace h := ht c51
      clear ht hf
      refine xr_iconst 1 dX10_readNode_358 (by decide) ?_
      refine xr_goto 363 dX10_readNode_359 (by decide) ?_
      refine zistore dX10_readNode_363 (L1 := [(1, va_rf (some a0)), (1, .int x1), (1, .int x2), (1, .int x3), (1, .int x4), (1, .int x5), (1, .int x6), (2, .long j7), (0, w8), (1, .int x9), (1, .int 1)]) (by decide) rfl ?_
      refine xr_iload dX10_readNode_365 rfl ?_
      obtain ⟨ht, hf⟩ := h
      refine xr_if_eq 386 dX10_readNode_367 (by decide) (fun c7 => ?_) (fun c7 => ?_)
      · replace h := ht c7
        clear ht hf
        refine xr_iconst 0 dX10_readNode_386 (by decide) ?_
        exact xr_retv (by decide) (xRi rfl rfl dX10_readNode_387) h
      · replace h := hf c7
        clear ht hf
        refine xr_aload_n 0 dX10_readNode_370 rfl rfl ?_
        refine xr_iload_n 1 dX10_readNode_371 rfl rfl ?_
        refine xr_iload_n 2 dX10_readNode_372 rfl rfl ?_
        refine xr_iload_n 3 dX10_readNode_373 rfl rfl ?_
        refine xr_iload dX10_readNode_374 rfl ?_
        obtain ⟨t5, h⟩ := h
        refine yr_callV (r := (some a0)) [.int x1, .int x2, .int x3, .int x6] dX10_readNode_376 cv_X10_readNode_240 rfl t5 rfl (Nat.le_trans wt_0 (by decide)) (by decide) (xSp.mono h ?_)
        clear h
        intro ρ3 M2 h
        obtain ⟨v1, rfl, h⟩ := h
        obtain ⟨ht, hf⟩ := h
        refine xr_if_eq 386 dX10_readNode_379 (by decide) (fun c6 => ?_) (fun c6 => ?_)
        · replace h := ht c6
          clear ht hf
          refine xr_iconst 0 dX10_readNode_386 (by decide) ?_
          exact xr_retv (by decide) (xRi rfl rfl dX10_readNode_387) h
        · replace h := hf c6
          clear ht hf
          refine xr_iconst 1 dX10_readNode_382 (by decide) ?_
          refine xr_goto 387 dX10_readNode_383 (by decide) ?_
          exact xr_retv (by decide) (xRi rfl rfl dX10_readNode_387) h
    · replace h := hf c51
      clear ht hf
      refine xr_iload dX10_readNode_329 rfl ?_
      refine xr_iconst 1 dX10_readNode_331 (by decide) ?_
      obtain ⟨ht, hf⟩ := h
      refine xr_icmp_gt 358 dX10_readNode_332 (by decide) (fun c50 => ?_) (fun c50 => ?_)
      · replace h := ht c50
        clear ht hf
        refine xr_iconst 1 dX10_readNode_358 (by decide) ?_
        refine xr_goto 363 dX10_readNode_359 (by decide) ?_
        refine zistore dX10_readNode_363 (L1 := [(1, va_rf (some a0)), (1, .int x1), (1, .int x2), (1, .int x3), (1, .int x4), (1, .int x5), (1, .int x6), (2, .long j7), (0, w8), (1, .int x9), (1, .int 1)]) (by decide) rfl ?_
        refine xr_iload dX10_readNode_365 rfl ?_
        obtain ⟨ht, hf⟩ := h
        refine xr_if_eq 386 dX10_readNode_367 (by decide) (fun c14 => ?_) (fun c14 => ?_)
        · replace h := ht c14
          clear ht hf
          refine xr_iconst 0 dX10_readNode_386 (by decide) ?_
          exact xr_retv (by decide) (xRi rfl rfl dX10_readNode_387) h
        · replace h := hf c14
          clear ht hf
          refine xr_aload_n 0 dX10_readNode_370 rfl rfl ?_
          refine xr_iload_n 1 dX10_readNode_371 rfl rfl ?_
          refine xr_iload_n 2 dX10_readNode_372 rfl rfl ?_
          refine xr_iload_n 3 dX10_readNode_373 rfl rfl ?_
          refine xr_iload dX10_readNode_374 rfl ?_
          obtain ⟨t12, h⟩ := h
          refine yr_callV (r := (some a0)) [.int x1, .int x2, .int x3, .int x6] dX10_readNode_376 cv_X10_readNode_240 rfl t12 rfl (Nat.le_trans wt_0 (by decide)) (by decide) (xSp.mono h ?_)
          clear h
          intro ρ10 M9 h
          obtain ⟨v8, rfl, h⟩ := h
          obtain ⟨ht, hf⟩ := h
          refine xr_if_eq 386 dX10_readNode_379 (by decide) (fun c13 => ?_) (fun c13 => ?_)
          · replace h := ht c13
            clear ht hf
            refine xr_iconst 0 dX10_readNode_386 (by decide) ?_
            exact xr_retv (by decide) (xRi rfl rfl dX10_readNode_387) h
          · replace h := hf c13
            clear ht hf
            refine xr_iconst 1 dX10_readNode_382 (by decide) ?_
            refine xr_goto 387 dX10_readNode_383 (by decide) ?_
            exact xr_retv (by decide) (xRi rfl rfl dX10_readNode_387) h
      · replace h := hf c50
        clear ht hf
        refine xr_iload_n 1 dX10_readNode_335 rfl rfl ?_
        refine xr_aload_n 0 dX10_readNode_336 rfl rfl ?_
        obtain ⟨t15, h⟩ := h
        refine yr_getI dX10_readNode_337 fl_RX10_75 rfl t15 ?_
        obtain ⟨ht, hf⟩ := h
        refine xr_icmp_ne 362 dX10_readNode_340 (by decide) (fun c49 => ?_) (fun c49 => ?_)
        · replace h := ht c49
          clear ht hf
          refine xr_iconst 0 dX10_readNode_362 (by decide) ?_
          refine zistore dX10_readNode_363 (L1 := [(1, va_rf (some a0)), (1, .int x1), (1, .int x2), (1, .int x3), (1, .int x4), (1, .int x5), (1, .int x6), (2, .long j7), (0, w8), (1, .int x9), (1, .int 0)]) (by decide) rfl ?_
          refine xr_iload dX10_readNode_365 rfl ?_
          obtain ⟨ht, hf⟩ := h
          refine xr_if_eq 386 dX10_readNode_367 (by decide) (fun c21 => ?_) (fun c21 => ?_)
          · replace h := ht c21
            clear ht hf
            refine xr_iconst 0 dX10_readNode_386 (by decide) ?_
            exact xr_retv (by decide) (xRi rfl rfl dX10_readNode_387) h
          · replace h := hf c21
            clear ht hf
            refine xr_aload_n 0 dX10_readNode_370 rfl rfl ?_
            refine xr_iload_n 1 dX10_readNode_371 rfl rfl ?_
            refine xr_iload_n 2 dX10_readNode_372 rfl rfl ?_
            refine xr_iload_n 3 dX10_readNode_373 rfl rfl ?_
            refine xr_iload dX10_readNode_374 rfl ?_
            refine yr_callV (r := (some a0)) [.int x1, .int x2, .int x3, .int x6] dX10_readNode_376 cv_X10_readNode_240 rfl t15 rfl (Nat.le_trans wt_0 (by decide)) (by decide) (xSp.mono h ?_)
            clear h
            intro ρ18 M17 h
            obtain ⟨v16, rfl, h⟩ := h
            obtain ⟨ht, hf⟩ := h
            refine xr_if_eq 386 dX10_readNode_379 (by decide) (fun c20 => ?_) (fun c20 => ?_)
            · replace h := ht c20
              clear ht hf
              refine xr_iconst 0 dX10_readNode_386 (by decide) ?_
              exact xr_retv (by decide) (xRi rfl rfl dX10_readNode_387) h
            · replace h := hf c20
              clear ht hf
              refine xr_iconst 1 dX10_readNode_382 (by decide) ?_
              refine xr_goto 387 dX10_readNode_383 (by decide) ?_
              exact xr_retv (by decide) (xRi rfl rfl dX10_readNode_387) h
        · replace h := hf c49
          clear ht hf
          refine xr_iload dX10_readNode_343 rfl ?_
          obtain ⟨ht, hf⟩ := h
          refine xr_if_ne 362 dX10_readNode_345 (by decide) (fun c48 => ?_) (fun c48 => ?_)
          · replace h := ht c48
            clear ht hf
            refine xr_iconst 0 dX10_readNode_362 (by decide) ?_
            refine zistore dX10_readNode_363 (L1 := [(1, va_rf (some a0)), (1, .int x1), (1, .int x2), (1, .int x3), (1, .int x4), (1, .int x5), (1, .int x6), (2, .long j7), (0, w8), (1, .int x9), (1, .int 0)]) (by decide) rfl ?_
            refine xr_iload dX10_readNode_365 rfl ?_
            obtain ⟨ht, hf⟩ := h
            refine xr_if_eq 386 dX10_readNode_367 (by decide) (fun c27 => ?_) (fun c27 => ?_)
            · replace h := ht c27
              clear ht hf
              refine xr_iconst 0 dX10_readNode_386 (by decide) ?_
              exact xr_retv (by decide) (xRi rfl rfl dX10_readNode_387) h
            · replace h := hf c27
              clear ht hf
              refine xr_aload_n 0 dX10_readNode_370 rfl rfl ?_
              refine xr_iload_n 1 dX10_readNode_371 rfl rfl ?_
              refine xr_iload_n 2 dX10_readNode_372 rfl rfl ?_
              refine xr_iload_n 3 dX10_readNode_373 rfl rfl ?_
              refine xr_iload dX10_readNode_374 rfl ?_
              refine yr_callV (r := (some a0)) [.int x1, .int x2, .int x3, .int x6] dX10_readNode_376 cv_X10_readNode_240 rfl t15 rfl (Nat.le_trans wt_0 (by decide)) (by decide) (xSp.mono h ?_)
              clear h
              intro ρ24 M23 h
              obtain ⟨v22, rfl, h⟩ := h
              obtain ⟨ht, hf⟩ := h
              refine xr_if_eq 386 dX10_readNode_379 (by decide) (fun c26 => ?_) (fun c26 => ?_)
              · replace h := ht c26
                clear ht hf
                refine xr_iconst 0 dX10_readNode_386 (by decide) ?_
                exact xr_retv (by decide) (xRi rfl rfl dX10_readNode_387) h
              · replace h := hf c26
                clear ht hf
                refine xr_iconst 1 dX10_readNode_382 (by decide) ?_
                refine xr_goto 387 dX10_readNode_383 (by decide) ?_
                exact xr_retv (by decide) (xRi rfl rfl dX10_readNode_387) h
          · replace h := hf c48
            clear ht hf
            refine xr_iload dX10_readNode_348 rfl ?_
            obtain ⟨ht, hf⟩ := h
            refine xr_if_ne 362 dX10_readNode_350 (by decide) (fun c47 => ?_) (fun c47 => ?_)
            · replace h := ht c47
              clear ht hf
              refine xr_iconst 0 dX10_readNode_362 (by decide) ?_
              refine zistore dX10_readNode_363 (L1 := [(1, va_rf (some a0)), (1, .int x1), (1, .int x2), (1, .int x3), (1, .int x4), (1, .int x5), (1, .int x6), (2, .long j7), (0, w8), (1, .int x9), (1, .int 0)]) (by decide) rfl ?_
              refine xr_iload dX10_readNode_365 rfl ?_
              obtain ⟨ht, hf⟩ := h
              refine xr_if_eq 386 dX10_readNode_367 (by decide) (fun c33 => ?_) (fun c33 => ?_)
              · replace h := ht c33
                clear ht hf
                refine xr_iconst 0 dX10_readNode_386 (by decide) ?_
                exact xr_retv (by decide) (xRi rfl rfl dX10_readNode_387) h
              · replace h := hf c33
                clear ht hf
                refine xr_aload_n 0 dX10_readNode_370 rfl rfl ?_
                refine xr_iload_n 1 dX10_readNode_371 rfl rfl ?_
                refine xr_iload_n 2 dX10_readNode_372 rfl rfl ?_
                refine xr_iload_n 3 dX10_readNode_373 rfl rfl ?_
                refine xr_iload dX10_readNode_374 rfl ?_
                refine yr_callV (r := (some a0)) [.int x1, .int x2, .int x3, .int x6] dX10_readNode_376 cv_X10_readNode_240 rfl t15 rfl (Nat.le_trans wt_0 (by decide)) (by decide) (xSp.mono h ?_)
                clear h
                intro ρ30 M29 h
                obtain ⟨v28, rfl, h⟩ := h
                obtain ⟨ht, hf⟩ := h
                refine xr_if_eq 386 dX10_readNode_379 (by decide) (fun c32 => ?_) (fun c32 => ?_)
                · replace h := ht c32
                  clear ht hf
                  refine xr_iconst 0 dX10_readNode_386 (by decide) ?_
                  exact xr_retv (by decide) (xRi rfl rfl dX10_readNode_387) h
                · replace h := hf c32
                  clear ht hf
                  refine xr_iconst 1 dX10_readNode_382 (by decide) ?_
                  refine xr_goto 387 dX10_readNode_383 (by decide) ?_
                  exact xr_retv (by decide) (xRi rfl rfl dX10_readNode_387) h
            · replace h := hf c47
              clear ht hf
              refine xr_iload_n 3 dX10_readNode_353 rfl rfl ?_
              refine xr_iconst 1 dX10_readNode_354 (by decide) ?_
              obtain ⟨ht, hf⟩ := h
              refine xr_icmp_ne 362 dX10_readNode_355 (by decide) (fun c46 => ?_) (fun c46 => ?_)
              · replace h := ht c46
                clear ht hf
                refine xr_iconst 0 dX10_readNode_362 (by decide) ?_
                refine zistore dX10_readNode_363 (L1 := [(1, va_rf (some a0)), (1, .int x1), (1, .int x2), (1, .int x3), (1, .int x4), (1, .int x5), (1, .int x6), (2, .long j7), (0, w8), (1, .int x9), (1, .int 0)]) (by decide) rfl ?_
                refine xr_iload dX10_readNode_365 rfl ?_
                obtain ⟨ht, hf⟩ := h
                refine xr_if_eq 386 dX10_readNode_367 (by decide) (fun c39 => ?_) (fun c39 => ?_)
                · replace h := ht c39
                  clear ht hf
                  refine xr_iconst 0 dX10_readNode_386 (by decide) ?_
                  exact xr_retv (by decide) (xRi rfl rfl dX10_readNode_387) h
                · replace h := hf c39
                  clear ht hf
                  refine xr_aload_n 0 dX10_readNode_370 rfl rfl ?_
                  refine xr_iload_n 1 dX10_readNode_371 rfl rfl ?_
                  refine xr_iload_n 2 dX10_readNode_372 rfl rfl ?_
                  refine xr_iload_n 3 dX10_readNode_373 rfl rfl ?_
                  refine xr_iload dX10_readNode_374 rfl ?_
                  refine yr_callV (r := (some a0)) [.int x1, .int x2, .int x3, .int x6] dX10_readNode_376 cv_X10_readNode_240 rfl t15 rfl (Nat.le_trans wt_0 (by decide)) (by decide) (xSp.mono h ?_)
                  clear h
                  intro ρ36 M35 h
                  obtain ⟨v34, rfl, h⟩ := h
                  obtain ⟨ht, hf⟩ := h
                  refine xr_if_eq 386 dX10_readNode_379 (by decide) (fun c38 => ?_) (fun c38 => ?_)
                  · replace h := ht c38
                    clear ht hf
                    refine xr_iconst 0 dX10_readNode_386 (by decide) ?_
                    exact xr_retv (by decide) (xRi rfl rfl dX10_readNode_387) h
                  · replace h := hf c38
                    clear ht hf
                    refine xr_iconst 1 dX10_readNode_382 (by decide) ?_
                    refine xr_goto 387 dX10_readNode_383 (by decide) ?_
                    exact xr_retv (by decide) (xRi rfl rfl dX10_readNode_387) h
              · replace h := hf c46
                clear ht hf
                refine xr_iconst 1 dX10_readNode_358 (by decide) ?_
                refine xr_goto 363 dX10_readNode_359 (by decide) ?_
                refine zistore dX10_readNode_363 (L1 := [(1, va_rf (some a0)), (1, .int x1), (1, .int x2), (1, .int x3), (1, .int x4), (1, .int x5), (1, .int x6), (2, .long j7), (0, w8), (1, .int x9), (1, .int 1)]) (by decide) rfl ?_
                refine xr_iload dX10_readNode_365 rfl ?_
                obtain ⟨ht, hf⟩ := h
                refine xr_if_eq 386 dX10_readNode_367 (by decide) (fun c45 => ?_) (fun c45 => ?_)
                · replace h := ht c45
                  clear ht hf
                  refine xr_iconst 0 dX10_readNode_386 (by decide) ?_
                  exact xr_retv (by decide) (xRi rfl rfl dX10_readNode_387) h
                · replace h := hf c45
                  clear ht hf
                  refine xr_aload_n 0 dX10_readNode_370 rfl rfl ?_
                  refine xr_iload_n 1 dX10_readNode_371 rfl rfl ?_
                  refine xr_iload_n 2 dX10_readNode_372 rfl rfl ?_
                  refine xr_iload_n 3 dX10_readNode_373 rfl rfl ?_
                  refine xr_iload dX10_readNode_374 rfl ?_
                  refine yr_callV (r := (some a0)) [.int x1, .int x2, .int x3, .int x6] dX10_readNode_376 cv_X10_readNode_240 rfl t15 rfl (Nat.le_trans wt_0 (by decide)) (by decide) (xSp.mono h ?_)
                  clear h
                  intro ρ42 M41 h
                  obtain ⟨v40, rfl, h⟩ := h
                  obtain ⟨ht, hf⟩ := h
                  refine xr_if_eq 386 dX10_readNode_379 (by decide) (fun c44 => ?_) (fun c44 => ?_)
                  · replace h := ht c44
                    clear ht hf
                    refine xr_iconst 0 dX10_readNode_386 (by decide) ?_
                    exact xr_retv (by decide) (xRi rfl rfl dX10_readNode_387) h
                  · replace h := hf c44
                    clear ht hf
                    refine xr_iconst 1 dX10_readNode_382 (by decide) ?_
                    refine xr_goto 387 dX10_readNode_383 (by decide) ?_
                    exact xr_retv (by decide) (xRi rfl rfl dX10_readNode_387) h
  · replace h := hf c58
    clear ht hf
    refine xr_aload_n 0 dX10_readNode_303 rfl rfl ?_
    obtain ⟨t52, h⟩ := h
    refine yr_getR dX10_readNode_304 fl_RX10_46 rfl t52 ?_
    refine xr_iload_n 2 dX10_readNode_307 rfl rfl ?_
    refine xr_iload dX10_readNode_308 rfl ?_
    refine xr_iadd dX10_readNode_310 ?_
    obtain ⟨a53, e54, h⟩ := h
    obtain ⟨i55, t56, h⟩ := h
    refine yr_iald dX10_readNode_311 e54 t56 ?_
    obtain ⟨ht, hf⟩ := h
    refine xr_if_eq 317 dX10_readNode_312 (by decide) (fun c57 => ?_) (fun c57 => ?_)
    · replace h := ht c57
      clear ht hf
      refine ziinc (x10 + 1) dX10_readNode_317 rfl rfl (L1 := [(1, va_rf (some a0)), (1, .int x1), (1, .int x2), (1, .int x3), (1, .int x4), (1, .int x5), (1, .int x6), (2, .long j7), (0, w8), (1, .int x9), (1, .int (x10 + 1))]) (by decide) rfl ?_
      refine xr_goto 295 dX10_readNode_320 (by decide) ?_
      exact h
    · replace h := hf c57
      clear ht hf
      refine xr_iconst 0 dX10_readNode_315 (by decide) ?_
      exact xr_retv (by decide) (xRi rfl rfl dX10_readNode_316) h
set_option maxRecDepth 100000 in
set_option maxHeartbeats 4000000 in
theorem bX10_readNode_197 {l : Launch} {g : xG} (a0 : Nat) (x1 : Int32) (x2 : Int32) (x3 : Int32) (x4 : Int32) (x5 : Int32) (x6 : Int32) (j7 : Int64) (w8 : Value) (x9 : Int32) (w10 : Value) {M : xM} {Q : Option Value → xM → Prop} (h : ((12 ≤ x9 → ((3 ≤ x3 → ((¬ x3 = 3 → xWp l g mX10_readNode 0 0 295 [(1, va_rf (some a0)), (1, .int x1), (1, .int x2), (1, .int x3), (1, .int x4), (1, .int x5), (1, .int x6), (2, .long j7), (0, w8), (1, .int 280), (1, .int 280)] [] (0, 0) M Q) ∧ (x3 = 3 → xWp l g mX10_readNode 0 0 295 [(1, va_rf (some a0)), (1, .int x1), (1, .int x2), (1, .int x3), (1, .int x4), (1, .int x5), (1, .int x6), (2, .long j7), (0, w8), (1, .int 328), (1, .int 328)] [] (0, 0) M Q))) ∧ (¬ 3 ≤ x3 → (xSp l g mX10_room 0 0 [.int x3] M (fun ρ4 M3 => ∃ v2 : Int32, ρ4 = some (.int v2) ∧ xWp l g mX10_readNode 0 0 295 [(1, va_rf (some a0)), (1, .int x1), (1, .int x2), (1, .int x3), (1, .int x4), (1, .int x5), (1, .int x6), (2, .long j7), (0, w8), (1, .int (24 + (2 * v2))), (1, .int (24 + (2 * v2)))] [] (0, 0) M3 Q))))) ∧ (¬ 12 ≤ x9 → (xat M a0 7 ∧ (∃ a8, (xR M a0 17) = some a8 ∧ ∃ i10, xai M a8 9 ((x2 + 11) + x9) i10 ∧ (∃ a12, (xR M a0 7) = some a12 ∧ ∃ i14, xai M a12 9 ((12 * x1) + x9) i14 ∧ ((x9 < x4 → xWp l g mX10_readNode 0 0 197 [(1, va_rf (some a0)), (1, .int x1), (1, .int x2), (1, .int x3), (1, .int x4), (1, .int x5), (1, .int x6), (2, .long j7), (0, w8), (1, .int (x9 + 1)), (0, w10)] [] (0, 0) (xsI M a12 i14 (xI M a8 i10)) Q) ∧ (¬ x9 < x4 → (∃ a16, (xR (xsI M a12 i14 (xI M a8 i10)) a0 17) = some a16 ∧ ∃ i18, xai (xsI M a12 i14 (xI M a8 i10)) a16 9 ((x2 + 11) + x9) i18 ∧ (((xI (xsI M a12 i14 (xI M a8 i10)) a16 i18) = 0 → xWp l g mX10_readNode 0 0 197 [(1, va_rf (some a0)), (1, .int x1), (1, .int x2), (1, .int x3), (1, .int x4), (1, .int x5), (1, .int x6), (2, .long j7), (0, w8), (1, .int (x9 + 1)), (0, w10)] [] (0, 0) (xsI M a12 i14 (xI M a8 i10)) Q) ∧ (¬ (xI (xsI M a12 i14 (xI M a8 i10)) a16 i18) = 0 → (Q (some (.int 0)) (xsI M a12 i14 (xI M a8 i10)))))))))))))) : xWp l g mX10_readNode 0 0 197 [(1, va_rf (some a0)), (1, .int x1), (1, .int x2), (1, .int x3), (1, .int x4), (1, .int x5), (1, .int x6), (2, .long j7), (0, w8), (1, .int x9), (0, w10)] [] (0, 0) M Q := by
  refine xr_iload dX10_readNode_197 rfl ?_
  refine xr_bipush 12 dX10_readNode_199 (by decide) ?_
  obtain ⟨ht, hf⟩ := h
  refine xr_icmp_ge 258 dX10_readNode_201 (by decide) (fun c22 => ?_) (fun c22 => ?_)
  · replace h := ht c22
    clear ht hf
    refine xr_iload_n 3 dX10_readNode_258 rfl rfl ?_
    refine xr_iconst 3 dX10_readNode_259 (by decide) ?_
    obtain ⟨ht, hf⟩ := h
    refine xr_icmp_ge 275 dX10_readNode_260 (by decide) (fun c6 => ?_) (fun c6 => ?_)
    · replace h := ht c6
      clear ht hf
      refine xr_iload_n 3 dX10_readNode_275 rfl rfl ?_
      refine xr_iconst 3 dX10_readNode_276 (by decide) ?_
      obtain ⟨ht, hf⟩ := h
      refine xr_icmp_ne 286 dX10_readNode_277 (by decide) (fun c1 => ?_) (fun c1 => ?_)
      · replace h := ht c1
        clear ht hf
        refine xr_sipush 280 dX10_readNode_286 (by decide) ?_
        refine zistore dX10_readNode_289 (L1 := [(1, va_rf (some a0)), (1, .int x1), (1, .int x2), (1, .int x3), (1, .int x4), (1, .int x5), (1, .int x6), (2, .long j7), (0, w8), (1, .int 280), (0, w10)]) (by decide) rfl ?_
        refine xr_iload dX10_readNode_291 rfl ?_
        refine zistore dX10_readNode_293 (L1 := [(1, va_rf (some a0)), (1, .int x1), (1, .int x2), (1, .int x3), (1, .int x4), (1, .int x5), (1, .int x6), (2, .long j7), (0, w8), (1, .int 280), (1, .int 280)]) (by decide) rfl ?_
        exact h
      · replace h := hf c1
        clear ht hf
        refine xr_sipush 328 dX10_readNode_280 (by decide) ?_
        refine xr_goto 289 dX10_readNode_283 (by decide) ?_
        refine zistore dX10_readNode_289 (L1 := [(1, va_rf (some a0)), (1, .int x1), (1, .int x2), (1, .int x3), (1, .int x4), (1, .int x5), (1, .int x6), (2, .long j7), (0, w8), (1, .int 328), (0, w10)]) (by decide) rfl ?_
        refine xr_iload dX10_readNode_291 rfl ?_
        refine zistore dX10_readNode_293 (L1 := [(1, va_rf (some a0)), (1, .int x1), (1, .int x2), (1, .int x3), (1, .int x4), (1, .int x5), (1, .int x6), (2, .long j7), (0, w8), (1, .int 328), (1, .int 328)]) (by decide) rfl ?_
        exact h
    · replace h := hf c6
      clear ht hf
      refine xr_bipush 24 dX10_readNode_263 (by decide) ?_
      refine xr_iconst 2 dX10_readNode_265 (by decide) ?_
      refine xr_iload_n 3 dX10_readNode_266 rfl rfl ?_
      refine xr_callS [.int x3] dX10_readNode_267 cs_X10_readNode_149 rfl (Nat.le_trans (wt_i (wt_i wt_0)) (by decide)) (by decide) (xSp.mono h ?_)
      clear h
      intro ρ4 M3 h
      obtain ⟨v2, rfl, h⟩ := h
      refine xr_imul dX10_readNode_270 ?_
      refine xr_iadd dX10_readNode_271 ?_
      refine xr_goto 289 dX10_readNode_272 (by decide) ?_
      refine zistore dX10_readNode_289 (L1 := [(1, va_rf (some a0)), (1, .int x1), (1, .int x2), (1, .int x3), (1, .int x4), (1, .int x5), (1, .int x6), (2, .long j7), (0, w8), (1, .int (24 + (2 * v2))), (0, w10)]) (by decide) rfl ?_
      refine xr_iload dX10_readNode_291 rfl ?_
      refine zistore dX10_readNode_293 (L1 := [(1, va_rf (some a0)), (1, .int x1), (1, .int x2), (1, .int x3), (1, .int x4), (1, .int x5), (1, .int x6), (2, .long j7), (0, w8), (1, .int (24 + (2 * v2))), (1, .int (24 + (2 * v2)))]) (by decide) rfl ?_
      exact h
  · replace h := hf c22
    clear ht hf
    refine xr_aload_n 0 dX10_readNode_204 rfl rfl ?_
    obtain ⟨t7, h⟩ := h
    refine yr_getR dX10_readNode_205 fl_RX10_23 rfl t7 ?_
    refine xr_bipush 12 dX10_readNode_208 (by decide) ?_
    refine xr_iload_n 1 dX10_readNode_210 rfl rfl ?_
    refine xr_imul dX10_readNode_211 ?_
    refine xr_iload dX10_readNode_212 rfl ?_
    refine xr_iadd dX10_readNode_214 ?_
    refine xr_aload_n 0 dX10_readNode_215 rfl rfl ?_
    refine yr_getR dX10_readNode_216 fl_RX10_46 rfl t7 ?_
    refine xr_iload_n 2 dX10_readNode_219 rfl rfl ?_
    refine xr_bipush 11 dX10_readNode_220 (by decide) ?_
    refine xr_iadd dX10_readNode_222 ?_
    refine xr_iload dX10_readNode_223 rfl ?_
    refine xr_iadd dX10_readNode_225 ?_
    obtain ⟨a8, e9, h⟩ := h
    obtain ⟨i10, t11, h⟩ := h
    refine yr_iald dX10_readNode_226 e9 t11 ?_
    obtain ⟨a12, e13, h⟩ := h
    obtain ⟨i14, t15, h⟩ := h
    refine yr_iast dX10_readNode_227 e13 t15 ?_
    refine xr_iload dX10_readNode_228 rfl ?_
    refine xr_iload dX10_readNode_230 rfl ?_
    obtain ⟨ht, hf⟩ := h
    refine xr_icmp_lt 252 dX10_readNode_232 (by decide) (fun c21 => ?_) (fun c21 => ?_)
    · replace h := ht c21
      clear ht hf
      refine ziinc (x9 + 1) dX10_readNode_252 rfl rfl (L1 := [(1, va_rf (some a0)), (1, .int x1), (1, .int x2), (1, .int x3), (1, .int x4), (1, .int x5), (1, .int x6), (2, .long j7), (0, w8), (1, .int (x9 + 1)), (0, w10)]) (by decide) rfl ?_
      refine xr_goto 197 dX10_readNode_255 (by decide) ?_
      exact h
    · replace h := hf c21
      clear ht hf
      refine xr_aload_n 0 dX10_readNode_235 rfl rfl ?_
      refine yr_getR dX10_readNode_236 fl_RX10_46 rfl t7 ?_
      refine xr_iload_n 2 dX10_readNode_239 rfl rfl ?_
      refine xr_bipush 11 dX10_readNode_240 (by decide) ?_
      refine xr_iadd dX10_readNode_242 ?_
      refine xr_iload dX10_readNode_243 rfl ?_
      refine xr_iadd dX10_readNode_245 ?_
      obtain ⟨a16, e17, h⟩ := h
      obtain ⟨i18, t19, h⟩ := h
      refine yr_iald dX10_readNode_246 e17 t19 ?_
      obtain ⟨ht, hf⟩ := h
      refine xr_if_eq 252 dX10_readNode_247 (by decide) (fun c20 => ?_) (fun c20 => ?_)
      · replace h := ht c20
        clear ht hf
        refine ziinc (x9 + 1) dX10_readNode_252 rfl rfl (L1 := [(1, va_rf (some a0)), (1, .int x1), (1, .int x2), (1, .int x3), (1, .int x4), (1, .int x5), (1, .int x6), (2, .long j7), (0, w8), (1, .int (x9 + 1)), (0, w10)]) (by decide) rfl ?_
        refine xr_goto 197 dX10_readNode_255 (by decide) ?_
        exact h
      · replace h := hf c20
        clear ht hf
        refine xr_iconst 0 dX10_readNode_250 (by decide) ?_
        exact xr_retv (by decide) (xRi rfl rfl dX10_readNode_251) h
set_option maxRecDepth 100000 in
set_option maxHeartbeats 4000000 in
theorem bX10_readNode_120 {l : Launch} {g : xG} (a0 : Nat) (x1 : Int32) (x2 : Int32) (x3 : Int32) (x4 : Int32) (x5 : Int32) (x6 : Int32) (j7 : Int64) (w8 : Value) (w9 : Value) (w10 : Value) {M : xM} {Q : Option Value → xM → Prop} (h : (((lg_cmp j7 (-9223372036854775808)) = 0 → (Q (some (.int 0)) M)) ∧ (¬ (lg_cmp j7 (-9223372036854775808)) = 0 → ((12 < x4 → (Q (some (.int 0)) M)) ∧ (¬ 12 < x4 → (xSp l g mX10_room 0 0 [.int x3] M (fun ρ3 M2 => ∃ v1 : Int32, ρ3 = some (.int v1) ∧ ((x6 ≤ v1 → (xat M2 a0 7 ∧ (∃ a6, (xR M2 a0 11) = some a6 ∧ ∃ i8, xai M2 a6 9 x1 i8 ∧ ((¬ x5 = 1 → (∃ a10, (xR (xsI M2 a6 i8 x3) a0 9) = some a10 ∧ ∃ i12, xai (xsI M2 a6 i8 x3) a10 11 x1 i12 ∧ (∃ a14, (xR (xsI (xsI M2 a6 i8 x3) a10 i12 ((0 : Int32) &&& 1)) a0 10) = some a14 ∧ ∃ i16, xai (xsI (xsI M2 a6 i8 x3) a10 i12 ((0 : Int32) &&& 1)) a14 10 x1 i16 ∧ (∃ a18, (xR (xsJ (xsI (xsI M2 a6 i8 x3) a10 i12 ((0 : Int32) &&& 1)) a14 i16 j7) a0 8) = some a18 ∧ ∃ i20, xai (xsJ (xsI (xsI M2 a6 i8 x3) a10 i12 ((0 : Int32) &&& 1)) a14 i16 j7) a18 9 x1 i20 ∧ (∃ a22, (xR (xsI (xsJ (xsI (xsI M2 a6 i8 x3) a10 i12 ((0 : Int32) &&& 1)) a14 i16 j7) a18 i20 x4) a0 13) = some a22 ∧ ∃ i24, xai (xsI (xsJ (xsI (xsI M2 a6 i8 x3) a10 i12 ((0 : Int32) &&& 1)) a14 i16 j7) a18 i20 x4) a22 11 x1 i24 ∧ xWp l g mX10_readNode 0 0 197 [(1, va_rf (some a0)), (1, .int x1), (1, .int x2), (1, .int x3), (1, .int x4), (1, .int x5), (1, .int x6), (2, .long j7), (0, w8), (1, .int 0), (0, w10)] [] (0, 0) (xsI (xsI (xsJ (xsI (xsI M2 a6 i8 x3) a10 i12 ((0 : Int32) &&& 1)) a14 i16 j7) a18 i20 x4) a22 i24 ((0 : Int32) &&& 1)) Q))))) ∧ (x5 = 1 → (∃ a26, (xR (xsI M2 a6 i8 x3) a0 9) = some a26 ∧ ∃ i28, xai (xsI M2 a6 i8 x3) a26 11 x1 i28 ∧ (∃ a30, (xR (xsI (xsI M2 a6 i8 x3) a26 i28 ((1 : Int32) &&& 1)) a0 10) = some a30 ∧ ∃ i32, xai (xsI (xsI M2 a6 i8 x3) a26 i28 ((1 : Int32) &&& 1)) a30 10 x1 i32 ∧ (∃ a34, (xR (xsJ (xsI (xsI M2 a6 i8 x3) a26 i28 ((1 : Int32) &&& 1)) a30 i32 j7) a0 8) = some a34 ∧ ∃ i36, xai (xsJ (xsI (xsI M2 a6 i8 x3) a26 i28 ((1 : Int32) &&& 1)) a30 i32 j7) a34 9 x1 i36 ∧ (∃ a38, (xR (xsI (xsJ (xsI (xsI M2 a6 i8 x3) a26 i28 ((1 : Int32) &&& 1)) a30 i32 j7) a34 i36 x4) a0 13) = some a38 ∧ ∃ i40, xai (xsI (xsJ (xsI (xsI M2 a6 i8 x3) a26 i28 ((1 : Int32) &&& 1)) a30 i32 j7) a34 i36 x4) a38 11 x1 i40 ∧ xWp l g mX10_readNode 0 0 197 [(1, va_rf (some a0)), (1, .int x1), (1, .int x2), (1, .int x3), (1, .int x4), (1, .int x5), (1, .int x6), (2, .long j7), (0, w8), (1, .int 0), (0, w10)] [] (0, 0) (xsI (xsI (xsJ (xsI (xsI M2 a6 i8 x3) a26 i28 ((1 : Int32) &&& 1)) a30 i32 j7) a34 i36 x4) a38 i40 ((0 : Int32) &&& 1)) Q))))))))) ∧ (¬ x6 ≤ v1 → (Q (some (.int 0)) M2)))))))))) : xWp l g mX10_readNode 0 0 120 [(1, va_rf (some a0)), (1, .int x1), (1, .int x2), (1, .int x3), (1, .int x4), (1, .int x5), (1, .int x6), (2, .long j7), (0, w8), (0, w9), (0, w10)] [] (0, 0) M Q := by
  refine xr_lload dX10_readNode_120 rfl ?_
  refine xr_ldc2 (-9223372036854775808) dX10_readNode_122 ct_RX10_122 ?_
  refine xr_lcmp dX10_readNode_125 ?_
  obtain ⟨ht, hf⟩ := h
  refine xr_if_eq 145 dX10_readNode_126 (by decide) (fun c45 => ?_) (fun c45 => ?_)
  · replace h := ht c45
    clear ht hf
    refine xr_iconst 0 dX10_readNode_145 (by decide) ?_
    exact xr_retv (by decide) (xRi rfl rfl dX10_readNode_146) h
  · replace h := hf c45
    clear ht hf
    refine xr_iload dX10_readNode_129 rfl ?_
    refine xr_bipush 12 dX10_readNode_131 (by decide) ?_
    obtain ⟨ht, hf⟩ := h
    refine xr_icmp_gt 145 dX10_readNode_133 (by decide) (fun c44 => ?_) (fun c44 => ?_)
    · replace h := ht c44
      clear ht hf
      refine xr_iconst 0 dX10_readNode_145 (by decide) ?_
      exact xr_retv (by decide) (xRi rfl rfl dX10_readNode_146) h
    · replace h := hf c44
      clear ht hf
      refine xr_iload dX10_readNode_136 rfl ?_
      refine xr_iload_n 3 dX10_readNode_138 rfl rfl ?_
      refine xr_callS [.int x3] dX10_readNode_139 cs_X10_readNode_149 rfl (Nat.le_trans (wt_i wt_0) (by decide)) (by decide) (xSp.mono h ?_)
      clear h
      intro ρ3 M2 h
      obtain ⟨v1, rfl, h⟩ := h
      obtain ⟨ht, hf⟩ := h
      refine xr_icmp_le 147 dX10_readNode_142 (by decide) (fun c43 => ?_) (fun c43 => ?_)
      · replace h := ht c43
        clear ht hf
        refine xr_aload_n 0 dX10_readNode_147 rfl rfl ?_
        obtain ⟨t5, h⟩ := h
        refine yr_getR dX10_readNode_148 fl_RX10_36 rfl t5 ?_
        refine xr_iload_n 1 dX10_readNode_151 rfl rfl ?_
        refine xr_iload_n 3 dX10_readNode_152 rfl rfl ?_
        obtain ⟨a6, e7, h⟩ := h
        obtain ⟨i8, t9, h⟩ := h
        refine yr_iast dX10_readNode_153 e7 t9 ?_
        refine xr_aload_n 0 dX10_readNode_154 rfl rfl ?_
        refine yr_getR dX10_readNode_155 fl_RX10_29 rfl t5 ?_
        refine xr_iload_n 1 dX10_readNode_158 rfl rfl ?_
        refine xr_iload dX10_readNode_159 rfl ?_
        refine xr_iconst 1 dX10_readNode_161 (by decide) ?_
        obtain ⟨ht, hf⟩ := h
        refine xr_icmp_ne 169 dX10_readNode_162 (by decide) (fun c42 => ?_) (fun c42 => ?_)
        · replace h := ht c42
          clear ht hf
          refine xr_iconst 0 dX10_readNode_169 (by decide) ?_
          obtain ⟨a10, e11, h⟩ := h
          obtain ⟨i12, t13, h⟩ := h
          refine yr_zast dX10_readNode_170 e11 t13 ?_
          refine xr_aload_n 0 dX10_readNode_171 rfl rfl ?_
          refine yr_getR dX10_readNode_172 fl_RX10_32 rfl t5 ?_
          refine xr_iload_n 1 dX10_readNode_175 rfl rfl ?_
          refine xr_lload dX10_readNode_176 rfl ?_
          obtain ⟨a14, e15, h⟩ := h
          obtain ⟨i16, t17, h⟩ := h
          refine yr_last dX10_readNode_178 e15 t17 ?_
          refine xr_aload_n 0 dX10_readNode_179 rfl rfl ?_
          refine yr_getR dX10_readNode_180 fl_RX10_26 rfl t5 ?_
          refine xr_iload_n 1 dX10_readNode_183 rfl rfl ?_
          refine xr_iload dX10_readNode_184 rfl ?_
          obtain ⟨a18, e19, h⟩ := h
          obtain ⟨i20, t21, h⟩ := h
          refine yr_iast dX10_readNode_186 e19 t21 ?_
          refine xr_aload_n 0 dX10_readNode_187 rfl rfl ?_
          refine yr_getR dX10_readNode_188 fl_RX10_42 rfl t5 ?_
          refine xr_iload_n 1 dX10_readNode_191 rfl rfl ?_
          refine xr_iconst 0 dX10_readNode_192 (by decide) ?_
          obtain ⟨a22, e23, h⟩ := h
          obtain ⟨i24, t25, h⟩ := h
          refine yr_zast dX10_readNode_193 e23 t25 ?_
          refine xr_iconst 0 dX10_readNode_194 (by decide) ?_
          refine zistore dX10_readNode_195 (L1 := [(1, va_rf (some a0)), (1, .int x1), (1, .int x2), (1, .int x3), (1, .int x4), (1, .int x5), (1, .int x6), (2, .long j7), (0, w8), (1, .int 0), (0, w10)]) (by decide) rfl ?_
          exact h
        · replace h := hf c42
          clear ht hf
          refine xr_iconst 1 dX10_readNode_165 (by decide) ?_
          refine xr_goto 170 dX10_readNode_166 (by decide) ?_
          obtain ⟨a26, e27, h⟩ := h
          obtain ⟨i28, t29, h⟩ := h
          refine yr_zast dX10_readNode_170 e27 t29 ?_
          refine xr_aload_n 0 dX10_readNode_171 rfl rfl ?_
          refine yr_getR dX10_readNode_172 fl_RX10_32 rfl t5 ?_
          refine xr_iload_n 1 dX10_readNode_175 rfl rfl ?_
          refine xr_lload dX10_readNode_176 rfl ?_
          obtain ⟨a30, e31, h⟩ := h
          obtain ⟨i32, t33, h⟩ := h
          refine yr_last dX10_readNode_178 e31 t33 ?_
          refine xr_aload_n 0 dX10_readNode_179 rfl rfl ?_
          refine yr_getR dX10_readNode_180 fl_RX10_26 rfl t5 ?_
          refine xr_iload_n 1 dX10_readNode_183 rfl rfl ?_
          refine xr_iload dX10_readNode_184 rfl ?_
          obtain ⟨a34, e35, h⟩ := h
          obtain ⟨i36, t37, h⟩ := h
          refine yr_iast dX10_readNode_186 e35 t37 ?_
          refine xr_aload_n 0 dX10_readNode_187 rfl rfl ?_
          refine yr_getR dX10_readNode_188 fl_RX10_42 rfl t5 ?_
          refine xr_iload_n 1 dX10_readNode_191 rfl rfl ?_
          refine xr_iconst 0 dX10_readNode_192 (by decide) ?_
          obtain ⟨a38, e39, h⟩ := h
          obtain ⟨i40, t41, h⟩ := h
          refine yr_zast dX10_readNode_193 e39 t41 ?_
          refine xr_iconst 0 dX10_readNode_194 (by decide) ?_
          refine zistore dX10_readNode_195 (L1 := [(1, va_rf (some a0)), (1, .int x1), (1, .int x2), (1, .int x3), (1, .int x4), (1, .int x5), (1, .int x6), (2, .long j7), (0, w8), (1, .int 0), (0, w10)]) (by decide) rfl ?_
          exact h
      · replace h := hf c43
        clear ht hf
        refine xr_iconst 0 dX10_readNode_145 (by decide) ?_
        exact xr_retv (by decide) (xRi rfl rfl dX10_readNode_146) h
set_option maxRecDepth 100000 in
set_option maxHeartbeats 4000000 in
theorem bX10_readNode_0 {l : Launch} {g : xG} (a0 : Nat) (x1 : Int32) {M : xM} {Q : Option Value → xM → Prop} (h : (xat M a0 7 ∧ (∃ a2, (xR M a0 12) = some a2 ∧ ∃ i4, xai M a2 9 x1 i4 ∧ (∃ a6, (xR M a0 17) = some a6 ∧ ∃ i8, xai M a6 9 (512 * (xI M a2 i4)) i8 ∧ (∃ i10, xai M a6 9 ((512 * (xI M a2 i4)) + 10) i10 ∧ (∃ i12, xai M a6 9 ((512 * (xI M a2 i4)) + 1) i12 ∧ (∃ i14, xai M a6 9 ((512 * (xI M a2 i4)) + 23) i14 ∧ (xSp l g mX10_numberAt 0 0 [va_rf (xR M a0 17), .int ((512 * (xI M a2 i4)) + 2), .int 8] M (fun ρ18 M17 => ∃ v16 : Int64, ρ18 = some (.long v16) ∧ (xat M17 a0 7 ∧ (xSp l g mX10_numberAt 0 0 [va_rf (xR M17 a0 17), .int ((512 * (xI M a2 i4)) + 504), .int 8] M17 (fun ρ23 M22 => ∃ v21 : Int64, ρ23 = some (.long v21) ∧ (xat M22 a0 7 ∧ (xSp l g mX10_sum 0 0 [va_rf (xR M22 a0 17), .int (512 * (xI M a2 i4))] M22 (fun ρ28 M27 => ∃ v26 : Int64, ρ28 = some (.long v26) ∧ ((¬ (lg_cmp v21 v26) = 0 → (Q (some (.int 0)) M27)) ∧ ((lg_cmp v21 v26) = 0 → (xSp l g mX10_in 0 0 [.long (xI M a6 i8).toInt64, .long 1, .long 4] M27 (fun ρ32 M31 => ∃ v30 : Int32, ρ32 = some (.int v30) ∧ ((v30 = 0 → (Q (some (.int 0)) M31)) ∧ (¬ v30 = 0 → ((1 < (xI M a6 i12) → (Q (some (.int 0)) M31)) ∧ (¬ 1 < (xI M a6 i12) → ((¬ (xI M a6 i12) = 0 → xWp l g mX10_readNode 0 0 120 [(1, va_rf (some a0)), (1, .int x1), (1, .int (512 * (xI M a2 i4))), (1, .int (xI M a6 i8)), (1, .int (xI M a6 i10)), (1, .int (xI M a6 i12)), (1, .int (xI M a6 i14)), (2, .long v16), (0, (.long v16)), (0, .null), (0, .null)] [] (0, 0) M31 Q) ∧ ((xI M a6 i12) = 0 → ((¬ (lg_cmp v16 0) = 0 → (Q (some (.int 0)) M31)) ∧ ((lg_cmp v16 0) = 0 → xWp l g mX10_readNode 0 0 120 [(1, va_rf (some a0)), (1, .int x1), (1, .int (512 * (xI M a2 i4))), (1, .int (xI M a6 i8)), (1, .int (xI M a6 i10)), (1, .int (xI M a6 i12)), (1, .int (xI M a6 i14)), (2, .long v16), (0, (.long v16)), (0, .null), (0, .null)] [] (0, 0) M31 Q))))))))))))))))))))))))))) : xWp l g mX10_readNode 0 0 0 [(1, va_rf (some a0)), (1, .int x1), (0, .null), (0, .null), (0, .null), (0, .null), (0, .null), (0, .null), (0, .null), (0, .null), (0, .null)] [] (0, 0) M Q := by
  refine xr_sipush 512 dX10_readNode_0 (by decide) ?_
  refine xr_aload_n 0 dX10_readNode_3 rfl rfl ?_
  obtain ⟨t1, h⟩ := h
  refine yr_getR dX10_readNode_4 fl_RX10_39 rfl t1 ?_
  refine xr_iload_n 1 dX10_readNode_7 rfl rfl ?_
  obtain ⟨a2, e3, h⟩ := h
  obtain ⟨i4, t5, h⟩ := h
  refine yr_iald dX10_readNode_8 e3 t5 ?_
  refine xr_imul dX10_readNode_9 ?_
  refine zistore_n 2 dX10_readNode_10 rfl (L1 := [(1, va_rf (some a0)), (1, .int x1), (1, .int (512 * (xI M a2 i4))), (0, .null), (0, .null), (0, .null), (0, .null), (0, .null), (0, .null), (0, .null), (0, .null)]) (by decide) rfl ?_
  refine xr_aload_n 0 dX10_readNode_11 rfl rfl ?_
  refine yr_getR dX10_readNode_12 fl_RX10_46 rfl t1 ?_
  refine xr_iload_n 2 dX10_readNode_15 rfl rfl ?_
  obtain ⟨a6, e7, h⟩ := h
  obtain ⟨i8, t9, h⟩ := h
  refine yr_iald dX10_readNode_16 e7 t9 ?_
  refine zistore_n 3 dX10_readNode_17 rfl (L1 := [(1, va_rf (some a0)), (1, .int x1), (1, .int (512 * (xI M a2 i4))), (1, .int (xI M a6 i8)), (0, .null), (0, .null), (0, .null), (0, .null), (0, .null), (0, .null), (0, .null)]) (by decide) rfl ?_
  refine xr_aload_n 0 dX10_readNode_18 rfl rfl ?_
  refine yr_getR dX10_readNode_19 fl_RX10_46 rfl t1 ?_
  refine xr_iload_n 2 dX10_readNode_22 rfl rfl ?_
  refine xr_bipush 10 dX10_readNode_23 (by decide) ?_
  refine xr_iadd dX10_readNode_25 ?_
  obtain ⟨i10, t11, h⟩ := h
  refine yr_iald dX10_readNode_26 e7 t11 ?_
  refine zistore dX10_readNode_27 (L1 := [(1, va_rf (some a0)), (1, .int x1), (1, .int (512 * (xI M a2 i4))), (1, .int (xI M a6 i8)), (1, .int (xI M a6 i10)), (0, .null), (0, .null), (0, .null), (0, .null), (0, .null), (0, .null)]) (by decide) rfl ?_
  refine xr_aload_n 0 dX10_readNode_29 rfl rfl ?_
  refine yr_getR dX10_readNode_30 fl_RX10_46 rfl t1 ?_
  refine xr_iload_n 2 dX10_readNode_33 rfl rfl ?_
  refine xr_iconst 1 dX10_readNode_34 (by decide) ?_
  refine xr_iadd dX10_readNode_35 ?_
  obtain ⟨i12, t13, h⟩ := h
  refine yr_iald dX10_readNode_36 e7 t13 ?_
  refine zistore dX10_readNode_37 (L1 := [(1, va_rf (some a0)), (1, .int x1), (1, .int (512 * (xI M a2 i4))), (1, .int (xI M a6 i8)), (1, .int (xI M a6 i10)), (1, .int (xI M a6 i12)), (0, .null), (0, .null), (0, .null), (0, .null), (0, .null)]) (by decide) rfl ?_
  refine xr_aload_n 0 dX10_readNode_39 rfl rfl ?_
  refine yr_getR dX10_readNode_40 fl_RX10_46 rfl t1 ?_
  refine xr_iload_n 2 dX10_readNode_43 rfl rfl ?_
  refine xr_bipush 23 dX10_readNode_44 (by decide) ?_
  refine xr_iadd dX10_readNode_46 ?_
  obtain ⟨i14, t15, h⟩ := h
  refine yr_iald dX10_readNode_47 e7 t15 ?_
  refine zistore dX10_readNode_48 (L1 := [(1, va_rf (some a0)), (1, .int x1), (1, .int (512 * (xI M a2 i4))), (1, .int (xI M a6 i8)), (1, .int (xI M a6 i10)), (1, .int (xI M a6 i12)), (1, .int (xI M a6 i14)), (0, .null), (0, .null), (0, .null), (0, .null)]) (by decide) rfl ?_
  refine xr_aload_n 0 dX10_readNode_50 rfl rfl ?_
  refine yr_getR dX10_readNode_51 fl_RX10_46 rfl t1 ?_
  refine xr_iload_n 2 dX10_readNode_54 rfl rfl ?_
  refine xr_iconst 2 dX10_readNode_55 (by decide) ?_
  refine xr_iadd dX10_readNode_56 ?_
  refine xr_bipush 8 dX10_readNode_57 (by decide) ?_
  refine xr_callS [va_rf (xR M a0 17), .int ((512 * (xI M a2 i4)) + 2), .int 8] dX10_readNode_59 cs_X10_readNode_232 rfl (Nat.le_trans wt_0 (by decide)) (by decide) (xSp.mono h ?_)
  clear h
  intro ρ18 M17 h
  obtain ⟨v16, rfl, h⟩ := h
  refine zlstore dX10_readNode_62 (L1 := [(1, va_rf (some a0)), (1, .int x1), (1, .int (512 * (xI M a2 i4))), (1, .int (xI M a6 i8)), (1, .int (xI M a6 i10)), (1, .int (xI M a6 i12)), (1, .int (xI M a6 i14)), (2, .long v16), (0, (.long v16)), (0, .null), (0, .null)]) (by decide) rfl ?_
  refine xr_aload_n 0 dX10_readNode_64 rfl rfl ?_
  obtain ⟨t20, h⟩ := h
  refine yr_getR dX10_readNode_65 fl_RX10_46 rfl t20 ?_
  refine xr_iload_n 2 dX10_readNode_68 rfl rfl ?_
  refine xr_sipush 504 dX10_readNode_69 (by decide) ?_
  refine xr_iadd dX10_readNode_72 ?_
  refine xr_bipush 8 dX10_readNode_73 (by decide) ?_
  refine xr_callS [va_rf (xR M17 a0 17), .int ((512 * (xI M a2 i4)) + 504), .int 8] dX10_readNode_75 cs_X10_readNode_232 rfl (Nat.le_trans wt_0 (by decide)) (by decide) (xSp.mono h ?_)
  clear h
  intro ρ23 M22 h
  obtain ⟨v21, rfl, h⟩ := h
  refine xr_aload_n 0 dX10_readNode_78 rfl rfl ?_
  obtain ⟨t25, h⟩ := h
  refine yr_getR dX10_readNode_79 fl_RX10_46 rfl t25 ?_
  refine xr_iload_n 2 dX10_readNode_82 rfl rfl ?_
  refine xr_callS [va_rf (xR M22 a0 17), .int (512 * (xI M a2 i4))] dX10_readNode_83 cs_X10_readNode_182 rfl (Nat.le_trans (wt_j wt_0) (by decide)) (by decide) (xSp.mono h ?_)
  clear h
  intro ρ28 M27 h
  obtain ⟨v26, rfl, h⟩ := h
  refine xr_lcmp dX10_readNode_86 ?_
  obtain ⟨ht, hf⟩ := h
  refine xr_if_ne 145 dX10_readNode_87 (by decide) (fun c38 => ?_) (fun c38 => ?_)
  · replace h := ht c38
    clear ht hf
    refine xr_iconst 0 dX10_readNode_145 (by decide) ?_
    exact xr_retv (by decide) (xRi rfl rfl dX10_readNode_146) h
  · replace h := hf c38
    clear ht hf
    refine xr_iload_n 3 dX10_readNode_90 rfl rfl ?_
    refine xr_i2l dX10_readNode_91 ?_
    refine xr_lconst 1 dX10_readNode_92 (by decide) ?_
    refine xr_ldc2 4 dX10_readNode_93 ct_RX10_238 ?_
    refine xr_callS [.long (xI M a6 i8).toInt64, .long 1, .long 4] dX10_readNode_96 cs_X10_readNode_87 rfl (Nat.le_trans wt_0 (by decide)) (by decide) (xSp.mono h ?_)
    clear h
    intro ρ32 M31 h
    obtain ⟨v30, rfl, h⟩ := h
    obtain ⟨ht, hf⟩ := h
    refine xr_if_eq 145 dX10_readNode_99 (by decide) (fun c37 => ?_) (fun c37 => ?_)
    · replace h := ht c37
      clear ht hf
      refine xr_iconst 0 dX10_readNode_145 (by decide) ?_
      exact xr_retv (by decide) (xRi rfl rfl dX10_readNode_146) h
    · replace h := hf c37
      clear ht hf
      refine xr_iload dX10_readNode_102 rfl ?_
      refine xr_iconst 1 dX10_readNode_104 (by decide) ?_
      obtain ⟨ht, hf⟩ := h
      refine xr_icmp_gt 145 dX10_readNode_105 (by decide) (fun c36 => ?_) (fun c36 => ?_)
      · replace h := ht c36
        clear ht hf
        refine xr_iconst 0 dX10_readNode_145 (by decide) ?_
        exact xr_retv (by decide) (xRi rfl rfl dX10_readNode_146) h
      · replace h := hf c36
        clear ht hf
        refine xr_iload dX10_readNode_108 rfl ?_
        obtain ⟨ht, hf⟩ := h
        refine xr_if_ne 120 dX10_readNode_110 (by decide) (fun c35 => ?_) (fun c35 => ?_)
        · replace h := ht c35
          clear ht hf
          exact h
        · replace h := hf c35
          clear ht hf
          refine xr_lload dX10_readNode_113 rfl ?_
          refine xr_lconst 0 dX10_readNode_115 (by decide) ?_
          refine xr_lcmp dX10_readNode_116 ?_
          obtain ⟨ht, hf⟩ := h
          refine xr_if_ne 145 dX10_readNode_117 (by decide) (fun c34 => ?_) (fun c34 => ?_)
          · replace h := ht c34
            clear ht hf
            refine xr_iconst 0 dX10_readNode_145 (by decide) ?_
            exact xr_retv (by decide) (xRi rfl rfl dX10_readNode_146) h
          · replace h := hf c34
            clear ht hf
            exact h
theorem dX10_readChildren_0 : decode cX10_readChildren 0 = .ok (.iconst 0, 1) := by decide +kernel
theorem dX10_readChildren_1 : decode cX10_readChildren 1 = .ok (.istore 5, 2) := by decide +kernel
theorem dX10_readChildren_3 : decode cX10_readChildren 3 = .ok (.iconst (-1), 1) := by decide +kernel
theorem dX10_readChildren_4 : decode cX10_readChildren 4 = .ok (.istore 6, 2) := by decide +kernel
theorem dX10_readChildren_6 : decode cX10_readChildren 6 = .ok (.iload_n 3, 1) := by decide +kernel
theorem dX10_readChildren_7 : decode cX10_readChildren 7 = .ok (.iconst 3, 1) := by decide +kernel
theorem dX10_readChildren_8 : decode cX10_readChildren 8 = .ok (.if_icmp .ge 10, 3) := by decide +kernel
theorem dX10_readChildren_11 : decode cX10_readChildren 11 = .ok (.iload_n 3, 1) := by decide +kernel
theorem dX10_readChildren_12 : decode cX10_readChildren 12 = .ok (.invokestatic 149, 3) := by decide +kernel
theorem dX10_readChildren_15 : decode cX10_readChildren 15 = .ok (.goto 6, 3) := by decide +kernel
theorem dX10_readChildren_18 : decode cX10_readChildren 18 = .ok (.sipush 256, 3) := by decide +kernel
theorem dX10_readChildren_21 : decode cX10_readChildren 21 = .ok (.istore 7, 2) := by decide +kernel
theorem dX10_readChildren_23 : decode cX10_readChildren 23 = .ok (.iconst 0, 1) := by decide +kernel
theorem dX10_readChildren_24 : decode cX10_readChildren 24 = .ok (.istore 8, 2) := by decide +kernel
theorem dX10_readChildren_26 : decode cX10_readChildren 26 = .ok (.iload 8, 2) := by decide +kernel
theorem dX10_readChildren_28 : decode cX10_readChildren 28 = .ok (.iload 7, 2) := by decide +kernel
theorem dX10_readChildren_30 : decode cX10_readChildren 30 = .ok (.if_icmp .ge 230, 3) := by decide +kernel
theorem dX10_readChildren_33 : decode cX10_readChildren 33 = .ok (.iload_n 3, 1) := by decide +kernel
theorem dX10_readChildren_34 : decode cX10_readChildren 34 = .ok (.iconst 3, 1) := by decide +kernel
theorem dX10_readChildren_35 : decode cX10_readChildren 35 = .ok (.if_icmp .ge 18, 3) := by decide +kernel
theorem dX10_readChildren_38 : decode cX10_readChildren 38 = .ok (.aload_n 0, 1) := by decide +kernel
theorem dX10_readChildren_39 : decode cX10_readChildren 39 = .ok (.getfield 46, 3) := by decide +kernel
theorem dX10_readChildren_42 : decode cX10_readChildren 42 = .ok (.iload_n 2, 1) := by decide +kernel
theorem dX10_readChildren_43 : decode cX10_readChildren 43 = .ok (.bipush 24, 2) := by decide +kernel
theorem dX10_readChildren_45 : decode cX10_readChildren 45 = .ok (.iadd, 1) := by decide +kernel
theorem dX10_readChildren_46 : decode cX10_readChildren 46 = .ok (.iload 8, 2) := by decide +kernel
theorem dX10_readChildren_48 : decode cX10_readChildren 48 = .ok (.iadd, 1) := by decide +kernel
theorem dX10_readChildren_49 : decode cX10_readChildren 49 = .ok (.iaload, 1) := by decide +kernel
theorem dX10_readChildren_50 : decode cX10_readChildren 50 = .ok (.goto 5, 3) := by decide +kernel
theorem dX10_readChildren_53 : decode cX10_readChildren 53 = .ok (.iload 8, 2) := by decide +kernel
theorem dX10_readChildren_55 : decode cX10_readChildren 55 = .ok (.istore 9, 2) := by decide +kernel
theorem dX10_readChildren_57 : decode cX10_readChildren 57 = .ok (.iload_n 3, 1) := by decide +kernel
theorem dX10_readChildren_58 : decode cX10_readChildren 58 = .ok (.iconst 3, 1) := by decide +kernel
theorem dX10_readChildren_59 : decode cX10_readChildren 59 = .ok (.if_icmp .ge 21, 3) := by decide +kernel
theorem dX10_readChildren_62 : decode cX10_readChildren 62 = .ok (.aload_n 0, 1) := by decide +kernel
theorem dX10_readChildren_63 : decode cX10_readChildren 63 = .ok (.getfield 46, 3) := by decide +kernel
theorem dX10_readChildren_66 : decode cX10_readChildren 66 = .ok (.iload_n 2, 1) := by decide +kernel
theorem dX10_readChildren_67 : decode cX10_readChildren 67 = .ok (.bipush 24, 2) := by decide +kernel
theorem dX10_readChildren_69 : decode cX10_readChildren 69 = .ok (.iadd, 1) := by decide +kernel
theorem dX10_readChildren_70 : decode cX10_readChildren 70 = .ok (.iload 7, 2) := by decide +kernel
theorem dX10_readChildren_72 : decode cX10_readChildren 72 = .ok (.iadd, 1) := by decide +kernel
theorem dX10_readChildren_73 : decode cX10_readChildren 73 = .ok (.iload 8, 2) := by decide +kernel
theorem dX10_readChildren_75 : decode cX10_readChildren 75 = .ok (.iadd, 1) := by decide +kernel
theorem dX10_readChildren_76 : decode cX10_readChildren 76 = .ok (.iaload, 1) := by decide +kernel
theorem dX10_readChildren_77 : decode cX10_readChildren 77 = .ok (.goto 15, 3) := by decide +kernel
theorem dX10_readChildren_80 : decode cX10_readChildren 80 = .ok (.aload_n 0, 1) := by decide +kernel
theorem dX10_readChildren_81 : decode cX10_readChildren 81 = .ok (.getfield 46, 3) := by decide +kernel
theorem dX10_readChildren_84 : decode cX10_readChildren 84 = .ok (.iload_n 2, 1) := by decide +kernel
theorem dX10_readChildren_85 : decode cX10_readChildren 85 = .ok (.bipush 24, 2) := by decide +kernel
theorem dX10_readChildren_87 : decode cX10_readChildren 87 = .ok (.iadd, 1) := by decide +kernel
theorem dX10_readChildren_88 : decode cX10_readChildren 88 = .ok (.iload 8, 2) := by decide +kernel
theorem dX10_readChildren_90 : decode cX10_readChildren 90 = .ok (.iadd, 1) := by decide +kernel
theorem dX10_readChildren_91 : decode cX10_readChildren 91 = .ok (.iaload, 1) := by decide +kernel
theorem dX10_readChildren_92 : decode cX10_readChildren 92 = .ok (.istore 10, 2) := by decide +kernel
theorem dX10_readChildren_94 : decode cX10_readChildren 94 = .ok (.iload_n 3, 1) := by decide +kernel
theorem dX10_readChildren_95 : decode cX10_readChildren 95 = .ok (.iconst 3, 1) := by decide +kernel
theorem dX10_readChildren_96 : decode cX10_readChildren 96 = .ok (.if_icmp .ge 22, 3) := by decide +kernel
theorem dX10_readChildren_99 : decode cX10_readChildren 99 = .ok (.iload 8, 2) := by decide +kernel
theorem dX10_readChildren_101 : decode cX10_readChildren 101 = .ok (.iload 4, 2) := by decide +kernel
theorem dX10_readChildren_103 : decode cX10_readChildren 103 = .ok (.if_icmp .lt 15, 3) := by decide +kernel
theorem dX10_readChildren_106 : decode cX10_readChildren 106 = .ok (.iload 9, 2) := by decide +kernel
theorem dX10_readChildren_108 : decode cX10_readChildren 108 = .ok (.ifCond .ne 8, 3) := by decide +kernel
theorem dX10_readChildren_111 : decode cX10_readChildren 111 = .ok (.iload 10, 2) := by decide +kernel
theorem dX10_readChildren_113 : decode cX10_readChildren 113 = .ok (.ifCond .eq 141, 3) := by decide +kernel
theorem dX10_readChildren_116 : decode cX10_readChildren 116 = .ok (.iconst 0, 1) := by decide +kernel
theorem dX10_readChildren_117 : decode cX10_readChildren 117 = .ok (.ireturn, 1) := by decide +kernel
theorem dX10_readChildren_118 : decode cX10_readChildren 118 = .ok (.iload_n 3, 1) := by decide +kernel
theorem dX10_readChildren_119 : decode cX10_readChildren 119 = .ok (.iconst 3, 1) := by decide +kernel
theorem dX10_readChildren_120 : decode cX10_readChildren 120 = .ok (.if_icmp .ne 44, 3) := by decide +kernel
theorem dX10_readChildren_123 : decode cX10_readChildren 123 = .ok (.iload 10, 2) := by decide +kernel
theorem dX10_readChildren_125 : decode cX10_readChildren 125 = .ok (.ifCond .le 39, 3) := by decide +kernel
theorem dX10_readChildren_128 : decode cX10_readChildren 128 = .ok (.iload 10, 2) := by decide +kernel
theorem dX10_readChildren_130 : decode cX10_readChildren 130 = .ok (.iload 5, 2) := by decide +kernel
theorem dX10_readChildren_132 : decode cX10_readChildren 132 = .ok (.iconst 1, 1) := by decide +kernel
theorem dX10_readChildren_133 : decode cX10_readChildren 133 = .ok (.iadd, 1) := by decide +kernel
theorem dX10_readChildren_134 : decode cX10_readChildren 134 = .ok (.if_icmp .ne 10, 3) := by decide +kernel
theorem dX10_readChildren_137 : decode cX10_readChildren 137 = .ok (.iload 10, 2) := by decide +kernel
theorem dX10_readChildren_139 : decode cX10_readChildren 139 = .ok (.bipush 48, 2) := by decide +kernel
theorem dX10_readChildren_141 : decode cX10_readChildren 141 = .ok (.if_icmp .le 5, 3) := by decide +kernel
theorem dX10_readChildren_144 : decode cX10_readChildren 144 = .ok (.iconst 0, 1) := by decide +kernel
theorem dX10_readChildren_145 : decode cX10_readChildren 145 = .ok (.ireturn, 1) := by decide +kernel
theorem dX10_readChildren_146 : decode cX10_readChildren 146 = .ok (.aload_n 0, 1) := by decide +kernel
theorem dX10_readChildren_147 : decode cX10_readChildren 147 = .ok (.getfield 46, 3) := by decide +kernel
theorem dX10_readChildren_150 : decode cX10_readChildren 150 = .ok (.iload_n 2, 1) := by decide +kernel
theorem dX10_readChildren_151 : decode cX10_readChildren 151 = .ok (.sipush 279, 3) := by decide +kernel
theorem dX10_readChildren_154 : decode cX10_readChildren 154 = .ok (.iadd, 1) := by decide +kernel
theorem dX10_readChildren_155 : decode cX10_readChildren 155 = .ok (.iload 10, 2) := by decide +kernel
theorem dX10_readChildren_157 : decode cX10_readChildren 157 = .ok (.iadd, 1) := by decide +kernel
theorem dX10_readChildren_158 : decode cX10_readChildren 158 = .ok (.iaload, 1) := by decide +kernel
theorem dX10_readChildren_159 : decode cX10_readChildren 159 = .ok (.istore 10, 2) := by decide +kernel
theorem dX10_readChildren_161 : decode cX10_readChildren 161 = .ok (.goto 16, 3) := by decide +kernel
theorem dX10_readChildren_164 : decode cX10_readChildren 164 = .ok (.iload_n 3, 1) := by decide +kernel
theorem dX10_readChildren_165 : decode cX10_readChildren 165 = .ok (.iconst 2, 1) := by decide +kernel
theorem dX10_readChildren_166 : decode cX10_readChildren 166 = .ok (.if_icmp .le 11, 3) := by decide +kernel
theorem dX10_readChildren_169 : decode cX10_readChildren 169 = .ok (.iload 10, 2) := by decide +kernel
theorem dX10_readChildren_171 : decode cX10_readChildren 171 = .ok (.ifCond .ne 6, 3) := by decide +kernel
theorem dX10_readChildren_174 : decode cX10_readChildren 174 = .ok (.goto 80, 3) := by decide +kernel
theorem dX10_readChildren_177 : decode cX10_readChildren 177 = .ok (.iload 9, 2) := by decide +kernel
theorem dX10_readChildren_179 : decode cX10_readChildren 179 = .ok (.iload 6, 2) := by decide +kernel
theorem dX10_readChildren_181 : decode cX10_readChildren 181 = .ok (.if_icmp .le 26, 3) := by decide +kernel
theorem dX10_readChildren_184 : decode cX10_readChildren 184 = .ok (.iload 10, 2) := by decide +kernel
theorem dX10_readChildren_186 : decode cX10_readChildren 186 = .ok (.iconst 2, 1) := by decide +kernel
theorem dX10_readChildren_187 : decode cX10_readChildren 187 = .ok (.if_icmp .lt 20, 3) := by decide +kernel
theorem dX10_readChildren_190 : decode cX10_readChildren 190 = .ok (.aload_n 0, 1) := by decide +kernel
theorem dX10_readChildren_191 : decode cX10_readChildren 191 = .ok (.getfield 59, 3) := by decide +kernel
theorem dX10_readChildren_194 : decode cX10_readChildren 194 = .ok (.iload 10, 2) := by decide +kernel
theorem dX10_readChildren_196 : decode cX10_readChildren 196 = .ok (.baload, 1) := by decide +kernel
theorem dX10_readChildren_197 : decode cX10_readChildren 197 = .ok (.ifCond .ne 10, 3) := by decide +kernel
theorem dX10_readChildren_200 : decode cX10_readChildren 200 = .ok (.iload 5, 2) := by decide +kernel
theorem dX10_readChildren_202 : decode cX10_readChildren 202 = .ok (.iload 4, 2) := by decide +kernel
theorem dX10_readChildren_204 : decode cX10_readChildren 204 = .ok (.if_icmp .ne 5, 3) := by decide +kernel
theorem dX10_readChildren_207 : decode cX10_readChildren 207 = .ok (.iconst 0, 1) := by decide +kernel
theorem dX10_readChildren_208 : decode cX10_readChildren 208 = .ok (.ireturn, 1) := by decide +kernel
theorem dX10_readChildren_209 : decode cX10_readChildren 209 = .ok (.aload_n 0, 1) := by decide +kernel
theorem dX10_readChildren_210 : decode cX10_readChildren 210 = .ok (.invokevirtual 142, 3) := by decide +kernel
theorem dX10_readChildren_213 : decode cX10_readChildren 213 = .ok (.sipush 200, 3) := by decide +kernel
theorem dX10_readChildren_216 : decode cX10_readChildren 216 = .ok (.if_icmp .ne 5, 3) := by decide +kernel
theorem dX10_readChildren_219 : decode cX10_readChildren 219 = .ok (.iconst 0, 1) := by decide +kernel
theorem dX10_readChildren_220 : decode cX10_readChildren 220 = .ok (.ireturn, 1) := by decide +kernel
theorem dX10_readChildren_221 : decode cX10_readChildren 221 = .ok (.aload_n 0, 1) := by decide +kernel
theorem dX10_readChildren_222 : decode cX10_readChildren 222 = .ok (.getfield 59, 3) := by decide +kernel
theorem dX10_readChildren_225 : decode cX10_readChildren 225 = .ok (.iload 10, 2) := by decide +kernel
theorem dX10_readChildren_227 : decode cX10_readChildren 227 = .ok (.iconst 1, 1) := by decide +kernel
theorem dX10_readChildren_228 : decode cX10_readChildren 228 = .ok (.bastore, 1) := by decide +kernel
theorem dX10_readChildren_229 : decode cX10_readChildren 229 = .ok (.iload 9, 2) := by decide +kernel
theorem dX10_readChildren_231 : decode cX10_readChildren 231 = .ok (.istore 6, 2) := by decide +kernel
theorem dX10_readChildren_233 : decode cX10_readChildren 233 = .ok (.iinc 5 1, 3) := by decide +kernel
theorem dX10_readChildren_236 : decode cX10_readChildren 236 = .ok (.aload_n 0, 1) := by decide +kernel
theorem dX10_readChildren_237 : decode cX10_readChildren 237 = .ok (.iload_n 1, 1) := by decide +kernel
theorem dX10_readChildren_238 : decode cX10_readChildren 238 = .ok (.iload 9, 2) := by decide +kernel
theorem dX10_readChildren_240 : decode cX10_readChildren 240 = .ok (.invokevirtual 71, 3) := by decide +kernel
theorem dX10_readChildren_243 : decode cX10_readChildren 243 = .ok (.istore 11, 2) := by decide +kernel
theorem dX10_readChildren_245 : decode cX10_readChildren 245 = .ok (.aload_n 0, 1) := by decide +kernel
theorem dX10_readChildren_246 : decode cX10_readChildren 246 = .ok (.getfield 39, 3) := by decide +kernel
theorem dX10_readChildren_249 : decode cX10_readChildren 249 = .ok (.iload 11, 2) := by decide +kernel
theorem dX10_readChildren_251 : decode cX10_readChildren 251 = .ok (.iload 10, 2) := by decide +kernel
theorem dX10_readChildren_253 : decode cX10_readChildren 253 = .ok (.iastore, 1) := by decide +kernel
theorem dX10_readChildren_254 : decode cX10_readChildren 254 = .ok (.iinc 8 1, 3) := by decide +kernel
theorem dX10_readChildren_257 : decode cX10_readChildren 257 = .ok (.goto (-231), 3) := by decide +kernel
theorem dX10_readChildren_260 : decode cX10_readChildren 260 = .ok (.iload 5, 2) := by decide +kernel
theorem dX10_readChildren_262 : decode cX10_readChildren 262 = .ok (.istore 8, 2) := by decide +kernel
theorem dX10_readChildren_264 : decode cX10_readChildren 264 = .ok (.iload 8, 2) := by decide +kernel
theorem dX10_readChildren_266 : decode cX10_readChildren 266 = .ok (.bipush 48, 2) := by decide +kernel
theorem dX10_readChildren_268 : decode cX10_readChildren 268 = .ok (.if_icmp .ge 32, 3) := by decide +kernel
theorem dX10_readChildren_271 : decode cX10_readChildren 271 = .ok (.iload_n 3, 1) := by decide +kernel
theorem dX10_readChildren_272 : decode cX10_readChildren 272 = .ok (.iconst 3, 1) := by decide +kernel
theorem dX10_readChildren_273 : decode cX10_readChildren 273 = .ok (.if_icmp .ne 27, 3) := by decide +kernel
theorem dX10_readChildren_276 : decode cX10_readChildren 276 = .ok (.aload_n 0, 1) := by decide +kernel
theorem dX10_readChildren_277 : decode cX10_readChildren 277 = .ok (.getfield 46, 3) := by decide +kernel
theorem dX10_readChildren_280 : decode cX10_readChildren 280 = .ok (.iload_n 2, 1) := by decide +kernel
theorem dX10_readChildren_281 : decode cX10_readChildren 281 = .ok (.sipush 280, 3) := by decide +kernel
theorem dX10_readChildren_284 : decode cX10_readChildren 284 = .ok (.iadd, 1) := by decide +kernel
theorem dX10_readChildren_285 : decode cX10_readChildren 285 = .ok (.iload 8, 2) := by decide +kernel
theorem dX10_readChildren_287 : decode cX10_readChildren 287 = .ok (.iadd, 1) := by decide +kernel
theorem dX10_readChildren_288 : decode cX10_readChildren 288 = .ok (.iaload, 1) := by decide +kernel
theorem dX10_readChildren_289 : decode cX10_readChildren 289 = .ok (.ifCond .eq 5, 3) := by decide +kernel
theorem dX10_readChildren_292 : decode cX10_readChildren 292 = .ok (.iconst 0, 1) := by decide +kernel
theorem dX10_readChildren_293 : decode cX10_readChildren 293 = .ok (.ireturn, 1) := by decide +kernel
theorem dX10_readChildren_294 : decode cX10_readChildren 294 = .ok (.iinc 8 1, 3) := by decide +kernel
theorem dX10_readChildren_297 : decode cX10_readChildren 297 = .ok (.goto (-33), 3) := by decide +kernel
theorem dX10_readChildren_300 : decode cX10_readChildren 300 = .ok (.iload 5, 2) := by decide +kernel
theorem dX10_readChildren_302 : decode cX10_readChildren 302 = .ok (.iload 4, 2) := by decide +kernel
theorem dX10_readChildren_304 : decode cX10_readChildren 304 = .ok (.if_icmp .ne 7, 3) := by decide +kernel
theorem dX10_readChildren_307 : decode cX10_readChildren 307 = .ok (.iconst 1, 1) := by decide +kernel
theorem dX10_readChildren_308 : decode cX10_readChildren 308 = .ok (.goto 4, 3) := by decide +kernel
theorem dX10_readChildren_311 : decode cX10_readChildren 311 = .ok (.iconst 0, 1) := by decide +kernel
theorem dX10_readChildren_312 : decode cX10_readChildren 312 = .ok (.ireturn, 1) := by decide +kernel
set_option maxRecDepth 100000 in
set_option maxHeartbeats 4000000 in
theorem bX10_readChildren_264 {l : Launch} {g : xG} (a0 : Nat) (x1 : Int32) (x2 : Int32) (x3 : Int32) (x4 : Int32) (x5 : Int32) (x6 : Int32) (x7 : Int32) (x8 : Int32) (w9 : Value) (w10 : Value) (w11 : Value) {M : xM} {Q : Option Value → xM → Prop} (h : ((48 ≤ x8 → ((¬ x5 = x4 → (Q (some (.int 0)) M)) ∧ (x5 = x4 → (Q (some (.int 1)) M)))) ∧ (¬ 48 ≤ x8 → ((¬ x3 = 3 → ((¬ x5 = x4 → (Q (some (.int 0)) M)) ∧ (x5 = x4 → (Q (some (.int 1)) M)))) ∧ (x3 = 3 → (xat M a0 7 ∧ (∃ a4, (xR M a0 17) = some a4 ∧ ∃ i6, xai M a4 9 ((x2 + 280) + x8) i6 ∧ (((xI M a4 i6) = 0 → xWp l g mX10_readChildren 0 0 264 [(1, va_rf (some a0)), (1, .int x1), (1, .int x2), (1, .int x3), (1, .int x4), (1, .int x5), (1, .int x6), (1, .int x7), (1, .int (x8 + 1)), (0, w9), (0, w10), (0, w11)] [] (0, 0) M Q) ∧ (¬ (xI M a4 i6) = 0 → (Q (some (.int 0)) M)))))))))) : xWp l g mX10_readChildren 0 0 264 [(1, va_rf (some a0)), (1, .int x1), (1, .int x2), (1, .int x3), (1, .int x4), (1, .int x5), (1, .int x6), (1, .int x7), (1, .int x8), (0, w9), (0, w10), (0, w11)] [] (0, 0) M Q := by
  refine xr_iload dX10_readChildren_264 rfl ?_
  refine xr_bipush 48 dX10_readChildren_266 (by decide) ?_
  obtain ⟨ht, hf⟩ := h
  refine xr_icmp_ge 300 dX10_readChildren_268 (by decide) (fun c10 => ?_) (fun c10 => ?_)
  · replace h := ht c10
    clear ht hf
    refine xr_iload dX10_readChildren_300 rfl ?_
    refine xr_iload dX10_readChildren_302 rfl ?_
    obtain ⟨ht, hf⟩ := h
    refine xr_icmp_ne 311 dX10_readChildren_304 (by decide) (fun c1 => ?_) (fun c1 => ?_)
    · replace h := ht c1
      clear ht hf
      refine xr_iconst 0 dX10_readChildren_311 (by decide) ?_
      exact xr_retv (by decide) (xRi rfl rfl dX10_readChildren_312) h
    · replace h := hf c1
      clear ht hf
      refine xr_iconst 1 dX10_readChildren_307 (by decide) ?_
      refine xr_goto 312 dX10_readChildren_308 (by decide) ?_
      exact xr_retv (by decide) (xRi rfl rfl dX10_readChildren_312) h
  · replace h := hf c10
    clear ht hf
    refine xr_iload_n 3 dX10_readChildren_271 rfl rfl ?_
    refine xr_iconst 3 dX10_readChildren_272 (by decide) ?_
    obtain ⟨ht, hf⟩ := h
    refine xr_icmp_ne 300 dX10_readChildren_273 (by decide) (fun c9 => ?_) (fun c9 => ?_)
    · replace h := ht c9
      clear ht hf
      refine xr_iload dX10_readChildren_300 rfl ?_
      refine xr_iload dX10_readChildren_302 rfl ?_
      obtain ⟨ht, hf⟩ := h
      refine xr_icmp_ne 311 dX10_readChildren_304 (by decide) (fun c2 => ?_) (fun c2 => ?_)
      · replace h := ht c2
        clear ht hf
        refine xr_iconst 0 dX10_readChildren_311 (by decide) ?_
        exact xr_retv (by decide) (xRi rfl rfl dX10_readChildren_312) h
      · replace h := hf c2
        clear ht hf
        refine xr_iconst 1 dX10_readChildren_307 (by decide) ?_
        refine xr_goto 312 dX10_readChildren_308 (by decide) ?_
        exact xr_retv (by decide) (xRi rfl rfl dX10_readChildren_312) h
    · replace h := hf c9
      clear ht hf
      refine xr_aload_n 0 dX10_readChildren_276 rfl rfl ?_
      obtain ⟨t3, h⟩ := h
      refine yr_getR dX10_readChildren_277 fl_RX10_46 rfl t3 ?_
      refine xr_iload_n 2 dX10_readChildren_280 rfl rfl ?_
      refine xr_sipush 280 dX10_readChildren_281 (by decide) ?_
      refine xr_iadd dX10_readChildren_284 ?_
      refine xr_iload dX10_readChildren_285 rfl ?_
      refine xr_iadd dX10_readChildren_287 ?_
      obtain ⟨a4, e5, h⟩ := h
      obtain ⟨i6, t7, h⟩ := h
      refine yr_iald dX10_readChildren_288 e5 t7 ?_
      obtain ⟨ht, hf⟩ := h
      refine xr_if_eq 294 dX10_readChildren_289 (by decide) (fun c8 => ?_) (fun c8 => ?_)
      · replace h := ht c8
        clear ht hf
        refine ziinc (x8 + 1) dX10_readChildren_294 rfl rfl (L1 := [(1, va_rf (some a0)), (1, .int x1), (1, .int x2), (1, .int x3), (1, .int x4), (1, .int x5), (1, .int x6), (1, .int x7), (1, .int (x8 + 1)), (0, w9), (0, w10), (0, w11)]) (by decide) rfl ?_
        refine xr_goto 264 dX10_readChildren_297 (by decide) ?_
        exact h
      · replace h := hf c8
        clear ht hf
        refine xr_iconst 0 dX10_readChildren_292 (by decide) ?_
        exact xr_retv (by decide) (xRi rfl rfl dX10_readChildren_293) h
set_option maxRecDepth 100000 in
set_option maxHeartbeats 4000000 in
theorem bX10_readChildren_177 {l : Launch} {g : xG} (a0 : Nat) (x1 : Int32) (x2 : Int32) (x3 : Int32) (x4 : Int32) (x5 : Int32) (x6 : Int32) (x7 : Int32) (x8 : Int32) (x9 : Int32) (x10 : Int32) (w11 : Value) {M : xM} {Q : Option Value → xM → Prop} (h : ((x9 ≤ x6 → (Q (some (.int 0)) M)) ∧ (¬ x9 ≤ x6 → ((x10 < 2 → (Q (some (.int 0)) M)) ∧ (¬ x10 < 2 → (xat M a0 7 ∧ (∃ a2, (xR M a0 26) = some a2 ∧ ∃ i4, xai M a2 11 x10 i4 ∧ ((¬ (xI M a2 i4) = 0 → (Q (some (.int 0)) M)) ∧ ((xI M a2 i4) = 0 → ((¬ x5 = x4 → (xSp l g mX10_nodes 0 0 [va_rf (some a0)] M (fun ρ8 M7 => ∃ v6 : Int32, ρ8 = some (.int v6) ∧ ((¬ v6 = 200 → (xat M7 a0 7 ∧ (∃ a11, (xR M7 a0 26) = some a11 ∧ ∃ i13, xai M7 a11 11 x10 i13 ∧ (xSp l g mX10_newNode 0 0 [va_rf (some a0), .int x1, .int x9] (xsI M7 a11 i13 ((1 : Int32) &&& 1)) (fun ρ17 M16 => ∃ v15 : Int32, ρ17 = some (.int v15) ∧ (xat M16 a0 7 ∧ (∃ a20, (xR M16 a0 12) = some a20 ∧ ∃ i22, xai M16 a20 9 v15 i22 ∧ xWp l g mX10_readChildren 0 0 26 [(1, va_rf (some a0)), (1, .int x1), (1, .int x2), (1, .int x3), (1, .int x4), (1, .int (x5 + 1)), (1, .int x9), (1, .int x7), (1, .int (x8 + 1)), (1, .int x9), (1, .int x10), (1, .int v15)] [] (0, 0) (xsI M16 a20 i22 x10) Q))))))) ∧ (v6 = 200 → (Q (some (.int 0)) M7)))))) ∧ (x5 = x4 → (Q (some (.int 0)) M)))))))))))) : xWp l g mX10_readChildren 0 0 177 [(1, va_rf (some a0)), (1, .int x1), (1, .int x2), (1, .int x3), (1, .int x4), (1, .int x5), (1, .int x6), (1, .int x7), (1, .int x8), (1, .int x9), (1, .int x10), (0, w11)] [] (0, 0) M Q := by
  refine xr_iload dX10_readChildren_177 rfl ?_
  refine xr_iload dX10_readChildren_179 rfl ?_
  obtain ⟨ht, hf⟩ := h
  refine xr_icmp_le 207 dX10_readChildren_181 (by decide) (fun c28 => ?_) (fun c28 => ?_)
  · replace h := ht c28
    clear ht hf
    refine xr_iconst 0 dX10_readChildren_207 (by decide) ?_
    exact xr_retv (by decide) (xRi rfl rfl dX10_readChildren_208) h
  · replace h := hf c28
    clear ht hf
    refine xr_iload dX10_readChildren_184 rfl ?_
    refine xr_iconst 2 dX10_readChildren_186 (by decide) ?_
    obtain ⟨ht, hf⟩ := h
    refine xr_icmp_lt 207 dX10_readChildren_187 (by decide) (fun c27 => ?_) (fun c27 => ?_)
    · replace h := ht c27
      clear ht hf
      refine xr_iconst 0 dX10_readChildren_207 (by decide) ?_
      exact xr_retv (by decide) (xRi rfl rfl dX10_readChildren_208) h
    · replace h := hf c27
      clear ht hf
      refine xr_aload_n 0 dX10_readChildren_190 rfl rfl ?_
      obtain ⟨t1, h⟩ := h
      refine yr_getR dX10_readChildren_191 fl_RX10_59 rfl t1 ?_
      refine xr_iload dX10_readChildren_194 rfl ?_
      obtain ⟨a2, e3, h⟩ := h
      obtain ⟨i4, t5, h⟩ := h
      refine yr_zald dX10_readChildren_196 e3 t5 ?_
      obtain ⟨ht, hf⟩ := h
      refine xr_if_ne 207 dX10_readChildren_197 (by decide) (fun c26 => ?_) (fun c26 => ?_)
      · replace h := ht c26
        clear ht hf
        refine xr_iconst 0 dX10_readChildren_207 (by decide) ?_
        exact xr_retv (by decide) (xRi rfl rfl dX10_readChildren_208) h
      · replace h := hf c26
        clear ht hf
        refine xr_iload dX10_readChildren_200 rfl ?_
        refine xr_iload dX10_readChildren_202 rfl ?_
        obtain ⟨ht, hf⟩ := h
        refine xr_icmp_ne 209 dX10_readChildren_204 (by decide) (fun c25 => ?_) (fun c25 => ?_)
        · replace h := ht c25
          clear ht hf
          refine xr_aload_n 0 dX10_readChildren_209 rfl rfl ?_
          refine yr_callV (r := (some a0)) [] dX10_readChildren_210 cv_X10_readChildren_142 rfl t1 rfl (Nat.le_trans wt_0 (by decide)) (by decide) (xSp.mono h ?_)
          clear h
          intro ρ8 M7 h
          obtain ⟨v6, rfl, h⟩ := h
          refine xr_sipush 200 dX10_readChildren_213 (by decide) ?_
          obtain ⟨ht, hf⟩ := h
          refine xr_icmp_ne 221 dX10_readChildren_216 (by decide) (fun c24 => ?_) (fun c24 => ?_)
          · replace h := ht c24
            clear ht hf
            refine xr_aload_n 0 dX10_readChildren_221 rfl rfl ?_
            obtain ⟨t10, h⟩ := h
            refine yr_getR dX10_readChildren_222 fl_RX10_59 rfl t10 ?_
            refine xr_iload dX10_readChildren_225 rfl ?_
            refine xr_iconst 1 dX10_readChildren_227 (by decide) ?_
            obtain ⟨a11, e12, h⟩ := h
            obtain ⟨i13, t14, h⟩ := h
            refine yr_zast dX10_readChildren_228 e12 t14 ?_
            refine xr_iload dX10_readChildren_229 rfl ?_
            refine zistore dX10_readChildren_231 (L1 := [(1, va_rf (some a0)), (1, .int x1), (1, .int x2), (1, .int x3), (1, .int x4), (1, .int x5), (1, .int x9), (1, .int x7), (1, .int x8), (1, .int x9), (1, .int x10), (0, w11)]) (by decide) rfl ?_
            refine ziinc (x5 + 1) dX10_readChildren_233 rfl rfl (L1 := [(1, va_rf (some a0)), (1, .int x1), (1, .int x2), (1, .int x3), (1, .int x4), (1, .int (x5 + 1)), (1, .int x9), (1, .int x7), (1, .int x8), (1, .int x9), (1, .int x10), (0, w11)]) (by decide) rfl ?_
            refine xr_aload_n 0 dX10_readChildren_236 rfl rfl ?_
            refine xr_iload_n 1 dX10_readChildren_237 rfl rfl ?_
            refine xr_iload dX10_readChildren_238 rfl ?_
            refine yr_callV (r := (some a0)) [.int x1, .int x9] dX10_readChildren_240 cv_X10_readChildren_71 rfl t10 rfl (Nat.le_trans wt_0 (by decide)) (by decide) (xSp.mono h ?_)
            clear h
            intro ρ17 M16 h
            obtain ⟨v15, rfl, h⟩ := h
            refine zistore dX10_readChildren_243 (L1 := [(1, va_rf (some a0)), (1, .int x1), (1, .int x2), (1, .int x3), (1, .int x4), (1, .int (x5 + 1)), (1, .int x9), (1, .int x7), (1, .int x8), (1, .int x9), (1, .int x10), (1, .int v15)]) (by decide) rfl ?_
            refine xr_aload_n 0 dX10_readChildren_245 rfl rfl ?_
            obtain ⟨t19, h⟩ := h
            refine yr_getR dX10_readChildren_246 fl_RX10_39 rfl t19 ?_
            refine xr_iload dX10_readChildren_249 rfl ?_
            refine xr_iload dX10_readChildren_251 rfl ?_
            obtain ⟨a20, e21, h⟩ := h
            obtain ⟨i22, t23, h⟩ := h
            refine yr_iast dX10_readChildren_253 e21 t23 ?_
            refine ziinc (x8 + 1) dX10_readChildren_254 rfl rfl (L1 := [(1, va_rf (some a0)), (1, .int x1), (1, .int x2), (1, .int x3), (1, .int x4), (1, .int (x5 + 1)), (1, .int x9), (1, .int x7), (1, .int (x8 + 1)), (1, .int x9), (1, .int x10), (1, .int v15)]) (by decide) rfl ?_
            refine xr_goto 26 dX10_readChildren_257 (by decide) ?_
            exact h
          · replace h := hf c24
            clear ht hf
            refine xr_iconst 0 dX10_readChildren_219 (by decide) ?_
            exact xr_retv (by decide) (xRi rfl rfl dX10_readChildren_220) h
        · replace h := hf c25
          clear ht hf
          refine xr_iconst 0 dX10_readChildren_207 (by decide) ?_
          exact xr_retv (by decide) (xRi rfl rfl dX10_readChildren_208) h
set_option maxRecDepth 100000 in
set_option maxHeartbeats 4000000 in
theorem bX10_readChildren_118 {l : Launch} {g : xG} (a0 : Nat) (x1 : Int32) (x2 : Int32) (x3 : Int32) (x4 : Int32) (x5 : Int32) (x6 : Int32) (x7 : Int32) (x8 : Int32) (x9 : Int32) (x10 : Int32) (w11 : Value) {M : xM} {Q : Option Value → xM → Prop} (h : ((¬ x3 = 3 → ((x3 ≤ 2 → xWp l g mX10_readChildren 0 0 177 [(1, va_rf (some a0)), (1, .int x1), (1, .int x2), (1, .int x3), (1, .int x4), (1, .int x5), (1, .int x6), (1, .int x7), (1, .int x8), (1, .int x9), (1, .int x10), (0, w11)] [] (0, 0) M Q) ∧ (¬ x3 ≤ 2 → ((¬ x10 = 0 → xWp l g mX10_readChildren 0 0 177 [(1, va_rf (some a0)), (1, .int x1), (1, .int x2), (1, .int x3), (1, .int x4), (1, .int x5), (1, .int x6), (1, .int x7), (1, .int x8), (1, .int x9), (1, .int x10), (0, w11)] [] (0, 0) M Q) ∧ (x10 = 0 → xWp l g mX10_readChildren 0 0 26 [(1, va_rf (some a0)), (1, .int x1), (1, .int x2), (1, .int x3), (1, .int x4), (1, .int x5), (1, .int x6), (1, .int x7), (1, .int (x8 + 1)), (1, .int x9), (1, .int x10), (0, w11)] [] (0, 0) M Q))))) ∧ (x3 = 3 → ((x10 ≤ 0 → ((x3 ≤ 2 → xWp l g mX10_readChildren 0 0 177 [(1, va_rf (some a0)), (1, .int x1), (1, .int x2), (1, .int x3), (1, .int x4), (1, .int x5), (1, .int x6), (1, .int x7), (1, .int x8), (1, .int x9), (1, .int x10), (0, w11)] [] (0, 0) M Q) ∧ (¬ x3 ≤ 2 → ((¬ x10 = 0 → xWp l g mX10_readChildren 0 0 177 [(1, va_rf (some a0)), (1, .int x1), (1, .int x2), (1, .int x3), (1, .int x4), (1, .int x5), (1, .int x6), (1, .int x7), (1, .int x8), (1, .int x9), (1, .int x10), (0, w11)] [] (0, 0) M Q) ∧ (x10 = 0 → xWp l g mX10_readChildren 0 0 26 [(1, va_rf (some a0)), (1, .int x1), (1, .int x2), (1, .int x3), (1, .int x4), (1, .int x5), (1, .int x6), (1, .int x7), (1, .int (x8 + 1)), (1, .int x9), (1, .int x10), (0, w11)] [] (0, 0) M Q))))) ∧ (¬ x10 ≤ 0 → ((¬ x10 = (x5 + 1) → (Q (some (.int 0)) M)) ∧ (x10 = (x5 + 1) → ((x10 ≤ 48 → (xat M a0 7 ∧ (∃ a6, (xR M a0 17) = some a6 ∧ ∃ i8, xai M a6 9 ((x2 + 279) + x10) i8 ∧ xWp l g mX10_readChildren 0 0 177 [(1, va_rf (some a0)), (1, .int x1), (1, .int x2), (1, .int x3), (1, .int x4), (1, .int x5), (1, .int x6), (1, .int x7), (1, .int x8), (1, .int x9), (1, .int (xI M a6 i8)), (0, w11)] [] (0, 0) M Q))) ∧ (¬ x10 ≤ 48 → (Q (some (.int 0)) M)))))))))) : xWp l g mX10_readChildren 0 0 118 [(1, va_rf (some a0)), (1, .int x1), (1, .int x2), (1, .int x3), (1, .int x4), (1, .int x5), (1, .int x6), (1, .int x7), (1, .int x8), (1, .int x9), (1, .int x10), (0, w11)] [] (0, 0) M Q := by
  refine xr_iload_n 3 dX10_readChildren_118 rfl rfl ?_
  refine xr_iconst 3 dX10_readChildren_119 (by decide) ?_
  obtain ⟨ht, hf⟩ := h
  refine xr_icmp_ne 164 dX10_readChildren_120 (by decide) (fun c13 => ?_) (fun c13 => ?_)
  · replace h := ht c13
    clear ht hf
    refine xr_iload_n 3 dX10_readChildren_164 rfl rfl ?_
    refine xr_iconst 2 dX10_readChildren_165 (by decide) ?_
    obtain ⟨ht, hf⟩ := h
    refine xr_icmp_le 177 dX10_readChildren_166 (by decide) (fun c2 => ?_) (fun c2 => ?_)
    · replace h := ht c2
      clear ht hf
      exact h
    · replace h := hf c2
      clear ht hf
      refine xr_iload dX10_readChildren_169 rfl ?_
      obtain ⟨ht, hf⟩ := h
      refine xr_if_ne 177 dX10_readChildren_171 (by decide) (fun c1 => ?_) (fun c1 => ?_)
      · replace h := ht c1
        clear ht hf
        exact h
      · replace h := hf c1
        clear ht hf
        refine xr_goto 254 dX10_readChildren_174 (by decide) ?_
        refine ziinc (x8 + 1) dX10_readChildren_254 rfl rfl (L1 := [(1, va_rf (some a0)), (1, .int x1), (1, .int x2), (1, .int x3), (1, .int x4), (1, .int x5), (1, .int x6), (1, .int x7), (1, .int (x8 + 1)), (1, .int x9), (1, .int x10), (0, w11)]) (by decide) rfl ?_
        refine xr_goto 26 dX10_readChildren_257 (by decide) ?_
        exact h
  · replace h := hf c13
    clear ht hf
    refine xr_iload dX10_readChildren_123 rfl ?_
    obtain ⟨ht, hf⟩ := h
    refine xr_if_le 164 dX10_readChildren_125 (by decide) (fun c12 => ?_) (fun c12 => ?_)
    · replace h := ht c12
      clear ht hf
      refine xr_iload_n 3 dX10_readChildren_164 rfl rfl ?_
      refine xr_iconst 2 dX10_readChildren_165 (by decide) ?_
      obtain ⟨ht, hf⟩ := h
      refine xr_icmp_le 177 dX10_readChildren_166 (by decide) (fun c4 => ?_) (fun c4 => ?_)
      · replace h := ht c4
        clear ht hf
        exact h
      · replace h := hf c4
        clear ht hf
        refine xr_iload dX10_readChildren_169 rfl ?_
        obtain ⟨ht, hf⟩ := h
        refine xr_if_ne 177 dX10_readChildren_171 (by decide) (fun c3 => ?_) (fun c3 => ?_)
        · replace h := ht c3
          clear ht hf
          exact h
        · replace h := hf c3
          clear ht hf
          refine xr_goto 254 dX10_readChildren_174 (by decide) ?_
          refine ziinc (x8 + 1) dX10_readChildren_254 rfl rfl (L1 := [(1, va_rf (some a0)), (1, .int x1), (1, .int x2), (1, .int x3), (1, .int x4), (1, .int x5), (1, .int x6), (1, .int x7), (1, .int (x8 + 1)), (1, .int x9), (1, .int x10), (0, w11)]) (by decide) rfl ?_
          refine xr_goto 26 dX10_readChildren_257 (by decide) ?_
          exact h
    · replace h := hf c12
      clear ht hf
      refine xr_iload dX10_readChildren_128 rfl ?_
      refine xr_iload dX10_readChildren_130 rfl ?_
      refine xr_iconst 1 dX10_readChildren_132 (by decide) ?_
      refine xr_iadd dX10_readChildren_133 ?_
      obtain ⟨ht, hf⟩ := h
      refine xr_icmp_ne 144 dX10_readChildren_134 (by decide) (fun c11 => ?_) (fun c11 => ?_)
      · replace h := ht c11
        clear ht hf
        refine xr_iconst 0 dX10_readChildren_144 (by decide) ?_
        exact xr_retv (by decide) (xRi rfl rfl dX10_readChildren_145) h
      · replace h := hf c11
        clear ht hf
        refine xr_iload dX10_readChildren_137 rfl ?_
        refine xr_bipush 48 dX10_readChildren_139 (by decide) ?_
        obtain ⟨ht, hf⟩ := h
        refine xr_icmp_le 146 dX10_readChildren_141 (by decide) (fun c10 => ?_) (fun c10 => ?_)
        · replace h := ht c10
          clear ht hf
          refine xr_aload_n 0 dX10_readChildren_146 rfl rfl ?_
          obtain ⟨t5, h⟩ := h
          refine yr_getR dX10_readChildren_147 fl_RX10_46 rfl t5 ?_
          refine xr_iload_n 2 dX10_readChildren_150 rfl rfl ?_
          refine xr_sipush 279 dX10_readChildren_151 (by decide) ?_
          refine xr_iadd dX10_readChildren_154 ?_
          refine xr_iload dX10_readChildren_155 rfl ?_
          refine xr_iadd dX10_readChildren_157 ?_
          obtain ⟨a6, e7, h⟩ := h
          obtain ⟨i8, t9, h⟩ := h
          refine yr_iald dX10_readChildren_158 e7 t9 ?_
          refine zistore dX10_readChildren_159 (L1 := [(1, va_rf (some a0)), (1, .int x1), (1, .int x2), (1, .int x3), (1, .int x4), (1, .int x5), (1, .int x6), (1, .int x7), (1, .int x8), (1, .int x9), (1, .int (xI M a6 i8)), (0, w11)]) (by decide) rfl ?_
          refine xr_goto 177 dX10_readChildren_161 (by decide) ?_
          exact h
        · replace h := hf c10
          clear ht hf
          refine xr_iconst 0 dX10_readChildren_144 (by decide) ?_
          exact xr_retv (by decide) (xRi rfl rfl dX10_readChildren_145) h
set_option maxRecDepth 100000 in
set_option maxHeartbeats 4000000 in
theorem bX10_readChildren_55 {l : Launch} {g : xG} (a0 : Nat) (x1 : Int32) (x2 : Int32) (x3 : Int32) (x4 : Int32) (x5 : Int32) (x6 : Int32) (x7 : Int32) (x8 : Int32) (w9 : Value) (w10 : Value) (w11 : Value) (sx0 : Int32) {M : xM} {Q : Option Value → xM → Prop} (h : ((3 ≤ x3 → (xat M a0 7 ∧ (∃ a2, (xR M a0 17) = some a2 ∧ ∃ i4, xai M a2 9 ((x2 + 24) + x8) i4 ∧ ((3 ≤ x3 → xWp l g mX10_readChildren 0 0 118 [(1, va_rf (some a0)), (1, .int x1), (1, .int x2), (1, .int x3), (1, .int x4), (1, .int x5), (1, .int x6), (1, .int x7), (1, .int x8), (1, .int sx0), (1, .int (xI M a2 i4)), (0, w11)] [] (0, 0) M Q) ∧ (¬ 3 ≤ x3 → ((x8 < x4 → xWp l g mX10_readChildren 0 0 118 [(1, va_rf (some a0)), (1, .int x1), (1, .int x2), (1, .int x3), (1, .int x4), (1, .int x5), (1, .int x6), (1, .int x7), (1, .int x8), (1, .int sx0), (1, .int (xI M a2 i4)), (0, w11)] [] (0, 0) M Q) ∧ (¬ x8 < x4 → ((¬ sx0 = 0 → (Q (some (.int 0)) M)) ∧ (sx0 = 0 → (((xI M a2 i4) = 0 → xWp l g mX10_readChildren 0 0 26 [(1, va_rf (some a0)), (1, .int x1), (1, .int x2), (1, .int x3), (1, .int x4), (1, .int x5), (1, .int x6), (1, .int x7), (1, .int (x8 + 1)), (1, .int sx0), (1, .int (xI M a2 i4)), (0, w11)] [] (0, 0) M Q) ∧ (¬ (xI M a2 i4) = 0 → (Q (some (.int 0)) M)))))))))))) ∧ (¬ 3 ≤ x3 → (xat M a0 7 ∧ (∃ a11, (xR M a0 17) = some a11 ∧ ∃ i13, xai M a11 9 (((x2 + 24) + x7) + x8) i13 ∧ ((3 ≤ x3 → xWp l g mX10_readChildren 0 0 118 [(1, va_rf (some a0)), (1, .int x1), (1, .int x2), (1, .int x3), (1, .int x4), (1, .int x5), (1, .int x6), (1, .int x7), (1, .int x8), (1, .int sx0), (1, .int (xI M a11 i13)), (0, w11)] [] (0, 0) M Q) ∧ (¬ 3 ≤ x3 → ((x8 < x4 → xWp l g mX10_readChildren 0 0 118 [(1, va_rf (some a0)), (1, .int x1), (1, .int x2), (1, .int x3), (1, .int x4), (1, .int x5), (1, .int x6), (1, .int x7), (1, .int x8), (1, .int sx0), (1, .int (xI M a11 i13)), (0, w11)] [] (0, 0) M Q) ∧ (¬ x8 < x4 → ((¬ sx0 = 0 → (Q (some (.int 0)) M)) ∧ (sx0 = 0 → (((xI M a11 i13) = 0 → xWp l g mX10_readChildren 0 0 26 [(1, va_rf (some a0)), (1, .int x1), (1, .int x2), (1, .int x3), (1, .int x4), (1, .int x5), (1, .int x6), (1, .int x7), (1, .int (x8 + 1)), (1, .int sx0), (1, .int (xI M a11 i13)), (0, w11)] [] (0, 0) M Q) ∧ (¬ (xI M a11 i13) = 0 → (Q (some (.int 0)) M)))))))))))))) : xWp l g mX10_readChildren 0 0 55 [(1, va_rf (some a0)), (1, .int x1), (1, .int x2), (1, .int x3), (1, .int x4), (1, .int x5), (1, .int x6), (1, .int x7), (1, .int x8), (0, w9), (0, w10), (0, w11)] [.int sx0] (0, 0) M Q := by
  refine zistore dX10_readChildren_55 (L1 := [(1, va_rf (some a0)), (1, .int x1), (1, .int x2), (1, .int x3), (1, .int x4), (1, .int x5), (1, .int x6), (1, .int x7), (1, .int x8), (1, .int sx0), (0, w10), (0, w11)]) (by decide) rfl ?_
  refine xr_iload_n 3 dX10_readChildren_57 rfl rfl ?_
  refine xr_iconst 3 dX10_readChildren_58 (by decide) ?_
  obtain ⟨ht, hf⟩ := h
  refine xr_icmp_ge 80 dX10_readChildren_59 (by decide) (fun c19 => ?_) (fun c19 => ?_)
  · replace h := ht c19
    clear ht hf
    refine xr_aload_n 0 dX10_readChildren_80 rfl rfl ?_
    obtain ⟨t1, h⟩ := h
    refine yr_getR dX10_readChildren_81 fl_RX10_46 rfl t1 ?_
    refine xr_iload_n 2 dX10_readChildren_84 rfl rfl ?_
    refine xr_bipush 24 dX10_readChildren_85 (by decide) ?_
    refine xr_iadd dX10_readChildren_87 ?_
    refine xr_iload dX10_readChildren_88 rfl ?_
    refine xr_iadd dX10_readChildren_90 ?_
    obtain ⟨a2, e3, h⟩ := h
    obtain ⟨i4, t5, h⟩ := h
    refine yr_iald dX10_readChildren_91 e3 t5 ?_
    refine zistore dX10_readChildren_92 (L1 := [(1, va_rf (some a0)), (1, .int x1), (1, .int x2), (1, .int x3), (1, .int x4), (1, .int x5), (1, .int x6), (1, .int x7), (1, .int x8), (1, .int sx0), (1, .int (xI M a2 i4)), (0, w11)]) (by decide) rfl ?_
    refine xr_iload_n 3 dX10_readChildren_94 rfl rfl ?_
    refine xr_iconst 3 dX10_readChildren_95 (by decide) ?_
    obtain ⟨ht, hf⟩ := h
    refine xr_icmp_ge 118 dX10_readChildren_96 (by decide) (fun c9 => ?_) (fun c9 => ?_)
    · replace h := ht c9
      clear ht hf
      exact h
    · replace h := hf c9
      clear ht hf
      refine xr_iload dX10_readChildren_99 rfl ?_
      refine xr_iload dX10_readChildren_101 rfl ?_
      obtain ⟨ht, hf⟩ := h
      refine xr_icmp_lt 118 dX10_readChildren_103 (by decide) (fun c8 => ?_) (fun c8 => ?_)
      · replace h := ht c8
        clear ht hf
        exact h
      · replace h := hf c8
        clear ht hf
        refine xr_iload dX10_readChildren_106 rfl ?_
        obtain ⟨ht, hf⟩ := h
        refine xr_if_ne 116 dX10_readChildren_108 (by decide) (fun c7 => ?_) (fun c7 => ?_)
        · replace h := ht c7
          clear ht hf
          refine xr_iconst 0 dX10_readChildren_116 (by decide) ?_
          exact xr_retv (by decide) (xRi rfl rfl dX10_readChildren_117) h
        · replace h := hf c7
          clear ht hf
          refine xr_iload dX10_readChildren_111 rfl ?_
          obtain ⟨ht, hf⟩ := h
          refine xr_if_eq 254 dX10_readChildren_113 (by decide) (fun c6 => ?_) (fun c6 => ?_)
          · replace h := ht c6
            clear ht hf
            refine ziinc (x8 + 1) dX10_readChildren_254 rfl rfl (L1 := [(1, va_rf (some a0)), (1, .int x1), (1, .int x2), (1, .int x3), (1, .int x4), (1, .int x5), (1, .int x6), (1, .int x7), (1, .int (x8 + 1)), (1, .int sx0), (1, .int (xI M a2 i4)), (0, w11)]) (by decide) rfl ?_
            refine xr_goto 26 dX10_readChildren_257 (by decide) ?_
            exact h
          · replace h := hf c6
            clear ht hf
            refine xr_iconst 0 dX10_readChildren_116 (by decide) ?_
            exact xr_retv (by decide) (xRi rfl rfl dX10_readChildren_117) h
  · replace h := hf c19
    clear ht hf
    refine xr_aload_n 0 dX10_readChildren_62 rfl rfl ?_
    obtain ⟨t10, h⟩ := h
    refine yr_getR dX10_readChildren_63 fl_RX10_46 rfl t10 ?_
    refine xr_iload_n 2 dX10_readChildren_66 rfl rfl ?_
    refine xr_bipush 24 dX10_readChildren_67 (by decide) ?_
    refine xr_iadd dX10_readChildren_69 ?_
    refine xr_iload dX10_readChildren_70 rfl ?_
    refine xr_iadd dX10_readChildren_72 ?_
    refine xr_iload dX10_readChildren_73 rfl ?_
    refine xr_iadd dX10_readChildren_75 ?_
    obtain ⟨a11, e12, h⟩ := h
    obtain ⟨i13, t14, h⟩ := h
    refine yr_iald dX10_readChildren_76 e12 t14 ?_
    refine xr_goto 92 dX10_readChildren_77 (by decide) ?_
    refine zistore dX10_readChildren_92 (L1 := [(1, va_rf (some a0)), (1, .int x1), (1, .int x2), (1, .int x3), (1, .int x4), (1, .int x5), (1, .int x6), (1, .int x7), (1, .int x8), (1, .int sx0), (1, .int (xI M a11 i13)), (0, w11)]) (by decide) rfl ?_
    refine xr_iload_n 3 dX10_readChildren_94 rfl rfl ?_
    refine xr_iconst 3 dX10_readChildren_95 (by decide) ?_
    obtain ⟨ht, hf⟩ := h
    refine xr_icmp_ge 118 dX10_readChildren_96 (by decide) (fun c18 => ?_) (fun c18 => ?_)
    · replace h := ht c18
      clear ht hf
      exact h
    · replace h := hf c18
      clear ht hf
      refine xr_iload dX10_readChildren_99 rfl ?_
      refine xr_iload dX10_readChildren_101 rfl ?_
      obtain ⟨ht, hf⟩ := h
      refine xr_icmp_lt 118 dX10_readChildren_103 (by decide) (fun c17 => ?_) (fun c17 => ?_)
      · replace h := ht c17
        clear ht hf
        exact h
      · replace h := hf c17
        clear ht hf
        refine xr_iload dX10_readChildren_106 rfl ?_
        obtain ⟨ht, hf⟩ := h
        refine xr_if_ne 116 dX10_readChildren_108 (by decide) (fun c16 => ?_) (fun c16 => ?_)
        · replace h := ht c16
          clear ht hf
          refine xr_iconst 0 dX10_readChildren_116 (by decide) ?_
          exact xr_retv (by decide) (xRi rfl rfl dX10_readChildren_117) h
        · replace h := hf c16
          clear ht hf
          refine xr_iload dX10_readChildren_111 rfl ?_
          obtain ⟨ht, hf⟩ := h
          refine xr_if_eq 254 dX10_readChildren_113 (by decide) (fun c15 => ?_) (fun c15 => ?_)
          · replace h := ht c15
            clear ht hf
            refine ziinc (x8 + 1) dX10_readChildren_254 rfl rfl (L1 := [(1, va_rf (some a0)), (1, .int x1), (1, .int x2), (1, .int x3), (1, .int x4), (1, .int x5), (1, .int x6), (1, .int x7), (1, .int (x8 + 1)), (1, .int sx0), (1, .int (xI M a11 i13)), (0, w11)]) (by decide) rfl ?_
            refine xr_goto 26 dX10_readChildren_257 (by decide) ?_
            exact h
          · replace h := hf c15
            clear ht hf
            refine xr_iconst 0 dX10_readChildren_116 (by decide) ?_
            exact xr_retv (by decide) (xRi rfl rfl dX10_readChildren_117) h
set_option maxRecDepth 100000 in
set_option maxHeartbeats 4000000 in
theorem bX10_readChildren_26 {l : Launch} {g : xG} (a0 : Nat) (x1 : Int32) (x2 : Int32) (x3 : Int32) (x4 : Int32) (x5 : Int32) (x6 : Int32) (x7 : Int32) (x8 : Int32) (w9 : Value) (w10 : Value) (w11 : Value) {M : xM} {Q : Option Value → xM → Prop} (h : ((x7 ≤ x8 → xWp l g mX10_readChildren 0 0 264 [(1, va_rf (some a0)), (1, .int x1), (1, .int x2), (1, .int x3), (1, .int x4), (1, .int x5), (1, .int x6), (1, .int x7), (1, .int x5), (0, w9), (0, w10), (0, w11)] [] (0, 0) M Q) ∧ (¬ x7 ≤ x8 → ((3 ≤ x3 → xWp l g mX10_readChildren 0 0 55 [(1, va_rf (some a0)), (1, .int x1), (1, .int x2), (1, .int x3), (1, .int x4), (1, .int x5), (1, .int x6), (1, .int x7), (1, .int x8), (0, w9), (0, w10), (0, w11)] [.int x8] (0, 0) M Q) ∧ (¬ 3 ≤ x3 → (xat M a0 7 ∧ (∃ a2, (xR M a0 17) = some a2 ∧ ∃ i4, xai M a2 9 ((x2 + 24) + x8) i4 ∧ xWp l g mX10_readChildren 0 0 55 [(1, va_rf (some a0)), (1, .int x1), (1, .int x2), (1, .int x3), (1, .int x4), (1, .int x5), (1, .int x6), (1, .int x7), (1, .int x8), (0, w9), (0, w10), (0, w11)] [.int (xI M a2 i4)] (0, 0) M Q))))))) : xWp l g mX10_readChildren 0 0 26 [(1, va_rf (some a0)), (1, .int x1), (1, .int x2), (1, .int x3), (1, .int x4), (1, .int x5), (1, .int x6), (1, .int x7), (1, .int x8), (0, w9), (0, w10), (0, w11)] [] (0, 0) M Q := by
  refine xr_iload dX10_readChildren_26 rfl ?_
  refine xr_iload dX10_readChildren_28 rfl ?_
  obtain ⟨ht, hf⟩ := h
  refine xr_icmp_ge 260 dX10_readChildren_30 (by decide) (fun c7 => ?_) (fun c7 => ?_)
  · replace h := ht c7
    clear ht hf
    refine xr_iload dX10_readChildren_260 rfl ?_
    refine zistore dX10_readChildren_262 (L1 := [(1, va_rf (some a0)), (1, .int x1), (1, .int x2), (1, .int x3), (1, .int x4), (1, .int x5), (1, .int x6), (1, .int x7), (1, .int x5), (0, w9), (0, w10), (0, w11)]) (by decide) rfl ?_
    exact h
  · replace h := hf c7
    clear ht hf
    refine xr_iload_n 3 dX10_readChildren_33 rfl rfl ?_
    refine xr_iconst 3 dX10_readChildren_34 (by decide) ?_
    obtain ⟨ht, hf⟩ := h
    refine xr_icmp_ge 53 dX10_readChildren_35 (by decide) (fun c6 => ?_) (fun c6 => ?_)
    · replace h := ht c6
      clear ht hf
      refine xr_iload dX10_readChildren_53 rfl ?_
      exact h
    · replace h := hf c6
      clear ht hf
      refine xr_aload_n 0 dX10_readChildren_38 rfl rfl ?_
      obtain ⟨t1, h⟩ := h
      refine yr_getR dX10_readChildren_39 fl_RX10_46 rfl t1 ?_
      refine xr_iload_n 2 dX10_readChildren_42 rfl rfl ?_
      refine xr_bipush 24 dX10_readChildren_43 (by decide) ?_
      refine xr_iadd dX10_readChildren_45 ?_
      refine xr_iload dX10_readChildren_46 rfl ?_
      refine xr_iadd dX10_readChildren_48 ?_
      obtain ⟨a2, e3, h⟩ := h
      obtain ⟨i4, t5, h⟩ := h
      refine yr_iald dX10_readChildren_49 e3 t5 ?_
      refine xr_goto 55 dX10_readChildren_50 (by decide) ?_
      exact h
set_option maxRecDepth 100000 in
set_option maxHeartbeats 4000000 in
theorem bX10_readChildren_0 {l : Launch} {g : xG} (a0 : Nat) (x1 : Int32) (x2 : Int32) (x3 : Int32) (x4 : Int32) {M : xM} {Q : Option Value → xM → Prop} (h : ((3 ≤ x3 → xWp l g mX10_readChildren 0 0 26 [(1, va_rf (some a0)), (1, .int x1), (1, .int x2), (1, .int x3), (1, .int x4), (1, .int 0), (1, .int (-1)), (1, .int 256), (1, .int 0), (0, .null), (0, .null), (0, .null)] [] (0, 0) M Q) ∧ (¬ 3 ≤ x3 → (xSp l g mX10_room 0 0 [.int x3] M (fun ρ3 M2 => ∃ v1 : Int32, ρ3 = some (.int v1) ∧ xWp l g mX10_readChildren 0 0 26 [(1, va_rf (some a0)), (1, .int x1), (1, .int x2), (1, .int x3), (1, .int x4), (1, .int 0), (1, .int (-1)), (1, .int v1), (1, .int 0), (0, .null), (0, .null), (0, .null)] [] (0, 0) M2 Q))))) : xWp l g mX10_readChildren 0 0 0 [(1, va_rf (some a0)), (1, .int x1), (1, .int x2), (1, .int x3), (1, .int x4), (0, .null), (0, .null), (0, .null), (0, .null), (0, .null), (0, .null), (0, .null)] [] (0, 0) M Q := by
  refine xr_iconst 0 dX10_readChildren_0 (by decide) ?_
  refine zistore dX10_readChildren_1 (L1 := [(1, va_rf (some a0)), (1, .int x1), (1, .int x2), (1, .int x3), (1, .int x4), (1, .int 0), (0, .null), (0, .null), (0, .null), (0, .null), (0, .null), (0, .null)]) (by decide) rfl ?_
  refine xr_iconst (-1) dX10_readChildren_3 (by decide) ?_
  refine zistore dX10_readChildren_4 (L1 := [(1, va_rf (some a0)), (1, .int x1), (1, .int x2), (1, .int x3), (1, .int x4), (1, .int 0), (1, .int (-1)), (0, .null), (0, .null), (0, .null), (0, .null), (0, .null)]) (by decide) rfl ?_
  refine xr_iload_n 3 dX10_readChildren_6 rfl rfl ?_
  refine xr_iconst 3 dX10_readChildren_7 (by decide) ?_
  obtain ⟨ht, hf⟩ := h
  refine xr_icmp_ge 18 dX10_readChildren_8 (by decide) (fun c5 => ?_) (fun c5 => ?_)
  · replace h := ht c5
    clear ht hf
    refine xr_sipush 256 dX10_readChildren_18 (by decide) ?_
    refine zistore dX10_readChildren_21 (L1 := [(1, va_rf (some a0)), (1, .int x1), (1, .int x2), (1, .int x3), (1, .int x4), (1, .int 0), (1, .int (-1)), (1, .int 256), (0, .null), (0, .null), (0, .null), (0, .null)]) (by decide) rfl ?_
    refine xr_iconst 0 dX10_readChildren_23 (by decide) ?_
    refine zistore dX10_readChildren_24 (L1 := [(1, va_rf (some a0)), (1, .int x1), (1, .int x2), (1, .int x3), (1, .int x4), (1, .int 0), (1, .int (-1)), (1, .int 256), (1, .int 0), (0, .null), (0, .null), (0, .null)]) (by decide) rfl ?_
    exact h
  · replace h := hf c5
    clear ht hf
    refine xr_iload_n 3 dX10_readChildren_11 rfl rfl ?_
    refine xr_callS [.int x3] dX10_readChildren_12 cs_X10_readChildren_149 rfl (Nat.le_trans wt_0 (by decide)) (by decide) (xSp.mono h ?_)
    clear h
    intro ρ3 M2 h
    obtain ⟨v1, rfl, h⟩ := h
    refine xr_goto 21 dX10_readChildren_15 (by decide) ?_
    refine zistore dX10_readChildren_21 (L1 := [(1, va_rf (some a0)), (1, .int x1), (1, .int x2), (1, .int x3), (1, .int x4), (1, .int 0), (1, .int (-1)), (1, .int v1), (0, .null), (0, .null), (0, .null), (0, .null)]) (by decide) rfl ?_
    refine xr_iconst 0 dX10_readChildren_23 (by decide) ?_
    refine zistore dX10_readChildren_24 (L1 := [(1, va_rf (some a0)), (1, .int x1), (1, .int x2), (1, .int x3), (1, .int x4), (1, .int 0), (1, .int (-1)), (1, .int v1), (1, .int 0), (0, .null), (0, .null), (0, .null)]) (by decide) rfl ?_
    exact h
theorem dX10_readTree_0 : decode cX10_readTree 0 = .ok (.iconst 0, 1) := by decide +kernel
theorem dX10_readTree_1 : decode cX10_readTree 1 = .ok (.istore 4, 2) := by decide +kernel
theorem dX10_readTree_3 : decode cX10_readTree 3 = .ok (.iload 4, 2) := by decide +kernel
theorem dX10_readTree_5 : decode cX10_readTree 5 = .ok (.sipush 220, 3) := by decide +kernel
theorem dX10_readTree_8 : decode cX10_readTree 8 = .ok (.if_icmp .ge 17, 3) := by decide +kernel
theorem dX10_readTree_11 : decode cX10_readTree 11 = .ok (.aload_n 0, 1) := by decide +kernel
theorem dX10_readTree_12 : decode cX10_readTree 12 = .ok (.getfield 13, 3) := by decide +kernel
theorem dX10_readTree_15 : decode cX10_readTree 15 = .ok (.iload 4, 2) := by decide +kernel
theorem dX10_readTree_17 : decode cX10_readTree 17 = .ok (.iconst 0, 1) := by decide +kernel
theorem dX10_readTree_18 : decode cX10_readTree 18 = .ok (.bastore, 1) := by decide +kernel
theorem dX10_readTree_19 : decode cX10_readTree 19 = .ok (.iinc 4 1, 3) := by decide +kernel
theorem dX10_readTree_22 : decode cX10_readTree 22 = .ok (.goto (-19), 3) := by decide +kernel
theorem dX10_readTree_25 : decode cX10_readTree 25 = .ok (.iconst 0, 1) := by decide +kernel
theorem dX10_readTree_26 : decode cX10_readTree 26 = .ok (.istore 4, 2) := by decide +kernel
theorem dX10_readTree_28 : decode cX10_readTree 28 = .ok (.iload 4, 2) := by decide +kernel
theorem dX10_readTree_30 : decode cX10_readTree 30 = .ok (.sipush 256, 3) := by decide +kernel
theorem dX10_readTree_33 : decode cX10_readTree 33 = .ok (.if_icmp .ge 17, 3) := by decide +kernel
theorem dX10_readTree_36 : decode cX10_readTree 36 = .ok (.aload_n 0, 1) := by decide +kernel
theorem dX10_readTree_37 : decode cX10_readTree 37 = .ok (.getfield 59, 3) := by decide +kernel
theorem dX10_readTree_40 : decode cX10_readTree 40 = .ok (.iload 4, 2) := by decide +kernel
theorem dX10_readTree_42 : decode cX10_readTree 42 = .ok (.iconst 0, 1) := by decide +kernel
theorem dX10_readTree_43 : decode cX10_readTree 43 = .ok (.bastore, 1) := by decide +kernel
theorem dX10_readTree_44 : decode cX10_readTree 44 = .ok (.iinc 4 1, 3) := by decide +kernel
theorem dX10_readTree_47 : decode cX10_readTree 47 = .ok (.goto (-19), 3) := by decide +kernel
theorem dX10_readTree_50 : decode cX10_readTree 50 = .ok (.aload_n 0, 1) := by decide +kernel
theorem dX10_readTree_51 : decode cX10_readTree 51 = .ok (.aload_n 0, 1) := by decide +kernel
theorem dX10_readTree_52 : decode cX10_readTree 52 = .ok (.iconst (-1), 1) := by decide +kernel
theorem dX10_readTree_53 : decode cX10_readTree 53 = .ok (.iconst 0, 1) := by decide +kernel
theorem dX10_readTree_54 : decode cX10_readTree 54 = .ok (.invokevirtual 71, 3) := by decide +kernel
theorem dX10_readTree_57 : decode cX10_readTree 57 = .ok (.putfield 75, 3) := by decide +kernel
theorem dX10_readTree_60 : decode cX10_readTree 60 = .ok (.aload_n 0, 1) := by decide +kernel
theorem dX10_readTree_61 : decode cX10_readTree 61 = .ok (.getfield 39, 3) := by decide +kernel
theorem dX10_readTree_64 : decode cX10_readTree 64 = .ok (.aload_n 0, 1) := by decide +kernel
theorem dX10_readTree_65 : decode cX10_readTree 65 = .ok (.getfield 75, 3) := by decide +kernel
theorem dX10_readTree_68 : decode cX10_readTree 68 = .ok (.iload_n 1, 1) := by decide +kernel
theorem dX10_readTree_69 : decode cX10_readTree 69 = .ok (.iastore, 1) := by decide +kernel
theorem dX10_readTree_70 : decode cX10_readTree 70 = .ok (.aload_n 0, 1) := by decide +kernel
theorem dX10_readTree_71 : decode cX10_readTree 71 = .ok (.getfield 59, 3) := by decide +kernel
theorem dX10_readTree_74 : decode cX10_readTree 74 = .ok (.iload_n 1, 1) := by decide +kernel
theorem dX10_readTree_75 : decode cX10_readTree 75 = .ok (.iconst 1, 1) := by decide +kernel
theorem dX10_readTree_76 : decode cX10_readTree 76 = .ok (.bastore, 1) := by decide +kernel
theorem dX10_readTree_77 : decode cX10_readTree 77 = .ok (.aload_n 0, 1) := by decide +kernel
theorem dX10_readTree_78 : decode cX10_readTree 78 = .ok (.getfield 75, 3) := by decide +kernel
theorem dX10_readTree_81 : decode cX10_readTree 81 = .ok (.istore 4, 2) := by decide +kernel
theorem dX10_readTree_83 : decode cX10_readTree 83 = .ok (.iload 4, 2) := by decide +kernel
theorem dX10_readTree_85 : decode cX10_readTree 85 = .ok (.iconst (-1), 1) := by decide +kernel
theorem dX10_readTree_86 : decode cX10_readTree 86 = .ok (.if_icmp .eq 46, 3) := by decide +kernel
theorem dX10_readTree_89 : decode cX10_readTree 89 = .ok (.aload_n 0, 1) := by decide +kernel
theorem dX10_readTree_90 : decode cX10_readTree 90 = .ok (.iload 4, 2) := by decide +kernel
theorem dX10_readTree_92 : decode cX10_readTree 92 = .ok (.invokevirtual 244, 3) := by decide +kernel
theorem dX10_readTree_95 : decode cX10_readTree 95 = .ok (.ifCond .ne 5, 3) := by decide +kernel
theorem dX10_readTree_98 : decode cX10_readTree 98 = .ok (.iconst 0, 1) := by decide +kernel
theorem dX10_readTree_99 : decode cX10_readTree 99 = .ok (.ireturn, 1) := by decide +kernel
theorem dX10_readTree_100 : decode cX10_readTree 100 = .ok (.aload_n 0, 1) := by decide +kernel
theorem dX10_readTree_101 : decode cX10_readTree 101 = .ok (.iload 4, 2) := by decide +kernel
theorem dX10_readTree_103 : decode cX10_readTree 103 = .ok (.invokevirtual 155, 3) := by decide +kernel
theorem dX10_readTree_106 : decode cX10_readTree 106 = .ok (.aload_n 0, 1) := by decide +kernel
theorem dX10_readTree_107 : decode cX10_readTree 107 = .ok (.getfield 26, 3) := by decide +kernel
theorem dX10_readTree_110 : decode cX10_readTree 110 = .ok (.iload 4, 2) := by decide +kernel
theorem dX10_readTree_112 : decode cX10_readTree 112 = .ok (.iaload, 1) := by decide +kernel
theorem dX10_readTree_113 : decode cX10_readTree 113 = .ok (.iadd, 1) := by decide +kernel
theorem dX10_readTree_114 : decode cX10_readTree 114 = .ok (.bipush 12, 2) := by decide +kernel
theorem dX10_readTree_116 : decode cX10_readTree 116 = .ok (.if_icmp .le 5, 3) := by decide +kernel
theorem dX10_readTree_119 : decode cX10_readTree 119 = .ok (.iconst 0, 1) := by decide +kernel
theorem dX10_readTree_120 : decode cX10_readTree 120 = .ok (.ireturn, 1) := by decide +kernel
theorem dX10_readTree_121 : decode cX10_readTree 121 = .ok (.aload_n 0, 1) := by decide +kernel
theorem dX10_readTree_122 : decode cX10_readTree 122 = .ok (.iload 4, 2) := by decide +kernel
theorem dX10_readTree_124 : decode cX10_readTree 124 = .ok (.invokevirtual 174, 3) := by decide +kernel
theorem dX10_readTree_127 : decode cX10_readTree 127 = .ok (.istore 4, 2) := by decide +kernel
theorem dX10_readTree_129 : decode cX10_readTree 129 = .ok (.goto (-46), 3) := by decide +kernel
theorem dX10_readTree_132 : decode cX10_readTree 132 = .ok (.aload_n 0, 1) := by decide +kernel
theorem dX10_readTree_133 : decode cX10_readTree 133 = .ok (.invokevirtual 177, 3) := by decide +kernel
theorem dX10_readTree_136 : decode cX10_readTree 136 = .ok (.i2l, 1) := by decide +kernel
theorem dX10_readTree_137 : decode cX10_readTree 137 = .ok (.lload_n 2, 1) := by decide +kernel
theorem dX10_readTree_138 : decode cX10_readTree 138 = .ok (.lcmp, 1) := by decide +kernel
theorem dX10_readTree_139 : decode cX10_readTree 139 = .ok (.ifCond .ne 7, 3) := by decide +kernel
theorem dX10_readTree_142 : decode cX10_readTree 142 = .ok (.iconst 1, 1) := by decide +kernel
theorem dX10_readTree_143 : decode cX10_readTree 143 = .ok (.goto 4, 3) := by decide +kernel
theorem dX10_readTree_146 : decode cX10_readTree 146 = .ok (.iconst 0, 1) := by decide +kernel
theorem dX10_readTree_147 : decode cX10_readTree 147 = .ok (.ireturn, 1) := by decide +kernel
set_option maxRecDepth 100000 in
set_option maxHeartbeats 4000000 in
theorem bX10_readTree_83 {l : Launch} {g : xG} (a0 : Nat) (x1 : Int32) (j2 : Int64) (w3 : Value) (x4 : Int32) {M : xM} {Q : Option Value → xM → Prop} (h : ((x4 = (-1) → (xat M a0 7 ∧ xSp l g mX10_keys 0 0 [va_rf (some a0)] M (fun ρ3 M2 => ∃ v1 : Int32, ρ3 = some (.int v1) ∧ ((¬ (lg_cmp v1.toInt64 j2) = 0 → (Q (some (.int 0)) M2)) ∧ ((lg_cmp v1.toInt64 j2) = 0 → (Q (some (.int 1)) M2)))))) ∧ (¬ x4 = (-1) → (xat M a0 7 ∧ xSp l g mX10_readNode 0 0 [va_rf (some a0), .int x4] M (fun ρ9 M8 => ∃ v7 : Int32, ρ9 = some (.int v7) ∧ ((¬ v7 = 0 → (xat M8 a0 7 ∧ xSp l g mX10_lead 0 0 [va_rf (some a0), .int x4] M8 (fun ρ14 M13 => ∃ v12 : Int32, ρ14 = some (.int v12) ∧ (xat M13 a0 7 ∧ (∃ a18, (xR M13 a0 8) = some a18 ∧ ∃ i20, xai M13 a18 9 x4 i20 ∧ (((v12 + (xI M13 a18 i20)) ≤ 12 → (xSp l g mX10_next 0 0 [va_rf (some a0), .int x4] M13 (fun ρ24 M23 => ∃ v22 : Int32, ρ24 = some (.int v22) ∧ xWp l g mX10_readTree 0 0 83 [(1, va_rf (some a0)), (1, .int x1), (2, .long j2), (0, w3), (1, .int v22)] [] (0, 0) M23 Q))) ∧ (¬ (v12 + (xI M13 a18 i20)) ≤ 12 → (Q (some (.int 0)) M13)))))))) ∧ (v7 = 0 → (Q (some (.int 0)) M8)))))))) : xWp l g mX10_readTree 0 0 83 [(1, va_rf (some a0)), (1, .int x1), (2, .long j2), (0, w3), (1, .int x4)] [] (0, 0) M Q := by
  refine xr_iload dX10_readTree_83 rfl ?_
  refine xr_iconst (-1) dX10_readTree_85 (by decide) ?_
  obtain ⟨ht, hf⟩ := h
  refine xr_icmp_eq 132 dX10_readTree_86 (by decide) (fun c28 => ?_) (fun c28 => ?_)
  · replace h := ht c28
    clear ht hf
    refine xr_aload_n 0 dX10_readTree_132 rfl rfl ?_
    obtain ⟨t5, h⟩ := h
    refine yr_callV (r := (some a0)) [] dX10_readTree_133 cv_X10_readTree_177 rfl t5 rfl (Nat.le_trans wt_0 (by decide)) (by decide) (xSp.mono h ?_)
    clear h
    intro ρ3 M2 h
    obtain ⟨v1, rfl, h⟩ := h
    refine xr_i2l dX10_readTree_136 ?_
    refine xr_lload_n 2 dX10_readTree_137 rfl rfl ?_
    refine xr_lcmp dX10_readTree_138 ?_
    obtain ⟨ht, hf⟩ := h
    refine xr_if_ne 146 dX10_readTree_139 (by decide) (fun c6 => ?_) (fun c6 => ?_)
    · replace h := ht c6
      clear ht hf
      refine xr_iconst 0 dX10_readTree_146 (by decide) ?_
      exact xr_retv (by decide) (xRi rfl rfl dX10_readTree_147) h
    · replace h := hf c6
      clear ht hf
      refine xr_iconst 1 dX10_readTree_142 (by decide) ?_
      refine xr_goto 147 dX10_readTree_143 (by decide) ?_
      exact xr_retv (by decide) (xRi rfl rfl dX10_readTree_147) h
  · replace h := hf c28
    clear ht hf
    refine xr_aload_n 0 dX10_readTree_89 rfl rfl ?_
    refine xr_iload dX10_readTree_90 rfl ?_
    obtain ⟨t11, h⟩ := h
    refine yr_callV (r := (some a0)) [.int x4] dX10_readTree_92 cv_X10_readTree_244 rfl t11 rfl (Nat.le_trans wt_0 (by decide)) (by decide) (xSp.mono h ?_)
    clear h
    intro ρ9 M8 h
    obtain ⟨v7, rfl, h⟩ := h
    obtain ⟨ht, hf⟩ := h
    refine xr_if_ne 100 dX10_readTree_95 (by decide) (fun c27 => ?_) (fun c27 => ?_)
    · replace h := ht c27
      clear ht hf
      refine xr_aload_n 0 dX10_readTree_100 rfl rfl ?_
      refine xr_iload dX10_readTree_101 rfl ?_
      obtain ⟨t16, h⟩ := h
      refine yr_callV (r := (some a0)) [.int x4] dX10_readTree_103 cv_X10_readTree_155 rfl t16 rfl (Nat.le_trans wt_0 (by decide)) (by decide) (xSp.mono h ?_)
      clear h
      intro ρ14 M13 h
      obtain ⟨v12, rfl, h⟩ := h
      refine xr_aload_n 0 dX10_readTree_106 rfl rfl ?_
      obtain ⟨t17, h⟩ := h
      refine yr_getR dX10_readTree_107 fl_RX10_26 rfl t17 ?_
      refine xr_iload dX10_readTree_110 rfl ?_
      obtain ⟨a18, e19, h⟩ := h
      obtain ⟨i20, t21, h⟩ := h
      refine yr_iald dX10_readTree_112 e19 t21 ?_
      refine xr_iadd dX10_readTree_113 ?_
      refine xr_bipush 12 dX10_readTree_114 (by decide) ?_
      obtain ⟨ht, hf⟩ := h
      refine xr_icmp_le 121 dX10_readTree_116 (by decide) (fun c26 => ?_) (fun c26 => ?_)
      · replace h := ht c26
        clear ht hf
        refine xr_aload_n 0 dX10_readTree_121 rfl rfl ?_
        refine xr_iload dX10_readTree_122 rfl ?_
        refine yr_callV (r := (some a0)) [.int x4] dX10_readTree_124 cv_X10_readTree_174 rfl t17 rfl (Nat.le_trans wt_0 (by decide)) (by decide) (xSp.mono h ?_)
        clear h
        intro ρ24 M23 h
        obtain ⟨v22, rfl, h⟩ := h
        refine zistore dX10_readTree_127 (L1 := [(1, va_rf (some a0)), (1, .int x1), (2, .long j2), (0, w3), (1, .int v22)]) (by decide) rfl ?_
        refine xr_goto 83 dX10_readTree_129 (by decide) ?_
        exact h
      · replace h := hf c26
        clear ht hf
        refine xr_iconst 0 dX10_readTree_119 (by decide) ?_
        exact xr_retv (by decide) (xRi rfl rfl dX10_readTree_120) h
    · replace h := hf c27
      clear ht hf
      refine xr_iconst 0 dX10_readTree_98 (by decide) ?_
      exact xr_retv (by decide) (xRi rfl rfl dX10_readTree_99) h
set_option maxRecDepth 100000 in
set_option maxHeartbeats 4000000 in
theorem bX10_readTree_28 {l : Launch} {g : xG} (a0 : Nat) (x1 : Int32) (j2 : Int64) (w3 : Value) (x4 : Int32) {M : xM} {Q : Option Value → xM → Prop} (h : ((256 ≤ x4 → (xat M a0 7 ∧ xSp l g mX10_newNode 0 0 [va_rf (some a0), .int (-1), .int 0] M (fun ρ3 M2 => ∃ v1 : Int32, ρ3 = some (.int v1) ∧ (xat M2 a0 7 ∧ (∃ a7, (xR (xsI M2 a0 14 v1) a0 12) = some a7 ∧ ∃ i9, xai (xsI M2 a0 14 v1) a7 9 (xI (xsI M2 a0 14 v1) a0 14) i9 ∧ (∃ a11, (xR (xsI (xsI M2 a0 14 v1) a7 i9 x1) a0 26) = some a11 ∧ ∃ i13, xai (xsI (xsI M2 a0 14 v1) a7 i9 x1) a11 11 x1 i13 ∧ xWp l g mX10_readTree 0 0 83 [(1, va_rf (some a0)), (1, .int x1), (2, .long j2), (0, w3), (1, .int (xI (xsI (xsI (xsI M2 a0 14 v1) a7 i9 x1) a11 i13 ((1 : Int32) &&& 1)) a0 14))] [] (0, 0) (xsI (xsI (xsI M2 a0 14 v1) a7 i9 x1) a11 i13 ((1 : Int32) &&& 1)) Q)))))) ∧ (¬ 256 ≤ x4 → (xat M a0 7 ∧ (∃ a16, (xR M a0 26) = some a16 ∧ ∃ i18, xai M a16 11 x4 i18 ∧ xWp l g mX10_readTree 0 0 28 [(1, va_rf (some a0)), (1, .int x1), (2, .long j2), (0, w3), (1, .int (x4 + 1))] [] (0, 0) (xsI M a16 i18 ((0 : Int32) &&& 1)) Q))))) : xWp l g mX10_readTree 0 0 28 [(1, va_rf (some a0)), (1, .int x1), (2, .long j2), (0, w3), (1, .int x4)] [] (0, 0) M Q := by
  refine xr_iload dX10_readTree_28 rfl ?_
  refine xr_sipush 256 dX10_readTree_30 (by decide) ?_
  obtain ⟨ht, hf⟩ := h
  refine xr_icmp_ge 50 dX10_readTree_33 (by decide) (fun c20 => ?_) (fun c20 => ?_)
  · replace h := ht c20
    clear ht hf
    refine xr_aload_n 0 dX10_readTree_50 rfl rfl ?_
    refine xr_aload_n 0 dX10_readTree_51 rfl rfl ?_
    refine xr_iconst (-1) dX10_readTree_52 (by decide) ?_
    refine xr_iconst 0 dX10_readTree_53 (by decide) ?_
    obtain ⟨t5, h⟩ := h
    refine yr_callV (r := (some a0)) [.int (-1), .int 0] dX10_readTree_54 cv_X10_readTree_71 rfl t5 rfl (Nat.le_trans (wt_r wt_0) (by decide)) (by decide) (xSp.mono h ?_)
    clear h
    intro ρ3 M2 h
    obtain ⟨v1, rfl, h⟩ := h
    obtain ⟨t6, h⟩ := h
    refine yr_putI dX10_readTree_57 fp_RX10_75 rfl t6 ?_
    refine xr_aload_n 0 dX10_readTree_60 rfl rfl ?_
    refine yr_getR dX10_readTree_61 fl_RX10_39 rfl t6 ?_
    refine xr_aload_n 0 dX10_readTree_64 rfl rfl ?_
    refine yr_getI dX10_readTree_65 fl_RX10_75 rfl t6 ?_
    refine xr_iload_n 1 dX10_readTree_68 rfl rfl ?_
    obtain ⟨a7, e8, h⟩ := h
    obtain ⟨i9, t10, h⟩ := h
    refine yr_iast dX10_readTree_69 e8 t10 ?_
    refine xr_aload_n 0 dX10_readTree_70 rfl rfl ?_
    refine yr_getR dX10_readTree_71 fl_RX10_59 rfl t6 ?_
    refine xr_iload_n 1 dX10_readTree_74 rfl rfl ?_
    refine xr_iconst 1 dX10_readTree_75 (by decide) ?_
    obtain ⟨a11, e12, h⟩ := h
    obtain ⟨i13, t14, h⟩ := h
    refine yr_zast dX10_readTree_76 e12 t14 ?_
    refine xr_aload_n 0 dX10_readTree_77 rfl rfl ?_
    refine yr_getI dX10_readTree_78 fl_RX10_75 rfl t6 ?_
    refine zistore dX10_readTree_81 (L1 := [(1, va_rf (some a0)), (1, .int x1), (2, .long j2), (0, w3), (1, .int (xI (xsI (xsI (xsI M2 a0 14 v1) a7 i9 x1) a11 i13 ((1 : Int32) &&& 1)) a0 14))]) (by decide) rfl ?_
    exact h
  · replace h := hf c20
    clear ht hf
    refine xr_aload_n 0 dX10_readTree_36 rfl rfl ?_
    obtain ⟨t15, h⟩ := h
    refine yr_getR dX10_readTree_37 fl_RX10_59 rfl t15 ?_
    refine xr_iload dX10_readTree_40 rfl ?_
    refine xr_iconst 0 dX10_readTree_42 (by decide) ?_
    obtain ⟨a16, e17, h⟩ := h
    obtain ⟨i18, t19, h⟩ := h
    refine yr_zast dX10_readTree_43 e17 t19 ?_
    refine ziinc (x4 + 1) dX10_readTree_44 rfl rfl (L1 := [(1, va_rf (some a0)), (1, .int x1), (2, .long j2), (0, w3), (1, .int (x4 + 1))]) (by decide) rfl ?_
    refine xr_goto 28 dX10_readTree_47 (by decide) ?_
    exact h
set_option maxRecDepth 100000 in
set_option maxHeartbeats 4000000 in
theorem bX10_readTree_3 {l : Launch} {g : xG} (a0 : Nat) (x1 : Int32) (j2 : Int64) (w3 : Value) (x4 : Int32) {M : xM} {Q : Option Value → xM → Prop} (h : ((220 ≤ x4 → xWp l g mX10_readTree 0 0 28 [(1, va_rf (some a0)), (1, .int x1), (2, .long j2), (0, w3), (1, .int 0)] [] (0, 0) M Q) ∧ (¬ 220 ≤ x4 → (xat M a0 7 ∧ (∃ a2, (xR M a0 4) = some a2 ∧ ∃ i4, xai M a2 11 x4 i4 ∧ xWp l g mX10_readTree 0 0 3 [(1, va_rf (some a0)), (1, .int x1), (2, .long j2), (0, w3), (1, .int (x4 + 1))] [] (0, 0) (xsI M a2 i4 ((0 : Int32) &&& 1)) Q))))) : xWp l g mX10_readTree 0 0 3 [(1, va_rf (some a0)), (1, .int x1), (2, .long j2), (0, w3), (1, .int x4)] [] (0, 0) M Q := by
  refine xr_iload dX10_readTree_3 rfl ?_
  refine xr_sipush 220 dX10_readTree_5 (by decide) ?_
  obtain ⟨ht, hf⟩ := h
  refine xr_icmp_ge 25 dX10_readTree_8 (by decide) (fun c6 => ?_) (fun c6 => ?_)
  · replace h := ht c6
    clear ht hf
    refine xr_iconst 0 dX10_readTree_25 (by decide) ?_
    refine zistore dX10_readTree_26 (L1 := [(1, va_rf (some a0)), (1, .int x1), (2, .long j2), (0, w3), (1, .int 0)]) (by decide) rfl ?_
    exact h
  · replace h := hf c6
    clear ht hf
    refine xr_aload_n 0 dX10_readTree_11 rfl rfl ?_
    obtain ⟨t1, h⟩ := h
    refine yr_getR dX10_readTree_12 fl_RX10_13 rfl t1 ?_
    refine xr_iload dX10_readTree_15 rfl ?_
    refine xr_iconst 0 dX10_readTree_17 (by decide) ?_
    obtain ⟨a2, e3, h⟩ := h
    obtain ⟨i4, t5, h⟩ := h
    refine yr_zast dX10_readTree_18 e3 t5 ?_
    refine ziinc (x4 + 1) dX10_readTree_19 rfl rfl (L1 := [(1, va_rf (some a0)), (1, .int x1), (2, .long j2), (0, w3), (1, .int (x4 + 1))]) (by decide) rfl ?_
    refine xr_goto 3 dX10_readTree_22 (by decide) ?_
    exact h
set_option maxRecDepth 100000 in
set_option maxHeartbeats 4000000 in
theorem bX10_readTree_0 {l : Launch} {g : xG} (a0 : Nat) (x1 : Int32) (j2 : Int64) {M : xM} {Q : Option Value → xM → Prop} (h : xWp l g mX10_readTree 0 0 3 [(1, va_rf (some a0)), (1, .int x1), (2, .long j2), (0, .null), (1, .int 0)] [] (0, 0) M Q) : xWp l g mX10_readTree 0 0 0 [(1, va_rf (some a0)), (1, .int x1), (2, .long j2), (0, .null), (0, .null)] [] (0, 0) M Q := by
  refine xr_iconst 0 dX10_readTree_0 (by decide) ?_
  refine zistore dX10_readTree_1 (L1 := [(1, va_rf (some a0)), (1, .int x1), (2, .long j2), (0, .null), (1, .int 0)]) (by decide) rfl ?_
  exact h
theorem dX10_start_0 : decode cX10_start 0 = .ok (.aload_n 0, 1) := by decide +kernel
theorem dX10_start_1 : decode cX10_start 1 = .ok (.iconst 0, 1) := by decide +kernel
theorem dX10_start_2 : decode cX10_start 2 = .ok (.putfield 68, 3) := by decide +kernel
theorem dX10_start_5 : decode cX10_start 5 = .ok (.aload_n 0, 1) := by decide +kernel
theorem dX10_start_6 : decode cX10_start 6 = .ok (.getfield 114, 3) := by decide +kernel
theorem dX10_start_9 : decode cX10_start 9 = .ok (.ifCond .ne 5, 3) := by decide +kernel
theorem dX10_start_12 : decode cX10_start 12 = .ok (.iconst (-1), 1) := by decide +kernel
theorem dX10_start_13 : decode cX10_start 13 = .ok (.ireturn, 1) := by decide +kernel
theorem dX10_start_14 : decode cX10_start 14 = .ok (.aload_n 0, 1) := by decide +kernel
theorem dX10_start_15 : decode cX10_start 15 = .ok (.iconst 0, 1) := by decide +kernel
theorem dX10_start_16 : decode cX10_start 16 = .ok (.putfield 114, 3) := by decide +kernel
theorem dX10_start_19 : decode cX10_start 19 = .ok (.aload_n 0, 1) := by decide +kernel
theorem dX10_start_20 : decode cX10_start 20 = .ok (.iconst (-1), 1) := by decide +kernel
theorem dX10_start_21 : decode cX10_start 21 = .ok (.putfield 49, 3) := by decide +kernel
theorem dX10_start_24 : decode cX10_start 24 = .ok (.aload_n 0, 1) := by decide +kernel
theorem dX10_start_25 : decode cX10_start 25 = .ok (.iconst 0, 1) := by decide +kernel
theorem dX10_start_26 : decode cX10_start 26 = .ok (.invokevirtual 247, 3) := by decide +kernel
theorem dX10_start_29 : decode cX10_start 29 = .ok (.lstore_n 1, 1) := by decide +kernel
theorem dX10_start_30 : decode cX10_start 30 = .ok (.aload_n 0, 1) := by decide +kernel
theorem dX10_start_31 : decode cX10_start 31 = .ok (.iconst 1, 1) := by decide +kernel
theorem dX10_start_32 : decode cX10_start 32 = .ok (.invokevirtual 247, 3) := by decide +kernel
theorem dX10_start_35 : decode cX10_start 35 = .ok (.lstore_n 3, 1) := by decide +kernel
theorem dX10_start_36 : decode cX10_start 36 = .ok (.lload_n 1, 1) := by decide +kernel
theorem dX10_start_37 : decode cX10_start 37 = .ok (.lload_n 3, 1) := by decide +kernel
theorem dX10_start_38 : decode cX10_start 38 = .ok (.lcmp, 1) := by decide +kernel
theorem dX10_start_39 : decode cX10_start 39 = .ok (.ifCond .le 7, 3) := by decide +kernel
theorem dX10_start_42 : decode cX10_start 42 = .ok (.iconst 0, 1) := by decide +kernel
theorem dX10_start_43 : decode cX10_start 43 = .ok (.goto 4, 3) := by decide +kernel
theorem dX10_start_46 : decode cX10_start 46 = .ok (.iconst 1, 1) := by decide +kernel
theorem dX10_start_47 : decode cX10_start 47 = .ok (.istore 5, 2) := by decide +kernel
theorem dX10_start_49 : decode cX10_start 49 = .ok (.iconst 0, 1) := by decide +kernel
theorem dX10_start_50 : decode cX10_start 50 = .ok (.istore 6, 2) := by decide +kernel
theorem dX10_start_52 : decode cX10_start 52 = .ok (.aload_n 0, 1) := by decide +kernel
theorem dX10_start_53 : decode cX10_start 53 = .ok (.lconst 0, 1) := by decide +kernel
theorem dX10_start_54 : decode cX10_start 54 = .ok (.putfield 212, 3) := by decide +kernel
theorem dX10_start_57 : decode cX10_start 57 = .ok (.iconst 0, 1) := by decide +kernel
theorem dX10_start_58 : decode cX10_start 58 = .ok (.istore 7, 2) := by decide +kernel
theorem dX10_start_60 : decode cX10_start 60 = .ok (.iload 7, 2) := by decide +kernel
theorem dX10_start_62 : decode cX10_start 62 = .ok (.iconst 2, 1) := by decide +kernel
theorem dX10_start_63 : decode cX10_start 63 = .ok (.if_icmp .ge 100, 3) := by decide +kernel
theorem dX10_start_66 : decode cX10_start 66 = .ok (.iload 6, 2) := by decide +kernel
theorem dX10_start_68 : decode cX10_start 68 = .ok (.ifCond .ne 95, 3) := by decide +kernel
theorem dX10_start_71 : decode cX10_start 71 = .ok (.iload 7, 2) := by decide +kernel
theorem dX10_start_73 : decode cX10_start 73 = .ok (.ifCond .ne 8, 3) := by decide +kernel
theorem dX10_start_76 : decode cX10_start 76 = .ok (.iload 5, 2) := by decide +kernel
theorem dX10_start_78 : decode cX10_start 78 = .ok (.goto 7, 3) := by decide +kernel
theorem dX10_start_81 : decode cX10_start 81 = .ok (.iconst 1, 1) := by decide +kernel
theorem dX10_start_82 : decode cX10_start 82 = .ok (.iload 5, 2) := by decide +kernel
theorem dX10_start_84 : decode cX10_start 84 = .ok (.isub, 1) := by decide +kernel
theorem dX10_start_85 : decode cX10_start 85 = .ok (.istore 8, 2) := by decide +kernel
theorem dX10_start_87 : decode cX10_start 87 = .ok (.iload 8, 2) := by decide +kernel
theorem dX10_start_89 : decode cX10_start 89 = .ok (.ifCond .ne 7, 3) := by decide +kernel
theorem dX10_start_92 : decode cX10_start 92 = .ok (.lload_n 1, 1) := by decide +kernel
theorem dX10_start_93 : decode cX10_start 93 = .ok (.goto 4, 3) := by decide +kernel
theorem dX10_start_96 : decode cX10_start 96 = .ok (.lload_n 3, 1) := by decide +kernel
theorem dX10_start_97 : decode cX10_start 97 = .ok (.lstore 9, 2) := by decide +kernel
theorem dX10_start_99 : decode cX10_start 99 = .ok (.lload 9, 2) := by decide +kernel
theorem dX10_start_101 : decode cX10_start 101 = .ok (.lconst 0, 1) := by decide +kernel
theorem dX10_start_102 : decode cX10_start 102 = .ok (.lcmp, 1) := by decide +kernel
theorem dX10_start_103 : decode cX10_start 103 = .ok (.ifCond .ne 6, 3) := by decide +kernel
theorem dX10_start_106 : decode cX10_start 106 = .ok (.goto 51, 3) := by decide +kernel
theorem dX10_start_109 : decode cX10_start 109 = .ok (.aload_n 0, 1) := by decide +kernel
theorem dX10_start_110 : decode cX10_start 110 = .ok (.aload_n 0, 1) := by decide +kernel
theorem dX10_start_111 : decode cX10_start 111 = .ok (.getfield 46, 3) := by decide +kernel
theorem dX10_start_114 : decode cX10_start 114 = .ok (.sipush 512, 3) := by decide +kernel
theorem dX10_start_117 : decode cX10_start 117 = .ok (.iload 8, 2) := by decide +kernel
theorem dX10_start_119 : decode cX10_start 119 = .ok (.imul, 1) := by decide +kernel
theorem dX10_start_120 : decode cX10_start 120 = .ok (.bipush 9, 2) := by decide +kernel
theorem dX10_start_122 : decode cX10_start 122 = .ok (.iadd, 1) := by decide +kernel
theorem dX10_start_123 : decode cX10_start 123 = .ok (.iaload, 1) := by decide +kernel
theorem dX10_start_124 : decode cX10_start 124 = .ok (.aload_n 0, 1) := by decide +kernel
theorem dX10_start_125 : decode cX10_start 125 = .ok (.getfield 46, 3) := by decide +kernel
theorem dX10_start_128 : decode cX10_start 128 = .ok (.sipush 512, 3) := by decide +kernel
theorem dX10_start_131 : decode cX10_start 131 = .ok (.iload 8, 2) := by decide +kernel
theorem dX10_start_133 : decode cX10_start 133 = .ok (.imul, 1) := by decide +kernel
theorem dX10_start_134 : decode cX10_start 134 = .ok (.bipush 10, 2) := by decide +kernel
theorem dX10_start_136 : decode cX10_start 136 = .ok (.iadd, 1) := by decide +kernel
theorem dX10_start_137 : decode cX10_start 137 = .ok (.iconst 2, 1) := by decide +kernel
theorem dX10_start_138 : decode cX10_start 138 = .ok (.invokestatic 232, 3) := by decide +kernel
theorem dX10_start_141 : decode cX10_start 141 = .ok (.invokevirtual 251, 3) := by decide +kernel
theorem dX10_start_144 : decode cX10_start 144 = .ok (.istore 6, 2) := by decide +kernel
theorem dX10_start_146 : decode cX10_start 146 = .ok (.iload 6, 2) := by decide +kernel
theorem dX10_start_148 : decode cX10_start 148 = .ok (.ifCond .eq 9, 3) := by decide +kernel
theorem dX10_start_151 : decode cX10_start 151 = .ok (.aload_n 0, 1) := by decide +kernel
theorem dX10_start_152 : decode cX10_start 152 = .ok (.lload 9, 2) := by decide +kernel
theorem dX10_start_154 : decode cX10_start 154 = .ok (.putfield 212, 3) := by decide +kernel
theorem dX10_start_157 : decode cX10_start 157 = .ok (.iinc 7 1, 3) := by decide +kernel
theorem dX10_start_160 : decode cX10_start 160 = .ok (.goto (-100), 3) := by decide +kernel
theorem dX10_start_163 : decode cX10_start 163 = .ok (.iload 6, 2) := by decide +kernel
theorem dX10_start_165 : decode cX10_start 165 = .ok (.ifCond .ne 7, 3) := by decide +kernel
theorem dX10_start_168 : decode cX10_start 168 = .ok (.aload_n 0, 1) := by decide +kernel
theorem dX10_start_169 : decode cX10_start 169 = .ok (.invokevirtual 62, 3) := by decide +kernel
theorem dX10_start_172 : decode cX10_start 172 = .ok (.aload_n 0, 1) := by decide +kernel
theorem dX10_start_173 : decode cX10_start 173 = .ok (.invokevirtual 65, 3) := by decide +kernel
theorem dX10_start_176 : decode cX10_start 176 = .ok (.aload_n 0, 1) := by decide +kernel
theorem dX10_start_177 : decode cX10_start 177 = .ok (.getfield 212, 3) := by decide +kernel
theorem dX10_start_180 : decode cX10_start 180 = .ok (.l2i, 1) := by decide +kernel
theorem dX10_start_181 : decode cX10_start 181 = .ok (.ireturn, 1) := by decide +kernel
set_option maxRecDepth 100000 in
set_option maxHeartbeats 4000000 in
theorem bX10_start_97 {l : Launch} {g : xG} (a0 : Nat) (j1 : Int64) (w2 : Value) (j3 : Int64) (w4 : Value) (x5 : Int32) (x6 : Int32) (x7 : Int32) (x8 : Int32) (w9 : Value) (w10 : Value) (sj0 : Int64) {M : xM} {Q : Option Value → xM → Prop} (h : ((¬ (lg_cmp sj0 0) = 0 → (xat M a0 7 ∧ (∃ a2, (xR M a0 17) = some a2 ∧ ∃ i4, xai M a2 9 ((512 * x8) + 9) i4 ∧ (xSp l g mX10_numberAt 0 0 [va_rf (xR M a0 17), .int ((512 * x8) + 10), .int 2] M (fun ρ8 M7 => ∃ v6 : Int64, ρ8 = some (.long v6) ∧ (xat M7 a0 7 ∧ xSp l g mX10_readTree 0 0 [va_rf (some a0), .int (xI M a2 i4), .long v6] M7 (fun ρ12 M11 => ∃ v10 : Int32, ρ12 = some (.int v10) ∧ ((v10 = 0 → xWp l g mX10_start 0 0 60 [(1, va_rf (some a0)), (2, .long j1), (0, w2), (2, .long j3), (0, w4), (1, .int x5), (1, .int v10), (1, .int (x7 + 1)), (1, .int x8), (2, .long sj0), (0, (.long sj0))] [] (0, 0) M11 Q) ∧ (¬ v10 = 0 → (xat M11 a0 7 ∧ xWp l g mX10_start 0 0 60 [(1, va_rf (some a0)), (2, .long j1), (0, w2), (2, .long j3), (0, w4), (1, .int x5), (1, .int v10), (1, .int (x7 + 1)), (1, .int x8), (2, .long sj0), (0, (.long sj0))] [] (0, 0) (xsJ M11 a0 16 sj0) Q)))))))))) ∧ ((lg_cmp sj0 0) = 0 → xWp l g mX10_start 0 0 60 [(1, va_rf (some a0)), (2, .long j1), (0, w2), (2, .long j3), (0, w4), (1, .int x5), (1, .int x6), (1, .int (x7 + 1)), (1, .int x8), (2, .long sj0), (0, (.long sj0))] [] (0, 0) M Q))) : xWp l g mX10_start 0 0 97 [(1, va_rf (some a0)), (2, .long j1), (0, w2), (2, .long j3), (0, w4), (1, .int x5), (1, .int x6), (1, .int x7), (1, .int x8), (0, w9), (0, w10)] [.long sj0] (0, 0) M Q := by
  refine zlstore dX10_start_97 (L1 := [(1, va_rf (some a0)), (2, .long j1), (0, w2), (2, .long j3), (0, w4), (1, .int x5), (1, .int x6), (1, .int x7), (1, .int x8), (2, .long sj0), (0, (.long sj0))]) (by decide) rfl ?_
  refine xr_lload dX10_start_99 rfl ?_
  refine xr_lconst 0 dX10_start_101 (by decide) ?_
  refine xr_lcmp dX10_start_102 ?_
  obtain ⟨ht, hf⟩ := h
  refine xr_if_ne 109 dX10_start_103 (by decide) (fun c17 => ?_) (fun c17 => ?_)
  · replace h := ht c17
    clear ht hf
    refine xr_aload_n 0 dX10_start_109 rfl rfl ?_
    refine xr_aload_n 0 dX10_start_110 rfl rfl ?_
    obtain ⟨t1, h⟩ := h
    refine yr_getR dX10_start_111 fl_RX10_46 rfl t1 ?_
    refine xr_sipush 512 dX10_start_114 (by decide) ?_
    refine xr_iload dX10_start_117 rfl ?_
    refine xr_imul dX10_start_119 ?_
    refine xr_bipush 9 dX10_start_120 (by decide) ?_
    refine xr_iadd dX10_start_122 ?_
    obtain ⟨a2, e3, h⟩ := h
    obtain ⟨i4, t5, h⟩ := h
    refine yr_iald dX10_start_123 e3 t5 ?_
    refine xr_aload_n 0 dX10_start_124 rfl rfl ?_
    refine yr_getR dX10_start_125 fl_RX10_46 rfl t1 ?_
    refine xr_sipush 512 dX10_start_128 (by decide) ?_
    refine xr_iload dX10_start_131 rfl ?_
    refine xr_imul dX10_start_133 ?_
    refine xr_bipush 10 dX10_start_134 (by decide) ?_
    refine xr_iadd dX10_start_136 ?_
    refine xr_iconst 2 dX10_start_137 (by decide) ?_
    refine xr_callS [va_rf (xR M a0 17), .int ((512 * x8) + 10), .int 2] dX10_start_138 cs_X10_start_232 rfl (Nat.le_trans (wt_i (wt_r wt_0)) (by decide)) (by decide) (xSp.mono h ?_)
    clear h
    intro ρ8 M7 h
    obtain ⟨v6, rfl, h⟩ := h
    obtain ⟨t14, h⟩ := h
    refine yr_callV (r := (some a0)) [.int (xI M a2 i4), .long v6] dX10_start_141 cv_X10_start_251 rfl t14 rfl (Nat.le_trans wt_0 (by decide)) (by decide) (xSp.mono h ?_)
    clear h
    intro ρ12 M11 h
    obtain ⟨v10, rfl, h⟩ := h
    refine zistore dX10_start_144 (L1 := [(1, va_rf (some a0)), (2, .long j1), (0, w2), (2, .long j3), (0, w4), (1, .int x5), (1, .int v10), (1, .int x7), (1, .int x8), (2, .long sj0), (0, (.long sj0))]) (by decide) rfl ?_
    refine xr_iload dX10_start_146 rfl ?_
    obtain ⟨ht, hf⟩ := h
    refine xr_if_eq 157 dX10_start_148 (by decide) (fun c16 => ?_) (fun c16 => ?_)
    · replace h := ht c16
      clear ht hf
      refine ziinc (x7 + 1) dX10_start_157 rfl rfl (L1 := [(1, va_rf (some a0)), (2, .long j1), (0, w2), (2, .long j3), (0, w4), (1, .int x5), (1, .int v10), (1, .int (x7 + 1)), (1, .int x8), (2, .long sj0), (0, (.long sj0))]) (by decide) rfl ?_
      refine xr_goto 60 dX10_start_160 (by decide) ?_
      exact h
    · replace h := hf c16
      clear ht hf
      refine xr_aload_n 0 dX10_start_151 rfl rfl ?_
      refine xr_lload dX10_start_152 rfl ?_
      obtain ⟨t15, h⟩ := h
      refine yr_putJ dX10_start_154 fp_RX10_212 rfl t15 ?_
      refine ziinc (x7 + 1) dX10_start_157 rfl rfl (L1 := [(1, va_rf (some a0)), (2, .long j1), (0, w2), (2, .long j3), (0, w4), (1, .int x5), (1, .int v10), (1, .int (x7 + 1)), (1, .int x8), (2, .long sj0), (0, (.long sj0))]) (by decide) rfl ?_
      refine xr_goto 60 dX10_start_160 (by decide) ?_
      exact h
  · replace h := hf c17
    clear ht hf
    refine xr_goto 157 dX10_start_106 (by decide) ?_
    refine ziinc (x7 + 1) dX10_start_157 rfl rfl (L1 := [(1, va_rf (some a0)), (2, .long j1), (0, w2), (2, .long j3), (0, w4), (1, .int x5), (1, .int x6), (1, .int (x7 + 1)), (1, .int x8), (2, .long sj0), (0, (.long sj0))]) (by decide) rfl ?_
    refine xr_goto 60 dX10_start_160 (by decide) ?_
    exact h
set_option maxRecDepth 100000 in
set_option maxHeartbeats 4000000 in
theorem bX10_start_60 {l : Launch} {g : xG} (a0 : Nat) (j1 : Int64) (w2 : Value) (j3 : Int64) (w4 : Value) (x5 : Int32) (x6 : Int32) (x7 : Int32) (w8 : Value) (w9 : Value) (w10 : Value) {M : xM} {Q : Option Value → xM → Prop} (h : ((2 ≤ x7 → ((¬ x6 = 0 → (xat M a0 7 ∧ xSp l g mX10_keep 0 0 [va_rf (some a0)] M (fun ρ3 M2 => ρ3 = none ∧ (xat M2 a0 7 ∧ (Q (some (.int (xJ M2 a0 16).toInt32)) M2))))) ∧ (x6 = 0 → (xat M a0 7 ∧ xSp l g mX10_clear 0 0 [va_rf (some a0)] M (fun ρ9 M8 => ρ9 = none ∧ (xat M8 a0 7 ∧ xSp l g mX10_keep 0 0 [va_rf (some a0)] M8 (fun ρ14 M13 => ρ14 = none ∧ (xat M13 a0 7 ∧ (Q (some (.int (xJ M13 a0 16).toInt32)) M13))))))))) ∧ (¬ 2 ≤ x7 → ((¬ x6 = 0 → ((¬ x6 = 0 → (xat M a0 7 ∧ xSp l g mX10_keep 0 0 [va_rf (some a0)] M (fun ρ21 M20 => ρ21 = none ∧ (xat M20 a0 7 ∧ (Q (some (.int (xJ M20 a0 16).toInt32)) M20))))) ∧ (x6 = 0 → (xat M a0 7 ∧ xSp l g mX10_clear 0 0 [va_rf (some a0)] M (fun ρ27 M26 => ρ27 = none ∧ (xat M26 a0 7 ∧ xSp l g mX10_keep 0 0 [va_rf (some a0)] M26 (fun ρ32 M31 => ρ32 = none ∧ (xat M31 a0 7 ∧ (Q (some (.int (xJ M31 a0 16).toInt32)) M31))))))))) ∧ (x6 = 0 → ((¬ x7 = 0 → ((¬ (1 - x5) = 0 → xWp l g mX10_start 0 0 97 [(1, va_rf (some a0)), (2, .long j1), (0, w2), (2, .long j3), (0, w4), (1, .int x5), (1, .int x6), (1, .int x7), (1, .int (1 - x5)), (0, w9), (0, w10)] [.long j3] (0, 0) M Q) ∧ ((1 - x5) = 0 → xWp l g mX10_start 0 0 97 [(1, va_rf (some a0)), (2, .long j1), (0, w2), (2, .long j3), (0, w4), (1, .int x5), (1, .int x6), (1, .int x7), (1, .int (1 - x5)), (0, w9), (0, w10)] [.long j1] (0, 0) M Q))) ∧ (x7 = 0 → ((¬ x5 = 0 → xWp l g mX10_start 0 0 97 [(1, va_rf (some a0)), (2, .long j1), (0, w2), (2, .long j3), (0, w4), (1, .int x5), (1, .int x6), (1, .int x7), (1, .int x5), (0, w9), (0, w10)] [.long j3] (0, 0) M Q) ∧ (x5 = 0 → xWp l g mX10_start 0 0 97 [(1, va_rf (some a0)), (2, .long j1), (0, w2), (2, .long j3), (0, w4), (1, .int x5), (1, .int x6), (1, .int x7), (1, .int x5), (0, w9), (0, w10)] [.long j1] (0, 0) M Q))))))))) : xWp l g mX10_start 0 0 60 [(1, va_rf (some a0)), (2, .long j1), (0, w2), (2, .long j3), (0, w4), (1, .int x5), (1, .int x6), (1, .int x7), (0, w8), (0, w9), (0, w10)] [] (0, 0) M Q := by
  refine xr_iload dX10_start_60 rfl ?_
  refine xr_iconst 2 dX10_start_62 (by decide) ?_
  obtain ⟨ht, hf⟩ := h
  refine xr_icmp_ge 163 dX10_start_63 (by decide) (fun c41 => ?_) (fun c41 => ?_)
  · replace h := ht c41
    clear ht hf
    refine xr_iload dX10_start_163 rfl ?_
    obtain ⟨ht, hf⟩ := h
    refine xr_if_ne 172 dX10_start_165 (by decide) (fun c18 => ?_) (fun c18 => ?_)
    · replace h := ht c18
      clear ht hf
      refine xr_aload_n 0 dX10_start_172 rfl rfl ?_
      obtain ⟨t5, h⟩ := h
      refine yr_callV (r := (some a0)) [] dX10_start_173 cv_X10_start_65 rfl t5 rfl (Nat.le_trans wt_0 (by decide)) (by decide) (xSp.mono h ?_)
      clear h
      intro ρ3 M2 h
      obtain ⟨rfl, h⟩ := h
      refine xr_aload_n 0 dX10_start_176 rfl rfl ?_
      obtain ⟨t6, h⟩ := h
      refine yr_getJ dX10_start_177 fl_RX10_212 rfl t6 ?_
      refine xr_l2i dX10_start_180 ?_
      exact xr_retv (by decide) (xRi rfl rfl dX10_start_181) h
    · replace h := hf c18
      clear ht hf
      refine xr_aload_n 0 dX10_start_168 rfl rfl ?_
      obtain ⟨t11, h⟩ := h
      refine yr_callV (r := (some a0)) [] dX10_start_169 cv_X10_start_62 rfl t11 rfl (Nat.le_trans wt_0 (by decide)) (by decide) (xSp.mono h ?_)
      clear h
      intro ρ9 M8 h
      obtain ⟨rfl, h⟩ := h
      refine xr_aload_n 0 dX10_start_172 rfl rfl ?_
      obtain ⟨t16, h⟩ := h
      refine yr_callV (r := (some a0)) [] dX10_start_173 cv_X10_start_65 rfl t16 rfl (Nat.le_trans wt_0 (by decide)) (by decide) (xSp.mono h ?_)
      clear h
      intro ρ14 M13 h
      obtain ⟨rfl, h⟩ := h
      refine xr_aload_n 0 dX10_start_176 rfl rfl ?_
      obtain ⟨t17, h⟩ := h
      refine yr_getJ dX10_start_177 fl_RX10_212 rfl t17 ?_
      refine xr_l2i dX10_start_180 ?_
      exact xr_retv (by decide) (xRi rfl rfl dX10_start_181) h
  · replace h := hf c41
    clear ht hf
    refine xr_iload dX10_start_66 rfl ?_
    obtain ⟨ht, hf⟩ := h
    refine xr_if_ne 163 dX10_start_68 (by decide) (fun c40 => ?_) (fun c40 => ?_)
    · replace h := ht c40
      clear ht hf
      refine xr_iload dX10_start_163 rfl ?_
      obtain ⟨ht, hf⟩ := h
      refine xr_if_ne 172 dX10_start_165 (by decide) (fun c36 => ?_) (fun c36 => ?_)
      · replace h := ht c36
        clear ht hf
        refine xr_aload_n 0 dX10_start_172 rfl rfl ?_
        obtain ⟨t23, h⟩ := h
        refine yr_callV (r := (some a0)) [] dX10_start_173 cv_X10_start_65 rfl t23 rfl (Nat.le_trans wt_0 (by decide)) (by decide) (xSp.mono h ?_)
        clear h
        intro ρ21 M20 h
        obtain ⟨rfl, h⟩ := h
        refine xr_aload_n 0 dX10_start_176 rfl rfl ?_
        obtain ⟨t24, h⟩ := h
        refine yr_getJ dX10_start_177 fl_RX10_212 rfl t24 ?_
        refine xr_l2i dX10_start_180 ?_
        exact xr_retv (by decide) (xRi rfl rfl dX10_start_181) h
      · replace h := hf c36
        clear ht hf
        refine xr_aload_n 0 dX10_start_168 rfl rfl ?_
        obtain ⟨t29, h⟩ := h
        refine yr_callV (r := (some a0)) [] dX10_start_169 cv_X10_start_62 rfl t29 rfl (Nat.le_trans wt_0 (by decide)) (by decide) (xSp.mono h ?_)
        clear h
        intro ρ27 M26 h
        obtain ⟨rfl, h⟩ := h
        refine xr_aload_n 0 dX10_start_172 rfl rfl ?_
        obtain ⟨t34, h⟩ := h
        refine yr_callV (r := (some a0)) [] dX10_start_173 cv_X10_start_65 rfl t34 rfl (Nat.le_trans wt_0 (by decide)) (by decide) (xSp.mono h ?_)
        clear h
        intro ρ32 M31 h
        obtain ⟨rfl, h⟩ := h
        refine xr_aload_n 0 dX10_start_176 rfl rfl ?_
        obtain ⟨t35, h⟩ := h
        refine yr_getJ dX10_start_177 fl_RX10_212 rfl t35 ?_
        refine xr_l2i dX10_start_180 ?_
        exact xr_retv (by decide) (xRi rfl rfl dX10_start_181) h
    · replace h := hf c40
      clear ht hf
      refine xr_iload dX10_start_71 rfl ?_
      obtain ⟨ht, hf⟩ := h
      refine xr_if_ne 81 dX10_start_73 (by decide) (fun c39 => ?_) (fun c39 => ?_)
      · replace h := ht c39
        clear ht hf
        refine xr_iconst 1 dX10_start_81 (by decide) ?_
        refine xr_iload dX10_start_82 rfl ?_
        refine xr_isub dX10_start_84 ?_
        refine zistore dX10_start_85 (L1 := [(1, va_rf (some a0)), (2, .long j1), (0, w2), (2, .long j3), (0, w4), (1, .int x5), (1, .int x6), (1, .int x7), (1, .int (1 - x5)), (0, w9), (0, w10)]) (by decide) rfl ?_
        refine xr_iload dX10_start_87 rfl ?_
        obtain ⟨ht, hf⟩ := h
        refine xr_if_ne 96 dX10_start_89 (by decide) (fun c37 => ?_) (fun c37 => ?_)
        · replace h := ht c37
          clear ht hf
          refine xr_lload_n 3 dX10_start_96 rfl rfl ?_
          exact h
        · replace h := hf c37
          clear ht hf
          refine xr_lload_n 1 dX10_start_92 rfl rfl ?_
          refine xr_goto 97 dX10_start_93 (by decide) ?_
          exact h
      · replace h := hf c39
        clear ht hf
        refine xr_iload dX10_start_76 rfl ?_
        refine xr_goto 85 dX10_start_78 (by decide) ?_
        refine zistore dX10_start_85 (L1 := [(1, va_rf (some a0)), (2, .long j1), (0, w2), (2, .long j3), (0, w4), (1, .int x5), (1, .int x6), (1, .int x7), (1, .int x5), (0, w9), (0, w10)]) (by decide) rfl ?_
        refine xr_iload dX10_start_87 rfl ?_
        obtain ⟨ht, hf⟩ := h
        refine xr_if_ne 96 dX10_start_89 (by decide) (fun c38 => ?_) (fun c38 => ?_)
        · replace h := ht c38
          clear ht hf
          refine xr_lload_n 3 dX10_start_96 rfl rfl ?_
          exact h
        · replace h := hf c38
          clear ht hf
          refine xr_lload_n 1 dX10_start_92 rfl rfl ?_
          refine xr_goto 97 dX10_start_93 (by decide) ?_
          exact h
set_option maxRecDepth 100000 in
set_option maxHeartbeats 4000000 in
theorem bX10_start_0 {l : Launch} {g : xG} (a0 : Nat) {M : xM} {Q : Option Value → xM → Prop} (h : (xat M a0 7 ∧ ((¬ (xI (xsI M a0 0 0) a0 3) = 0 → (xSp l g mX10_headOf 0 0 [va_rf (some a0), .int 0] (xsI (xsI (xsI M a0 0 0) a0 3 0) a0 18 (-1)) (fun ρ4 M3 => ∃ v2 : Int64, ρ4 = some (.long v2) ∧ (xat M3 a0 7 ∧ xSp l g mX10_headOf 0 0 [va_rf (some a0), .int 1] M3 (fun ρ8 M7 => ∃ v6 : Int64, ρ8 = some (.long v6) ∧ (((lg_cmp v2 v6) ≤ 0 → (xat M7 a0 7 ∧ xWp l g mX10_start 0 0 60 [(1, va_rf (some a0)), (2, .long v2), (0, (.long v2)), (2, .long v6), (0, (.long v6)), (1, .int 1), (1, .int 0), (1, .int 0), (0, .null), (0, .null), (0, .null)] [] (0, 0) (xsJ M7 a0 16 0) Q)) ∧ (¬ (lg_cmp v2 v6) ≤ 0 → (xat M7 a0 7 ∧ xWp l g mX10_start 0 0 60 [(1, va_rf (some a0)), (2, .long v2), (0, (.long v2)), (2, .long v6), (0, (.long v6)), (1, .int 0), (1, .int 0), (1, .int 0), (0, .null), (0, .null), (0, .null)] [] (0, 0) (xsJ M7 a0 16 0) Q)))))))) ∧ ((xI (xsI M a0 0 0) a0 3) = 0 → (Q (some (.int (-1))) (xsI M a0 0 0)))))) : xWp l g mX10_start 0 0 0 [(1, va_rf (some a0)), (0, .null), (0, .null), (0, .null), (0, .null), (0, .null), (0, .null), (0, .null), (0, .null), (0, .null), (0, .null)] [] (0, 0) M Q := by
  refine xr_aload_n 0 dX10_start_0 rfl rfl ?_
  refine xr_iconst 0 dX10_start_1 (by decide) ?_
  obtain ⟨t1, h⟩ := h
  refine yr_putI dX10_start_2 fp_RX10_68 rfl t1 ?_
  refine xr_aload_n 0 dX10_start_5 rfl rfl ?_
  refine yr_getZ dX10_start_6 fl_RX10_114 rfl t1 ?_
  obtain ⟨ht, hf⟩ := h
  refine xr_if_ne 14 dX10_start_9 (by decide) (fun c14 => ?_) (fun c14 => ?_)
  · replace h := ht c14
    clear ht hf
    refine xr_aload_n 0 dX10_start_14 rfl rfl ?_
    refine xr_iconst 0 dX10_start_15 (by decide) ?_
    refine yr_putZ dX10_start_16 fp_RX10_114 rfl t1 (by decide) ?_
    refine xr_aload_n 0 dX10_start_19 rfl rfl ?_
    refine xr_iconst (-1) dX10_start_20 (by decide) ?_
    refine yr_putI dX10_start_21 fp_RX10_49 rfl t1 ?_
    refine xr_aload_n 0 dX10_start_24 rfl rfl ?_
    refine xr_iconst 0 dX10_start_25 (by decide) ?_
    refine yr_callV (r := (some a0)) [.int 0] dX10_start_26 cv_X10_start_247 rfl t1 rfl (Nat.le_trans wt_0 (by decide)) (by decide) (xSp.mono h ?_)
    clear h
    intro ρ4 M3 h
    obtain ⟨v2, rfl, h⟩ := h
    refine zlstore_n 1 dX10_start_29 rfl (L1 := [(1, va_rf (some a0)), (2, .long v2), (0, (.long v2)), (0, .null), (0, .null), (0, .null), (0, .null), (0, .null), (0, .null), (0, .null), (0, .null)]) (by decide) rfl ?_
    refine xr_aload_n 0 dX10_start_30 rfl rfl ?_
    refine xr_iconst 1 dX10_start_31 (by decide) ?_
    obtain ⟨t10, h⟩ := h
    refine yr_callV (r := (some a0)) [.int 1] dX10_start_32 cv_X10_start_247 rfl t10 rfl (Nat.le_trans wt_0 (by decide)) (by decide) (xSp.mono h ?_)
    clear h
    intro ρ8 M7 h
    obtain ⟨v6, rfl, h⟩ := h
    refine zlstore_n 3 dX10_start_35 rfl (L1 := [(1, va_rf (some a0)), (2, .long v2), (0, (.long v2)), (2, .long v6), (0, (.long v6)), (0, .null), (0, .null), (0, .null), (0, .null), (0, .null), (0, .null)]) (by decide) rfl ?_
    refine xr_lload_n 1 dX10_start_36 rfl rfl ?_
    refine xr_lload_n 3 dX10_start_37 rfl rfl ?_
    refine xr_lcmp dX10_start_38 ?_
    obtain ⟨ht, hf⟩ := h
    refine xr_if_le 46 dX10_start_39 (by decide) (fun c13 => ?_) (fun c13 => ?_)
    · replace h := ht c13
      clear ht hf
      refine xr_iconst 1 dX10_start_46 (by decide) ?_
      refine zistore dX10_start_47 (L1 := [(1, va_rf (some a0)), (2, .long v2), (0, (.long v2)), (2, .long v6), (0, (.long v6)), (1, .int 1), (0, .null), (0, .null), (0, .null), (0, .null), (0, .null)]) (by decide) rfl ?_
      refine xr_iconst 0 dX10_start_49 (by decide) ?_
      refine zistore dX10_start_50 (L1 := [(1, va_rf (some a0)), (2, .long v2), (0, (.long v2)), (2, .long v6), (0, (.long v6)), (1, .int 1), (1, .int 0), (0, .null), (0, .null), (0, .null), (0, .null)]) (by decide) rfl ?_
      refine xr_aload_n 0 dX10_start_52 rfl rfl ?_
      refine xr_lconst 0 dX10_start_53 (by decide) ?_
      obtain ⟨t11, h⟩ := h
      refine yr_putJ dX10_start_54 fp_RX10_212 rfl t11 ?_
      refine xr_iconst 0 dX10_start_57 (by decide) ?_
      refine zistore dX10_start_58 (L1 := [(1, va_rf (some a0)), (2, .long v2), (0, (.long v2)), (2, .long v6), (0, (.long v6)), (1, .int 1), (1, .int 0), (1, .int 0), (0, .null), (0, .null), (0, .null)]) (by decide) rfl ?_
      exact h
    · replace h := hf c13
      clear ht hf
      refine xr_iconst 0 dX10_start_42 (by decide) ?_
      refine xr_goto 47 dX10_start_43 (by decide) ?_
      refine zistore dX10_start_47 (L1 := [(1, va_rf (some a0)), (2, .long v2), (0, (.long v2)), (2, .long v6), (0, (.long v6)), (1, .int 0), (0, .null), (0, .null), (0, .null), (0, .null), (0, .null)]) (by decide) rfl ?_
      refine xr_iconst 0 dX10_start_49 (by decide) ?_
      refine zistore dX10_start_50 (L1 := [(1, va_rf (some a0)), (2, .long v2), (0, (.long v2)), (2, .long v6), (0, (.long v6)), (1, .int 0), (1, .int 0), (0, .null), (0, .null), (0, .null), (0, .null)]) (by decide) rfl ?_
      refine xr_aload_n 0 dX10_start_52 rfl rfl ?_
      refine xr_lconst 0 dX10_start_53 (by decide) ?_
      obtain ⟨t12, h⟩ := h
      refine yr_putJ dX10_start_54 fp_RX10_212 rfl t12 ?_
      refine xr_iconst 0 dX10_start_57 (by decide) ?_
      refine zistore dX10_start_58 (L1 := [(1, va_rf (some a0)), (2, .long v2), (0, (.long v2)), (2, .long v6), (0, (.long v6)), (1, .int 0), (1, .int 0), (1, .int 0), (0, .null), (0, .null), (0, .null)]) (by decide) rfl ?_
      exact h
  · replace h := hf c14
    clear ht hf
    refine xr_iconst (-1) dX10_start_12 (by decide) ?_
    exact xr_retv (by decide) (xRi rfl rfl dX10_start_13) h
theorem dX10_octet_0 : decode cX10_octet 0 = .ok (.aload_n 0, 1) := by decide +kernel
theorem dX10_octet_1 : decode cX10_octet 1 = .ok (.iload_n 1, 1) := by decide +kernel
theorem dX10_octet_2 : decode cX10_octet 2 = .ok (.i2l, 1) := by decide +kernel
theorem dX10_octet_3 : decode cX10_octet 3 = .ok (.lconst 0, 1) := by decide +kernel
theorem dX10_octet_4 : decode cX10_octet 4 = .ok (.ldc2_w 94, 3) := by decide +kernel
theorem dX10_octet_7 : decode cX10_octet 7 = .ok (.invokestatic 87, 3) := by decide +kernel
theorem dX10_octet_10 : decode cX10_octet 10 = .ok (.ifCond .eq 19, 3) := by decide +kernel
theorem dX10_octet_13 : decode cX10_octet 13 = .ok (.iload_n 2, 1) := by decide +kernel
theorem dX10_octet_14 : decode cX10_octet 14 = .ok (.i2l, 1) := by decide +kernel
theorem dX10_octet_15 : decode cX10_octet 15 = .ok (.lconst 0, 1) := by decide +kernel
theorem dX10_octet_16 : decode cX10_octet 16 = .ok (.ldc2_w 230, 3) := by decide +kernel
theorem dX10_octet_19 : decode cX10_octet 19 = .ok (.invokestatic 87, 3) := by decide +kernel
theorem dX10_octet_22 : decode cX10_octet 22 = .ok (.ifCond .eq 7, 3) := by decide +kernel
theorem dX10_octet_25 : decode cX10_octet 25 = .ok (.iconst 0, 1) := by decide +kernel
theorem dX10_octet_26 : decode cX10_octet 26 = .ok (.goto 4, 3) := by decide +kernel
theorem dX10_octet_29 : decode cX10_octet 29 = .ok (.iconst 1, 1) := by decide +kernel
theorem dX10_octet_30 : decode cX10_octet 30 = .ok (.putfield 68, 3) := by decide +kernel
theorem dX10_octet_33 : decode cX10_octet 33 = .ok (.aload_n 0, 1) := by decide +kernel
theorem dX10_octet_34 : decode cX10_octet 34 = .ok (.getfield 68, 3) := by decide +kernel
theorem dX10_octet_37 : decode cX10_octet 37 = .ok (.ifCond .le 7, 3) := by decide +kernel
theorem dX10_octet_40 : decode cX10_octet 40 = .ok (.iconst 0, 1) := by decide +kernel
theorem dX10_octet_41 : decode cX10_octet 41 = .ok (.goto 15, 3) := by decide +kernel
theorem dX10_octet_44 : decode cX10_octet 44 = .ok (.aload_n 0, 1) := by decide +kernel
theorem dX10_octet_45 : decode cX10_octet 45 = .ok (.getfield 46, 3) := by decide +kernel
theorem dX10_octet_48 : decode cX10_octet 48 = .ok (.sipush 512, 3) := by decide +kernel
theorem dX10_octet_51 : decode cX10_octet 51 = .ok (.iload_n 1, 1) := by decide +kernel
theorem dX10_octet_52 : decode cX10_octet 52 = .ok (.imul, 1) := by decide +kernel
theorem dX10_octet_53 : decode cX10_octet 53 = .ok (.iload_n 2, 1) := by decide +kernel
theorem dX10_octet_54 : decode cX10_octet 54 = .ok (.iadd, 1) := by decide +kernel
theorem dX10_octet_55 : decode cX10_octet 55 = .ok (.iaload, 1) := by decide +kernel
theorem dX10_octet_56 : decode cX10_octet 56 = .ok (.ireturn, 1) := by decide +kernel
set_option maxRecDepth 100000 in
set_option maxHeartbeats 4000000 in
theorem bX10_octet_0 {l : Launch} {g : xG} (a0 : Nat) (x1 : Int32) (x2 : Int32) {M : xM} {Q : Option Value → xM → Prop} (h : (xSp l g mX10_in 0 0 [.long x1.toInt64, .long 0, .long 255] M (fun ρ3 M2 => ∃ v1 : Int32, ρ3 = some (.int v1) ∧ ((v1 = 0 → (xat M2 a0 7 ∧ (((xI (xsI M2 a0 0 1) a0 0) ≤ 0 → (∃ a6, (xR (xsI M2 a0 0 1) a0 17) = some a6 ∧ ∃ i8, xai (xsI M2 a0 0 1) a6 9 ((512 * x1) + x2) i8 ∧ (Q (some (.int (xI (xsI M2 a0 0 1) a6 i8))) (xsI M2 a0 0 1)))) ∧ (¬ (xI (xsI M2 a0 0 1) a0 0) ≤ 0 → (Q (some (.int 0)) (xsI M2 a0 0 1)))))) ∧ (¬ v1 = 0 → (xSp l g mX10_in 0 0 [.long x2.toInt64, .long 0, .long 511] M2 (fun ρ13 M12 => ∃ v11 : Int32, ρ13 = some (.int v11) ∧ ((v11 = 0 → (xat M12 a0 7 ∧ (((xI (xsI M12 a0 0 1) a0 0) ≤ 0 → (∃ a16, (xR (xsI M12 a0 0 1) a0 17) = some a16 ∧ ∃ i18, xai (xsI M12 a0 0 1) a16 9 ((512 * x1) + x2) i18 ∧ (Q (some (.int (xI (xsI M12 a0 0 1) a16 i18))) (xsI M12 a0 0 1)))) ∧ (¬ (xI (xsI M12 a0 0 1) a0 0) ≤ 0 → (Q (some (.int 0)) (xsI M12 a0 0 1)))))) ∧ (¬ v11 = 0 → (xat M12 a0 7 ∧ (((xI (xsI M12 a0 0 0) a0 0) ≤ 0 → (∃ a22, (xR (xsI M12 a0 0 0) a0 17) = some a22 ∧ ∃ i24, xai (xsI M12 a0 0 0) a22 9 ((512 * x1) + x2) i24 ∧ (Q (some (.int (xI (xsI M12 a0 0 0) a22 i24))) (xsI M12 a0 0 0)))) ∧ (¬ (xI (xsI M12 a0 0 0) a0 0) ≤ 0 → (Q (some (.int 0)) (xsI M12 a0 0 0)))))))))))))) : xWp l g mX10_octet 0 0 0 [(1, va_rf (some a0)), (1, .int x1), (1, .int x2)] [] (0, 0) M Q := by
  refine xr_aload_n 0 dX10_octet_0 rfl rfl ?_
  refine xr_iload_n 1 dX10_octet_1 rfl rfl ?_
  refine xr_i2l dX10_octet_2 ?_
  refine xr_lconst 0 dX10_octet_3 (by decide) ?_
  refine xr_ldc2 255 dX10_octet_4 ct_RX10_94 ?_
  refine xr_callS [.long x1.toInt64, .long 0, .long 255] dX10_octet_7 cs_X10_octet_87 rfl (Nat.le_trans (wt_r wt_0) (by decide)) (by decide) (xSp.mono h ?_)
  clear h
  intro ρ3 M2 h
  obtain ⟨v1, rfl, h⟩ := h
  obtain ⟨ht, hf⟩ := h
  refine xr_if_eq 29 dX10_octet_10 (by decide) (fun c28 => ?_) (fun c28 => ?_)
  · replace h := ht c28
    clear ht hf
    refine xr_iconst 1 dX10_octet_29 (by decide) ?_
    obtain ⟨t5, h⟩ := h
    refine yr_putI dX10_octet_30 fp_RX10_68 rfl t5 ?_
    refine xr_aload_n 0 dX10_octet_33 rfl rfl ?_
    refine yr_getI dX10_octet_34 fl_RX10_68 rfl t5 ?_
    obtain ⟨ht, hf⟩ := h
    refine xr_if_le 44 dX10_octet_37 (by decide) (fun c10 => ?_) (fun c10 => ?_)
    · replace h := ht c10
      clear ht hf
      refine xr_aload_n 0 dX10_octet_44 rfl rfl ?_
      refine yr_getR dX10_octet_45 fl_RX10_46 rfl t5 ?_
      refine xr_sipush 512 dX10_octet_48 (by decide) ?_
      refine xr_iload_n 1 dX10_octet_51 rfl rfl ?_
      refine xr_imul dX10_octet_52 ?_
      refine xr_iload_n 2 dX10_octet_53 rfl rfl ?_
      refine xr_iadd dX10_octet_54 ?_
      obtain ⟨a6, e7, h⟩ := h
      obtain ⟨i8, t9, h⟩ := h
      refine yr_iald dX10_octet_55 e7 t9 ?_
      exact xr_retv (by decide) (xRi rfl rfl dX10_octet_56) h
    · replace h := hf c10
      clear ht hf
      refine xr_iconst 0 dX10_octet_40 (by decide) ?_
      refine xr_goto 56 dX10_octet_41 (by decide) ?_
      exact xr_retv (by decide) (xRi rfl rfl dX10_octet_56) h
  · replace h := hf c28
    clear ht hf
    refine xr_iload_n 2 dX10_octet_13 rfl rfl ?_
    refine xr_i2l dX10_octet_14 ?_
    refine xr_lconst 0 dX10_octet_15 (by decide) ?_
    refine xr_ldc2 511 dX10_octet_16 ct_RX10_230 ?_
    refine xr_callS [.long x2.toInt64, .long 0, .long 511] dX10_octet_19 cs_X10_octet_87 rfl (Nat.le_trans (wt_r wt_0) (by decide)) (by decide) (xSp.mono h ?_)
    clear h
    intro ρ13 M12 h
    obtain ⟨v11, rfl, h⟩ := h
    obtain ⟨ht, hf⟩ := h
    refine xr_if_eq 29 dX10_octet_22 (by decide) (fun c27 => ?_) (fun c27 => ?_)
    · replace h := ht c27
      clear ht hf
      refine xr_iconst 1 dX10_octet_29 (by decide) ?_
      obtain ⟨t15, h⟩ := h
      refine yr_putI dX10_octet_30 fp_RX10_68 rfl t15 ?_
      refine xr_aload_n 0 dX10_octet_33 rfl rfl ?_
      refine yr_getI dX10_octet_34 fl_RX10_68 rfl t15 ?_
      obtain ⟨ht, hf⟩ := h
      refine xr_if_le 44 dX10_octet_37 (by decide) (fun c20 => ?_) (fun c20 => ?_)
      · replace h := ht c20
        clear ht hf
        refine xr_aload_n 0 dX10_octet_44 rfl rfl ?_
        refine yr_getR dX10_octet_45 fl_RX10_46 rfl t15 ?_
        refine xr_sipush 512 dX10_octet_48 (by decide) ?_
        refine xr_iload_n 1 dX10_octet_51 rfl rfl ?_
        refine xr_imul dX10_octet_52 ?_
        refine xr_iload_n 2 dX10_octet_53 rfl rfl ?_
        refine xr_iadd dX10_octet_54 ?_
        obtain ⟨a16, e17, h⟩ := h
        obtain ⟨i18, t19, h⟩ := h
        refine yr_iald dX10_octet_55 e17 t19 ?_
        exact xr_retv (by decide) (xRi rfl rfl dX10_octet_56) h
      · replace h := hf c20
        clear ht hf
        refine xr_iconst 0 dX10_octet_40 (by decide) ?_
        refine xr_goto 56 dX10_octet_41 (by decide) ?_
        exact xr_retv (by decide) (xRi rfl rfl dX10_octet_56) h
    · replace h := hf c27
      clear ht hf
      refine xr_iconst 0 dX10_octet_25 (by decide) ?_
      refine xr_goto 30 dX10_octet_26 (by decide) ?_
      obtain ⟨t21, h⟩ := h
      refine yr_putI dX10_octet_30 fp_RX10_68 rfl t21 ?_
      refine xr_aload_n 0 dX10_octet_33 rfl rfl ?_
      refine yr_getI dX10_octet_34 fl_RX10_68 rfl t21 ?_
      obtain ⟨ht, hf⟩ := h
      refine xr_if_le 44 dX10_octet_37 (by decide) (fun c26 => ?_) (fun c26 => ?_)
      · replace h := ht c26
        clear ht hf
        refine xr_aload_n 0 dX10_octet_44 rfl rfl ?_
        refine yr_getR dX10_octet_45 fl_RX10_46 rfl t21 ?_
        refine xr_sipush 512 dX10_octet_48 (by decide) ?_
        refine xr_iload_n 1 dX10_octet_51 rfl rfl ?_
        refine xr_imul dX10_octet_52 ?_
        refine xr_iload_n 2 dX10_octet_53 rfl rfl ?_
        refine xr_iadd dX10_octet_54 ?_
        obtain ⟨a22, e23, h⟩ := h
        obtain ⟨i24, t25, h⟩ := h
        refine yr_iald dX10_octet_55 e23 t25 ?_
        exact xr_retv (by decide) (xRi rfl rfl dX10_octet_56) h
      · replace h := hf c26
        clear ht hf
        refine xr_iconst 0 dX10_octet_40 (by decide) ?_
        refine xr_goto 56 dX10_octet_41 (by decide) ?_
        exact xr_retv (by decide) (xRi rfl rfl dX10_octet_56) h
theorem dX10_poke_0 : decode cX10_poke 0 = .ok (.aload_n 0, 1) := by decide +kernel
theorem dX10_poke_1 : decode cX10_poke 1 = .ok (.iload_n 1, 1) := by decide +kernel
theorem dX10_poke_2 : decode cX10_poke 2 = .ok (.i2l, 1) := by decide +kernel
theorem dX10_poke_3 : decode cX10_poke 3 = .ok (.lconst 0, 1) := by decide +kernel
theorem dX10_poke_4 : decode cX10_poke 4 = .ok (.ldc2_w 94, 3) := by decide +kernel
theorem dX10_poke_7 : decode cX10_poke 7 = .ok (.invokestatic 87, 3) := by decide +kernel
theorem dX10_poke_10 : decode cX10_poke 10 = .ok (.ifCond .eq 19, 3) := by decide +kernel
theorem dX10_poke_13 : decode cX10_poke 13 = .ok (.iload_n 2, 1) := by decide +kernel
theorem dX10_poke_14 : decode cX10_poke 14 = .ok (.i2l, 1) := by decide +kernel
theorem dX10_poke_15 : decode cX10_poke 15 = .ok (.lconst 0, 1) := by decide +kernel
theorem dX10_poke_16 : decode cX10_poke 16 = .ok (.ldc2_w 230, 3) := by decide +kernel
theorem dX10_poke_19 : decode cX10_poke 19 = .ok (.invokestatic 87, 3) := by decide +kernel
theorem dX10_poke_22 : decode cX10_poke 22 = .ok (.ifCond .eq 7, 3) := by decide +kernel
theorem dX10_poke_25 : decode cX10_poke 25 = .ok (.iconst 0, 1) := by decide +kernel
theorem dX10_poke_26 : decode cX10_poke 26 = .ok (.goto 4, 3) := by decide +kernel
theorem dX10_poke_29 : decode cX10_poke 29 = .ok (.iconst 1, 1) := by decide +kernel
theorem dX10_poke_30 : decode cX10_poke 30 = .ok (.putfield 68, 3) := by decide +kernel
theorem dX10_poke_33 : decode cX10_poke 33 = .ok (.aload_n 0, 1) := by decide +kernel
theorem dX10_poke_34 : decode cX10_poke 34 = .ok (.getfield 68, 3) := by decide +kernel
theorem dX10_poke_37 : decode cX10_poke 37 = .ok (.ifCond .le 5, 3) := by decide +kernel
theorem dX10_poke_40 : decode cX10_poke 40 = .ok (.iconst 0, 1) := by decide +kernel
theorem dX10_poke_41 : decode cX10_poke 41 = .ok (.ireturn, 1) := by decide +kernel
theorem dX10_poke_42 : decode cX10_poke 42 = .ok (.aload_n 0, 1) := by decide +kernel
theorem dX10_poke_43 : decode cX10_poke 43 = .ok (.getfield 46, 3) := by decide +kernel
theorem dX10_poke_46 : decode cX10_poke 46 = .ok (.sipush 512, 3) := by decide +kernel
theorem dX10_poke_49 : decode cX10_poke 49 = .ok (.iload_n 1, 1) := by decide +kernel
theorem dX10_poke_50 : decode cX10_poke 50 = .ok (.imul, 1) := by decide +kernel
theorem dX10_poke_51 : decode cX10_poke 51 = .ok (.iload_n 2, 1) := by decide +kernel
theorem dX10_poke_52 : decode cX10_poke 52 = .ok (.iadd, 1) := by decide +kernel
theorem dX10_poke_53 : decode cX10_poke 53 = .ok (.dup2, 1) := by decide +kernel
theorem dX10_poke_54 : decode cX10_poke 54 = .ok (.iaload, 1) := by decide +kernel
theorem dX10_poke_55 : decode cX10_poke 55 = .ok (.iload_n 3, 1) := by decide +kernel
theorem dX10_poke_56 : decode cX10_poke 56 = .ok (.sipush 255, 3) := by decide +kernel
theorem dX10_poke_59 : decode cX10_poke 59 = .ok (.iand, 1) := by decide +kernel
theorem dX10_poke_60 : decode cX10_poke 60 = .ok (.ixor, 1) := by decide +kernel
theorem dX10_poke_61 : decode cX10_poke 61 = .ok (.iastore, 1) := by decide +kernel
theorem dX10_poke_62 : decode cX10_poke 62 = .ok (.aload_n 0, 1) := by decide +kernel
theorem dX10_poke_63 : decode cX10_poke 63 = .ok (.getfield 46, 3) := by decide +kernel
theorem dX10_poke_66 : decode cX10_poke 66 = .ok (.sipush 512, 3) := by decide +kernel
theorem dX10_poke_69 : decode cX10_poke 69 = .ok (.iload_n 1, 1) := by decide +kernel
theorem dX10_poke_70 : decode cX10_poke 70 = .ok (.imul, 1) := by decide +kernel
theorem dX10_poke_71 : decode cX10_poke 71 = .ok (.iload_n 2, 1) := by decide +kernel
theorem dX10_poke_72 : decode cX10_poke 72 = .ok (.iadd, 1) := by decide +kernel
theorem dX10_poke_73 : decode cX10_poke 73 = .ok (.iaload, 1) := by decide +kernel
theorem dX10_poke_74 : decode cX10_poke 74 = .ok (.ireturn, 1) := by decide +kernel
set_option maxRecDepth 100000 in
set_option maxHeartbeats 4000000 in
theorem bX10_poke_30 {l : Launch} {g : xG} (a0 : Nat) (x1 : Int32) (x2 : Int32) (x3 : Int32) (sx0 : Int32) (sr1 : Option Nat) {M : xM} {Q : Option Value → xM → Prop} (h : (∃ a1, sr1 = some a1 ∧ xat M a1 7 ∧ (xat (xsI M a1 0 sx0) a0 7 ∧ (((xI (xsI M a1 0 sx0) a0 0) ≤ 0 → (∃ a5, (xR (xsI M a1 0 sx0) a0 17) = some a5 ∧ ∃ i7, xai (xsI M a1 0 sx0) a5 9 ((512 * x1) + x2) i7 ∧ (∃ i9, xai (xsI M a1 0 sx0) a5 9 ((512 * x1) + x2) i9 ∧ (∃ a11, (xR (xsI (xsI M a1 0 sx0) a5 i9 ((xI (xsI M a1 0 sx0) a5 i7) ^^^ (x3 &&& 255))) a0 17) = some a11 ∧ ∃ i13, xai (xsI (xsI M a1 0 sx0) a5 i9 ((xI (xsI M a1 0 sx0) a5 i7) ^^^ (x3 &&& 255))) a11 9 ((512 * x1) + x2) i13 ∧ (Q (some (.int (xI (xsI (xsI M a1 0 sx0) a5 i9 ((xI (xsI M a1 0 sx0) a5 i7) ^^^ (x3 &&& 255))) a11 i13))) (xsI (xsI M a1 0 sx0) a5 i9 ((xI (xsI M a1 0 sx0) a5 i7) ^^^ (x3 &&& 255)))))))) ∧ (¬ (xI (xsI M a1 0 sx0) a0 0) ≤ 0 → (Q (some (.int 0)) (xsI M a1 0 sx0))))))) : xWp l g mX10_poke 0 0 30 [(1, va_rf (some a0)), (1, .int x1), (1, .int x2), (1, .int x3)] [.int sx0, va_rf sr1] (0, 0) M Q := by
  obtain ⟨a1, e2, h⟩ := h
  obtain ⟨t3, h⟩ := h
  refine yr_putI dX10_poke_30 fp_RX10_68 e2 t3 ?_
  refine xr_aload_n 0 dX10_poke_33 rfl rfl ?_
  obtain ⟨t4, h⟩ := h
  refine yr_getI dX10_poke_34 fl_RX10_68 rfl t4 ?_
  obtain ⟨ht, hf⟩ := h
  refine xr_if_le 42 dX10_poke_37 (by decide) (fun c15 => ?_) (fun c15 => ?_)
  · replace h := ht c15
    clear ht hf
    refine xr_aload_n 0 dX10_poke_42 rfl rfl ?_
    refine yr_getR dX10_poke_43 fl_RX10_46 rfl t4 ?_
    refine xr_sipush 512 dX10_poke_46 (by decide) ?_
    refine xr_iload_n 1 dX10_poke_49 rfl rfl ?_
    refine xr_imul dX10_poke_50 ?_
    refine xr_iload_n 2 dX10_poke_51 rfl rfl ?_
    refine xr_iadd dX10_poke_52 ?_
    refine xr_dup2 dX10_poke_53 rfl (va_rf_cat _) ?_
    obtain ⟨a5, e6, h⟩ := h
    obtain ⟨i7, t8, h⟩ := h
    refine yr_iald dX10_poke_54 e6 t8 ?_
    refine xr_iload_n 3 dX10_poke_55 rfl rfl ?_
    refine xr_sipush 255 dX10_poke_56 (by decide) ?_
    refine xr_iand dX10_poke_59 ?_
    refine xr_ixor dX10_poke_60 ?_
    obtain ⟨i9, t10, h⟩ := h
    refine yr_iast dX10_poke_61 e6 t10 ?_
    refine xr_aload_n 0 dX10_poke_62 rfl rfl ?_
    refine yr_getR dX10_poke_63 fl_RX10_46 rfl t4 ?_
    refine xr_sipush 512 dX10_poke_66 (by decide) ?_
    refine xr_iload_n 1 dX10_poke_69 rfl rfl ?_
    refine xr_imul dX10_poke_70 ?_
    refine xr_iload_n 2 dX10_poke_71 rfl rfl ?_
    refine xr_iadd dX10_poke_72 ?_
    obtain ⟨a11, e12, h⟩ := h
    obtain ⟨i13, t14, h⟩ := h
    refine yr_iald dX10_poke_73 e12 t14 ?_
    exact xr_retv (by decide) (xRi rfl rfl dX10_poke_74) h
  · replace h := hf c15
    clear ht hf
    refine xr_iconst 0 dX10_poke_40 (by decide) ?_
    exact xr_retv (by decide) (xRi rfl rfl dX10_poke_41) h
set_option maxRecDepth 100000 in
set_option maxHeartbeats 4000000 in
theorem bX10_poke_0 {l : Launch} {g : xG} (a0 : Nat) (x1 : Int32) (x2 : Int32) (x3 : Int32) {M : xM} {Q : Option Value → xM → Prop} (h : (xSp l g mX10_in 0 0 [.long x1.toInt64, .long 0, .long 255] M (fun ρ3 M2 => ∃ v1 : Int32, ρ3 = some (.int v1) ∧ ((v1 = 0 → xWp l g mX10_poke 0 0 30 [(1, va_rf (some a0)), (1, .int x1), (1, .int x2), (1, .int x3)] [.int 1, va_rf (some a0)] (0, 0) M2 Q) ∧ (¬ v1 = 0 → (xSp l g mX10_in 0 0 [.long x2.toInt64, .long 0, .long 511] M2 (fun ρ7 M6 => ∃ v5 : Int32, ρ7 = some (.int v5) ∧ ((v5 = 0 → xWp l g mX10_poke 0 0 30 [(1, va_rf (some a0)), (1, .int x1), (1, .int x2), (1, .int x3)] [.int 1, va_rf (some a0)] (0, 0) M6 Q) ∧ (¬ v5 = 0 → xWp l g mX10_poke 0 0 30 [(1, va_rf (some a0)), (1, .int x1), (1, .int x2), (1, .int x3)] [.int 0, va_rf (some a0)] (0, 0) M6 Q))))))))) : xWp l g mX10_poke 0 0 0 [(1, va_rf (some a0)), (1, .int x1), (1, .int x2), (1, .int x3)] [] (0, 0) M Q := by
  refine xr_aload_n 0 dX10_poke_0 rfl rfl ?_
  refine xr_iload_n 1 dX10_poke_1 rfl rfl ?_
  refine xr_i2l dX10_poke_2 ?_
  refine xr_lconst 0 dX10_poke_3 (by decide) ?_
  refine xr_ldc2 255 dX10_poke_4 ct_RX10_94 ?_
  refine xr_callS [.long x1.toInt64, .long 0, .long 255] dX10_poke_7 cs_X10_poke_87 rfl (Nat.le_trans (wt_r wt_0) (by decide)) (by decide) (xSp.mono h ?_)
  clear h
  intro ρ3 M2 h
  obtain ⟨v1, rfl, h⟩ := h
  obtain ⟨ht, hf⟩ := h
  refine xr_if_eq 29 dX10_poke_10 (by decide) (fun c10 => ?_) (fun c10 => ?_)
  · replace h := ht c10
    clear ht hf
    refine xr_iconst 1 dX10_poke_29 (by decide) ?_
    exact h
  · replace h := hf c10
    clear ht hf
    refine xr_iload_n 2 dX10_poke_13 rfl rfl ?_
    refine xr_i2l dX10_poke_14 ?_
    refine xr_lconst 0 dX10_poke_15 (by decide) ?_
    refine xr_ldc2 511 dX10_poke_16 ct_RX10_230 ?_
    refine xr_callS [.long x2.toInt64, .long 0, .long 511] dX10_poke_19 cs_X10_poke_87 rfl (Nat.le_trans (wt_r wt_0) (by decide)) (by decide) (xSp.mono h ?_)
    clear h
    intro ρ7 M6 h
    obtain ⟨v5, rfl, h⟩ := h
    obtain ⟨ht, hf⟩ := h
    refine xr_if_eq 29 dX10_poke_22 (by decide) (fun c9 => ?_) (fun c9 => ?_)
    · replace h := ht c9
      clear ht hf
      refine xr_iconst 1 dX10_poke_29 (by decide) ?_
      exact h
    · replace h := hf c9
      clear ht hf
      refine xr_iconst 0 dX10_poke_25 (by decide) ?_
      refine xr_goto 30 dX10_poke_26 (by decide) ?_
      exact h
