/-! The law and its helpers: decode rows, call sites. -/
theorem dL_type_0 : decode cL_type 0 = .ok (.aload 4, 2) := by decide +kernel
theorem dL_type_2 : decode cL_type 2 = .ok (.iconst 0, 1) := by decide +kernel
theorem dL_type_3 : decode cL_type 3 = .ok (.aload_n 0, 1) := by decide +kernel
theorem dL_type_4 : decode cL_type 4 = .ok (.lload_n 1, 1) := by decide +kernel
theorem dL_type_5 : decode cL_type 5 = .ok (.iload_n 3, 1) := by decide +kernel
theorem dL_type_6 : decode cL_type 6 = .ok (.invokevirtual 7, 3) := by decide +kernel
theorem dL_type_9 : decode cL_type 9 = .ok (.i2l, 1) := by decide +kernel
theorem dL_type_10 : decode cL_type 10 = .ok (.lastore, 1) := by decide +kernel
theorem dL_type_11 : decode cL_type 11 = .ok (.goto 11, 3) := by decide +kernel
theorem dL_type_14 : decode cL_type 14 = .ok (.astore 5, 2) := by decide +kernel
theorem dL_type_16 : decode cL_type 16 = .ok (.iconst 1, 1) := by decide +kernel
theorem dL_type_17 : decode cL_type 17 = .ok (.ireturn, 1) := by decide +kernel
theorem dL_type_18 : decode cL_type 18 = .ok (.astore 5, 2) := by decide +kernel
theorem dL_type_20 : decode cL_type 20 = .ok (.iconst 2, 1) := by decide +kernel
theorem dL_type_21 : decode cL_type 21 = .ok (.ireturn, 1) := by decide +kernel
theorem dL_type_22 : decode cL_type 22 = .ok (.iconst 0, 1) := by decide +kernel
theorem dL_type_23 : decode cL_type 23 = .ok (.ireturn, 1) := by decide +kernel
theorem dL_cut_0 : decode cL_cut 0 = .ok (.aload_n 2, 1) := by decide +kernel
theorem dL_cut_1 : decode cL_cut 1 = .ok (.iconst 0, 1) := by decide +kernel
theorem dL_cut_2 : decode cL_cut 2 = .ok (.aload_n 0, 1) := by decide +kernel
theorem dL_cut_3 : decode cL_cut 3 = .ok (.iload_n 1, 1) := by decide +kernel
theorem dL_cut_4 : decode cL_cut 4 = .ok (.invokevirtual 17, 3) := by decide +kernel
theorem dL_cut_7 : decode cL_cut 7 = .ok (.i2l, 1) := by decide +kernel
theorem dL_cut_8 : decode cL_cut 8 = .ok (.lastore, 1) := by decide +kernel
theorem dL_cut_9 : decode cL_cut 9 = .ok (.goto 6, 3) := by decide +kernel
theorem dL_cut_12 : decode cL_cut 12 = .ok (.astore_n 3, 1) := by decide +kernel
theorem dL_cut_13 : decode cL_cut 13 = .ok (.iconst 1, 1) := by decide +kernel
theorem dL_cut_14 : decode cL_cut 14 = .ok (.ireturn, 1) := by decide +kernel
theorem dL_cut_15 : decode cL_cut 15 = .ok (.iconst 0, 1) := by decide +kernel
theorem dL_cut_16 : decode cL_cut 16 = .ok (.ireturn, 1) := by decide +kernel
theorem dL_octet_0 : decode cL_octet 0 = .ok (.aload_n 3, 1) := by decide +kernel
theorem dL_octet_1 : decode cL_octet 1 = .ok (.iconst 0, 1) := by decide +kernel
theorem dL_octet_2 : decode cL_octet 2 = .ok (.aload_n 0, 1) := by decide +kernel
theorem dL_octet_3 : decode cL_octet 3 = .ok (.iload_n 1, 1) := by decide +kernel
theorem dL_octet_4 : decode cL_octet 4 = .ok (.iload_n 2, 1) := by decide +kernel
theorem dL_octet_5 : decode cL_octet 5 = .ok (.invokevirtual 21, 3) := by decide +kernel
theorem dL_octet_8 : decode cL_octet 8 = .ok (.i2l, 1) := by decide +kernel
theorem dL_octet_9 : decode cL_octet 9 = .ok (.lastore, 1) := by decide +kernel
theorem dL_octet_10 : decode cL_octet 10 = .ok (.goto 7, 3) := by decide +kernel
theorem dL_octet_13 : decode cL_octet 13 = .ok (.astore 4, 2) := by decide +kernel
theorem dL_octet_15 : decode cL_octet 15 = .ok (.iconst 1, 1) := by decide +kernel
theorem dL_octet_16 : decode cL_octet 16 = .ok (.ireturn, 1) := by decide +kernel
theorem dL_octet_17 : decode cL_octet 17 = .ok (.iconst 0, 1) := by decide +kernel
theorem dL_octet_18 : decode cL_octet 18 = .ok (.ireturn, 1) := by decide +kernel
theorem dL_poke_0 : decode cL_poke 0 = .ok (.aload 4, 2) := by decide +kernel
theorem dL_poke_2 : decode cL_poke 2 = .ok (.iconst 0, 1) := by decide +kernel
theorem dL_poke_3 : decode cL_poke 3 = .ok (.aload_n 0, 1) := by decide +kernel
theorem dL_poke_4 : decode cL_poke 4 = .ok (.iload_n 1, 1) := by decide +kernel
theorem dL_poke_5 : decode cL_poke 5 = .ok (.iload_n 2, 1) := by decide +kernel
theorem dL_poke_6 : decode cL_poke 6 = .ok (.iload_n 3, 1) := by decide +kernel
theorem dL_poke_7 : decode cL_poke 7 = .ok (.invokevirtual 27, 3) := by decide +kernel
theorem dL_poke_10 : decode cL_poke 10 = .ok (.i2l, 1) := by decide +kernel
theorem dL_poke_11 : decode cL_poke 11 = .ok (.lastore, 1) := by decide +kernel
theorem dL_poke_12 : decode cL_poke 12 = .ok (.goto 7, 3) := by decide +kernel
theorem dL_poke_15 : decode cL_poke 15 = .ok (.astore 5, 2) := by decide +kernel
theorem dL_poke_17 : decode cL_poke 17 = .ok (.iconst 1, 1) := by decide +kernel
theorem dL_poke_18 : decode cL_poke 18 = .ok (.ireturn, 1) := by decide +kernel
theorem dL_poke_19 : decode cL_poke 19 = .ok (.iconst 0, 1) := by decide +kernel
theorem dL_poke_20 : decode cL_poke 20 = .ok (.ireturn, 1) := by decide +kernel
abbrev hhL_type : List (Nat × Nat × Nat × Nat) := [(0, 11, 14, 13), (0, 11, 18, 15)]
abbrev hhL_cut : List (Nat × Nat × Nat × Nat) := [(0, 9, 12, 13)]
abbrev hhL_octet : List (Nat × Nat × Nat × Nat) := [(0, 10, 13, 25)]
abbrev hhL_poke : List (Nat × Nat × Nat × Nat) := [(0, 12, 15, 25)]
abbrev hL_type : xMd := (yL_type, cL_type, 6, (some .int), 7, 160)
abbrev hL_cut : xMd := (yL_cut, cL_cut, 4, (some .int), 7, 160)
abbrev hL_octet : xMd := (yL_octet, cL_octet, 5, (some .int), 7, 160)
abbrev hL_poke : xMd := (yL_poke, cL_poke, 6, (some .int), 7, 160)
abbrev hL_law : xMd := (yL_law, cL_law, 7, (some .boolean), 10, 348)
theorem cvL_type_7 : xCv hL_type 7 mX9_type 2 6 := ⟨⟨code_X9_type, ini_RX9, by decide +kernel, by decide, by decide⟩, gl_mem 773 (by decide +kernel) (by decide +kernel), gl_mem 774 (by decide +kernel) (by decide +kernel), gl_mem 775 (by decide +kernel) (by decide +kernel), by decide, _, _, rfl⟩
theorem cvL_cut_17 : xCv hL_cut 17 mX9_cut 1 6 := ⟨⟨code_X9_cut, ini_RX9, by decide +kernel, by decide, by decide⟩, gl_mem 868 (by decide +kernel) (by decide +kernel), gl_mem 869 (by decide +kernel) (by decide +kernel), gl_mem 870 (by decide +kernel) (by decide +kernel), by decide, _, _, rfl⟩
theorem cvL_octet_21 : xCv hL_octet 21 mX9_octet 2 6 := ⟨⟨code_X9_octet, ini_RX9, by decide +kernel, by decide, by decide⟩, gl_mem 877 (by decide +kernel) (by decide +kernel), gl_mem 878 (by decide +kernel) (by decide +kernel), gl_mem 879 (by decide +kernel) (by decide +kernel), by decide, _, _, rfl⟩
theorem cvL_poke_27 : xCv hL_poke 27 mX9_poke 3 6 := ⟨⟨code_X9_poke, ini_RX9, by decide +kernel, by decide, by decide⟩, gl_mem 905 (by decide +kernel) (by decide +kernel), gl_mem 906 (by decide +kernel) (by decide +kernel), gl_mem 907 (by decide +kernel) (by decide +kernel), by decide, _, _, rfl⟩
theorem ciL_law_31 : xCi hL_law 31 mX9_init 0 := ⟨⟨code_X9_init, ini_RX9, by decide +kernel, by decide, by decide⟩, gl_mem 88 (by decide +kernel) (by decide +kernel), rfl, gl_mem 89 (by decide +kernel) (by decide +kernel), rfl⟩
theorem ciL_law_34 : xCi hL_law 34 mX10_init 0 := ⟨⟨code_X10_init, ini_RX10, by decide +kernel, by decide, by decide⟩, gl_mem 912 (by decide +kernel) (by decide +kernel), rfl, gl_mem 913 (by decide +kernel) (by decide +kernel), rfl⟩
theorem chL_law_37 : xCh hL_law 37 hL_type hhL_type 4 := ⟨⟨gl_mem 770 (by decide +kernel) (by decide +kernel), gl_mem 66 (by decide +kernel) (by decide +kernel), by decide +kernel, by decide, by decide⟩, gl_mem 768 (by decide +kernel) (by decide +kernel), gl_mem 769 (by decide +kernel) (by decide +kernel)⟩
theorem cvL_law_42 : xCv hL_law 42 mX10_type 2 7 := ⟨⟨code_X10_type, ini_RX10, by decide +kernel, by decide, by decide⟩, gl_mem 1020 (by decide +kernel) (by decide +kernel), gl_mem 1021 (by decide +kernel) (by decide +kernel), gl_mem 1022 (by decide +kernel) (by decide +kernel), by decide, _, _, rfl⟩
theorem cvL_law_43 : xCv hL_law 43 mX10_thrown 0 7 := ⟨⟨code_X10_thrown, ini_RX10, by decide +kernel, by decide, by decide⟩, gl_mem 1016 (by decide +kernel) (by decide +kernel), gl_mem 1017 (by decide +kernel) (by decide +kernel), gl_mem 1018 (by decide +kernel) (by decide +kernel), by decide, _, _, rfl⟩
theorem chL_law_47 : xCh hL_law 47 hL_cut hhL_cut 3 := ⟨⟨gl_mem 867 (by decide +kernel) (by decide +kernel), gl_mem 66 (by decide +kernel) (by decide +kernel), by decide +kernel, by decide, by decide⟩, gl_mem 865 (by decide +kernel) (by decide +kernel), gl_mem 866 (by decide +kernel) (by decide +kernel)⟩
theorem cvL_law_50 : xCv hL_law 50 mX10_cut 1 7 := ⟨⟨code_X10_cut, ini_RX10, by decide +kernel, by decide, by decide⟩, gl_mem 1029 (by decide +kernel) (by decide +kernel), gl_mem 1030 (by decide +kernel) (by decide +kernel), gl_mem 1031 (by decide +kernel) (by decide +kernel), by decide, _, _, rfl⟩
theorem cvL_law_51 : xCv hL_law 51 mX9_tapeAt 1 6 := ⟨⟨code_X9_tapeAt, ini_RX9, by decide +kernel, by decide, by decide⟩, gl_mem 306 (by decide +kernel) (by decide +kernel), gl_mem 307 (by decide +kernel) (by decide +kernel), gl_mem 308 (by decide +kernel) (by decide +kernel), by decide, _, _, rfl⟩
theorem cvL_law_54 : xCv hL_law 54 mX10_tapeAt 1 7 := ⟨⟨code_X10_tapeAt, ini_RX10, by decide +kernel, by decide, by decide⟩, gl_mem 1033 (by decide +kernel) (by decide +kernel), gl_mem 1034 (by decide +kernel) (by decide +kernel), gl_mem 1035 (by decide +kernel) (by decide +kernel), by decide, _, _, rfl⟩
theorem cvL_law_55 : xCv hL_law 55 mX9_put 1 6 := ⟨⟨code_X9_put, ini_RX9, by decide +kernel, by decide, by decide⟩, gl_mem 314 (by decide +kernel) (by decide +kernel), gl_mem 315 (by decide +kernel) (by decide +kernel), gl_mem 316 (by decide +kernel) (by decide +kernel), by decide, _, _, rfl⟩
theorem cvL_law_59 : xCv hL_law 59 mX10_put 1 7 := ⟨⟨code_X10_put, ini_RX10, by decide +kernel, by decide, by decide⟩, gl_mem 1037 (by decide +kernel) (by decide +kernel), gl_mem 1038 (by decide +kernel) (by decide +kernel), gl_mem 1039 (by decide +kernel) (by decide +kernel), by decide, _, _, rfl⟩
theorem cvL_law_60 : xCv hL_law 60 mX9_remove 0 6 := ⟨⟨code_X9_remove, ini_RX9, by decide +kernel, by decide, by decide⟩, gl_mem 433 (by decide +kernel) (by decide +kernel), gl_mem 434 (by decide +kernel) (by decide +kernel), gl_mem 435 (by decide +kernel) (by decide +kernel), by decide, _, _, rfl⟩
theorem cvL_law_63 : xCv hL_law 63 mX10_remove 0 7 := ⟨⟨code_X10_remove, ini_RX10, by decide +kernel, by decide, by decide⟩, gl_mem 1089 (by decide +kernel) (by decide +kernel), gl_mem 1090 (by decide +kernel) (by decide +kernel), gl_mem 1091 (by decide +kernel) (by decide +kernel), by decide, _, _, rfl⟩
theorem cvL_law_64 : xCv hL_law 64 mX9_get 0 6 := ⟨⟨code_X9_get, ini_RX9, by decide +kernel, by decide, by decide⟩, gl_mem 477 (by decide +kernel) (by decide +kernel), gl_mem 478 (by decide +kernel) (by decide +kernel), gl_mem 479 (by decide +kernel) (by decide +kernel), by decide, _, _, rfl⟩
theorem cvL_law_68 : xCv hL_law 68 mX10_get 0 7 := ⟨⟨code_X10_get, ini_RX10, by decide +kernel, by decide, by decide⟩, gl_mem 1097 (by decide +kernel) (by decide +kernel), gl_mem 1098 (by decide +kernel) (by decide +kernel), gl_mem 1099 (by decide +kernel) (by decide +kernel), by decide, _, _, rfl⟩
theorem cvL_law_69 : xCv hL_law 69 mX9_with 0 6 := ⟨⟨code_X9_with, ini_RX9, by decide +kernel, by decide, by decide⟩, gl_mem 482 (by decide +kernel) (by decide +kernel), gl_mem 483 (by decide +kernel) (by decide +kernel), gl_mem 484 (by decide +kernel) (by decide +kernel), by decide, _, _, rfl⟩
theorem cvL_law_72 : xCv hL_law 72 mX10_with 0 7 := ⟨⟨code_X10_with, ini_RX10, by decide +kernel, by decide, by decide⟩, gl_mem 1101 (by decide +kernel) (by decide +kernel), gl_mem 1102 (by decide +kernel) (by decide +kernel), gl_mem 1103 (by decide +kernel) (by decide +kernel), by decide, _, _, rfl⟩
theorem cvL_law_73 : xCv hL_law 73 mX9_before 0 6 := ⟨⟨code_X9_before, ini_RX9, by decide +kernel, by decide, by decide⟩, gl_mem 502 (by decide +kernel) (by decide +kernel), gl_mem 503 (by decide +kernel) (by decide +kernel), gl_mem 504 (by decide +kernel) (by decide +kernel), by decide, _, _, rfl⟩
theorem cvL_law_76 : xCv hL_law 76 mX10_before 0 7 := ⟨⟨code_X10_before, ini_RX10, by decide +kernel, by decide, by decide⟩, gl_mem 1129 (by decide +kernel) (by decide +kernel), gl_mem 1130 (by decide +kernel) (by decide +kernel), gl_mem 1131 (by decide +kernel) (by decide +kernel), by decide, _, _, rfl⟩
theorem cvL_law_77 : xCv hL_law 77 mX9_nth 1 6 := ⟨⟨code_X9_nth, ini_RX9, by decide +kernel, by decide, by decide⟩, gl_mem 515 (by decide +kernel) (by decide +kernel), gl_mem 516 (by decide +kernel) (by decide +kernel), gl_mem 517 (by decide +kernel) (by decide +kernel), by decide, _, _, rfl⟩
theorem cvL_law_80 : xCv hL_law 80 mX10_nth 1 7 := ⟨⟨code_X10_nth, ini_RX10, by decide +kernel, by decide, by decide⟩, gl_mem 1133 (by decide +kernel) (by decide +kernel), gl_mem 1134 (by decide +kernel) (by decide +kernel), gl_mem 1135 (by decide +kernel) (by decide +kernel), by decide, _, _, rfl⟩
theorem cvL_law_81 : xCv hL_law 81 mX9_commit 0 6 := ⟨⟨code_X9_commit, ini_RX9, by decide +kernel, by decide, by decide⟩, gl_mem 535 (by decide +kernel) (by decide +kernel), gl_mem 536 (by decide +kernel) (by decide +kernel), gl_mem 537 (by decide +kernel) (by decide +kernel), by decide, _, _, rfl⟩
theorem cvL_law_84 : xCv hL_law 84 mX10_commit 0 7 := ⟨⟨code_X10_commit, ini_RX10, by decide +kernel, by decide, by decide⟩, gl_mem 1141 (by decide +kernel) (by decide +kernel), gl_mem 1142 (by decide +kernel) (by decide +kernel), gl_mem 1143 (by decide +kernel) (by decide +kernel), by decide, _, _, rfl⟩
theorem cvL_law_85 : xCv hL_law 85 mX9_back 0 6 := ⟨⟨code_X9_back, ini_RX9, by decide +kernel, by decide, by decide⟩, gl_mem 647 (by decide +kernel) (by decide +kernel), gl_mem 648 (by decide +kernel) (by decide +kernel), gl_mem 649 (by decide +kernel) (by decide +kernel), by decide, _, _, rfl⟩
theorem cvL_law_88 : xCv hL_law 88 mX10_back 0 7 := ⟨⟨code_X10_back, ini_RX10, by decide +kernel, by decide, by decide⟩, gl_mem 1178 (by decide +kernel) (by decide +kernel), gl_mem 1179 (by decide +kernel) (by decide +kernel), gl_mem 1180 (by decide +kernel) (by decide +kernel), by decide, _, _, rfl⟩
theorem cvL_law_89 : xCv hL_law 89 mX9_count 1 6 := ⟨⟨code_X9_count, ini_RX9, by decide +kernel, by decide, by decide⟩, gl_mem 651 (by decide +kernel) (by decide +kernel), gl_mem 652 (by decide +kernel) (by decide +kernel), gl_mem 653 (by decide +kernel) (by decide +kernel), by decide, _, _, rfl⟩
theorem cvL_law_92 : xCv hL_law 92 mX10_count 1 7 := ⟨⟨code_X10_count, ini_RX10, by decide +kernel, by decide, by decide⟩, gl_mem 1182 (by decide +kernel) (by decide +kernel), gl_mem 1183 (by decide +kernel) (by decide +kernel), gl_mem 1184 (by decide +kernel) (by decide +kernel), by decide, _, _, rfl⟩
theorem cvL_law_93 : xCv hL_law 93 mX9_node 2 6 := ⟨⟨code_X9_node, ini_RX9, by decide +kernel, by decide, by decide⟩, gl_mem 668 (by decide +kernel) (by decide +kernel), gl_mem 669 (by decide +kernel) (by decide +kernel), gl_mem 670 (by decide +kernel) (by decide +kernel), by decide, _, _, rfl⟩
theorem cvL_law_96 : xCv hL_law 96 mX10_node 2 7 := ⟨⟨code_X10_node, ini_RX10, by decide +kernel, by decide, by decide⟩, gl_mem 1190 (by decide +kernel) (by decide +kernel), gl_mem 1191 (by decide +kernel) (by decide +kernel), gl_mem 1192 (by decide +kernel) (by decide +kernel), by decide, _, _, rfl⟩
theorem cvL_law_97 : xCv hL_law 97 mX9_power 2 6 := ⟨⟨code_X9_power, ini_RX9, by decide +kernel, by decide, by decide⟩, gl_mem 677 (by decide +kernel) (by decide +kernel), gl_mem 678 (by decide +kernel) (by decide +kernel), gl_mem 679 (by decide +kernel) (by decide +kernel), by decide, _, _, rfl⟩
theorem cvL_law_100 : xCv hL_law 100 mX10_power 2 7 := ⟨⟨code_X10_power, ini_RX10, by decide +kernel, by decide, by decide⟩, gl_mem 1199 (by decide +kernel) (by decide +kernel), gl_mem 1200 (by decide +kernel) (by decide +kernel), gl_mem 1201 (by decide +kernel) (by decide +kernel), by decide, _, _, rfl⟩
theorem cvL_law_101 : xCv hL_law 101 mX9_start 0 6 := ⟨⟨code_X9_start, ini_RX9, by decide +kernel, by decide, by decide⟩, gl_mem 685 (by decide +kernel) (by decide +kernel), gl_mem 686 (by decide +kernel) (by decide +kernel), gl_mem 687 (by decide +kernel) (by decide +kernel), by decide, _, _, rfl⟩
theorem cvL_law_104 : xCv hL_law 104 mX10_start 0 7 := ⟨⟨code_X10_start, ini_RX10, by decide +kernel, by decide, by decide⟩, gl_mem 1210 (by decide +kernel) (by decide +kernel), gl_mem 1211 (by decide +kernel) (by decide +kernel), gl_mem 1212 (by decide +kernel) (by decide +kernel), by decide, _, _, rfl⟩
theorem cvL_law_105 : xCv hL_law 105 mX9_halt 0 6 := ⟨⟨code_X9_halt, ini_RX9, by decide +kernel, by decide, by decide⟩, gl_mem 764 (by decide +kernel) (by decide +kernel), gl_mem 765 (by decide +kernel) (by decide +kernel), gl_mem 766 (by decide +kernel) (by decide +kernel), by decide, _, _, rfl⟩
theorem cvL_law_108 : xCv hL_law 108 mX10_halt 0 7 := ⟨⟨code_X10_halt, ini_RX10, by decide +kernel, by decide, by decide⟩, gl_mem 1206 (by decide +kernel) (by decide +kernel), gl_mem 1207 (by decide +kernel) (by decide +kernel), gl_mem 1208 (by decide +kernel) (by decide +kernel), by decide, _, _, rfl⟩
theorem chL_law_109 : xCh hL_law 109 hL_octet hhL_octet 4 := ⟨⟨gl_mem 875 (by decide +kernel) (by decide +kernel), gl_mem 66 (by decide +kernel) (by decide +kernel), by decide +kernel, by decide, by decide⟩, gl_mem 873 (by decide +kernel) (by decide +kernel), gl_mem 874 (by decide +kernel) (by decide +kernel)⟩
theorem cvL_law_112 : xCv hL_law 112 mX10_octet 2 7 := ⟨⟨code_X10_octet, ini_RX10, by decide +kernel, by decide, by decide⟩, gl_mem 1235 (by decide +kernel) (by decide +kernel), gl_mem 1236 (by decide +kernel) (by decide +kernel), gl_mem 1237 (by decide +kernel) (by decide +kernel), by decide, _, _, rfl⟩
theorem chL_law_113 : xCh hL_law 113 hL_poke hhL_poke 5 := ⟨⟨gl_mem 904 (by decide +kernel) (by decide +kernel), gl_mem 66 (by decide +kernel) (by decide +kernel), by decide +kernel, by decide, by decide⟩, gl_mem 902 (by decide +kernel) (by decide +kernel), gl_mem 903 (by decide +kernel) (by decide +kernel)⟩
theorem cvL_law_116 : xCv hL_law 116 mX10_poke 3 7 := ⟨⟨code_X10_poke, ini_RX10, by decide +kernel, by decide, by decide⟩, gl_mem 1239 (by decide +kernel) (by decide +kernel), gl_mem 1240 (by decide +kernel) (by decide +kernel), gl_mem 1241 (by decide +kernel) (by decide +kernel), by decide, _, _, rfl⟩
theorem clL_13 : Cond.classLink RL 13 "java/lang/IllegalArgumentException" ∈ gl := gl_mem 771 (by decide +kernel) (by decide +kernel)
theorem clL_15 : Cond.classLink RL 15 "java/lang/IllegalStateException" ∈ gl := gl_mem 772 (by decide +kernel) (by decide +kernel)
theorem clL_25 : Cond.classLink RL 25 "java/lang/IndexOutOfBoundsException" ∈ gl := gl_mem 876 (by decide +kernel) (by decide +kernel)
