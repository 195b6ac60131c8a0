theorem DL_0 : ∀ q ∈ ([(0, .new 8, 3), (3, .dup, 1), (4, .aload_n 0, 1), (5, .iconst 0, 1), (6, .invokestatic 15, 3), (9, .invokespecial 21, 3), (12, .astore_n 1, 1), (13, .new 24, 3), (16, .dup, 1), (17, .aload_n 0, 1), (18, .iconst 0, 1), (19, .invokestatic 15, 3), (22, .invokespecial 26, 3), (25, .astore_n 2, 1), (26, .iconst 1, 1), (27, .newarray .long, 2), (29, .astore_n 3, 1), (30, .iconst 1, 1), (31, .istore 4, 2), (33, .iload 4, 2), (35, .aload_n 0, 1), (36, .arraylength, 1), (37, .bipush 6, 2), (39, .isub, 1), (40, .if_icmp .gt 1068, 3), (43, .aload_n 0, 1), (44, .iload 4, 2), (46, .iaload, 1), (47, .bipush 31, 2), (49, .iand, 1), (50, .tableswitch 1052 0 22 #[106, 131, 144, 169, 218, 255, 268, 317, 370, 395, 463, 488, 525, 586, 659, 732, 757, 794, 819, 868, 917, 942, 991], 106), (156, .aload_n 1, 1), (157, .aload_n 0, 1), (158, .iload 4, 2), (160, .iconst 1, 1), (161, .iadd, 1), (162, .iaload, 1), (163, .invokevirtual 27, 3), (166, .aload_n 2, 1), (167, .aload_n 0, 1), (168, .iload 4, 2), (170, .iconst 1, 1), (171, .iadd, 1), (172, .iaload, 1), (173, .invokevirtual 31, 3), (176, .if_icmp .eq 926, 3), (179, .iconst 0, 1), (180, .ireturn, 1), (181, .aload_n 1, 1), (182, .invokevirtual 32, 3), (185, .aload_n 2, 1), (186, .invokevirtual 36, 3), (189, .if_icmp .eq 913, 3), (192, .iconst 0, 1), (193, .ireturn, 1), (194, .aload_n 1, 1), (195, .aload_n 0, 1), (196, .iload 4, 2), (198, .iconst 1, 1), (199, .iadd, 1)] : List (Nat × Instr × Nat)), decode cL_law q.1 = .ok q.2 := by decide +kernel
theorem dL_0 : decode cL_law 0 = .ok (.new 8, 3) := DL_0 (0, .new 8, 3) (List.mem_of_getElem? (i := 0) rfl)
theorem dL_3 : decode cL_law 3 = .ok (.dup, 1) := DL_0 (3, .dup, 1) (List.mem_of_getElem? (i := 1) rfl)
theorem dL_4 : decode cL_law 4 = .ok (.aload_n 0, 1) := DL_0 (4, .aload_n 0, 1) (List.mem_of_getElem? (i := 2) rfl)
theorem dL_5 : decode cL_law 5 = .ok (.iconst 0, 1) := DL_0 (5, .iconst 0, 1) (List.mem_of_getElem? (i := 3) rfl)
theorem dL_6 : decode cL_law 6 = .ok (.invokestatic 15, 3) := DL_0 (6, .invokestatic 15, 3) (List.mem_of_getElem? (i := 4) rfl)
theorem dL_9 : decode cL_law 9 = .ok (.invokespecial 21, 3) := DL_0 (9, .invokespecial 21, 3) (List.mem_of_getElem? (i := 5) rfl)
theorem dL_12 : decode cL_law 12 = .ok (.astore_n 1, 1) := DL_0 (12, .astore_n 1, 1) (List.mem_of_getElem? (i := 6) rfl)
theorem dL_13 : decode cL_law 13 = .ok (.new 24, 3) := DL_0 (13, .new 24, 3) (List.mem_of_getElem? (i := 7) rfl)
theorem dL_16 : decode cL_law 16 = .ok (.dup, 1) := DL_0 (16, .dup, 1) (List.mem_of_getElem? (i := 8) rfl)
theorem dL_17 : decode cL_law 17 = .ok (.aload_n 0, 1) := DL_0 (17, .aload_n 0, 1) (List.mem_of_getElem? (i := 9) rfl)
theorem dL_18 : decode cL_law 18 = .ok (.iconst 0, 1) := DL_0 (18, .iconst 0, 1) (List.mem_of_getElem? (i := 10) rfl)
theorem dL_19 : decode cL_law 19 = .ok (.invokestatic 15, 3) := DL_0 (19, .invokestatic 15, 3) (List.mem_of_getElem? (i := 11) rfl)
theorem dL_22 : decode cL_law 22 = .ok (.invokespecial 26, 3) := DL_0 (22, .invokespecial 26, 3) (List.mem_of_getElem? (i := 12) rfl)
theorem dL_25 : decode cL_law 25 = .ok (.astore_n 2, 1) := DL_0 (25, .astore_n 2, 1) (List.mem_of_getElem? (i := 13) rfl)
theorem dL_26 : decode cL_law 26 = .ok (.iconst 1, 1) := DL_0 (26, .iconst 1, 1) (List.mem_of_getElem? (i := 14) rfl)
theorem dL_27 : decode cL_law 27 = .ok (.newarray .long, 2) := DL_0 (27, .newarray .long, 2) (List.mem_of_getElem? (i := 15) rfl)
theorem dL_29 : decode cL_law 29 = .ok (.astore_n 3, 1) := DL_0 (29, .astore_n 3, 1) (List.mem_of_getElem? (i := 16) rfl)
theorem dL_30 : decode cL_law 30 = .ok (.iconst 1, 1) := DL_0 (30, .iconst 1, 1) (List.mem_of_getElem? (i := 17) rfl)
theorem dL_31 : decode cL_law 31 = .ok (.istore 4, 2) := DL_0 (31, .istore 4, 2) (List.mem_of_getElem? (i := 18) rfl)
theorem dL_33 : decode cL_law 33 = .ok (.iload 4, 2) := DL_0 (33, .iload 4, 2) (List.mem_of_getElem? (i := 19) rfl)
theorem dL_35 : decode cL_law 35 = .ok (.aload_n 0, 1) := DL_0 (35, .aload_n 0, 1) (List.mem_of_getElem? (i := 20) rfl)
theorem dL_36 : decode cL_law 36 = .ok (.arraylength, 1) := DL_0 (36, .arraylength, 1) (List.mem_of_getElem? (i := 21) rfl)
theorem dL_37 : decode cL_law 37 = .ok (.bipush 6, 2) := DL_0 (37, .bipush 6, 2) (List.mem_of_getElem? (i := 22) rfl)
theorem dL_39 : decode cL_law 39 = .ok (.isub, 1) := DL_0 (39, .isub, 1) (List.mem_of_getElem? (i := 23) rfl)
theorem dL_40 : decode cL_law 40 = .ok (.if_icmp .gt 1068, 3) := DL_0 (40, .if_icmp .gt 1068, 3) (List.mem_of_getElem? (i := 24) rfl)
theorem dL_43 : decode cL_law 43 = .ok (.aload_n 0, 1) := DL_0 (43, .aload_n 0, 1) (List.mem_of_getElem? (i := 25) rfl)
theorem dL_44 : decode cL_law 44 = .ok (.iload 4, 2) := DL_0 (44, .iload 4, 2) (List.mem_of_getElem? (i := 26) rfl)
theorem dL_46 : decode cL_law 46 = .ok (.iaload, 1) := DL_0 (46, .iaload, 1) (List.mem_of_getElem? (i := 27) rfl)
theorem dL_47 : decode cL_law 47 = .ok (.bipush 31, 2) := DL_0 (47, .bipush 31, 2) (List.mem_of_getElem? (i := 28) rfl)
theorem dL_49 : decode cL_law 49 = .ok (.iand, 1) := DL_0 (49, .iand, 1) (List.mem_of_getElem? (i := 29) rfl)
theorem dL_50 : decode cL_law 50 = .ok (.tableswitch 1052 0 22 #[106, 131, 144, 169, 218, 255, 268, 317, 370, 395, 463, 488, 525, 586, 659, 732, 757, 794, 819, 868, 917, 942, 991], 106) := DL_0 (50, .tableswitch 1052 0 22 #[106, 131, 144, 169, 218, 255, 268, 317, 370, 395, 463, 488, 525, 586, 659, 732, 757, 794, 819, 868, 917, 942, 991], 106) (List.mem_of_getElem? (i := 30) rfl)
theorem dL_156 : decode cL_law 156 = .ok (.aload_n 1, 1) := DL_0 (156, .aload_n 1, 1) (List.mem_of_getElem? (i := 31) rfl)
theorem dL_157 : decode cL_law 157 = .ok (.aload_n 0, 1) := DL_0 (157, .aload_n 0, 1) (List.mem_of_getElem? (i := 32) rfl)
theorem dL_158 : decode cL_law 158 = .ok (.iload 4, 2) := DL_0 (158, .iload 4, 2) (List.mem_of_getElem? (i := 33) rfl)
theorem dL_160 : decode cL_law 160 = .ok (.iconst 1, 1) := DL_0 (160, .iconst 1, 1) (List.mem_of_getElem? (i := 34) rfl)
theorem dL_161 : decode cL_law 161 = .ok (.iadd, 1) := DL_0 (161, .iadd, 1) (List.mem_of_getElem? (i := 35) rfl)
theorem dL_162 : decode cL_law 162 = .ok (.iaload, 1) := DL_0 (162, .iaload, 1) (List.mem_of_getElem? (i := 36) rfl)
theorem dL_163 : decode cL_law 163 = .ok (.invokevirtual 27, 3) := DL_0 (163, .invokevirtual 27, 3) (List.mem_of_getElem? (i := 37) rfl)
theorem dL_166 : decode cL_law 166 = .ok (.aload_n 2, 1) := DL_0 (166, .aload_n 2, 1) (List.mem_of_getElem? (i := 38) rfl)
theorem dL_167 : decode cL_law 167 = .ok (.aload_n 0, 1) := DL_0 (167, .aload_n 0, 1) (List.mem_of_getElem? (i := 39) rfl)
theorem dL_168 : decode cL_law 168 = .ok (.iload 4, 2) := DL_0 (168, .iload 4, 2) (List.mem_of_getElem? (i := 40) rfl)
theorem dL_170 : decode cL_law 170 = .ok (.iconst 1, 1) := DL_0 (170, .iconst 1, 1) (List.mem_of_getElem? (i := 41) rfl)
theorem dL_171 : decode cL_law 171 = .ok (.iadd, 1) := DL_0 (171, .iadd, 1) (List.mem_of_getElem? (i := 42) rfl)
theorem dL_172 : decode cL_law 172 = .ok (.iaload, 1) := DL_0 (172, .iaload, 1) (List.mem_of_getElem? (i := 43) rfl)
theorem dL_173 : decode cL_law 173 = .ok (.invokevirtual 31, 3) := DL_0 (173, .invokevirtual 31, 3) (List.mem_of_getElem? (i := 44) rfl)
theorem dL_176 : decode cL_law 176 = .ok (.if_icmp .eq 926, 3) := DL_0 (176, .if_icmp .eq 926, 3) (List.mem_of_getElem? (i := 45) rfl)
theorem dL_179 : decode cL_law 179 = .ok (.iconst 0, 1) := DL_0 (179, .iconst 0, 1) (List.mem_of_getElem? (i := 46) rfl)
theorem dL_180 : decode cL_law 180 = .ok (.ireturn, 1) := DL_0 (180, .ireturn, 1) (List.mem_of_getElem? (i := 47) rfl)
theorem dL_181 : decode cL_law 181 = .ok (.aload_n 1, 1) := DL_0 (181, .aload_n 1, 1) (List.mem_of_getElem? (i := 48) rfl)
theorem dL_182 : decode cL_law 182 = .ok (.invokevirtual 32, 3) := DL_0 (182, .invokevirtual 32, 3) (List.mem_of_getElem? (i := 49) rfl)
theorem dL_185 : decode cL_law 185 = .ok (.aload_n 2, 1) := DL_0 (185, .aload_n 2, 1) (List.mem_of_getElem? (i := 50) rfl)
theorem dL_186 : decode cL_law 186 = .ok (.invokevirtual 36, 3) := DL_0 (186, .invokevirtual 36, 3) (List.mem_of_getElem? (i := 51) rfl)
theorem dL_189 : decode cL_law 189 = .ok (.if_icmp .eq 913, 3) := DL_0 (189, .if_icmp .eq 913, 3) (List.mem_of_getElem? (i := 52) rfl)
theorem dL_192 : decode cL_law 192 = .ok (.iconst 0, 1) := DL_0 (192, .iconst 0, 1) (List.mem_of_getElem? (i := 53) rfl)
theorem dL_193 : decode cL_law 193 = .ok (.ireturn, 1) := DL_0 (193, .ireturn, 1) (List.mem_of_getElem? (i := 54) rfl)
theorem dL_194 : decode cL_law 194 = .ok (.aload_n 1, 1) := DL_0 (194, .aload_n 1, 1) (List.mem_of_getElem? (i := 55) rfl)
theorem dL_195 : decode cL_law 195 = .ok (.aload_n 0, 1) := DL_0 (195, .aload_n 0, 1) (List.mem_of_getElem? (i := 56) rfl)
theorem dL_196 : decode cL_law 196 = .ok (.iload 4, 2) := DL_0 (196, .iload 4, 2) (List.mem_of_getElem? (i := 57) rfl)
theorem dL_198 : decode cL_law 198 = .ok (.iconst 1, 1) := DL_0 (198, .iconst 1, 1) (List.mem_of_getElem? (i := 58) rfl)
theorem dL_199 : decode cL_law 199 = .ok (.iadd, 1) := DL_0 (199, .iadd, 1) (List.mem_of_getElem? (i := 59) rfl)
theorem DL_60 : ∀ q ∈ ([(200, .iaload, 1), (201, .invokevirtual 37, 3), (204, .aload_n 2, 1), (205, .aload_n 0, 1), (206, .iload 4, 2), (208, .iconst 1, 1), (209, .iadd, 1), (210, .iaload, 1), (211, .invokevirtual 40, 3), (214, .if_icmp .eq 888, 3), (217, .iconst 0, 1), (218, .ireturn, 1), (219, .aload_n 1, 1), (220, .aload_n 0, 1), (221, .iload 4, 2), (223, .iconst 1, 1), (224, .iadd, 1), (225, .iaload, 1), (226, .aload_n 0, 1), (227, .iload 4, 2), (229, .iconst 2, 1), (230, .iadd, 1), (231, .iaload, 1), (232, .aload_n 0, 1), (233, .iload 4, 2), (235, .iconst 3, 1), (236, .iadd, 1), (237, .iaload, 1), (238, .invokevirtual 41, 3), (241, .aload_n 2, 1), (242, .aload_n 0, 1), (243, .iload 4, 2), (245, .iconst 1, 1), (246, .iadd, 1), (247, .iaload, 1), (248, .aload_n 0, 1), (249, .iload 4, 2), (251, .iconst 2, 1), (252, .iadd, 1), (253, .iaload, 1), (254, .aload_n 0, 1), (255, .iload 4, 2), (257, .iconst 3, 1), (258, .iadd, 1), (259, .iaload, 1), (260, .invokevirtual 45, 3), (263, .if_icmp .eq 839, 3), (266, .iconst 0, 1), (267, .ireturn, 1), (268, .aload_n 1, 1), (269, .aload_n 0, 1), (270, .iload 4, 2), (272, .iconst 1, 1), (273, .iadd, 1), (274, .iaload, 1), (275, .aload_n 0, 1), (276, .iload 4, 2), (278, .iconst 2, 1), (279, .iadd, 1), (280, .iaload, 1)] : List (Nat × Instr × Nat)), decode cL_law q.1 = .ok q.2 := by decide +kernel
theorem dL_200 : decode cL_law 200 = .ok (.iaload, 1) := DL_60 (200, .iaload, 1) (List.mem_of_getElem? (i := 0) rfl)
theorem dL_201 : decode cL_law 201 = .ok (.invokevirtual 37, 3) := DL_60 (201, .invokevirtual 37, 3) (List.mem_of_getElem? (i := 1) rfl)
theorem dL_204 : decode cL_law 204 = .ok (.aload_n 2, 1) := DL_60 (204, .aload_n 2, 1) (List.mem_of_getElem? (i := 2) rfl)
theorem dL_205 : decode cL_law 205 = .ok (.aload_n 0, 1) := DL_60 (205, .aload_n 0, 1) (List.mem_of_getElem? (i := 3) rfl)
theorem dL_206 : decode cL_law 206 = .ok (.iload 4, 2) := DL_60 (206, .iload 4, 2) (List.mem_of_getElem? (i := 4) rfl)
theorem dL_208 : decode cL_law 208 = .ok (.iconst 1, 1) := DL_60 (208, .iconst 1, 1) (List.mem_of_getElem? (i := 5) rfl)
theorem dL_209 : decode cL_law 209 = .ok (.iadd, 1) := DL_60 (209, .iadd, 1) (List.mem_of_getElem? (i := 6) rfl)
theorem dL_210 : decode cL_law 210 = .ok (.iaload, 1) := DL_60 (210, .iaload, 1) (List.mem_of_getElem? (i := 7) rfl)
theorem dL_211 : decode cL_law 211 = .ok (.invokevirtual 40, 3) := DL_60 (211, .invokevirtual 40, 3) (List.mem_of_getElem? (i := 8) rfl)
theorem dL_214 : decode cL_law 214 = .ok (.if_icmp .eq 888, 3) := DL_60 (214, .if_icmp .eq 888, 3) (List.mem_of_getElem? (i := 9) rfl)
theorem dL_217 : decode cL_law 217 = .ok (.iconst 0, 1) := DL_60 (217, .iconst 0, 1) (List.mem_of_getElem? (i := 10) rfl)
theorem dL_218 : decode cL_law 218 = .ok (.ireturn, 1) := DL_60 (218, .ireturn, 1) (List.mem_of_getElem? (i := 11) rfl)
theorem dL_219 : decode cL_law 219 = .ok (.aload_n 1, 1) := DL_60 (219, .aload_n 1, 1) (List.mem_of_getElem? (i := 12) rfl)
theorem dL_220 : decode cL_law 220 = .ok (.aload_n 0, 1) := DL_60 (220, .aload_n 0, 1) (List.mem_of_getElem? (i := 13) rfl)
theorem dL_221 : decode cL_law 221 = .ok (.iload 4, 2) := DL_60 (221, .iload 4, 2) (List.mem_of_getElem? (i := 14) rfl)
theorem dL_223 : decode cL_law 223 = .ok (.iconst 1, 1) := DL_60 (223, .iconst 1, 1) (List.mem_of_getElem? (i := 15) rfl)
theorem dL_224 : decode cL_law 224 = .ok (.iadd, 1) := DL_60 (224, .iadd, 1) (List.mem_of_getElem? (i := 16) rfl)
theorem dL_225 : decode cL_law 225 = .ok (.iaload, 1) := DL_60 (225, .iaload, 1) (List.mem_of_getElem? (i := 17) rfl)
theorem dL_226 : decode cL_law 226 = .ok (.aload_n 0, 1) := DL_60 (226, .aload_n 0, 1) (List.mem_of_getElem? (i := 18) rfl)
theorem dL_227 : decode cL_law 227 = .ok (.iload 4, 2) := DL_60 (227, .iload 4, 2) (List.mem_of_getElem? (i := 19) rfl)
theorem dL_229 : decode cL_law 229 = .ok (.iconst 2, 1) := DL_60 (229, .iconst 2, 1) (List.mem_of_getElem? (i := 20) rfl)
theorem dL_230 : decode cL_law 230 = .ok (.iadd, 1) := DL_60 (230, .iadd, 1) (List.mem_of_getElem? (i := 21) rfl)
theorem dL_231 : decode cL_law 231 = .ok (.iaload, 1) := DL_60 (231, .iaload, 1) (List.mem_of_getElem? (i := 22) rfl)
theorem dL_232 : decode cL_law 232 = .ok (.aload_n 0, 1) := DL_60 (232, .aload_n 0, 1) (List.mem_of_getElem? (i := 23) rfl)
theorem dL_233 : decode cL_law 233 = .ok (.iload 4, 2) := DL_60 (233, .iload 4, 2) (List.mem_of_getElem? (i := 24) rfl)
theorem dL_235 : decode cL_law 235 = .ok (.iconst 3, 1) := DL_60 (235, .iconst 3, 1) (List.mem_of_getElem? (i := 25) rfl)
theorem dL_236 : decode cL_law 236 = .ok (.iadd, 1) := DL_60 (236, .iadd, 1) (List.mem_of_getElem? (i := 26) rfl)
theorem dL_237 : decode cL_law 237 = .ok (.iaload, 1) := DL_60 (237, .iaload, 1) (List.mem_of_getElem? (i := 27) rfl)
theorem dL_238 : decode cL_law 238 = .ok (.invokevirtual 41, 3) := DL_60 (238, .invokevirtual 41, 3) (List.mem_of_getElem? (i := 28) rfl)
theorem dL_241 : decode cL_law 241 = .ok (.aload_n 2, 1) := DL_60 (241, .aload_n 2, 1) (List.mem_of_getElem? (i := 29) rfl)
theorem dL_242 : decode cL_law 242 = .ok (.aload_n 0, 1) := DL_60 (242, .aload_n 0, 1) (List.mem_of_getElem? (i := 30) rfl)
theorem dL_243 : decode cL_law 243 = .ok (.iload 4, 2) := DL_60 (243, .iload 4, 2) (List.mem_of_getElem? (i := 31) rfl)
theorem dL_245 : decode cL_law 245 = .ok (.iconst 1, 1) := DL_60 (245, .iconst 1, 1) (List.mem_of_getElem? (i := 32) rfl)
theorem dL_246 : decode cL_law 246 = .ok (.iadd, 1) := DL_60 (246, .iadd, 1) (List.mem_of_getElem? (i := 33) rfl)
theorem dL_247 : decode cL_law 247 = .ok (.iaload, 1) := DL_60 (247, .iaload, 1) (List.mem_of_getElem? (i := 34) rfl)
theorem dL_248 : decode cL_law 248 = .ok (.aload_n 0, 1) := DL_60 (248, .aload_n 0, 1) (List.mem_of_getElem? (i := 35) rfl)
theorem dL_249 : decode cL_law 249 = .ok (.iload 4, 2) := DL_60 (249, .iload 4, 2) (List.mem_of_getElem? (i := 36) rfl)
theorem dL_251 : decode cL_law 251 = .ok (.iconst 2, 1) := DL_60 (251, .iconst 2, 1) (List.mem_of_getElem? (i := 37) rfl)
theorem dL_252 : decode cL_law 252 = .ok (.iadd, 1) := DL_60 (252, .iadd, 1) (List.mem_of_getElem? (i := 38) rfl)
theorem dL_253 : decode cL_law 253 = .ok (.iaload, 1) := DL_60 (253, .iaload, 1) (List.mem_of_getElem? (i := 39) rfl)
theorem dL_254 : decode cL_law 254 = .ok (.aload_n 0, 1) := DL_60 (254, .aload_n 0, 1) (List.mem_of_getElem? (i := 40) rfl)
theorem dL_255 : decode cL_law 255 = .ok (.iload 4, 2) := DL_60 (255, .iload 4, 2) (List.mem_of_getElem? (i := 41) rfl)
theorem dL_257 : decode cL_law 257 = .ok (.iconst 3, 1) := DL_60 (257, .iconst 3, 1) (List.mem_of_getElem? (i := 42) rfl)
theorem dL_258 : decode cL_law 258 = .ok (.iadd, 1) := DL_60 (258, .iadd, 1) (List.mem_of_getElem? (i := 43) rfl)
theorem dL_259 : decode cL_law 259 = .ok (.iaload, 1) := DL_60 (259, .iaload, 1) (List.mem_of_getElem? (i := 44) rfl)
theorem dL_260 : decode cL_law 260 = .ok (.invokevirtual 45, 3) := DL_60 (260, .invokevirtual 45, 3) (List.mem_of_getElem? (i := 45) rfl)
theorem dL_263 : decode cL_law 263 = .ok (.if_icmp .eq 839, 3) := DL_60 (263, .if_icmp .eq 839, 3) (List.mem_of_getElem? (i := 46) rfl)
theorem dL_266 : decode cL_law 266 = .ok (.iconst 0, 1) := DL_60 (266, .iconst 0, 1) (List.mem_of_getElem? (i := 47) rfl)
theorem dL_267 : decode cL_law 267 = .ok (.ireturn, 1) := DL_60 (267, .ireturn, 1) (List.mem_of_getElem? (i := 48) rfl)
theorem dL_268 : decode cL_law 268 = .ok (.aload_n 1, 1) := DL_60 (268, .aload_n 1, 1) (List.mem_of_getElem? (i := 49) rfl)
theorem dL_269 : decode cL_law 269 = .ok (.aload_n 0, 1) := DL_60 (269, .aload_n 0, 1) (List.mem_of_getElem? (i := 50) rfl)
theorem dL_270 : decode cL_law 270 = .ok (.iload 4, 2) := DL_60 (270, .iload 4, 2) (List.mem_of_getElem? (i := 51) rfl)
theorem dL_272 : decode cL_law 272 = .ok (.iconst 1, 1) := DL_60 (272, .iconst 1, 1) (List.mem_of_getElem? (i := 52) rfl)
theorem dL_273 : decode cL_law 273 = .ok (.iadd, 1) := DL_60 (273, .iadd, 1) (List.mem_of_getElem? (i := 53) rfl)
theorem dL_274 : decode cL_law 274 = .ok (.iaload, 1) := DL_60 (274, .iaload, 1) (List.mem_of_getElem? (i := 54) rfl)
theorem dL_275 : decode cL_law 275 = .ok (.aload_n 0, 1) := DL_60 (275, .aload_n 0, 1) (List.mem_of_getElem? (i := 55) rfl)
theorem dL_276 : decode cL_law 276 = .ok (.iload 4, 2) := DL_60 (276, .iload 4, 2) (List.mem_of_getElem? (i := 56) rfl)
theorem dL_278 : decode cL_law 278 = .ok (.iconst 2, 1) := DL_60 (278, .iconst 2, 1) (List.mem_of_getElem? (i := 57) rfl)
theorem dL_279 : decode cL_law 279 = .ok (.iadd, 1) := DL_60 (279, .iadd, 1) (List.mem_of_getElem? (i := 58) rfl)
theorem dL_280 : decode cL_law 280 = .ok (.iaload, 1) := DL_60 (280, .iaload, 1) (List.mem_of_getElem? (i := 59) rfl)
theorem DL_120 : ∀ q ∈ ([(281, .invokevirtual 46, 3), (284, .aload_n 2, 1), (285, .aload_n 0, 1), (286, .iload 4, 2), (288, .iconst 1, 1), (289, .iadd, 1), (290, .iaload, 1), (291, .aload_n 0, 1), (292, .iload 4, 2), (294, .iconst 2, 1), (295, .iadd, 1), (296, .iaload, 1), (297, .invokevirtual 50, 3), (300, .if_icmp .eq 802, 3), (303, .iconst 0, 1), (304, .ireturn, 1), (305, .aload_n 1, 1), (306, .invokevirtual 51, 3), (309, .aload_n 2, 1), (310, .invokevirtual 54, 3), (313, .if_icmp .eq 789, 3), (316, .iconst 0, 1), (317, .ireturn, 1), (318, .aload_n 1, 1), (319, .aload_n 0, 1), (320, .iload 4, 2), (322, .iconst 1, 1), (323, .iadd, 1), (324, .iaload, 1), (325, .aload_n 0, 1), (326, .iload 4, 2), (328, .iconst 2, 1), (329, .iadd, 1), (330, .iaload, 1), (331, .aload_n 0, 1), (332, .iload 4, 2), (334, .iconst 3, 1), (335, .iadd, 1), (336, .iaload, 1), (337, .invokevirtual 55, 3), (340, .aload_n 2, 1), (341, .aload_n 0, 1), (342, .iload 4, 2), (344, .iconst 1, 1), (345, .iadd, 1), (346, .iaload, 1), (347, .aload_n 0, 1), (348, .iload 4, 2), (350, .iconst 2, 1), (351, .iadd, 1), (352, .iaload, 1), (353, .aload_n 0, 1), (354, .iload 4, 2), (356, .iconst 3, 1), (357, .iadd, 1), (358, .iaload, 1), (359, .invokevirtual 59, 3), (362, .if_icmp .eq 740, 3), (365, .iconst 0, 1), (366, .ireturn, 1)] : List (Nat × Instr × Nat)), decode cL_law q.1 = .ok q.2 := by decide +kernel
theorem dL_281 : decode cL_law 281 = .ok (.invokevirtual 46, 3) := DL_120 (281, .invokevirtual 46, 3) (List.mem_of_getElem? (i := 0) rfl)
theorem dL_284 : decode cL_law 284 = .ok (.aload_n 2, 1) := DL_120 (284, .aload_n 2, 1) (List.mem_of_getElem? (i := 1) rfl)
theorem dL_285 : decode cL_law 285 = .ok (.aload_n 0, 1) := DL_120 (285, .aload_n 0, 1) (List.mem_of_getElem? (i := 2) rfl)
theorem dL_286 : decode cL_law 286 = .ok (.iload 4, 2) := DL_120 (286, .iload 4, 2) (List.mem_of_getElem? (i := 3) rfl)
theorem dL_288 : decode cL_law 288 = .ok (.iconst 1, 1) := DL_120 (288, .iconst 1, 1) (List.mem_of_getElem? (i := 4) rfl)
theorem dL_289 : decode cL_law 289 = .ok (.iadd, 1) := DL_120 (289, .iadd, 1) (List.mem_of_getElem? (i := 5) rfl)
theorem dL_290 : decode cL_law 290 = .ok (.iaload, 1) := DL_120 (290, .iaload, 1) (List.mem_of_getElem? (i := 6) rfl)
theorem dL_291 : decode cL_law 291 = .ok (.aload_n 0, 1) := DL_120 (291, .aload_n 0, 1) (List.mem_of_getElem? (i := 7) rfl)
theorem dL_292 : decode cL_law 292 = .ok (.iload 4, 2) := DL_120 (292, .iload 4, 2) (List.mem_of_getElem? (i := 8) rfl)
theorem dL_294 : decode cL_law 294 = .ok (.iconst 2, 1) := DL_120 (294, .iconst 2, 1) (List.mem_of_getElem? (i := 9) rfl)
theorem dL_295 : decode cL_law 295 = .ok (.iadd, 1) := DL_120 (295, .iadd, 1) (List.mem_of_getElem? (i := 10) rfl)
theorem dL_296 : decode cL_law 296 = .ok (.iaload, 1) := DL_120 (296, .iaload, 1) (List.mem_of_getElem? (i := 11) rfl)
theorem dL_297 : decode cL_law 297 = .ok (.invokevirtual 50, 3) := DL_120 (297, .invokevirtual 50, 3) (List.mem_of_getElem? (i := 12) rfl)
theorem dL_300 : decode cL_law 300 = .ok (.if_icmp .eq 802, 3) := DL_120 (300, .if_icmp .eq 802, 3) (List.mem_of_getElem? (i := 13) rfl)
theorem dL_303 : decode cL_law 303 = .ok (.iconst 0, 1) := DL_120 (303, .iconst 0, 1) (List.mem_of_getElem? (i := 14) rfl)
theorem dL_304 : decode cL_law 304 = .ok (.ireturn, 1) := DL_120 (304, .ireturn, 1) (List.mem_of_getElem? (i := 15) rfl)
theorem dL_305 : decode cL_law 305 = .ok (.aload_n 1, 1) := DL_120 (305, .aload_n 1, 1) (List.mem_of_getElem? (i := 16) rfl)
theorem dL_306 : decode cL_law 306 = .ok (.invokevirtual 51, 3) := DL_120 (306, .invokevirtual 51, 3) (List.mem_of_getElem? (i := 17) rfl)
theorem dL_309 : decode cL_law 309 = .ok (.aload_n 2, 1) := DL_120 (309, .aload_n 2, 1) (List.mem_of_getElem? (i := 18) rfl)
theorem dL_310 : decode cL_law 310 = .ok (.invokevirtual 54, 3) := DL_120 (310, .invokevirtual 54, 3) (List.mem_of_getElem? (i := 19) rfl)
theorem dL_313 : decode cL_law 313 = .ok (.if_icmp .eq 789, 3) := DL_120 (313, .if_icmp .eq 789, 3) (List.mem_of_getElem? (i := 20) rfl)
theorem dL_316 : decode cL_law 316 = .ok (.iconst 0, 1) := DL_120 (316, .iconst 0, 1) (List.mem_of_getElem? (i := 21) rfl)
theorem dL_317 : decode cL_law 317 = .ok (.ireturn, 1) := DL_120 (317, .ireturn, 1) (List.mem_of_getElem? (i := 22) rfl)
theorem dL_318 : decode cL_law 318 = .ok (.aload_n 1, 1) := DL_120 (318, .aload_n 1, 1) (List.mem_of_getElem? (i := 23) rfl)
theorem dL_319 : decode cL_law 319 = .ok (.aload_n 0, 1) := DL_120 (319, .aload_n 0, 1) (List.mem_of_getElem? (i := 24) rfl)
theorem dL_320 : decode cL_law 320 = .ok (.iload 4, 2) := DL_120 (320, .iload 4, 2) (List.mem_of_getElem? (i := 25) rfl)
theorem dL_322 : decode cL_law 322 = .ok (.iconst 1, 1) := DL_120 (322, .iconst 1, 1) (List.mem_of_getElem? (i := 26) rfl)
theorem dL_323 : decode cL_law 323 = .ok (.iadd, 1) := DL_120 (323, .iadd, 1) (List.mem_of_getElem? (i := 27) rfl)
theorem dL_324 : decode cL_law 324 = .ok (.iaload, 1) := DL_120 (324, .iaload, 1) (List.mem_of_getElem? (i := 28) rfl)
theorem dL_325 : decode cL_law 325 = .ok (.aload_n 0, 1) := DL_120 (325, .aload_n 0, 1) (List.mem_of_getElem? (i := 29) rfl)
theorem dL_326 : decode cL_law 326 = .ok (.iload 4, 2) := DL_120 (326, .iload 4, 2) (List.mem_of_getElem? (i := 30) rfl)
theorem dL_328 : decode cL_law 328 = .ok (.iconst 2, 1) := DL_120 (328, .iconst 2, 1) (List.mem_of_getElem? (i := 31) rfl)
theorem dL_329 : decode cL_law 329 = .ok (.iadd, 1) := DL_120 (329, .iadd, 1) (List.mem_of_getElem? (i := 32) rfl)
theorem dL_330 : decode cL_law 330 = .ok (.iaload, 1) := DL_120 (330, .iaload, 1) (List.mem_of_getElem? (i := 33) rfl)
theorem dL_331 : decode cL_law 331 = .ok (.aload_n 0, 1) := DL_120 (331, .aload_n 0, 1) (List.mem_of_getElem? (i := 34) rfl)
theorem dL_332 : decode cL_law 332 = .ok (.iload 4, 2) := DL_120 (332, .iload 4, 2) (List.mem_of_getElem? (i := 35) rfl)
theorem dL_334 : decode cL_law 334 = .ok (.iconst 3, 1) := DL_120 (334, .iconst 3, 1) (List.mem_of_getElem? (i := 36) rfl)
theorem dL_335 : decode cL_law 335 = .ok (.iadd, 1) := DL_120 (335, .iadd, 1) (List.mem_of_getElem? (i := 37) rfl)
theorem dL_336 : decode cL_law 336 = .ok (.iaload, 1) := DL_120 (336, .iaload, 1) (List.mem_of_getElem? (i := 38) rfl)
theorem dL_337 : decode cL_law 337 = .ok (.invokevirtual 55, 3) := DL_120 (337, .invokevirtual 55, 3) (List.mem_of_getElem? (i := 39) rfl)
theorem dL_340 : decode cL_law 340 = .ok (.aload_n 2, 1) := DL_120 (340, .aload_n 2, 1) (List.mem_of_getElem? (i := 40) rfl)
theorem dL_341 : decode cL_law 341 = .ok (.aload_n 0, 1) := DL_120 (341, .aload_n 0, 1) (List.mem_of_getElem? (i := 41) rfl)
theorem dL_342 : decode cL_law 342 = .ok (.iload 4, 2) := DL_120 (342, .iload 4, 2) (List.mem_of_getElem? (i := 42) rfl)
theorem dL_344 : decode cL_law 344 = .ok (.iconst 1, 1) := DL_120 (344, .iconst 1, 1) (List.mem_of_getElem? (i := 43) rfl)
theorem dL_345 : decode cL_law 345 = .ok (.iadd, 1) := DL_120 (345, .iadd, 1) (List.mem_of_getElem? (i := 44) rfl)
theorem dL_346 : decode cL_law 346 = .ok (.iaload, 1) := DL_120 (346, .iaload, 1) (List.mem_of_getElem? (i := 45) rfl)
theorem dL_347 : decode cL_law 347 = .ok (.aload_n 0, 1) := DL_120 (347, .aload_n 0, 1) (List.mem_of_getElem? (i := 46) rfl)
theorem dL_348 : decode cL_law 348 = .ok (.iload 4, 2) := DL_120 (348, .iload 4, 2) (List.mem_of_getElem? (i := 47) rfl)
theorem dL_350 : decode cL_law 350 = .ok (.iconst 2, 1) := DL_120 (350, .iconst 2, 1) (List.mem_of_getElem? (i := 48) rfl)
theorem dL_351 : decode cL_law 351 = .ok (.iadd, 1) := DL_120 (351, .iadd, 1) (List.mem_of_getElem? (i := 49) rfl)
theorem dL_352 : decode cL_law 352 = .ok (.iaload, 1) := DL_120 (352, .iaload, 1) (List.mem_of_getElem? (i := 50) rfl)
theorem dL_353 : decode cL_law 353 = .ok (.aload_n 0, 1) := DL_120 (353, .aload_n 0, 1) (List.mem_of_getElem? (i := 51) rfl)
theorem dL_354 : decode cL_law 354 = .ok (.iload 4, 2) := DL_120 (354, .iload 4, 2) (List.mem_of_getElem? (i := 52) rfl)
theorem dL_356 : decode cL_law 356 = .ok (.iconst 3, 1) := DL_120 (356, .iconst 3, 1) (List.mem_of_getElem? (i := 53) rfl)
theorem dL_357 : decode cL_law 357 = .ok (.iadd, 1) := DL_120 (357, .iadd, 1) (List.mem_of_getElem? (i := 54) rfl)
theorem dL_358 : decode cL_law 358 = .ok (.iaload, 1) := DL_120 (358, .iaload, 1) (List.mem_of_getElem? (i := 55) rfl)
theorem dL_359 : decode cL_law 359 = .ok (.invokevirtual 59, 3) := DL_120 (359, .invokevirtual 59, 3) (List.mem_of_getElem? (i := 56) rfl)
theorem dL_362 : decode cL_law 362 = .ok (.if_icmp .eq 740, 3) := DL_120 (362, .if_icmp .eq 740, 3) (List.mem_of_getElem? (i := 57) rfl)
theorem dL_365 : decode cL_law 365 = .ok (.iconst 0, 1) := DL_120 (365, .iconst 0, 1) (List.mem_of_getElem? (i := 58) rfl)
theorem dL_366 : decode cL_law 366 = .ok (.ireturn, 1) := DL_120 (366, .ireturn, 1) (List.mem_of_getElem? (i := 59) rfl)
theorem DL_180 : ∀ q ∈ ([(367, .aload_n 1, 1), (368, .aload_n 0, 1), (369, .iload 4, 2), (371, .iconst 1, 1), (372, .iadd, 1), (373, .iaload, 1), (374, .aload_n 0, 1), (375, .iload 4, 2), (377, .iconst 2, 1), (378, .iadd, 1), (379, .iaload, 1), (380, .ifCond .eq 7, 3), (383, .iconst 1, 1), (384, .goto 4, 3), (387, .iconst 0, 1), (388, .invokevirtual 60, 3), (391, .aload_n 2, 1), (392, .aload_n 0, 1), (393, .iload 4, 2), (395, .iconst 1, 1), (396, .iadd, 1), (397, .iaload, 1), (398, .aload_n 0, 1), (399, .iload 4, 2), (401, .iconst 2, 1), (402, .iadd, 1), (403, .iaload, 1), (404, .ifCond .eq 7, 3), (407, .iconst 1, 1), (408, .goto 4, 3), (411, .iconst 0, 1), (412, .invokevirtual 64, 3), (415, .if_icmp .eq 687, 3), (418, .iconst 0, 1), (419, .ireturn, 1), (420, .aload_n 1, 1), (421, .aload_n 0, 1), (422, .iload 4, 2), (424, .iconst 1, 1), (425, .iadd, 1), (426, .iaload, 1), (427, .invokevirtual 65, 3), (430, .aload_n 2, 1), (431, .aload_n 0, 1), (432, .iload 4, 2), (434, .iconst 1, 1), (435, .iadd, 1), (436, .iaload, 1), (437, .invokevirtual 68, 3), (440, .if_icmp .eq 662, 3), (443, .iconst 0, 1), (444, .ireturn, 1), (445, .aload_n 1, 1), (446, .aload_n 0, 1), (447, .iload 4, 2), (449, .iconst 1, 1), (450, .iadd, 1), (451, .iaload, 1), (452, .aload_n 0, 1), (453, .iload 4, 2)] : List (Nat × Instr × Nat)), decode cL_law q.1 = .ok q.2 := by decide +kernel
theorem dL_367 : decode cL_law 367 = .ok (.aload_n 1, 1) := DL_180 (367, .aload_n 1, 1) (List.mem_of_getElem? (i := 0) rfl)
theorem dL_368 : decode cL_law 368 = .ok (.aload_n 0, 1) := DL_180 (368, .aload_n 0, 1) (List.mem_of_getElem? (i := 1) rfl)
theorem dL_369 : decode cL_law 369 = .ok (.iload 4, 2) := DL_180 (369, .iload 4, 2) (List.mem_of_getElem? (i := 2) rfl)
theorem dL_371 : decode cL_law 371 = .ok (.iconst 1, 1) := DL_180 (371, .iconst 1, 1) (List.mem_of_getElem? (i := 3) rfl)
theorem dL_372 : decode cL_law 372 = .ok (.iadd, 1) := DL_180 (372, .iadd, 1) (List.mem_of_getElem? (i := 4) rfl)
theorem dL_373 : decode cL_law 373 = .ok (.iaload, 1) := DL_180 (373, .iaload, 1) (List.mem_of_getElem? (i := 5) rfl)
theorem dL_374 : decode cL_law 374 = .ok (.aload_n 0, 1) := DL_180 (374, .aload_n 0, 1) (List.mem_of_getElem? (i := 6) rfl)
theorem dL_375 : decode cL_law 375 = .ok (.iload 4, 2) := DL_180 (375, .iload 4, 2) (List.mem_of_getElem? (i := 7) rfl)
theorem dL_377 : decode cL_law 377 = .ok (.iconst 2, 1) := DL_180 (377, .iconst 2, 1) (List.mem_of_getElem? (i := 8) rfl)
theorem dL_378 : decode cL_law 378 = .ok (.iadd, 1) := DL_180 (378, .iadd, 1) (List.mem_of_getElem? (i := 9) rfl)
theorem dL_379 : decode cL_law 379 = .ok (.iaload, 1) := DL_180 (379, .iaload, 1) (List.mem_of_getElem? (i := 10) rfl)
theorem dL_380 : decode cL_law 380 = .ok (.ifCond .eq 7, 3) := DL_180 (380, .ifCond .eq 7, 3) (List.mem_of_getElem? (i := 11) rfl)
theorem dL_383 : decode cL_law 383 = .ok (.iconst 1, 1) := DL_180 (383, .iconst 1, 1) (List.mem_of_getElem? (i := 12) rfl)
theorem dL_384 : decode cL_law 384 = .ok (.goto 4, 3) := DL_180 (384, .goto 4, 3) (List.mem_of_getElem? (i := 13) rfl)
theorem dL_387 : decode cL_law 387 = .ok (.iconst 0, 1) := DL_180 (387, .iconst 0, 1) (List.mem_of_getElem? (i := 14) rfl)
theorem dL_388 : decode cL_law 388 = .ok (.invokevirtual 60, 3) := DL_180 (388, .invokevirtual 60, 3) (List.mem_of_getElem? (i := 15) rfl)
theorem dL_391 : decode cL_law 391 = .ok (.aload_n 2, 1) := DL_180 (391, .aload_n 2, 1) (List.mem_of_getElem? (i := 16) rfl)
theorem dL_392 : decode cL_law 392 = .ok (.aload_n 0, 1) := DL_180 (392, .aload_n 0, 1) (List.mem_of_getElem? (i := 17) rfl)
theorem dL_393 : decode cL_law 393 = .ok (.iload 4, 2) := DL_180 (393, .iload 4, 2) (List.mem_of_getElem? (i := 18) rfl)
theorem dL_395 : decode cL_law 395 = .ok (.iconst 1, 1) := DL_180 (395, .iconst 1, 1) (List.mem_of_getElem? (i := 19) rfl)
theorem dL_396 : decode cL_law 396 = .ok (.iadd, 1) := DL_180 (396, .iadd, 1) (List.mem_of_getElem? (i := 20) rfl)
theorem dL_397 : decode cL_law 397 = .ok (.iaload, 1) := DL_180 (397, .iaload, 1) (List.mem_of_getElem? (i := 21) rfl)
theorem dL_398 : decode cL_law 398 = .ok (.aload_n 0, 1) := DL_180 (398, .aload_n 0, 1) (List.mem_of_getElem? (i := 22) rfl)
theorem dL_399 : decode cL_law 399 = .ok (.iload 4, 2) := DL_180 (399, .iload 4, 2) (List.mem_of_getElem? (i := 23) rfl)
theorem dL_401 : decode cL_law 401 = .ok (.iconst 2, 1) := DL_180 (401, .iconst 2, 1) (List.mem_of_getElem? (i := 24) rfl)
theorem dL_402 : decode cL_law 402 = .ok (.iadd, 1) := DL_180 (402, .iadd, 1) (List.mem_of_getElem? (i := 25) rfl)
theorem dL_403 : decode cL_law 403 = .ok (.iaload, 1) := DL_180 (403, .iaload, 1) (List.mem_of_getElem? (i := 26) rfl)
theorem dL_404 : decode cL_law 404 = .ok (.ifCond .eq 7, 3) := DL_180 (404, .ifCond .eq 7, 3) (List.mem_of_getElem? (i := 27) rfl)
theorem dL_407 : decode cL_law 407 = .ok (.iconst 1, 1) := DL_180 (407, .iconst 1, 1) (List.mem_of_getElem? (i := 28) rfl)
theorem dL_408 : decode cL_law 408 = .ok (.goto 4, 3) := DL_180 (408, .goto 4, 3) (List.mem_of_getElem? (i := 29) rfl)
theorem dL_411 : decode cL_law 411 = .ok (.iconst 0, 1) := DL_180 (411, .iconst 0, 1) (List.mem_of_getElem? (i := 30) rfl)
theorem dL_412 : decode cL_law 412 = .ok (.invokevirtual 64, 3) := DL_180 (412, .invokevirtual 64, 3) (List.mem_of_getElem? (i := 31) rfl)
theorem dL_415 : decode cL_law 415 = .ok (.if_icmp .eq 687, 3) := DL_180 (415, .if_icmp .eq 687, 3) (List.mem_of_getElem? (i := 32) rfl)
theorem dL_418 : decode cL_law 418 = .ok (.iconst 0, 1) := DL_180 (418, .iconst 0, 1) (List.mem_of_getElem? (i := 33) rfl)
theorem dL_419 : decode cL_law 419 = .ok (.ireturn, 1) := DL_180 (419, .ireturn, 1) (List.mem_of_getElem? (i := 34) rfl)
theorem dL_420 : decode cL_law 420 = .ok (.aload_n 1, 1) := DL_180 (420, .aload_n 1, 1) (List.mem_of_getElem? (i := 35) rfl)
theorem dL_421 : decode cL_law 421 = .ok (.aload_n 0, 1) := DL_180 (421, .aload_n 0, 1) (List.mem_of_getElem? (i := 36) rfl)
theorem dL_422 : decode cL_law 422 = .ok (.iload 4, 2) := DL_180 (422, .iload 4, 2) (List.mem_of_getElem? (i := 37) rfl)
theorem dL_424 : decode cL_law 424 = .ok (.iconst 1, 1) := DL_180 (424, .iconst 1, 1) (List.mem_of_getElem? (i := 38) rfl)
theorem dL_425 : decode cL_law 425 = .ok (.iadd, 1) := DL_180 (425, .iadd, 1) (List.mem_of_getElem? (i := 39) rfl)
theorem dL_426 : decode cL_law 426 = .ok (.iaload, 1) := DL_180 (426, .iaload, 1) (List.mem_of_getElem? (i := 40) rfl)
theorem dL_427 : decode cL_law 427 = .ok (.invokevirtual 65, 3) := DL_180 (427, .invokevirtual 65, 3) (List.mem_of_getElem? (i := 41) rfl)
theorem dL_430 : decode cL_law 430 = .ok (.aload_n 2, 1) := DL_180 (430, .aload_n 2, 1) (List.mem_of_getElem? (i := 42) rfl)
theorem dL_431 : decode cL_law 431 = .ok (.aload_n 0, 1) := DL_180 (431, .aload_n 0, 1) (List.mem_of_getElem? (i := 43) rfl)
theorem dL_432 : decode cL_law 432 = .ok (.iload 4, 2) := DL_180 (432, .iload 4, 2) (List.mem_of_getElem? (i := 44) rfl)
theorem dL_434 : decode cL_law 434 = .ok (.iconst 1, 1) := DL_180 (434, .iconst 1, 1) (List.mem_of_getElem? (i := 45) rfl)
theorem dL_435 : decode cL_law 435 = .ok (.iadd, 1) := DL_180 (435, .iadd, 1) (List.mem_of_getElem? (i := 46) rfl)
theorem dL_436 : decode cL_law 436 = .ok (.iaload, 1) := DL_180 (436, .iaload, 1) (List.mem_of_getElem? (i := 47) rfl)
theorem dL_437 : decode cL_law 437 = .ok (.invokevirtual 68, 3) := DL_180 (437, .invokevirtual 68, 3) (List.mem_of_getElem? (i := 48) rfl)
theorem dL_440 : decode cL_law 440 = .ok (.if_icmp .eq 662, 3) := DL_180 (440, .if_icmp .eq 662, 3) (List.mem_of_getElem? (i := 49) rfl)
theorem dL_443 : decode cL_law 443 = .ok (.iconst 0, 1) := DL_180 (443, .iconst 0, 1) (List.mem_of_getElem? (i := 50) rfl)
theorem dL_444 : decode cL_law 444 = .ok (.ireturn, 1) := DL_180 (444, .ireturn, 1) (List.mem_of_getElem? (i := 51) rfl)
theorem dL_445 : decode cL_law 445 = .ok (.aload_n 1, 1) := DL_180 (445, .aload_n 1, 1) (List.mem_of_getElem? (i := 52) rfl)
theorem dL_446 : decode cL_law 446 = .ok (.aload_n 0, 1) := DL_180 (446, .aload_n 0, 1) (List.mem_of_getElem? (i := 53) rfl)
theorem dL_447 : decode cL_law 447 = .ok (.iload 4, 2) := DL_180 (447, .iload 4, 2) (List.mem_of_getElem? (i := 54) rfl)
theorem dL_449 : decode cL_law 449 = .ok (.iconst 1, 1) := DL_180 (449, .iconst 1, 1) (List.mem_of_getElem? (i := 55) rfl)
theorem dL_450 : decode cL_law 450 = .ok (.iadd, 1) := DL_180 (450, .iadd, 1) (List.mem_of_getElem? (i := 56) rfl)
theorem dL_451 : decode cL_law 451 = .ok (.iaload, 1) := DL_180 (451, .iaload, 1) (List.mem_of_getElem? (i := 57) rfl)
theorem dL_452 : decode cL_law 452 = .ok (.aload_n 0, 1) := DL_180 (452, .aload_n 0, 1) (List.mem_of_getElem? (i := 58) rfl)
theorem dL_453 : decode cL_law 453 = .ok (.iload 4, 2) := DL_180 (453, .iload 4, 2) (List.mem_of_getElem? (i := 59) rfl)
theorem DL_240 : ∀ q ∈ ([(455, .iconst 2, 1), (456, .iadd, 1), (457, .iaload, 1), (458, .aload_n 3, 1), (459, .invokestatic 69, 3), (462, .istore 5, 2), (464, .aload_n 2, 1), (465, .aload_n 0, 1), (466, .iload 4, 2), (468, .iconst 1, 1), (469, .iadd, 1), (470, .iaload, 1), (471, .aload_n 0, 1), (472, .iload 4, 2), (474, .iconst 2, 1), (475, .iadd, 1), (476, .iaload, 1), (477, .invokevirtual 72, 3), (480, .istore 6, 2), (482, .aload_n 2, 1), (483, .invokevirtual 73, 3), (486, .iload 5, 2), (488, .if_icmp .eq 5, 3), (491, .iconst 0, 1), (492, .ireturn, 1), (493, .iload 5, 2), (495, .ifCond .ne 15, 3), (498, .aload_n 3, 1), (499, .iconst 0, 1), (500, .laload, 1), (501, .iload 6, 2), (503, .i2l, 1), (504, .lcmp, 1), (505, .ifCond .eq 5, 3), (508, .iconst 0, 1), (509, .ireturn, 1), (510, .goto 592, 3), (513, .aload_n 1, 1), (514, .aload_n 0, 1), (515, .iload 4, 2), (517, .iconst 1, 1), (518, .iadd, 1), (519, .iaload, 1), (520, .invokevirtual 76, 3), (523, .aload_n 2, 1), (524, .aload_n 0, 1), (525, .iload 4, 2), (527, .iconst 1, 1), (528, .iadd, 1), (529, .iaload, 1), (530, .invokevirtual 79, 3), (533, .if_icmp .eq 569, 3), (536, .iconst 0, 1), (537, .ireturn, 1), (538, .aload_n 1, 1), (539, .aload_n 0, 1), (540, .iload 4, 2), (542, .iconst 1, 1), (543, .iadd, 1), (544, .iaload, 1)] : List (Nat × Instr × Nat)), decode cL_law q.1 = .ok q.2 := by decide +kernel
theorem dL_455 : decode cL_law 455 = .ok (.iconst 2, 1) := DL_240 (455, .iconst 2, 1) (List.mem_of_getElem? (i := 0) rfl)
theorem dL_456 : decode cL_law 456 = .ok (.iadd, 1) := DL_240 (456, .iadd, 1) (List.mem_of_getElem? (i := 1) rfl)
theorem dL_457 : decode cL_law 457 = .ok (.iaload, 1) := DL_240 (457, .iaload, 1) (List.mem_of_getElem? (i := 2) rfl)
theorem dL_458 : decode cL_law 458 = .ok (.aload_n 3, 1) := DL_240 (458, .aload_n 3, 1) (List.mem_of_getElem? (i := 3) rfl)
theorem dL_459 : decode cL_law 459 = .ok (.invokestatic 69, 3) := DL_240 (459, .invokestatic 69, 3) (List.mem_of_getElem? (i := 4) rfl)
theorem dL_462 : decode cL_law 462 = .ok (.istore 5, 2) := DL_240 (462, .istore 5, 2) (List.mem_of_getElem? (i := 5) rfl)
theorem dL_464 : decode cL_law 464 = .ok (.aload_n 2, 1) := DL_240 (464, .aload_n 2, 1) (List.mem_of_getElem? (i := 6) rfl)
theorem dL_465 : decode cL_law 465 = .ok (.aload_n 0, 1) := DL_240 (465, .aload_n 0, 1) (List.mem_of_getElem? (i := 7) rfl)
theorem dL_466 : decode cL_law 466 = .ok (.iload 4, 2) := DL_240 (466, .iload 4, 2) (List.mem_of_getElem? (i := 8) rfl)
theorem dL_468 : decode cL_law 468 = .ok (.iconst 1, 1) := DL_240 (468, .iconst 1, 1) (List.mem_of_getElem? (i := 9) rfl)
theorem dL_469 : decode cL_law 469 = .ok (.iadd, 1) := DL_240 (469, .iadd, 1) (List.mem_of_getElem? (i := 10) rfl)
theorem dL_470 : decode cL_law 470 = .ok (.iaload, 1) := DL_240 (470, .iaload, 1) (List.mem_of_getElem? (i := 11) rfl)
theorem dL_471 : decode cL_law 471 = .ok (.aload_n 0, 1) := DL_240 (471, .aload_n 0, 1) (List.mem_of_getElem? (i := 12) rfl)
theorem dL_472 : decode cL_law 472 = .ok (.iload 4, 2) := DL_240 (472, .iload 4, 2) (List.mem_of_getElem? (i := 13) rfl)
theorem dL_474 : decode cL_law 474 = .ok (.iconst 2, 1) := DL_240 (474, .iconst 2, 1) (List.mem_of_getElem? (i := 14) rfl)
theorem dL_475 : decode cL_law 475 = .ok (.iadd, 1) := DL_240 (475, .iadd, 1) (List.mem_of_getElem? (i := 15) rfl)
theorem dL_476 : decode cL_law 476 = .ok (.iaload, 1) := DL_240 (476, .iaload, 1) (List.mem_of_getElem? (i := 16) rfl)
theorem dL_477 : decode cL_law 477 = .ok (.invokevirtual 72, 3) := DL_240 (477, .invokevirtual 72, 3) (List.mem_of_getElem? (i := 17) rfl)
theorem dL_480 : decode cL_law 480 = .ok (.istore 6, 2) := DL_240 (480, .istore 6, 2) (List.mem_of_getElem? (i := 18) rfl)
theorem dL_482 : decode cL_law 482 = .ok (.aload_n 2, 1) := DL_240 (482, .aload_n 2, 1) (List.mem_of_getElem? (i := 19) rfl)
theorem dL_483 : decode cL_law 483 = .ok (.invokevirtual 73, 3) := DL_240 (483, .invokevirtual 73, 3) (List.mem_of_getElem? (i := 20) rfl)
theorem dL_486 : decode cL_law 486 = .ok (.iload 5, 2) := DL_240 (486, .iload 5, 2) (List.mem_of_getElem? (i := 21) rfl)
theorem dL_488 : decode cL_law 488 = .ok (.if_icmp .eq 5, 3) := DL_240 (488, .if_icmp .eq 5, 3) (List.mem_of_getElem? (i := 22) rfl)
theorem dL_491 : decode cL_law 491 = .ok (.iconst 0, 1) := DL_240 (491, .iconst 0, 1) (List.mem_of_getElem? (i := 23) rfl)
theorem dL_492 : decode cL_law 492 = .ok (.ireturn, 1) := DL_240 (492, .ireturn, 1) (List.mem_of_getElem? (i := 24) rfl)
theorem dL_493 : decode cL_law 493 = .ok (.iload 5, 2) := DL_240 (493, .iload 5, 2) (List.mem_of_getElem? (i := 25) rfl)
theorem dL_495 : decode cL_law 495 = .ok (.ifCond .ne 15, 3) := DL_240 (495, .ifCond .ne 15, 3) (List.mem_of_getElem? (i := 26) rfl)
theorem dL_498 : decode cL_law 498 = .ok (.aload_n 3, 1) := DL_240 (498, .aload_n 3, 1) (List.mem_of_getElem? (i := 27) rfl)
theorem dL_499 : decode cL_law 499 = .ok (.iconst 0, 1) := DL_240 (499, .iconst 0, 1) (List.mem_of_getElem? (i := 28) rfl)
theorem dL_500 : decode cL_law 500 = .ok (.laload, 1) := DL_240 (500, .laload, 1) (List.mem_of_getElem? (i := 29) rfl)
theorem dL_501 : decode cL_law 501 = .ok (.iload 6, 2) := DL_240 (501, .iload 6, 2) (List.mem_of_getElem? (i := 30) rfl)
theorem dL_503 : decode cL_law 503 = .ok (.i2l, 1) := DL_240 (503, .i2l, 1) (List.mem_of_getElem? (i := 31) rfl)
theorem dL_504 : decode cL_law 504 = .ok (.lcmp, 1) := DL_240 (504, .lcmp, 1) (List.mem_of_getElem? (i := 32) rfl)
theorem dL_505 : decode cL_law 505 = .ok (.ifCond .eq 5, 3) := DL_240 (505, .ifCond .eq 5, 3) (List.mem_of_getElem? (i := 33) rfl)
theorem dL_508 : decode cL_law 508 = .ok (.iconst 0, 1) := DL_240 (508, .iconst 0, 1) (List.mem_of_getElem? (i := 34) rfl)
theorem dL_509 : decode cL_law 509 = .ok (.ireturn, 1) := DL_240 (509, .ireturn, 1) (List.mem_of_getElem? (i := 35) rfl)
theorem dL_510 : decode cL_law 510 = .ok (.goto 592, 3) := DL_240 (510, .goto 592, 3) (List.mem_of_getElem? (i := 36) rfl)
theorem dL_513 : decode cL_law 513 = .ok (.aload_n 1, 1) := DL_240 (513, .aload_n 1, 1) (List.mem_of_getElem? (i := 37) rfl)
theorem dL_514 : decode cL_law 514 = .ok (.aload_n 0, 1) := DL_240 (514, .aload_n 0, 1) (List.mem_of_getElem? (i := 38) rfl)
theorem dL_515 : decode cL_law 515 = .ok (.iload 4, 2) := DL_240 (515, .iload 4, 2) (List.mem_of_getElem? (i := 39) rfl)
theorem dL_517 : decode cL_law 517 = .ok (.iconst 1, 1) := DL_240 (517, .iconst 1, 1) (List.mem_of_getElem? (i := 40) rfl)
theorem dL_518 : decode cL_law 518 = .ok (.iadd, 1) := DL_240 (518, .iadd, 1) (List.mem_of_getElem? (i := 41) rfl)
theorem dL_519 : decode cL_law 519 = .ok (.iaload, 1) := DL_240 (519, .iaload, 1) (List.mem_of_getElem? (i := 42) rfl)
theorem dL_520 : decode cL_law 520 = .ok (.invokevirtual 76, 3) := DL_240 (520, .invokevirtual 76, 3) (List.mem_of_getElem? (i := 43) rfl)
theorem dL_523 : decode cL_law 523 = .ok (.aload_n 2, 1) := DL_240 (523, .aload_n 2, 1) (List.mem_of_getElem? (i := 44) rfl)
theorem dL_524 : decode cL_law 524 = .ok (.aload_n 0, 1) := DL_240 (524, .aload_n 0, 1) (List.mem_of_getElem? (i := 45) rfl)
theorem dL_525 : decode cL_law 525 = .ok (.iload 4, 2) := DL_240 (525, .iload 4, 2) (List.mem_of_getElem? (i := 46) rfl)
theorem dL_527 : decode cL_law 527 = .ok (.iconst 1, 1) := DL_240 (527, .iconst 1, 1) (List.mem_of_getElem? (i := 47) rfl)
theorem dL_528 : decode cL_law 528 = .ok (.iadd, 1) := DL_240 (528, .iadd, 1) (List.mem_of_getElem? (i := 48) rfl)
theorem dL_529 : decode cL_law 529 = .ok (.iaload, 1) := DL_240 (529, .iaload, 1) (List.mem_of_getElem? (i := 49) rfl)
theorem dL_530 : decode cL_law 530 = .ok (.invokevirtual 79, 3) := DL_240 (530, .invokevirtual 79, 3) (List.mem_of_getElem? (i := 50) rfl)
theorem dL_533 : decode cL_law 533 = .ok (.if_icmp .eq 569, 3) := DL_240 (533, .if_icmp .eq 569, 3) (List.mem_of_getElem? (i := 51) rfl)
theorem dL_536 : decode cL_law 536 = .ok (.iconst 0, 1) := DL_240 (536, .iconst 0, 1) (List.mem_of_getElem? (i := 52) rfl)
theorem dL_537 : decode cL_law 537 = .ok (.ireturn, 1) := DL_240 (537, .ireturn, 1) (List.mem_of_getElem? (i := 53) rfl)
theorem dL_538 : decode cL_law 538 = .ok (.aload_n 1, 1) := DL_240 (538, .aload_n 1, 1) (List.mem_of_getElem? (i := 54) rfl)
theorem dL_539 : decode cL_law 539 = .ok (.aload_n 0, 1) := DL_240 (539, .aload_n 0, 1) (List.mem_of_getElem? (i := 55) rfl)
theorem dL_540 : decode cL_law 540 = .ok (.iload 4, 2) := DL_240 (540, .iload 4, 2) (List.mem_of_getElem? (i := 56) rfl)
theorem dL_542 : decode cL_law 542 = .ok (.iconst 1, 1) := DL_240 (542, .iconst 1, 1) (List.mem_of_getElem? (i := 57) rfl)
theorem dL_543 : decode cL_law 543 = .ok (.iadd, 1) := DL_240 (543, .iadd, 1) (List.mem_of_getElem? (i := 58) rfl)
theorem dL_544 : decode cL_law 544 = .ok (.iaload, 1) := DL_240 (544, .iaload, 1) (List.mem_of_getElem? (i := 59) rfl)
theorem DL_300 : ∀ q ∈ ([(545, .aload_n 0, 1), (546, .iload 4, 2), (548, .iconst 2, 1), (549, .iadd, 1), (550, .iaload, 1), (551, .invokevirtual 80, 3), (554, .aload_n 2, 1), (555, .aload_n 0, 1), (556, .iload 4, 2), (558, .iconst 1, 1), (559, .iadd, 1), (560, .iaload, 1), (561, .aload_n 0, 1), (562, .iload 4, 2), (564, .iconst 2, 1), (565, .iadd, 1), (566, .iaload, 1), (567, .invokevirtual 83, 3), (570, .if_icmp .eq 532, 3), (573, .iconst 0, 1), (574, .ireturn, 1), (575, .aload_n 1, 1), (576, .aload_n 0, 1), (577, .iload 4, 2), (579, .iconst 1, 1), (580, .iadd, 1), (581, .iaload, 1), (582, .aload_n 0, 1), (583, .iload 4, 2), (585, .iconst 2, 1), (586, .iadd, 1), (587, .iaload, 1), (588, .aload_n 0, 1), (589, .iload 4, 2), (591, .iconst 3, 1), (592, .iadd, 1), (593, .iaload, 1), (594, .aload_n 0, 1), (595, .iload 4, 2), (597, .iconst 4, 1), (598, .iadd, 1), (599, .iaload, 1), (600, .invokevirtual 84, 3), (603, .aload_n 2, 1), (604, .aload_n 0, 1), (605, .iload 4, 2), (607, .iconst 1, 1), (608, .iadd, 1), (609, .iaload, 1), (610, .aload_n 0, 1), (611, .iload 4, 2), (613, .iconst 2, 1), (614, .iadd, 1), (615, .iaload, 1), (616, .aload_n 0, 1), (617, .iload 4, 2), (619, .iconst 3, 1), (620, .iadd, 1), (621, .iaload, 1), (622, .aload_n 0, 1)] : List (Nat × Instr × Nat)), decode cL_law q.1 = .ok q.2 := by decide +kernel
theorem dL_545 : decode cL_law 545 = .ok (.aload_n 0, 1) := DL_300 (545, .aload_n 0, 1) (List.mem_of_getElem? (i := 0) rfl)
theorem dL_546 : decode cL_law 546 = .ok (.iload 4, 2) := DL_300 (546, .iload 4, 2) (List.mem_of_getElem? (i := 1) rfl)
theorem dL_548 : decode cL_law 548 = .ok (.iconst 2, 1) := DL_300 (548, .iconst 2, 1) (List.mem_of_getElem? (i := 2) rfl)
theorem dL_549 : decode cL_law 549 = .ok (.iadd, 1) := DL_300 (549, .iadd, 1) (List.mem_of_getElem? (i := 3) rfl)
theorem dL_550 : decode cL_law 550 = .ok (.iaload, 1) := DL_300 (550, .iaload, 1) (List.mem_of_getElem? (i := 4) rfl)
theorem dL_551 : decode cL_law 551 = .ok (.invokevirtual 80, 3) := DL_300 (551, .invokevirtual 80, 3) (List.mem_of_getElem? (i := 5) rfl)
theorem dL_554 : decode cL_law 554 = .ok (.aload_n 2, 1) := DL_300 (554, .aload_n 2, 1) (List.mem_of_getElem? (i := 6) rfl)
theorem dL_555 : decode cL_law 555 = .ok (.aload_n 0, 1) := DL_300 (555, .aload_n 0, 1) (List.mem_of_getElem? (i := 7) rfl)
theorem dL_556 : decode cL_law 556 = .ok (.iload 4, 2) := DL_300 (556, .iload 4, 2) (List.mem_of_getElem? (i := 8) rfl)
theorem dL_558 : decode cL_law 558 = .ok (.iconst 1, 1) := DL_300 (558, .iconst 1, 1) (List.mem_of_getElem? (i := 9) rfl)
theorem dL_559 : decode cL_law 559 = .ok (.iadd, 1) := DL_300 (559, .iadd, 1) (List.mem_of_getElem? (i := 10) rfl)
theorem dL_560 : decode cL_law 560 = .ok (.iaload, 1) := DL_300 (560, .iaload, 1) (List.mem_of_getElem? (i := 11) rfl)
theorem dL_561 : decode cL_law 561 = .ok (.aload_n 0, 1) := DL_300 (561, .aload_n 0, 1) (List.mem_of_getElem? (i := 12) rfl)
theorem dL_562 : decode cL_law 562 = .ok (.iload 4, 2) := DL_300 (562, .iload 4, 2) (List.mem_of_getElem? (i := 13) rfl)
theorem dL_564 : decode cL_law 564 = .ok (.iconst 2, 1) := DL_300 (564, .iconst 2, 1) (List.mem_of_getElem? (i := 14) rfl)
theorem dL_565 : decode cL_law 565 = .ok (.iadd, 1) := DL_300 (565, .iadd, 1) (List.mem_of_getElem? (i := 15) rfl)
theorem dL_566 : decode cL_law 566 = .ok (.iaload, 1) := DL_300 (566, .iaload, 1) (List.mem_of_getElem? (i := 16) rfl)
theorem dL_567 : decode cL_law 567 = .ok (.invokevirtual 83, 3) := DL_300 (567, .invokevirtual 83, 3) (List.mem_of_getElem? (i := 17) rfl)
theorem dL_570 : decode cL_law 570 = .ok (.if_icmp .eq 532, 3) := DL_300 (570, .if_icmp .eq 532, 3) (List.mem_of_getElem? (i := 18) rfl)
theorem dL_573 : decode cL_law 573 = .ok (.iconst 0, 1) := DL_300 (573, .iconst 0, 1) (List.mem_of_getElem? (i := 19) rfl)
theorem dL_574 : decode cL_law 574 = .ok (.ireturn, 1) := DL_300 (574, .ireturn, 1) (List.mem_of_getElem? (i := 20) rfl)
theorem dL_575 : decode cL_law 575 = .ok (.aload_n 1, 1) := DL_300 (575, .aload_n 1, 1) (List.mem_of_getElem? (i := 21) rfl)
theorem dL_576 : decode cL_law 576 = .ok (.aload_n 0, 1) := DL_300 (576, .aload_n 0, 1) (List.mem_of_getElem? (i := 22) rfl)
theorem dL_577 : decode cL_law 577 = .ok (.iload 4, 2) := DL_300 (577, .iload 4, 2) (List.mem_of_getElem? (i := 23) rfl)
theorem dL_579 : decode cL_law 579 = .ok (.iconst 1, 1) := DL_300 (579, .iconst 1, 1) (List.mem_of_getElem? (i := 24) rfl)
theorem dL_580 : decode cL_law 580 = .ok (.iadd, 1) := DL_300 (580, .iadd, 1) (List.mem_of_getElem? (i := 25) rfl)
theorem dL_581 : decode cL_law 581 = .ok (.iaload, 1) := DL_300 (581, .iaload, 1) (List.mem_of_getElem? (i := 26) rfl)
theorem dL_582 : decode cL_law 582 = .ok (.aload_n 0, 1) := DL_300 (582, .aload_n 0, 1) (List.mem_of_getElem? (i := 27) rfl)
theorem dL_583 : decode cL_law 583 = .ok (.iload 4, 2) := DL_300 (583, .iload 4, 2) (List.mem_of_getElem? (i := 28) rfl)
theorem dL_585 : decode cL_law 585 = .ok (.iconst 2, 1) := DL_300 (585, .iconst 2, 1) (List.mem_of_getElem? (i := 29) rfl)
theorem dL_586 : decode cL_law 586 = .ok (.iadd, 1) := DL_300 (586, .iadd, 1) (List.mem_of_getElem? (i := 30) rfl)
theorem dL_587 : decode cL_law 587 = .ok (.iaload, 1) := DL_300 (587, .iaload, 1) (List.mem_of_getElem? (i := 31) rfl)
theorem dL_588 : decode cL_law 588 = .ok (.aload_n 0, 1) := DL_300 (588, .aload_n 0, 1) (List.mem_of_getElem? (i := 32) rfl)
theorem dL_589 : decode cL_law 589 = .ok (.iload 4, 2) := DL_300 (589, .iload 4, 2) (List.mem_of_getElem? (i := 33) rfl)
theorem dL_591 : decode cL_law 591 = .ok (.iconst 3, 1) := DL_300 (591, .iconst 3, 1) (List.mem_of_getElem? (i := 34) rfl)
theorem dL_592 : decode cL_law 592 = .ok (.iadd, 1) := DL_300 (592, .iadd, 1) (List.mem_of_getElem? (i := 35) rfl)
theorem dL_593 : decode cL_law 593 = .ok (.iaload, 1) := DL_300 (593, .iaload, 1) (List.mem_of_getElem? (i := 36) rfl)
theorem dL_594 : decode cL_law 594 = .ok (.aload_n 0, 1) := DL_300 (594, .aload_n 0, 1) (List.mem_of_getElem? (i := 37) rfl)
theorem dL_595 : decode cL_law 595 = .ok (.iload 4, 2) := DL_300 (595, .iload 4, 2) (List.mem_of_getElem? (i := 38) rfl)
theorem dL_597 : decode cL_law 597 = .ok (.iconst 4, 1) := DL_300 (597, .iconst 4, 1) (List.mem_of_getElem? (i := 39) rfl)
theorem dL_598 : decode cL_law 598 = .ok (.iadd, 1) := DL_300 (598, .iadd, 1) (List.mem_of_getElem? (i := 40) rfl)
theorem dL_599 : decode cL_law 599 = .ok (.iaload, 1) := DL_300 (599, .iaload, 1) (List.mem_of_getElem? (i := 41) rfl)
theorem dL_600 : decode cL_law 600 = .ok (.invokevirtual 84, 3) := DL_300 (600, .invokevirtual 84, 3) (List.mem_of_getElem? (i := 42) rfl)
theorem dL_603 : decode cL_law 603 = .ok (.aload_n 2, 1) := DL_300 (603, .aload_n 2, 1) (List.mem_of_getElem? (i := 43) rfl)
theorem dL_604 : decode cL_law 604 = .ok (.aload_n 0, 1) := DL_300 (604, .aload_n 0, 1) (List.mem_of_getElem? (i := 44) rfl)
theorem dL_605 : decode cL_law 605 = .ok (.iload 4, 2) := DL_300 (605, .iload 4, 2) (List.mem_of_getElem? (i := 45) rfl)
theorem dL_607 : decode cL_law 607 = .ok (.iconst 1, 1) := DL_300 (607, .iconst 1, 1) (List.mem_of_getElem? (i := 46) rfl)
theorem dL_608 : decode cL_law 608 = .ok (.iadd, 1) := DL_300 (608, .iadd, 1) (List.mem_of_getElem? (i := 47) rfl)
theorem dL_609 : decode cL_law 609 = .ok (.iaload, 1) := DL_300 (609, .iaload, 1) (List.mem_of_getElem? (i := 48) rfl)
theorem dL_610 : decode cL_law 610 = .ok (.aload_n 0, 1) := DL_300 (610, .aload_n 0, 1) (List.mem_of_getElem? (i := 49) rfl)
theorem dL_611 : decode cL_law 611 = .ok (.iload 4, 2) := DL_300 (611, .iload 4, 2) (List.mem_of_getElem? (i := 50) rfl)
theorem dL_613 : decode cL_law 613 = .ok (.iconst 2, 1) := DL_300 (613, .iconst 2, 1) (List.mem_of_getElem? (i := 51) rfl)
theorem dL_614 : decode cL_law 614 = .ok (.iadd, 1) := DL_300 (614, .iadd, 1) (List.mem_of_getElem? (i := 52) rfl)
theorem dL_615 : decode cL_law 615 = .ok (.iaload, 1) := DL_300 (615, .iaload, 1) (List.mem_of_getElem? (i := 53) rfl)
theorem dL_616 : decode cL_law 616 = .ok (.aload_n 0, 1) := DL_300 (616, .aload_n 0, 1) (List.mem_of_getElem? (i := 54) rfl)
theorem dL_617 : decode cL_law 617 = .ok (.iload 4, 2) := DL_300 (617, .iload 4, 2) (List.mem_of_getElem? (i := 55) rfl)
theorem dL_619 : decode cL_law 619 = .ok (.iconst 3, 1) := DL_300 (619, .iconst 3, 1) (List.mem_of_getElem? (i := 56) rfl)
theorem dL_620 : decode cL_law 620 = .ok (.iadd, 1) := DL_300 (620, .iadd, 1) (List.mem_of_getElem? (i := 57) rfl)
theorem dL_621 : decode cL_law 621 = .ok (.iaload, 1) := DL_300 (621, .iaload, 1) (List.mem_of_getElem? (i := 58) rfl)
theorem dL_622 : decode cL_law 622 = .ok (.aload_n 0, 1) := DL_300 (622, .aload_n 0, 1) (List.mem_of_getElem? (i := 59) rfl)
theorem DL_360 : ∀ q ∈ ([(623, .iload 4, 2), (625, .iconst 4, 1), (626, .iadd, 1), (627, .iaload, 1), (628, .invokevirtual 88, 3), (631, .if_icmp .eq 471, 3), (634, .iconst 0, 1), (635, .ireturn, 1), (636, .aload_n 1, 1), (637, .aload_n 0, 1), (638, .iload 4, 2), (640, .iconst 1, 1), (641, .iadd, 1), (642, .iaload, 1), (643, .aload_n 0, 1), (644, .iload 4, 2), (646, .iconst 2, 1), (647, .iadd, 1), (648, .iaload, 1), (649, .aload_n 0, 1), (650, .iload 4, 2), (652, .iconst 3, 1), (653, .iadd, 1), (654, .iaload, 1), (655, .aload_n 0, 1), (656, .iload 4, 2), (658, .iconst 4, 1), (659, .iadd, 1), (660, .iaload, 1), (661, .aload_n 0, 1), (662, .iload 4, 2), (664, .iconst 5, 1), (665, .iadd, 1), (666, .iaload, 1), (667, .invokevirtual 89, 3), (670, .aload_n 2, 1), (671, .aload_n 0, 1), (672, .iload 4, 2), (674, .iconst 1, 1), (675, .iadd, 1), (676, .iaload, 1), (677, .aload_n 0, 1), (678, .iload 4, 2), (680, .iconst 2, 1), (681, .iadd, 1), (682, .iaload, 1), (683, .aload_n 0, 1), (684, .iload 4, 2), (686, .iconst 3, 1), (687, .iadd, 1), (688, .iaload, 1), (689, .aload_n 0, 1), (690, .iload 4, 2), (692, .iconst 4, 1), (693, .iadd, 1), (694, .iaload, 1), (695, .aload_n 0, 1), (696, .iload 4, 2), (698, .iconst 5, 1), (699, .iadd, 1)] : List (Nat × Instr × Nat)), decode cL_law q.1 = .ok q.2 := by decide +kernel
theorem dL_623 : decode cL_law 623 = .ok (.iload 4, 2) := DL_360 (623, .iload 4, 2) (List.mem_of_getElem? (i := 0) rfl)
theorem dL_625 : decode cL_law 625 = .ok (.iconst 4, 1) := DL_360 (625, .iconst 4, 1) (List.mem_of_getElem? (i := 1) rfl)
theorem dL_626 : decode cL_law 626 = .ok (.iadd, 1) := DL_360 (626, .iadd, 1) (List.mem_of_getElem? (i := 2) rfl)
theorem dL_627 : decode cL_law 627 = .ok (.iaload, 1) := DL_360 (627, .iaload, 1) (List.mem_of_getElem? (i := 3) rfl)
theorem dL_628 : decode cL_law 628 = .ok (.invokevirtual 88, 3) := DL_360 (628, .invokevirtual 88, 3) (List.mem_of_getElem? (i := 4) rfl)
theorem dL_631 : decode cL_law 631 = .ok (.if_icmp .eq 471, 3) := DL_360 (631, .if_icmp .eq 471, 3) (List.mem_of_getElem? (i := 5) rfl)
theorem dL_634 : decode cL_law 634 = .ok (.iconst 0, 1) := DL_360 (634, .iconst 0, 1) (List.mem_of_getElem? (i := 6) rfl)
theorem dL_635 : decode cL_law 635 = .ok (.ireturn, 1) := DL_360 (635, .ireturn, 1) (List.mem_of_getElem? (i := 7) rfl)
theorem dL_636 : decode cL_law 636 = .ok (.aload_n 1, 1) := DL_360 (636, .aload_n 1, 1) (List.mem_of_getElem? (i := 8) rfl)
theorem dL_637 : decode cL_law 637 = .ok (.aload_n 0, 1) := DL_360 (637, .aload_n 0, 1) (List.mem_of_getElem? (i := 9) rfl)
theorem dL_638 : decode cL_law 638 = .ok (.iload 4, 2) := DL_360 (638, .iload 4, 2) (List.mem_of_getElem? (i := 10) rfl)
theorem dL_640 : decode cL_law 640 = .ok (.iconst 1, 1) := DL_360 (640, .iconst 1, 1) (List.mem_of_getElem? (i := 11) rfl)
theorem dL_641 : decode cL_law 641 = .ok (.iadd, 1) := DL_360 (641, .iadd, 1) (List.mem_of_getElem? (i := 12) rfl)
theorem dL_642 : decode cL_law 642 = .ok (.iaload, 1) := DL_360 (642, .iaload, 1) (List.mem_of_getElem? (i := 13) rfl)
theorem dL_643 : decode cL_law 643 = .ok (.aload_n 0, 1) := DL_360 (643, .aload_n 0, 1) (List.mem_of_getElem? (i := 14) rfl)
theorem dL_644 : decode cL_law 644 = .ok (.iload 4, 2) := DL_360 (644, .iload 4, 2) (List.mem_of_getElem? (i := 15) rfl)
theorem dL_646 : decode cL_law 646 = .ok (.iconst 2, 1) := DL_360 (646, .iconst 2, 1) (List.mem_of_getElem? (i := 16) rfl)
theorem dL_647 : decode cL_law 647 = .ok (.iadd, 1) := DL_360 (647, .iadd, 1) (List.mem_of_getElem? (i := 17) rfl)
theorem dL_648 : decode cL_law 648 = .ok (.iaload, 1) := DL_360 (648, .iaload, 1) (List.mem_of_getElem? (i := 18) rfl)
theorem dL_649 : decode cL_law 649 = .ok (.aload_n 0, 1) := DL_360 (649, .aload_n 0, 1) (List.mem_of_getElem? (i := 19) rfl)
theorem dL_650 : decode cL_law 650 = .ok (.iload 4, 2) := DL_360 (650, .iload 4, 2) (List.mem_of_getElem? (i := 20) rfl)
theorem dL_652 : decode cL_law 652 = .ok (.iconst 3, 1) := DL_360 (652, .iconst 3, 1) (List.mem_of_getElem? (i := 21) rfl)
theorem dL_653 : decode cL_law 653 = .ok (.iadd, 1) := DL_360 (653, .iadd, 1) (List.mem_of_getElem? (i := 22) rfl)
theorem dL_654 : decode cL_law 654 = .ok (.iaload, 1) := DL_360 (654, .iaload, 1) (List.mem_of_getElem? (i := 23) rfl)
theorem dL_655 : decode cL_law 655 = .ok (.aload_n 0, 1) := DL_360 (655, .aload_n 0, 1) (List.mem_of_getElem? (i := 24) rfl)
theorem dL_656 : decode cL_law 656 = .ok (.iload 4, 2) := DL_360 (656, .iload 4, 2) (List.mem_of_getElem? (i := 25) rfl)
theorem dL_658 : decode cL_law 658 = .ok (.iconst 4, 1) := DL_360 (658, .iconst 4, 1) (List.mem_of_getElem? (i := 26) rfl)
theorem dL_659 : decode cL_law 659 = .ok (.iadd, 1) := DL_360 (659, .iadd, 1) (List.mem_of_getElem? (i := 27) rfl)
theorem dL_660 : decode cL_law 660 = .ok (.iaload, 1) := DL_360 (660, .iaload, 1) (List.mem_of_getElem? (i := 28) rfl)
theorem dL_661 : decode cL_law 661 = .ok (.aload_n 0, 1) := DL_360 (661, .aload_n 0, 1) (List.mem_of_getElem? (i := 29) rfl)
theorem dL_662 : decode cL_law 662 = .ok (.iload 4, 2) := DL_360 (662, .iload 4, 2) (List.mem_of_getElem? (i := 30) rfl)
theorem dL_664 : decode cL_law 664 = .ok (.iconst 5, 1) := DL_360 (664, .iconst 5, 1) (List.mem_of_getElem? (i := 31) rfl)
theorem dL_665 : decode cL_law 665 = .ok (.iadd, 1) := DL_360 (665, .iadd, 1) (List.mem_of_getElem? (i := 32) rfl)
theorem dL_666 : decode cL_law 666 = .ok (.iaload, 1) := DL_360 (666, .iaload, 1) (List.mem_of_getElem? (i := 33) rfl)
theorem dL_667 : decode cL_law 667 = .ok (.invokevirtual 89, 3) := DL_360 (667, .invokevirtual 89, 3) (List.mem_of_getElem? (i := 34) rfl)
theorem dL_670 : decode cL_law 670 = .ok (.aload_n 2, 1) := DL_360 (670, .aload_n 2, 1) (List.mem_of_getElem? (i := 35) rfl)
theorem dL_671 : decode cL_law 671 = .ok (.aload_n 0, 1) := DL_360 (671, .aload_n 0, 1) (List.mem_of_getElem? (i := 36) rfl)
theorem dL_672 : decode cL_law 672 = .ok (.iload 4, 2) := DL_360 (672, .iload 4, 2) (List.mem_of_getElem? (i := 37) rfl)
theorem dL_674 : decode cL_law 674 = .ok (.iconst 1, 1) := DL_360 (674, .iconst 1, 1) (List.mem_of_getElem? (i := 38) rfl)
theorem dL_675 : decode cL_law 675 = .ok (.iadd, 1) := DL_360 (675, .iadd, 1) (List.mem_of_getElem? (i := 39) rfl)
theorem dL_676 : decode cL_law 676 = .ok (.iaload, 1) := DL_360 (676, .iaload, 1) (List.mem_of_getElem? (i := 40) rfl)
theorem dL_677 : decode cL_law 677 = .ok (.aload_n 0, 1) := DL_360 (677, .aload_n 0, 1) (List.mem_of_getElem? (i := 41) rfl)
theorem dL_678 : decode cL_law 678 = .ok (.iload 4, 2) := DL_360 (678, .iload 4, 2) (List.mem_of_getElem? (i := 42) rfl)
theorem dL_680 : decode cL_law 680 = .ok (.iconst 2, 1) := DL_360 (680, .iconst 2, 1) (List.mem_of_getElem? (i := 43) rfl)
theorem dL_681 : decode cL_law 681 = .ok (.iadd, 1) := DL_360 (681, .iadd, 1) (List.mem_of_getElem? (i := 44) rfl)
theorem dL_682 : decode cL_law 682 = .ok (.iaload, 1) := DL_360 (682, .iaload, 1) (List.mem_of_getElem? (i := 45) rfl)
theorem dL_683 : decode cL_law 683 = .ok (.aload_n 0, 1) := DL_360 (683, .aload_n 0, 1) (List.mem_of_getElem? (i := 46) rfl)
theorem dL_684 : decode cL_law 684 = .ok (.iload 4, 2) := DL_360 (684, .iload 4, 2) (List.mem_of_getElem? (i := 47) rfl)
theorem dL_686 : decode cL_law 686 = .ok (.iconst 3, 1) := DL_360 (686, .iconst 3, 1) (List.mem_of_getElem? (i := 48) rfl)
theorem dL_687 : decode cL_law 687 = .ok (.iadd, 1) := DL_360 (687, .iadd, 1) (List.mem_of_getElem? (i := 49) rfl)
theorem dL_688 : decode cL_law 688 = .ok (.iaload, 1) := DL_360 (688, .iaload, 1) (List.mem_of_getElem? (i := 50) rfl)
theorem dL_689 : decode cL_law 689 = .ok (.aload_n 0, 1) := DL_360 (689, .aload_n 0, 1) (List.mem_of_getElem? (i := 51) rfl)
theorem dL_690 : decode cL_law 690 = .ok (.iload 4, 2) := DL_360 (690, .iload 4, 2) (List.mem_of_getElem? (i := 52) rfl)
theorem dL_692 : decode cL_law 692 = .ok (.iconst 4, 1) := DL_360 (692, .iconst 4, 1) (List.mem_of_getElem? (i := 53) rfl)
theorem dL_693 : decode cL_law 693 = .ok (.iadd, 1) := DL_360 (693, .iadd, 1) (List.mem_of_getElem? (i := 54) rfl)
theorem dL_694 : decode cL_law 694 = .ok (.iaload, 1) := DL_360 (694, .iaload, 1) (List.mem_of_getElem? (i := 55) rfl)
theorem dL_695 : decode cL_law 695 = .ok (.aload_n 0, 1) := DL_360 (695, .aload_n 0, 1) (List.mem_of_getElem? (i := 56) rfl)
theorem dL_696 : decode cL_law 696 = .ok (.iload 4, 2) := DL_360 (696, .iload 4, 2) (List.mem_of_getElem? (i := 57) rfl)
theorem dL_698 : decode cL_law 698 = .ok (.iconst 5, 1) := DL_360 (698, .iconst 5, 1) (List.mem_of_getElem? (i := 58) rfl)
theorem dL_699 : decode cL_law 699 = .ok (.iadd, 1) := DL_360 (699, .iadd, 1) (List.mem_of_getElem? (i := 59) rfl)
theorem DL_420 : ∀ q ∈ ([(700, .iaload, 1), (701, .invokevirtual 93, 3), (704, .if_icmp .eq 398, 3), (707, .iconst 0, 1), (708, .ireturn, 1), (709, .aload_n 1, 1), (710, .aload_n 0, 1), (711, .iload 4, 2), (713, .iconst 1, 1), (714, .iadd, 1), (715, .iaload, 1), (716, .aload_n 0, 1), (717, .iload 4, 2), (719, .iconst 2, 1), (720, .iadd, 1), (721, .iaload, 1), (722, .aload_n 0, 1), (723, .iload 4, 2), (725, .iconst 3, 1), (726, .iadd, 1), (727, .iaload, 1), (728, .aload_n 0, 1), (729, .iload 4, 2), (731, .iconst 4, 1), (732, .iadd, 1), (733, .iaload, 1), (734, .aload_n 0, 1), (735, .iload 4, 2), (737, .iconst 5, 1), (738, .iadd, 1), (739, .iaload, 1), (740, .invokevirtual 94, 3), (743, .aload_n 2, 1), (744, .aload_n 0, 1), (745, .iload 4, 2), (747, .iconst 1, 1), (748, .iadd, 1), (749, .iaload, 1), (750, .aload_n 0, 1), (751, .iload 4, 2), (753, .iconst 2, 1), (754, .iadd, 1), (755, .iaload, 1), (756, .aload_n 0, 1), (757, .iload 4, 2), (759, .iconst 3, 1), (760, .iadd, 1), (761, .iaload, 1), (762, .aload_n 0, 1), (763, .iload 4, 2), (765, .iconst 4, 1), (766, .iadd, 1), (767, .iaload, 1), (768, .aload_n 0, 1), (769, .iload 4, 2), (771, .iconst 5, 1), (772, .iadd, 1), (773, .iaload, 1), (774, .invokevirtual 97, 3), (777, .if_icmp .eq 325, 3)] : List (Nat × Instr × Nat)), decode cL_law q.1 = .ok q.2 := by decide +kernel
theorem dL_700 : decode cL_law 700 = .ok (.iaload, 1) := DL_420 (700, .iaload, 1) (List.mem_of_getElem? (i := 0) rfl)
theorem dL_701 : decode cL_law 701 = .ok (.invokevirtual 93, 3) := DL_420 (701, .invokevirtual 93, 3) (List.mem_of_getElem? (i := 1) rfl)
theorem dL_704 : decode cL_law 704 = .ok (.if_icmp .eq 398, 3) := DL_420 (704, .if_icmp .eq 398, 3) (List.mem_of_getElem? (i := 2) rfl)
theorem dL_707 : decode cL_law 707 = .ok (.iconst 0, 1) := DL_420 (707, .iconst 0, 1) (List.mem_of_getElem? (i := 3) rfl)
theorem dL_708 : decode cL_law 708 = .ok (.ireturn, 1) := DL_420 (708, .ireturn, 1) (List.mem_of_getElem? (i := 4) rfl)
theorem dL_709 : decode cL_law 709 = .ok (.aload_n 1, 1) := DL_420 (709, .aload_n 1, 1) (List.mem_of_getElem? (i := 5) rfl)
theorem dL_710 : decode cL_law 710 = .ok (.aload_n 0, 1) := DL_420 (710, .aload_n 0, 1) (List.mem_of_getElem? (i := 6) rfl)
theorem dL_711 : decode cL_law 711 = .ok (.iload 4, 2) := DL_420 (711, .iload 4, 2) (List.mem_of_getElem? (i := 7) rfl)
theorem dL_713 : decode cL_law 713 = .ok (.iconst 1, 1) := DL_420 (713, .iconst 1, 1) (List.mem_of_getElem? (i := 8) rfl)
theorem dL_714 : decode cL_law 714 = .ok (.iadd, 1) := DL_420 (714, .iadd, 1) (List.mem_of_getElem? (i := 9) rfl)
theorem dL_715 : decode cL_law 715 = .ok (.iaload, 1) := DL_420 (715, .iaload, 1) (List.mem_of_getElem? (i := 10) rfl)
theorem dL_716 : decode cL_law 716 = .ok (.aload_n 0, 1) := DL_420 (716, .aload_n 0, 1) (List.mem_of_getElem? (i := 11) rfl)
theorem dL_717 : decode cL_law 717 = .ok (.iload 4, 2) := DL_420 (717, .iload 4, 2) (List.mem_of_getElem? (i := 12) rfl)
theorem dL_719 : decode cL_law 719 = .ok (.iconst 2, 1) := DL_420 (719, .iconst 2, 1) (List.mem_of_getElem? (i := 13) rfl)
theorem dL_720 : decode cL_law 720 = .ok (.iadd, 1) := DL_420 (720, .iadd, 1) (List.mem_of_getElem? (i := 14) rfl)
theorem dL_721 : decode cL_law 721 = .ok (.iaload, 1) := DL_420 (721, .iaload, 1) (List.mem_of_getElem? (i := 15) rfl)
theorem dL_722 : decode cL_law 722 = .ok (.aload_n 0, 1) := DL_420 (722, .aload_n 0, 1) (List.mem_of_getElem? (i := 16) rfl)
theorem dL_723 : decode cL_law 723 = .ok (.iload 4, 2) := DL_420 (723, .iload 4, 2) (List.mem_of_getElem? (i := 17) rfl)
theorem dL_725 : decode cL_law 725 = .ok (.iconst 3, 1) := DL_420 (725, .iconst 3, 1) (List.mem_of_getElem? (i := 18) rfl)
theorem dL_726 : decode cL_law 726 = .ok (.iadd, 1) := DL_420 (726, .iadd, 1) (List.mem_of_getElem? (i := 19) rfl)
theorem dL_727 : decode cL_law 727 = .ok (.iaload, 1) := DL_420 (727, .iaload, 1) (List.mem_of_getElem? (i := 20) rfl)
theorem dL_728 : decode cL_law 728 = .ok (.aload_n 0, 1) := DL_420 (728, .aload_n 0, 1) (List.mem_of_getElem? (i := 21) rfl)
theorem dL_729 : decode cL_law 729 = .ok (.iload 4, 2) := DL_420 (729, .iload 4, 2) (List.mem_of_getElem? (i := 22) rfl)
theorem dL_731 : decode cL_law 731 = .ok (.iconst 4, 1) := DL_420 (731, .iconst 4, 1) (List.mem_of_getElem? (i := 23) rfl)
theorem dL_732 : decode cL_law 732 = .ok (.iadd, 1) := DL_420 (732, .iadd, 1) (List.mem_of_getElem? (i := 24) rfl)
theorem dL_733 : decode cL_law 733 = .ok (.iaload, 1) := DL_420 (733, .iaload, 1) (List.mem_of_getElem? (i := 25) rfl)
theorem dL_734 : decode cL_law 734 = .ok (.aload_n 0, 1) := DL_420 (734, .aload_n 0, 1) (List.mem_of_getElem? (i := 26) rfl)
theorem dL_735 : decode cL_law 735 = .ok (.iload 4, 2) := DL_420 (735, .iload 4, 2) (List.mem_of_getElem? (i := 27) rfl)
theorem dL_737 : decode cL_law 737 = .ok (.iconst 5, 1) := DL_420 (737, .iconst 5, 1) (List.mem_of_getElem? (i := 28) rfl)
theorem dL_738 : decode cL_law 738 = .ok (.iadd, 1) := DL_420 (738, .iadd, 1) (List.mem_of_getElem? (i := 29) rfl)
theorem dL_739 : decode cL_law 739 = .ok (.iaload, 1) := DL_420 (739, .iaload, 1) (List.mem_of_getElem? (i := 30) rfl)
theorem dL_740 : decode cL_law 740 = .ok (.invokevirtual 94, 3) := DL_420 (740, .invokevirtual 94, 3) (List.mem_of_getElem? (i := 31) rfl)
theorem dL_743 : decode cL_law 743 = .ok (.aload_n 2, 1) := DL_420 (743, .aload_n 2, 1) (List.mem_of_getElem? (i := 32) rfl)
theorem dL_744 : decode cL_law 744 = .ok (.aload_n 0, 1) := DL_420 (744, .aload_n 0, 1) (List.mem_of_getElem? (i := 33) rfl)
theorem dL_745 : decode cL_law 745 = .ok (.iload 4, 2) := DL_420 (745, .iload 4, 2) (List.mem_of_getElem? (i := 34) rfl)
theorem dL_747 : decode cL_law 747 = .ok (.iconst 1, 1) := DL_420 (747, .iconst 1, 1) (List.mem_of_getElem? (i := 35) rfl)
theorem dL_748 : decode cL_law 748 = .ok (.iadd, 1) := DL_420 (748, .iadd, 1) (List.mem_of_getElem? (i := 36) rfl)
theorem dL_749 : decode cL_law 749 = .ok (.iaload, 1) := DL_420 (749, .iaload, 1) (List.mem_of_getElem? (i := 37) rfl)
theorem dL_750 : decode cL_law 750 = .ok (.aload_n 0, 1) := DL_420 (750, .aload_n 0, 1) (List.mem_of_getElem? (i := 38) rfl)
theorem dL_751 : decode cL_law 751 = .ok (.iload 4, 2) := DL_420 (751, .iload 4, 2) (List.mem_of_getElem? (i := 39) rfl)
theorem dL_753 : decode cL_law 753 = .ok (.iconst 2, 1) := DL_420 (753, .iconst 2, 1) (List.mem_of_getElem? (i := 40) rfl)
theorem dL_754 : decode cL_law 754 = .ok (.iadd, 1) := DL_420 (754, .iadd, 1) (List.mem_of_getElem? (i := 41) rfl)
theorem dL_755 : decode cL_law 755 = .ok (.iaload, 1) := DL_420 (755, .iaload, 1) (List.mem_of_getElem? (i := 42) rfl)
theorem dL_756 : decode cL_law 756 = .ok (.aload_n 0, 1) := DL_420 (756, .aload_n 0, 1) (List.mem_of_getElem? (i := 43) rfl)
theorem dL_757 : decode cL_law 757 = .ok (.iload 4, 2) := DL_420 (757, .iload 4, 2) (List.mem_of_getElem? (i := 44) rfl)
theorem dL_759 : decode cL_law 759 = .ok (.iconst 3, 1) := DL_420 (759, .iconst 3, 1) (List.mem_of_getElem? (i := 45) rfl)
theorem dL_760 : decode cL_law 760 = .ok (.iadd, 1) := DL_420 (760, .iadd, 1) (List.mem_of_getElem? (i := 46) rfl)
theorem dL_761 : decode cL_law 761 = .ok (.iaload, 1) := DL_420 (761, .iaload, 1) (List.mem_of_getElem? (i := 47) rfl)
theorem dL_762 : decode cL_law 762 = .ok (.aload_n 0, 1) := DL_420 (762, .aload_n 0, 1) (List.mem_of_getElem? (i := 48) rfl)
theorem dL_763 : decode cL_law 763 = .ok (.iload 4, 2) := DL_420 (763, .iload 4, 2) (List.mem_of_getElem? (i := 49) rfl)
theorem dL_765 : decode cL_law 765 = .ok (.iconst 4, 1) := DL_420 (765, .iconst 4, 1) (List.mem_of_getElem? (i := 50) rfl)
theorem dL_766 : decode cL_law 766 = .ok (.iadd, 1) := DL_420 (766, .iadd, 1) (List.mem_of_getElem? (i := 51) rfl)
theorem dL_767 : decode cL_law 767 = .ok (.iaload, 1) := DL_420 (767, .iaload, 1) (List.mem_of_getElem? (i := 52) rfl)
theorem dL_768 : decode cL_law 768 = .ok (.aload_n 0, 1) := DL_420 (768, .aload_n 0, 1) (List.mem_of_getElem? (i := 53) rfl)
theorem dL_769 : decode cL_law 769 = .ok (.iload 4, 2) := DL_420 (769, .iload 4, 2) (List.mem_of_getElem? (i := 54) rfl)
theorem dL_771 : decode cL_law 771 = .ok (.iconst 5, 1) := DL_420 (771, .iconst 5, 1) (List.mem_of_getElem? (i := 55) rfl)
theorem dL_772 : decode cL_law 772 = .ok (.iadd, 1) := DL_420 (772, .iadd, 1) (List.mem_of_getElem? (i := 56) rfl)
theorem dL_773 : decode cL_law 773 = .ok (.iaload, 1) := DL_420 (773, .iaload, 1) (List.mem_of_getElem? (i := 57) rfl)
theorem dL_774 : decode cL_law 774 = .ok (.invokevirtual 97, 3) := DL_420 (774, .invokevirtual 97, 3) (List.mem_of_getElem? (i := 58) rfl)
theorem dL_777 : decode cL_law 777 = .ok (.if_icmp .eq 325, 3) := DL_420 (777, .if_icmp .eq 325, 3) (List.mem_of_getElem? (i := 59) rfl)
theorem DL_480 : ∀ q ∈ ([(780, .iconst 0, 1), (781, .ireturn, 1), (782, .aload_n 1, 1), (783, .aload_n 0, 1), (784, .iload 4, 2), (786, .iconst 1, 1), (787, .iadd, 1), (788, .iaload, 1), (789, .invokevirtual 98, 3), (792, .aload_n 2, 1), (793, .aload_n 0, 1), (794, .iload 4, 2), (796, .iconst 1, 1), (797, .iadd, 1), (798, .iaload, 1), (799, .invokevirtual 101, 3), (802, .if_icmp .eq 300, 3), (805, .iconst 0, 1), (806, .ireturn, 1), (807, .aload_n 1, 1), (808, .aload_n 0, 1), (809, .iload 4, 2), (811, .iconst 1, 1), (812, .iadd, 1), (813, .iaload, 1), (814, .aload_n 0, 1), (815, .iload 4, 2), (817, .iconst 2, 1), (818, .iadd, 1), (819, .iaload, 1), (820, .invokevirtual 102, 3), (823, .aload_n 2, 1), (824, .aload_n 0, 1), (825, .iload 4, 2), (827, .iconst 1, 1), (828, .iadd, 1), (829, .iaload, 1), (830, .aload_n 0, 1), (831, .iload 4, 2), (833, .iconst 2, 1), (834, .iadd, 1), (835, .iaload, 1), (836, .invokevirtual 104, 3), (839, .if_icmp .eq 263, 3), (842, .iconst 0, 1), (843, .ireturn, 1), (844, .aload_n 1, 1), (845, .aload_n 0, 1), (846, .iload 4, 2), (848, .iconst 1, 1), (849, .iadd, 1), (850, .iaload, 1), (851, .invokevirtual 105, 3), (854, .aload_n 2, 1), (855, .aload_n 0, 1), (856, .iload 4, 2), (858, .iconst 1, 1), (859, .iadd, 1), (860, .iaload, 1), (861, .invokevirtual 108, 3)] : List (Nat × Instr × Nat)), decode cL_law q.1 = .ok q.2 := by decide +kernel
theorem dL_780 : decode cL_law 780 = .ok (.iconst 0, 1) := DL_480 (780, .iconst 0, 1) (List.mem_of_getElem? (i := 0) rfl)
theorem dL_781 : decode cL_law 781 = .ok (.ireturn, 1) := DL_480 (781, .ireturn, 1) (List.mem_of_getElem? (i := 1) rfl)
theorem dL_782 : decode cL_law 782 = .ok (.aload_n 1, 1) := DL_480 (782, .aload_n 1, 1) (List.mem_of_getElem? (i := 2) rfl)
theorem dL_783 : decode cL_law 783 = .ok (.aload_n 0, 1) := DL_480 (783, .aload_n 0, 1) (List.mem_of_getElem? (i := 3) rfl)
theorem dL_784 : decode cL_law 784 = .ok (.iload 4, 2) := DL_480 (784, .iload 4, 2) (List.mem_of_getElem? (i := 4) rfl)
theorem dL_786 : decode cL_law 786 = .ok (.iconst 1, 1) := DL_480 (786, .iconst 1, 1) (List.mem_of_getElem? (i := 5) rfl)
theorem dL_787 : decode cL_law 787 = .ok (.iadd, 1) := DL_480 (787, .iadd, 1) (List.mem_of_getElem? (i := 6) rfl)
theorem dL_788 : decode cL_law 788 = .ok (.iaload, 1) := DL_480 (788, .iaload, 1) (List.mem_of_getElem? (i := 7) rfl)
theorem dL_789 : decode cL_law 789 = .ok (.invokevirtual 98, 3) := DL_480 (789, .invokevirtual 98, 3) (List.mem_of_getElem? (i := 8) rfl)
theorem dL_792 : decode cL_law 792 = .ok (.aload_n 2, 1) := DL_480 (792, .aload_n 2, 1) (List.mem_of_getElem? (i := 9) rfl)
theorem dL_793 : decode cL_law 793 = .ok (.aload_n 0, 1) := DL_480 (793, .aload_n 0, 1) (List.mem_of_getElem? (i := 10) rfl)
theorem dL_794 : decode cL_law 794 = .ok (.iload 4, 2) := DL_480 (794, .iload 4, 2) (List.mem_of_getElem? (i := 11) rfl)
theorem dL_796 : decode cL_law 796 = .ok (.iconst 1, 1) := DL_480 (796, .iconst 1, 1) (List.mem_of_getElem? (i := 12) rfl)
theorem dL_797 : decode cL_law 797 = .ok (.iadd, 1) := DL_480 (797, .iadd, 1) (List.mem_of_getElem? (i := 13) rfl)
theorem dL_798 : decode cL_law 798 = .ok (.iaload, 1) := DL_480 (798, .iaload, 1) (List.mem_of_getElem? (i := 14) rfl)
theorem dL_799 : decode cL_law 799 = .ok (.invokevirtual 101, 3) := DL_480 (799, .invokevirtual 101, 3) (List.mem_of_getElem? (i := 15) rfl)
theorem dL_802 : decode cL_law 802 = .ok (.if_icmp .eq 300, 3) := DL_480 (802, .if_icmp .eq 300, 3) (List.mem_of_getElem? (i := 16) rfl)
theorem dL_805 : decode cL_law 805 = .ok (.iconst 0, 1) := DL_480 (805, .iconst 0, 1) (List.mem_of_getElem? (i := 17) rfl)
theorem dL_806 : decode cL_law 806 = .ok (.ireturn, 1) := DL_480 (806, .ireturn, 1) (List.mem_of_getElem? (i := 18) rfl)
theorem dL_807 : decode cL_law 807 = .ok (.aload_n 1, 1) := DL_480 (807, .aload_n 1, 1) (List.mem_of_getElem? (i := 19) rfl)
theorem dL_808 : decode cL_law 808 = .ok (.aload_n 0, 1) := DL_480 (808, .aload_n 0, 1) (List.mem_of_getElem? (i := 20) rfl)
theorem dL_809 : decode cL_law 809 = .ok (.iload 4, 2) := DL_480 (809, .iload 4, 2) (List.mem_of_getElem? (i := 21) rfl)
theorem dL_811 : decode cL_law 811 = .ok (.iconst 1, 1) := DL_480 (811, .iconst 1, 1) (List.mem_of_getElem? (i := 22) rfl)
theorem dL_812 : decode cL_law 812 = .ok (.iadd, 1) := DL_480 (812, .iadd, 1) (List.mem_of_getElem? (i := 23) rfl)
theorem dL_813 : decode cL_law 813 = .ok (.iaload, 1) := DL_480 (813, .iaload, 1) (List.mem_of_getElem? (i := 24) rfl)
theorem dL_814 : decode cL_law 814 = .ok (.aload_n 0, 1) := DL_480 (814, .aload_n 0, 1) (List.mem_of_getElem? (i := 25) rfl)
theorem dL_815 : decode cL_law 815 = .ok (.iload 4, 2) := DL_480 (815, .iload 4, 2) (List.mem_of_getElem? (i := 26) rfl)
theorem dL_817 : decode cL_law 817 = .ok (.iconst 2, 1) := DL_480 (817, .iconst 2, 1) (List.mem_of_getElem? (i := 27) rfl)
theorem dL_818 : decode cL_law 818 = .ok (.iadd, 1) := DL_480 (818, .iadd, 1) (List.mem_of_getElem? (i := 28) rfl)
theorem dL_819 : decode cL_law 819 = .ok (.iaload, 1) := DL_480 (819, .iaload, 1) (List.mem_of_getElem? (i := 29) rfl)
theorem dL_820 : decode cL_law 820 = .ok (.invokevirtual 102, 3) := DL_480 (820, .invokevirtual 102, 3) (List.mem_of_getElem? (i := 30) rfl)
theorem dL_823 : decode cL_law 823 = .ok (.aload_n 2, 1) := DL_480 (823, .aload_n 2, 1) (List.mem_of_getElem? (i := 31) rfl)
theorem dL_824 : decode cL_law 824 = .ok (.aload_n 0, 1) := DL_480 (824, .aload_n 0, 1) (List.mem_of_getElem? (i := 32) rfl)
theorem dL_825 : decode cL_law 825 = .ok (.iload 4, 2) := DL_480 (825, .iload 4, 2) (List.mem_of_getElem? (i := 33) rfl)
theorem dL_827 : decode cL_law 827 = .ok (.iconst 1, 1) := DL_480 (827, .iconst 1, 1) (List.mem_of_getElem? (i := 34) rfl)
theorem dL_828 : decode cL_law 828 = .ok (.iadd, 1) := DL_480 (828, .iadd, 1) (List.mem_of_getElem? (i := 35) rfl)
theorem dL_829 : decode cL_law 829 = .ok (.iaload, 1) := DL_480 (829, .iaload, 1) (List.mem_of_getElem? (i := 36) rfl)
theorem dL_830 : decode cL_law 830 = .ok (.aload_n 0, 1) := DL_480 (830, .aload_n 0, 1) (List.mem_of_getElem? (i := 37) rfl)
theorem dL_831 : decode cL_law 831 = .ok (.iload 4, 2) := DL_480 (831, .iload 4, 2) (List.mem_of_getElem? (i := 38) rfl)
theorem dL_833 : decode cL_law 833 = .ok (.iconst 2, 1) := DL_480 (833, .iconst 2, 1) (List.mem_of_getElem? (i := 39) rfl)
theorem dL_834 : decode cL_law 834 = .ok (.iadd, 1) := DL_480 (834, .iadd, 1) (List.mem_of_getElem? (i := 40) rfl)
theorem dL_835 : decode cL_law 835 = .ok (.iaload, 1) := DL_480 (835, .iaload, 1) (List.mem_of_getElem? (i := 41) rfl)
theorem dL_836 : decode cL_law 836 = .ok (.invokevirtual 104, 3) := DL_480 (836, .invokevirtual 104, 3) (List.mem_of_getElem? (i := 42) rfl)
theorem dL_839 : decode cL_law 839 = .ok (.if_icmp .eq 263, 3) := DL_480 (839, .if_icmp .eq 263, 3) (List.mem_of_getElem? (i := 43) rfl)
theorem dL_842 : decode cL_law 842 = .ok (.iconst 0, 1) := DL_480 (842, .iconst 0, 1) (List.mem_of_getElem? (i := 44) rfl)
theorem dL_843 : decode cL_law 843 = .ok (.ireturn, 1) := DL_480 (843, .ireturn, 1) (List.mem_of_getElem? (i := 45) rfl)
theorem dL_844 : decode cL_law 844 = .ok (.aload_n 1, 1) := DL_480 (844, .aload_n 1, 1) (List.mem_of_getElem? (i := 46) rfl)
theorem dL_845 : decode cL_law 845 = .ok (.aload_n 0, 1) := DL_480 (845, .aload_n 0, 1) (List.mem_of_getElem? (i := 47) rfl)
theorem dL_846 : decode cL_law 846 = .ok (.iload 4, 2) := DL_480 (846, .iload 4, 2) (List.mem_of_getElem? (i := 48) rfl)
theorem dL_848 : decode cL_law 848 = .ok (.iconst 1, 1) := DL_480 (848, .iconst 1, 1) (List.mem_of_getElem? (i := 49) rfl)
theorem dL_849 : decode cL_law 849 = .ok (.iadd, 1) := DL_480 (849, .iadd, 1) (List.mem_of_getElem? (i := 50) rfl)
theorem dL_850 : decode cL_law 850 = .ok (.iaload, 1) := DL_480 (850, .iaload, 1) (List.mem_of_getElem? (i := 51) rfl)
theorem dL_851 : decode cL_law 851 = .ok (.invokevirtual 105, 3) := DL_480 (851, .invokevirtual 105, 3) (List.mem_of_getElem? (i := 52) rfl)
theorem dL_854 : decode cL_law 854 = .ok (.aload_n 2, 1) := DL_480 (854, .aload_n 2, 1) (List.mem_of_getElem? (i := 53) rfl)
theorem dL_855 : decode cL_law 855 = .ok (.aload_n 0, 1) := DL_480 (855, .aload_n 0, 1) (List.mem_of_getElem? (i := 54) rfl)
theorem dL_856 : decode cL_law 856 = .ok (.iload 4, 2) := DL_480 (856, .iload 4, 2) (List.mem_of_getElem? (i := 55) rfl)
theorem dL_858 : decode cL_law 858 = .ok (.iconst 1, 1) := DL_480 (858, .iconst 1, 1) (List.mem_of_getElem? (i := 56) rfl)
theorem dL_859 : decode cL_law 859 = .ok (.iadd, 1) := DL_480 (859, .iadd, 1) (List.mem_of_getElem? (i := 57) rfl)
theorem dL_860 : decode cL_law 860 = .ok (.iaload, 1) := DL_480 (860, .iaload, 1) (List.mem_of_getElem? (i := 58) rfl)
theorem dL_861 : decode cL_law 861 = .ok (.invokevirtual 108, 3) := DL_480 (861, .invokevirtual 108, 3) (List.mem_of_getElem? (i := 59) rfl)
theorem DL_540 : ∀ q ∈ ([(864, .if_icmp .eq 238, 3), (867, .iconst 0, 1), (868, .ireturn, 1), (869, .aload_n 1, 1), (870, .aload_n 0, 1), (871, .iload 4, 2), (873, .iconst 1, 1), (874, .iadd, 1), (875, .iaload, 1), (876, .aload_n 0, 1), (877, .iload 4, 2), (879, .iconst 2, 1), (880, .iadd, 1), (881, .iaload, 1), (882, .aload_n 0, 1), (883, .iload 4, 2), (885, .iconst 3, 1), (886, .iadd, 1), (887, .iaload, 1), (888, .invokevirtual 109, 3), (891, .aload_n 2, 1), (892, .aload_n 0, 1), (893, .iload 4, 2), (895, .iconst 1, 1), (896, .iadd, 1), (897, .iaload, 1), (898, .aload_n 0, 1), (899, .iload 4, 2), (901, .iconst 2, 1), (902, .iadd, 1), (903, .iaload, 1), (904, .aload_n 0, 1), (905, .iload 4, 2), (907, .iconst 3, 1), (908, .iadd, 1), (909, .iaload, 1), (910, .invokevirtual 112, 3), (913, .if_icmp .eq 189, 3), (916, .iconst 0, 1), (917, .ireturn, 1), (918, .aload_n 1, 1), (919, .aload_n 0, 1), (920, .iload 4, 2), (922, .iconst 1, 1), (923, .iadd, 1), (924, .iaload, 1), (925, .aload_n 0, 1), (926, .iload 4, 2), (928, .iconst 2, 1), (929, .iadd, 1), (930, .iaload, 1), (931, .aload_n 0, 1), (932, .iload 4, 2), (934, .iconst 3, 1), (935, .iadd, 1), (936, .iaload, 1), (937, .invokevirtual 113, 3), (940, .aload_n 2, 1), (941, .aload_n 0, 1), (942, .iload 4, 2)] : List (Nat × Instr × Nat)), decode cL_law q.1 = .ok q.2 := by decide +kernel
theorem dL_864 : decode cL_law 864 = .ok (.if_icmp .eq 238, 3) := DL_540 (864, .if_icmp .eq 238, 3) (List.mem_of_getElem? (i := 0) rfl)
theorem dL_867 : decode cL_law 867 = .ok (.iconst 0, 1) := DL_540 (867, .iconst 0, 1) (List.mem_of_getElem? (i := 1) rfl)
theorem dL_868 : decode cL_law 868 = .ok (.ireturn, 1) := DL_540 (868, .ireturn, 1) (List.mem_of_getElem? (i := 2) rfl)
theorem dL_869 : decode cL_law 869 = .ok (.aload_n 1, 1) := DL_540 (869, .aload_n 1, 1) (List.mem_of_getElem? (i := 3) rfl)
theorem dL_870 : decode cL_law 870 = .ok (.aload_n 0, 1) := DL_540 (870, .aload_n 0, 1) (List.mem_of_getElem? (i := 4) rfl)
theorem dL_871 : decode cL_law 871 = .ok (.iload 4, 2) := DL_540 (871, .iload 4, 2) (List.mem_of_getElem? (i := 5) rfl)
theorem dL_873 : decode cL_law 873 = .ok (.iconst 1, 1) := DL_540 (873, .iconst 1, 1) (List.mem_of_getElem? (i := 6) rfl)
theorem dL_874 : decode cL_law 874 = .ok (.iadd, 1) := DL_540 (874, .iadd, 1) (List.mem_of_getElem? (i := 7) rfl)
theorem dL_875 : decode cL_law 875 = .ok (.iaload, 1) := DL_540 (875, .iaload, 1) (List.mem_of_getElem? (i := 8) rfl)
theorem dL_876 : decode cL_law 876 = .ok (.aload_n 0, 1) := DL_540 (876, .aload_n 0, 1) (List.mem_of_getElem? (i := 9) rfl)
theorem dL_877 : decode cL_law 877 = .ok (.iload 4, 2) := DL_540 (877, .iload 4, 2) (List.mem_of_getElem? (i := 10) rfl)
theorem dL_879 : decode cL_law 879 = .ok (.iconst 2, 1) := DL_540 (879, .iconst 2, 1) (List.mem_of_getElem? (i := 11) rfl)
theorem dL_880 : decode cL_law 880 = .ok (.iadd, 1) := DL_540 (880, .iadd, 1) (List.mem_of_getElem? (i := 12) rfl)
theorem dL_881 : decode cL_law 881 = .ok (.iaload, 1) := DL_540 (881, .iaload, 1) (List.mem_of_getElem? (i := 13) rfl)
theorem dL_882 : decode cL_law 882 = .ok (.aload_n 0, 1) := DL_540 (882, .aload_n 0, 1) (List.mem_of_getElem? (i := 14) rfl)
theorem dL_883 : decode cL_law 883 = .ok (.iload 4, 2) := DL_540 (883, .iload 4, 2) (List.mem_of_getElem? (i := 15) rfl)
theorem dL_885 : decode cL_law 885 = .ok (.iconst 3, 1) := DL_540 (885, .iconst 3, 1) (List.mem_of_getElem? (i := 16) rfl)
theorem dL_886 : decode cL_law 886 = .ok (.iadd, 1) := DL_540 (886, .iadd, 1) (List.mem_of_getElem? (i := 17) rfl)
theorem dL_887 : decode cL_law 887 = .ok (.iaload, 1) := DL_540 (887, .iaload, 1) (List.mem_of_getElem? (i := 18) rfl)
theorem dL_888 : decode cL_law 888 = .ok (.invokevirtual 109, 3) := DL_540 (888, .invokevirtual 109, 3) (List.mem_of_getElem? (i := 19) rfl)
theorem dL_891 : decode cL_law 891 = .ok (.aload_n 2, 1) := DL_540 (891, .aload_n 2, 1) (List.mem_of_getElem? (i := 20) rfl)
theorem dL_892 : decode cL_law 892 = .ok (.aload_n 0, 1) := DL_540 (892, .aload_n 0, 1) (List.mem_of_getElem? (i := 21) rfl)
theorem dL_893 : decode cL_law 893 = .ok (.iload 4, 2) := DL_540 (893, .iload 4, 2) (List.mem_of_getElem? (i := 22) rfl)
theorem dL_895 : decode cL_law 895 = .ok (.iconst 1, 1) := DL_540 (895, .iconst 1, 1) (List.mem_of_getElem? (i := 23) rfl)
theorem dL_896 : decode cL_law 896 = .ok (.iadd, 1) := DL_540 (896, .iadd, 1) (List.mem_of_getElem? (i := 24) rfl)
theorem dL_897 : decode cL_law 897 = .ok (.iaload, 1) := DL_540 (897, .iaload, 1) (List.mem_of_getElem? (i := 25) rfl)
theorem dL_898 : decode cL_law 898 = .ok (.aload_n 0, 1) := DL_540 (898, .aload_n 0, 1) (List.mem_of_getElem? (i := 26) rfl)
theorem dL_899 : decode cL_law 899 = .ok (.iload 4, 2) := DL_540 (899, .iload 4, 2) (List.mem_of_getElem? (i := 27) rfl)
theorem dL_901 : decode cL_law 901 = .ok (.iconst 2, 1) := DL_540 (901, .iconst 2, 1) (List.mem_of_getElem? (i := 28) rfl)
theorem dL_902 : decode cL_law 902 = .ok (.iadd, 1) := DL_540 (902, .iadd, 1) (List.mem_of_getElem? (i := 29) rfl)
theorem dL_903 : decode cL_law 903 = .ok (.iaload, 1) := DL_540 (903, .iaload, 1) (List.mem_of_getElem? (i := 30) rfl)
theorem dL_904 : decode cL_law 904 = .ok (.aload_n 0, 1) := DL_540 (904, .aload_n 0, 1) (List.mem_of_getElem? (i := 31) rfl)
theorem dL_905 : decode cL_law 905 = .ok (.iload 4, 2) := DL_540 (905, .iload 4, 2) (List.mem_of_getElem? (i := 32) rfl)
theorem dL_907 : decode cL_law 907 = .ok (.iconst 3, 1) := DL_540 (907, .iconst 3, 1) (List.mem_of_getElem? (i := 33) rfl)
theorem dL_908 : decode cL_law 908 = .ok (.iadd, 1) := DL_540 (908, .iadd, 1) (List.mem_of_getElem? (i := 34) rfl)
theorem dL_909 : decode cL_law 909 = .ok (.iaload, 1) := DL_540 (909, .iaload, 1) (List.mem_of_getElem? (i := 35) rfl)
theorem dL_910 : decode cL_law 910 = .ok (.invokevirtual 112, 3) := DL_540 (910, .invokevirtual 112, 3) (List.mem_of_getElem? (i := 36) rfl)
theorem dL_913 : decode cL_law 913 = .ok (.if_icmp .eq 189, 3) := DL_540 (913, .if_icmp .eq 189, 3) (List.mem_of_getElem? (i := 37) rfl)
theorem dL_916 : decode cL_law 916 = .ok (.iconst 0, 1) := DL_540 (916, .iconst 0, 1) (List.mem_of_getElem? (i := 38) rfl)
theorem dL_917 : decode cL_law 917 = .ok (.ireturn, 1) := DL_540 (917, .ireturn, 1) (List.mem_of_getElem? (i := 39) rfl)
theorem dL_918 : decode cL_law 918 = .ok (.aload_n 1, 1) := DL_540 (918, .aload_n 1, 1) (List.mem_of_getElem? (i := 40) rfl)
theorem dL_919 : decode cL_law 919 = .ok (.aload_n 0, 1) := DL_540 (919, .aload_n 0, 1) (List.mem_of_getElem? (i := 41) rfl)
theorem dL_920 : decode cL_law 920 = .ok (.iload 4, 2) := DL_540 (920, .iload 4, 2) (List.mem_of_getElem? (i := 42) rfl)
theorem dL_922 : decode cL_law 922 = .ok (.iconst 1, 1) := DL_540 (922, .iconst 1, 1) (List.mem_of_getElem? (i := 43) rfl)
theorem dL_923 : decode cL_law 923 = .ok (.iadd, 1) := DL_540 (923, .iadd, 1) (List.mem_of_getElem? (i := 44) rfl)
theorem dL_924 : decode cL_law 924 = .ok (.iaload, 1) := DL_540 (924, .iaload, 1) (List.mem_of_getElem? (i := 45) rfl)
theorem dL_925 : decode cL_law 925 = .ok (.aload_n 0, 1) := DL_540 (925, .aload_n 0, 1) (List.mem_of_getElem? (i := 46) rfl)
theorem dL_926 : decode cL_law 926 = .ok (.iload 4, 2) := DL_540 (926, .iload 4, 2) (List.mem_of_getElem? (i := 47) rfl)
theorem dL_928 : decode cL_law 928 = .ok (.iconst 2, 1) := DL_540 (928, .iconst 2, 1) (List.mem_of_getElem? (i := 48) rfl)
theorem dL_929 : decode cL_law 929 = .ok (.iadd, 1) := DL_540 (929, .iadd, 1) (List.mem_of_getElem? (i := 49) rfl)
theorem dL_930 : decode cL_law 930 = .ok (.iaload, 1) := DL_540 (930, .iaload, 1) (List.mem_of_getElem? (i := 50) rfl)
theorem dL_931 : decode cL_law 931 = .ok (.aload_n 0, 1) := DL_540 (931, .aload_n 0, 1) (List.mem_of_getElem? (i := 51) rfl)
theorem dL_932 : decode cL_law 932 = .ok (.iload 4, 2) := DL_540 (932, .iload 4, 2) (List.mem_of_getElem? (i := 52) rfl)
theorem dL_934 : decode cL_law 934 = .ok (.iconst 3, 1) := DL_540 (934, .iconst 3, 1) (List.mem_of_getElem? (i := 53) rfl)
theorem dL_935 : decode cL_law 935 = .ok (.iadd, 1) := DL_540 (935, .iadd, 1) (List.mem_of_getElem? (i := 54) rfl)
theorem dL_936 : decode cL_law 936 = .ok (.iaload, 1) := DL_540 (936, .iaload, 1) (List.mem_of_getElem? (i := 55) rfl)
theorem dL_937 : decode cL_law 937 = .ok (.invokevirtual 113, 3) := DL_540 (937, .invokevirtual 113, 3) (List.mem_of_getElem? (i := 56) rfl)
theorem dL_940 : decode cL_law 940 = .ok (.aload_n 2, 1) := DL_540 (940, .aload_n 2, 1) (List.mem_of_getElem? (i := 57) rfl)
theorem dL_941 : decode cL_law 941 = .ok (.aload_n 0, 1) := DL_540 (941, .aload_n 0, 1) (List.mem_of_getElem? (i := 58) rfl)
theorem dL_942 : decode cL_law 942 = .ok (.iload 4, 2) := DL_540 (942, .iload 4, 2) (List.mem_of_getElem? (i := 59) rfl)
theorem DL_600 : ∀ q ∈ ([(944, .iconst 1, 1), (945, .iadd, 1), (946, .iaload, 1), (947, .aload_n 0, 1), (948, .iload 4, 2), (950, .iconst 2, 1), (951, .iadd, 1), (952, .iaload, 1), (953, .aload_n 0, 1), (954, .iload 4, 2), (956, .iconst 3, 1), (957, .iadd, 1), (958, .iaload, 1), (959, .invokevirtual 116, 3), (962, .if_icmp .eq 140, 3), (965, .iconst 0, 1), (966, .ireturn, 1), (967, .aload_n 1, 1), (968, .aload_n 0, 1), (969, .iload 4, 2), (971, .iconst 1, 1), (972, .iadd, 1), (973, .iaload, 1), (974, .invokevirtual 117, 3), (977, .aload_n 2, 1), (978, .aload_n 0, 1), (979, .iload 4, 2), (981, .iconst 1, 1), (982, .iadd, 1), (983, .iaload, 1), (984, .invokevirtual 120, 3), (987, .if_icmp .eq 115, 3), (990, .iconst 0, 1), (991, .ireturn, 1), (992, .aload_n 1, 1), (993, .aload_n 0, 1), (994, .iload 4, 2), (996, .iconst 1, 1), (997, .iadd, 1), (998, .iaload, 1), (999, .aload_n 0, 1), (1000, .iload 4, 2), (1002, .iconst 2, 1), (1003, .iadd, 1), (1004, .iaload, 1), (1005, .aload_n 0, 1), (1006, .iload 4, 2), (1008, .iconst 3, 1), (1009, .iadd, 1), (1010, .iaload, 1), (1011, .invokevirtual 121, 3), (1014, .aload_n 2, 1), (1015, .aload_n 0, 1), (1016, .iload 4, 2), (1018, .iconst 1, 1), (1019, .iadd, 1), (1020, .iaload, 1), (1021, .aload_n 0, 1), (1022, .iload 4, 2), (1024, .iconst 2, 1)] : List (Nat × Instr × Nat)), decode cL_law q.1 = .ok q.2 := by decide +kernel
theorem dL_944 : decode cL_law 944 = .ok (.iconst 1, 1) := DL_600 (944, .iconst 1, 1) (List.mem_of_getElem? (i := 0) rfl)
theorem dL_945 : decode cL_law 945 = .ok (.iadd, 1) := DL_600 (945, .iadd, 1) (List.mem_of_getElem? (i := 1) rfl)
theorem dL_946 : decode cL_law 946 = .ok (.iaload, 1) := DL_600 (946, .iaload, 1) (List.mem_of_getElem? (i := 2) rfl)
theorem dL_947 : decode cL_law 947 = .ok (.aload_n 0, 1) := DL_600 (947, .aload_n 0, 1) (List.mem_of_getElem? (i := 3) rfl)
theorem dL_948 : decode cL_law 948 = .ok (.iload 4, 2) := DL_600 (948, .iload 4, 2) (List.mem_of_getElem? (i := 4) rfl)
theorem dL_950 : decode cL_law 950 = .ok (.iconst 2, 1) := DL_600 (950, .iconst 2, 1) (List.mem_of_getElem? (i := 5) rfl)
theorem dL_951 : decode cL_law 951 = .ok (.iadd, 1) := DL_600 (951, .iadd, 1) (List.mem_of_getElem? (i := 6) rfl)
theorem dL_952 : decode cL_law 952 = .ok (.iaload, 1) := DL_600 (952, .iaload, 1) (List.mem_of_getElem? (i := 7) rfl)
theorem dL_953 : decode cL_law 953 = .ok (.aload_n 0, 1) := DL_600 (953, .aload_n 0, 1) (List.mem_of_getElem? (i := 8) rfl)
theorem dL_954 : decode cL_law 954 = .ok (.iload 4, 2) := DL_600 (954, .iload 4, 2) (List.mem_of_getElem? (i := 9) rfl)
theorem dL_956 : decode cL_law 956 = .ok (.iconst 3, 1) := DL_600 (956, .iconst 3, 1) (List.mem_of_getElem? (i := 10) rfl)
theorem dL_957 : decode cL_law 957 = .ok (.iadd, 1) := DL_600 (957, .iadd, 1) (List.mem_of_getElem? (i := 11) rfl)
theorem dL_958 : decode cL_law 958 = .ok (.iaload, 1) := DL_600 (958, .iaload, 1) (List.mem_of_getElem? (i := 12) rfl)
theorem dL_959 : decode cL_law 959 = .ok (.invokevirtual 116, 3) := DL_600 (959, .invokevirtual 116, 3) (List.mem_of_getElem? (i := 13) rfl)
theorem dL_962 : decode cL_law 962 = .ok (.if_icmp .eq 140, 3) := DL_600 (962, .if_icmp .eq 140, 3) (List.mem_of_getElem? (i := 14) rfl)
theorem dL_965 : decode cL_law 965 = .ok (.iconst 0, 1) := DL_600 (965, .iconst 0, 1) (List.mem_of_getElem? (i := 15) rfl)
theorem dL_966 : decode cL_law 966 = .ok (.ireturn, 1) := DL_600 (966, .ireturn, 1) (List.mem_of_getElem? (i := 16) rfl)
theorem dL_967 : decode cL_law 967 = .ok (.aload_n 1, 1) := DL_600 (967, .aload_n 1, 1) (List.mem_of_getElem? (i := 17) rfl)
theorem dL_968 : decode cL_law 968 = .ok (.aload_n 0, 1) := DL_600 (968, .aload_n 0, 1) (List.mem_of_getElem? (i := 18) rfl)
theorem dL_969 : decode cL_law 969 = .ok (.iload 4, 2) := DL_600 (969, .iload 4, 2) (List.mem_of_getElem? (i := 19) rfl)
theorem dL_971 : decode cL_law 971 = .ok (.iconst 1, 1) := DL_600 (971, .iconst 1, 1) (List.mem_of_getElem? (i := 20) rfl)
theorem dL_972 : decode cL_law 972 = .ok (.iadd, 1) := DL_600 (972, .iadd, 1) (List.mem_of_getElem? (i := 21) rfl)
theorem dL_973 : decode cL_law 973 = .ok (.iaload, 1) := DL_600 (973, .iaload, 1) (List.mem_of_getElem? (i := 22) rfl)
theorem dL_974 : decode cL_law 974 = .ok (.invokevirtual 117, 3) := DL_600 (974, .invokevirtual 117, 3) (List.mem_of_getElem? (i := 23) rfl)
theorem dL_977 : decode cL_law 977 = .ok (.aload_n 2, 1) := DL_600 (977, .aload_n 2, 1) (List.mem_of_getElem? (i := 24) rfl)
theorem dL_978 : decode cL_law 978 = .ok (.aload_n 0, 1) := DL_600 (978, .aload_n 0, 1) (List.mem_of_getElem? (i := 25) rfl)
theorem dL_979 : decode cL_law 979 = .ok (.iload 4, 2) := DL_600 (979, .iload 4, 2) (List.mem_of_getElem? (i := 26) rfl)
theorem dL_981 : decode cL_law 981 = .ok (.iconst 1, 1) := DL_600 (981, .iconst 1, 1) (List.mem_of_getElem? (i := 27) rfl)
theorem dL_982 : decode cL_law 982 = .ok (.iadd, 1) := DL_600 (982, .iadd, 1) (List.mem_of_getElem? (i := 28) rfl)
theorem dL_983 : decode cL_law 983 = .ok (.iaload, 1) := DL_600 (983, .iaload, 1) (List.mem_of_getElem? (i := 29) rfl)
theorem dL_984 : decode cL_law 984 = .ok (.invokevirtual 120, 3) := DL_600 (984, .invokevirtual 120, 3) (List.mem_of_getElem? (i := 30) rfl)
theorem dL_987 : decode cL_law 987 = .ok (.if_icmp .eq 115, 3) := DL_600 (987, .if_icmp .eq 115, 3) (List.mem_of_getElem? (i := 31) rfl)
theorem dL_990 : decode cL_law 990 = .ok (.iconst 0, 1) := DL_600 (990, .iconst 0, 1) (List.mem_of_getElem? (i := 32) rfl)
theorem dL_991 : decode cL_law 991 = .ok (.ireturn, 1) := DL_600 (991, .ireturn, 1) (List.mem_of_getElem? (i := 33) rfl)
theorem dL_992 : decode cL_law 992 = .ok (.aload_n 1, 1) := DL_600 (992, .aload_n 1, 1) (List.mem_of_getElem? (i := 34) rfl)
theorem dL_993 : decode cL_law 993 = .ok (.aload_n 0, 1) := DL_600 (993, .aload_n 0, 1) (List.mem_of_getElem? (i := 35) rfl)
theorem dL_994 : decode cL_law 994 = .ok (.iload 4, 2) := DL_600 (994, .iload 4, 2) (List.mem_of_getElem? (i := 36) rfl)
theorem dL_996 : decode cL_law 996 = .ok (.iconst 1, 1) := DL_600 (996, .iconst 1, 1) (List.mem_of_getElem? (i := 37) rfl)
theorem dL_997 : decode cL_law 997 = .ok (.iadd, 1) := DL_600 (997, .iadd, 1) (List.mem_of_getElem? (i := 38) rfl)
theorem dL_998 : decode cL_law 998 = .ok (.iaload, 1) := DL_600 (998, .iaload, 1) (List.mem_of_getElem? (i := 39) rfl)
theorem dL_999 : decode cL_law 999 = .ok (.aload_n 0, 1) := DL_600 (999, .aload_n 0, 1) (List.mem_of_getElem? (i := 40) rfl)
theorem dL_1000 : decode cL_law 1000 = .ok (.iload 4, 2) := DL_600 (1000, .iload 4, 2) (List.mem_of_getElem? (i := 41) rfl)
theorem dL_1002 : decode cL_law 1002 = .ok (.iconst 2, 1) := DL_600 (1002, .iconst 2, 1) (List.mem_of_getElem? (i := 42) rfl)
theorem dL_1003 : decode cL_law 1003 = .ok (.iadd, 1) := DL_600 (1003, .iadd, 1) (List.mem_of_getElem? (i := 43) rfl)
theorem dL_1004 : decode cL_law 1004 = .ok (.iaload, 1) := DL_600 (1004, .iaload, 1) (List.mem_of_getElem? (i := 44) rfl)
theorem dL_1005 : decode cL_law 1005 = .ok (.aload_n 0, 1) := DL_600 (1005, .aload_n 0, 1) (List.mem_of_getElem? (i := 45) rfl)
theorem dL_1006 : decode cL_law 1006 = .ok (.iload 4, 2) := DL_600 (1006, .iload 4, 2) (List.mem_of_getElem? (i := 46) rfl)
theorem dL_1008 : decode cL_law 1008 = .ok (.iconst 3, 1) := DL_600 (1008, .iconst 3, 1) (List.mem_of_getElem? (i := 47) rfl)
theorem dL_1009 : decode cL_law 1009 = .ok (.iadd, 1) := DL_600 (1009, .iadd, 1) (List.mem_of_getElem? (i := 48) rfl)
theorem dL_1010 : decode cL_law 1010 = .ok (.iaload, 1) := DL_600 (1010, .iaload, 1) (List.mem_of_getElem? (i := 49) rfl)
theorem dL_1011 : decode cL_law 1011 = .ok (.invokevirtual 121, 3) := DL_600 (1011, .invokevirtual 121, 3) (List.mem_of_getElem? (i := 50) rfl)
theorem dL_1014 : decode cL_law 1014 = .ok (.aload_n 2, 1) := DL_600 (1014, .aload_n 2, 1) (List.mem_of_getElem? (i := 51) rfl)
theorem dL_1015 : decode cL_law 1015 = .ok (.aload_n 0, 1) := DL_600 (1015, .aload_n 0, 1) (List.mem_of_getElem? (i := 52) rfl)
theorem dL_1016 : decode cL_law 1016 = .ok (.iload 4, 2) := DL_600 (1016, .iload 4, 2) (List.mem_of_getElem? (i := 53) rfl)
theorem dL_1018 : decode cL_law 1018 = .ok (.iconst 1, 1) := DL_600 (1018, .iconst 1, 1) (List.mem_of_getElem? (i := 54) rfl)
theorem dL_1019 : decode cL_law 1019 = .ok (.iadd, 1) := DL_600 (1019, .iadd, 1) (List.mem_of_getElem? (i := 55) rfl)
theorem dL_1020 : decode cL_law 1020 = .ok (.iaload, 1) := DL_600 (1020, .iaload, 1) (List.mem_of_getElem? (i := 56) rfl)
theorem dL_1021 : decode cL_law 1021 = .ok (.aload_n 0, 1) := DL_600 (1021, .aload_n 0, 1) (List.mem_of_getElem? (i := 57) rfl)
theorem dL_1022 : decode cL_law 1022 = .ok (.iload 4, 2) := DL_600 (1022, .iload 4, 2) (List.mem_of_getElem? (i := 58) rfl)
theorem dL_1024 : decode cL_law 1024 = .ok (.iconst 2, 1) := DL_600 (1024, .iconst 2, 1) (List.mem_of_getElem? (i := 59) rfl)
theorem DL_660 : ∀ q ∈ ([(1025, .iadd, 1), (1026, .iaload, 1), (1027, .aload_n 0, 1), (1028, .iload 4, 2), (1030, .iconst 3, 1), (1031, .iadd, 1), (1032, .iaload, 1), (1033, .invokevirtual 124, 3), (1036, .if_icmp .eq 66, 3), (1039, .iconst 0, 1), (1040, .ireturn, 1), (1041, .aload_n 1, 1), (1042, .aload_n 0, 1), (1043, .iload 4, 2), (1045, .iconst 1, 1), (1046, .iadd, 1), (1047, .iaload, 1), (1048, .aload_n 0, 1), (1049, .iload 4, 2), (1051, .iconst 2, 1), (1052, .iadd, 1), (1053, .iaload, 1), (1054, .aload_n 0, 1), (1055, .iload 4, 2), (1057, .iconst 3, 1), (1058, .iadd, 1), (1059, .iaload, 1), (1060, .aload_n 0, 1), (1061, .iload 4, 2), (1063, .iconst 4, 1), (1064, .iadd, 1), (1065, .iaload, 1), (1066, .invokevirtual 125, 3), (1069, .aload_n 2, 1), (1070, .aload_n 0, 1), (1071, .iload 4, 2), (1073, .iconst 1, 1), (1074, .iadd, 1), (1075, .iaload, 1), (1076, .aload_n 0, 1), (1077, .iload 4, 2), (1079, .iconst 2, 1), (1080, .iadd, 1), (1081, .iaload, 1), (1082, .aload_n 0, 1), (1083, .iload 4, 2), (1085, .iconst 3, 1), (1086, .iadd, 1), (1087, .iaload, 1), (1088, .aload_n 0, 1), (1089, .iload 4, 2), (1091, .iconst 4, 1), (1092, .iadd, 1), (1093, .iaload, 1), (1094, .invokevirtual 128, 3), (1097, .if_icmp .eq 5, 3), (1100, .iconst 0, 1), (1101, .ireturn, 1), (1102, .iinc 4 6, 3), (1105, .goto (-1072), 3)] : List (Nat × Instr × Nat)), decode cL_law q.1 = .ok q.2 := by decide +kernel
theorem dL_1025 : decode cL_law 1025 = .ok (.iadd, 1) := DL_660 (1025, .iadd, 1) (List.mem_of_getElem? (i := 0) rfl)
theorem dL_1026 : decode cL_law 1026 = .ok (.iaload, 1) := DL_660 (1026, .iaload, 1) (List.mem_of_getElem? (i := 1) rfl)
theorem dL_1027 : decode cL_law 1027 = .ok (.aload_n 0, 1) := DL_660 (1027, .aload_n 0, 1) (List.mem_of_getElem? (i := 2) rfl)
theorem dL_1028 : decode cL_law 1028 = .ok (.iload 4, 2) := DL_660 (1028, .iload 4, 2) (List.mem_of_getElem? (i := 3) rfl)
theorem dL_1030 : decode cL_law 1030 = .ok (.iconst 3, 1) := DL_660 (1030, .iconst 3, 1) (List.mem_of_getElem? (i := 4) rfl)
theorem dL_1031 : decode cL_law 1031 = .ok (.iadd, 1) := DL_660 (1031, .iadd, 1) (List.mem_of_getElem? (i := 5) rfl)
theorem dL_1032 : decode cL_law 1032 = .ok (.iaload, 1) := DL_660 (1032, .iaload, 1) (List.mem_of_getElem? (i := 6) rfl)
theorem dL_1033 : decode cL_law 1033 = .ok (.invokevirtual 124, 3) := DL_660 (1033, .invokevirtual 124, 3) (List.mem_of_getElem? (i := 7) rfl)
theorem dL_1036 : decode cL_law 1036 = .ok (.if_icmp .eq 66, 3) := DL_660 (1036, .if_icmp .eq 66, 3) (List.mem_of_getElem? (i := 8) rfl)
theorem dL_1039 : decode cL_law 1039 = .ok (.iconst 0, 1) := DL_660 (1039, .iconst 0, 1) (List.mem_of_getElem? (i := 9) rfl)
theorem dL_1040 : decode cL_law 1040 = .ok (.ireturn, 1) := DL_660 (1040, .ireturn, 1) (List.mem_of_getElem? (i := 10) rfl)
theorem dL_1041 : decode cL_law 1041 = .ok (.aload_n 1, 1) := DL_660 (1041, .aload_n 1, 1) (List.mem_of_getElem? (i := 11) rfl)
theorem dL_1042 : decode cL_law 1042 = .ok (.aload_n 0, 1) := DL_660 (1042, .aload_n 0, 1) (List.mem_of_getElem? (i := 12) rfl)
theorem dL_1043 : decode cL_law 1043 = .ok (.iload 4, 2) := DL_660 (1043, .iload 4, 2) (List.mem_of_getElem? (i := 13) rfl)
theorem dL_1045 : decode cL_law 1045 = .ok (.iconst 1, 1) := DL_660 (1045, .iconst 1, 1) (List.mem_of_getElem? (i := 14) rfl)
theorem dL_1046 : decode cL_law 1046 = .ok (.iadd, 1) := DL_660 (1046, .iadd, 1) (List.mem_of_getElem? (i := 15) rfl)
theorem dL_1047 : decode cL_law 1047 = .ok (.iaload, 1) := DL_660 (1047, .iaload, 1) (List.mem_of_getElem? (i := 16) rfl)
theorem dL_1048 : decode cL_law 1048 = .ok (.aload_n 0, 1) := DL_660 (1048, .aload_n 0, 1) (List.mem_of_getElem? (i := 17) rfl)
theorem dL_1049 : decode cL_law 1049 = .ok (.iload 4, 2) := DL_660 (1049, .iload 4, 2) (List.mem_of_getElem? (i := 18) rfl)
theorem dL_1051 : decode cL_law 1051 = .ok (.iconst 2, 1) := DL_660 (1051, .iconst 2, 1) (List.mem_of_getElem? (i := 19) rfl)
theorem dL_1052 : decode cL_law 1052 = .ok (.iadd, 1) := DL_660 (1052, .iadd, 1) (List.mem_of_getElem? (i := 20) rfl)
theorem dL_1053 : decode cL_law 1053 = .ok (.iaload, 1) := DL_660 (1053, .iaload, 1) (List.mem_of_getElem? (i := 21) rfl)
theorem dL_1054 : decode cL_law 1054 = .ok (.aload_n 0, 1) := DL_660 (1054, .aload_n 0, 1) (List.mem_of_getElem? (i := 22) rfl)
theorem dL_1055 : decode cL_law 1055 = .ok (.iload 4, 2) := DL_660 (1055, .iload 4, 2) (List.mem_of_getElem? (i := 23) rfl)
theorem dL_1057 : decode cL_law 1057 = .ok (.iconst 3, 1) := DL_660 (1057, .iconst 3, 1) (List.mem_of_getElem? (i := 24) rfl)
theorem dL_1058 : decode cL_law 1058 = .ok (.iadd, 1) := DL_660 (1058, .iadd, 1) (List.mem_of_getElem? (i := 25) rfl)
theorem dL_1059 : decode cL_law 1059 = .ok (.iaload, 1) := DL_660 (1059, .iaload, 1) (List.mem_of_getElem? (i := 26) rfl)
theorem dL_1060 : decode cL_law 1060 = .ok (.aload_n 0, 1) := DL_660 (1060, .aload_n 0, 1) (List.mem_of_getElem? (i := 27) rfl)
theorem dL_1061 : decode cL_law 1061 = .ok (.iload 4, 2) := DL_660 (1061, .iload 4, 2) (List.mem_of_getElem? (i := 28) rfl)
theorem dL_1063 : decode cL_law 1063 = .ok (.iconst 4, 1) := DL_660 (1063, .iconst 4, 1) (List.mem_of_getElem? (i := 29) rfl)
theorem dL_1064 : decode cL_law 1064 = .ok (.iadd, 1) := DL_660 (1064, .iadd, 1) (List.mem_of_getElem? (i := 30) rfl)
theorem dL_1065 : decode cL_law 1065 = .ok (.iaload, 1) := DL_660 (1065, .iaload, 1) (List.mem_of_getElem? (i := 31) rfl)
theorem dL_1066 : decode cL_law 1066 = .ok (.invokevirtual 125, 3) := DL_660 (1066, .invokevirtual 125, 3) (List.mem_of_getElem? (i := 32) rfl)
theorem dL_1069 : decode cL_law 1069 = .ok (.aload_n 2, 1) := DL_660 (1069, .aload_n 2, 1) (List.mem_of_getElem? (i := 33) rfl)
theorem dL_1070 : decode cL_law 1070 = .ok (.aload_n 0, 1) := DL_660 (1070, .aload_n 0, 1) (List.mem_of_getElem? (i := 34) rfl)
theorem dL_1071 : decode cL_law 1071 = .ok (.iload 4, 2) := DL_660 (1071, .iload 4, 2) (List.mem_of_getElem? (i := 35) rfl)
theorem dL_1073 : decode cL_law 1073 = .ok (.iconst 1, 1) := DL_660 (1073, .iconst 1, 1) (List.mem_of_getElem? (i := 36) rfl)
theorem dL_1074 : decode cL_law 1074 = .ok (.iadd, 1) := DL_660 (1074, .iadd, 1) (List.mem_of_getElem? (i := 37) rfl)
theorem dL_1075 : decode cL_law 1075 = .ok (.iaload, 1) := DL_660 (1075, .iaload, 1) (List.mem_of_getElem? (i := 38) rfl)
theorem dL_1076 : decode cL_law 1076 = .ok (.aload_n 0, 1) := DL_660 (1076, .aload_n 0, 1) (List.mem_of_getElem? (i := 39) rfl)
theorem dL_1077 : decode cL_law 1077 = .ok (.iload 4, 2) := DL_660 (1077, .iload 4, 2) (List.mem_of_getElem? (i := 40) rfl)
theorem dL_1079 : decode cL_law 1079 = .ok (.iconst 2, 1) := DL_660 (1079, .iconst 2, 1) (List.mem_of_getElem? (i := 41) rfl)
theorem dL_1080 : decode cL_law 1080 = .ok (.iadd, 1) := DL_660 (1080, .iadd, 1) (List.mem_of_getElem? (i := 42) rfl)
theorem dL_1081 : decode cL_law 1081 = .ok (.iaload, 1) := DL_660 (1081, .iaload, 1) (List.mem_of_getElem? (i := 43) rfl)
theorem dL_1082 : decode cL_law 1082 = .ok (.aload_n 0, 1) := DL_660 (1082, .aload_n 0, 1) (List.mem_of_getElem? (i := 44) rfl)
theorem dL_1083 : decode cL_law 1083 = .ok (.iload 4, 2) := DL_660 (1083, .iload 4, 2) (List.mem_of_getElem? (i := 45) rfl)
theorem dL_1085 : decode cL_law 1085 = .ok (.iconst 3, 1) := DL_660 (1085, .iconst 3, 1) (List.mem_of_getElem? (i := 46) rfl)
theorem dL_1086 : decode cL_law 1086 = .ok (.iadd, 1) := DL_660 (1086, .iadd, 1) (List.mem_of_getElem? (i := 47) rfl)
theorem dL_1087 : decode cL_law 1087 = .ok (.iaload, 1) := DL_660 (1087, .iaload, 1) (List.mem_of_getElem? (i := 48) rfl)
theorem dL_1088 : decode cL_law 1088 = .ok (.aload_n 0, 1) := DL_660 (1088, .aload_n 0, 1) (List.mem_of_getElem? (i := 49) rfl)
theorem dL_1089 : decode cL_law 1089 = .ok (.iload 4, 2) := DL_660 (1089, .iload 4, 2) (List.mem_of_getElem? (i := 50) rfl)
theorem dL_1091 : decode cL_law 1091 = .ok (.iconst 4, 1) := DL_660 (1091, .iconst 4, 1) (List.mem_of_getElem? (i := 51) rfl)
theorem dL_1092 : decode cL_law 1092 = .ok (.iadd, 1) := DL_660 (1092, .iadd, 1) (List.mem_of_getElem? (i := 52) rfl)
theorem dL_1093 : decode cL_law 1093 = .ok (.iaload, 1) := DL_660 (1093, .iaload, 1) (List.mem_of_getElem? (i := 53) rfl)
theorem dL_1094 : decode cL_law 1094 = .ok (.invokevirtual 128, 3) := DL_660 (1094, .invokevirtual 128, 3) (List.mem_of_getElem? (i := 54) rfl)
theorem dL_1097 : decode cL_law 1097 = .ok (.if_icmp .eq 5, 3) := DL_660 (1097, .if_icmp .eq 5, 3) (List.mem_of_getElem? (i := 55) rfl)
theorem dL_1100 : decode cL_law 1100 = .ok (.iconst 0, 1) := DL_660 (1100, .iconst 0, 1) (List.mem_of_getElem? (i := 56) rfl)
theorem dL_1101 : decode cL_law 1101 = .ok (.ireturn, 1) := DL_660 (1101, .ireturn, 1) (List.mem_of_getElem? (i := 57) rfl)
theorem dL_1102 : decode cL_law 1102 = .ok (.iinc 4 6, 3) := DL_660 (1102, .iinc 4 6, 3) (List.mem_of_getElem? (i := 58) rfl)
theorem dL_1105 : decode cL_law 1105 = .ok (.goto (-1072), 3) := DL_660 (1105, .goto (-1072), 3) (List.mem_of_getElem? (i := 59) rfl)
theorem DL_720 : ∀ q ∈ ([(1108, .iconst 1, 1), (1109, .ireturn, 1)] : List (Nat × Instr × Nat)), decode cL_law q.1 = .ok q.2 := by decide +kernel
theorem dL_1108 : decode cL_law 1108 = .ok (.iconst 1, 1) := DL_720 (1108, .iconst 1, 1) (List.mem_of_getElem? (i := 0) rfl)
theorem dL_1109 : decode cL_law 1109 = .ok (.ireturn, 1) := DL_720 (1109, .ireturn, 1) (List.mem_of_getElem? (i := 1) rfl)
theorem wl_L_69 : Cond.methodLink RL 69 yL_of ∈ Wall := wt4 (List.mem_of_getElem? (i := 64) rfl) rfl
theorem ws_L_of : Cond.static yL_of ∈ Wall := wt4 (List.mem_of_getElem? (i := 65) rfl) rfl
theorem wl_L_15 : Cond.methodLink RL 15 yL_cell ∈ Wall := wt4 (List.mem_of_getElem? (i := 61) rfl) rfl
theorem ws_L_cell : Cond.static yL_cell ∈ Wall := wt4 (List.mem_of_getElem? (i := 62) rfl) rfl
theorem wc_L_cell : Cond.code yL_cell cL_cell 2 (some .int) ∈ Wall := wt4 (List.mem_of_getElem? (i := 63) rfl) rfl
section GLO
variable {E : Gx} {cI cL : ClassId} {adX adM : Nat → Nat} {qo b L sa : Nat} {xs : Nat → Int32} {pc : Nat} {lv : List (Nat × Value)} {rest : List Value} {σX σM : Mem} {fo : Nat → Int64} {ce sl : Nat}
set_option maxHeartbeats 4000000 in
theorem l_of (q : Nat) (C : CL E cI cL adX adM qo b L sa xs) {a1 a2 : Int32} {out : (Int32 × Mem) ⊕ Mem} (h : fX7_of a1 a2 σX = some out) (hce : ce + 1 ≤ room_1.cells ∧ sl + 6 ≤ room_1.slots) (hdg : decode cL_law pc = .ok (.invokestatic 69, 3)) (hq : pc + 3 = q)
    (kk : GL E cI cL adX adM qo q lv [.int (ofOut fo out).1] (ofOut fo out).2.1 σM (ofOut fo out).2.2 (ce + 1) (sl + 6)) : GL E cI cL adX adM qo pc lv [.ref qo, .int a2, .int a1, .ref (adX 7)] σX σM fo ce sl := by
  subst hq
  obtain ⟨p, l, e, s, m, args, below, meth, c, D, Q, A, ce0, sl0⟩ := E
  intro H locs ls hP hS hl
  have hDw := wL_D (τX := σX) (τM := σM) (go := fo) C.2.2.2.1
  have hD1 := D_left hDw
  have hPX := P_left hP
  have hPO := P_right (P_right hP)
  have hK1 : va_K D vwCl [(cI, .int)] s := C.2.1.sub [0] rfl
  have hqA : A qo := (D_right (D_right hDw)).2 0 _ rfl
  have hqX : ¬ Aw layX adX qo := fun z => by
    obtain ⟨j, y, hy, e⟩ := Aw_cell (cI := cI) (σ := σX) z
    exact D_apart hDw j (layM.length) y (qo, .inl (cL, 1, .inr (.inl fo))) hy rfl e
  have hALA : ∀ q, AL adX qo H.size q → A q := fun q hq => hq.elim (fun z => AwA hD1 q z) (fun z => z.elim (fun z => by rw [z]; exact hqA) (fun z => C.2.2.2.2.2.2.2.2.2 q (Nat.le_trans hS.1 z)))
  refine va_calli (vx_runSW (As := [.ref (adX 7), .int a1, .int a2, .ref qo]) (rest := []) C.1 (mL_of (D := D) (cI := cI) (cL := cL) (ad := adX) (sa := sa) (qo := qo) (fo := fo) C.2.2.2.2.2.2.2.2.1 h H.size) ⟨⟨rfl, rfl, Nat.le_of_ble_eq_true rfl, Nat.le_of_ble_eq_true rfl, pay_in C.1.2.2.2.2 (fun z hz => (List.mem_cons.mp hz).elim (fun ez => by subst ez; exact ⟨wcw_of, Wall_good _ wcw_of⟩) (fun hz => ⟨hz, Wall_good z hz⟩)), List.mem_cons_self⟩, C.1.2.2.2.2 _ wcw_of, C.1.2.2.2.2 _ wn_L, ⟨by decide, by decide⟩, fun sig hs => ?_, C.1.2.2.2.2 _ wl_L_69, C.1.2.2.2.2 _ ws_L_of⟩ ⟨fun a U g mk z => ?_, fun U hU hW => ⟨rfl, by rw [hU], ⟨by rw [hU]; exact hPX, va_K.moved hW.alike hK1, C.2.2.1.warm hW, Dt hD1⟩, va_K.moved hW.alike C.2.1, by rw [hU]; exact hPO, hqX, (C.2.2.2.2.2.2.2.1.go hW (fun a h1 h2 => by rw [hU]; exact hS.2.1 a h1 h2)).narrow hALA⟩⟩ rfl rfl hl.1 rfl (lv_room (Nat.le_of_ble_eq_true rfl)) hdg hce) hS (fun q _ h => hALA q h) (fun q h => hALA q h) (fun r u t H1 locs1 ht hvm hw1 hB hz hk hS1 => ?_)
  · have h2 : (parseMethodDescriptor yL_of.desc).map (fun d => d.parameters.length) = some 4 := by decide +kernel
    rw [hs] at h2
    exact (Option.some.inj h2).symm
  · obtain ⟨z0, z1, ⟨zP, zK, zN, zD⟩, zK2, zP2, zq, zT⟩ := z
    exact ⟨z0, z1, ⟨zP, va_K.moved (u := U) (U := U.calling g mk a) (Vm.Alike.refl U.vm) zK, zN.same rfl, zD⟩, va_K.moved (u := U) (U := U.calling g mk a) (Vm.Alike.refl U.vm) zK2, zP2, zq, zT.same rfl rfl⟩
  · rw [← hw1] at kk
    refine kk H1 locs1 ls (va_P.app (by rw [← ht]; exact hB.1) (va_P.app ((P_left (P_right hP)).kept (fun k x hx => hk x.1 ((P_left (P_right hP)) k x hx).lt (fun z => ?_))) (by rw [← ht]; exact hB.2))) hS1 hl
    rcases z with z | z | z
    · obtain ⟨j, y, hy, e⟩ := Aw_cell (cI := cI) (σ := σX) z
      exact D_apart hDw j k y x hy (by rw [List.getElem?_append_left (List.getElem?_eq_some_iff.mp hx).1]; exact hx) e
    · exact D_apart (D_right hDw) k 0 x (qo, .inl (cL, 1, .inr (.inl fo))) hx rfl z
    · exact absurd ((P_left (P_right hP)) k x hx).lt (Nat.not_lt.mpr z)
end GLO
/-- what is left of the claim when the machine is gone: a relation between both memories that holds at the start and is kept, with equal answers -/
def Sim_number (Rel : Nat → Mem → Mem → Prop) (k : Nat) (σX σM : Mem) : Prop := (∀ a1 : Int32, ∃ oX oM : Int32 × Mem, fX7_number a1 σX = some oX ∧ fX8_number a1 σM = some oM ∧ oX.1 = oM.1 ∧ Rel (k + 1) oX.2 oM.2)
def Sim_input (Rel : Nat → Mem → Mem → Prop) (k : Nat) (σX σM : Mem) : Prop := (∃ oX oM : Int32 × Mem, fX7_input σX = some oX ∧ fX8_input σM = some oM ∧ oX.1 = oM.1 ∧ Rel (k + 1) oX.2 oM.2)
def Sim_carried (Rel : Nat → Mem → Mem → Prop) (k : Nat) (σX σM : Mem) : Prop := (∀ a1 : Int32, ∃ oX oM : Int32 × Mem, fX7_carried a1 σX = some oX ∧ fX8_carried a1 σM = some oM ∧ oX.1 = oM.1 ∧ Rel (k + 1) oX.2 oM.2)
def Sim_op (Rel : Nat → Mem → Mem → Prop) (k : Nat) (σX σM : Mem) : Prop := (∀ a1 a2 a3 : Int32, ∃ oX oM : Int32 × Mem, fX7_op a1 a2 a3 σX = some oX ∧ fX8_op a1 a2 a3 σM = some oM ∧ oX.1 = oM.1 ∧ Rel (k + 1) oX.2 oM.2)
def Sim_next (Rel : Nat → Mem → Mem → Prop) (k : Nat) (σX σM : Mem) : Prop := (∀ a1 a2 : Int32, ∃ oX oM : Int32 × Mem, fX7_next a1 a2 σX = some oX ∧ fX8_next a1 a2 σM = some oM ∧ oX.1 = oM.1 ∧ Rel (k + 1) oX.2 oM.2)
def Sim_pop (Rel : Nat → Mem → Mem → Prop) (k : Nat) (σX σM : Mem) : Prop := (∃ oX oM : Int32 × Mem, fX7_pop σX = some oX ∧ fX8_pop σM = some oM ∧ oX.1 = oM.1 ∧ Rel (k + 1) oX.2 oM.2)
def Sim_test (Rel : Nat → Mem → Mem → Prop) (k : Nat) (σX σM : Mem) : Prop := (∀ a1 a2 a3 : Int32, ∃ oX oM : Int32 × Mem, fX7_test a1 a2 a3 σX = some oX ∧ fX8_test a1 a2 a3 σM = some oM ∧ oX.1 = oM.1 ∧ Rel (k + 1) oX.2 oM.2)
def Sim_show (Rel : Nat → Mem → Mem → Prop) (k : Nat) (σX σM : Mem) : Prop := (∀ a1 a2 : Int32, a2 = 0 ∨ a2 = 1 → ∃ oX oM : Int32 × Mem, fX7_show a1 a2 σX = some oX ∧ fX8_show a1 a2 σM = some oM ∧ oX.1 = oM.1 ∧ Rel (k + 1) oX.2 oM.2)
def Sim_count (Rel : Nat → Mem → Mem → Prop) (k : Nat) (σX σM : Mem) : Prop := (∀ a1 : Int32, ∃ oX oM : Int32 × Mem, fX7_count a1 σX = some oX ∧ fX8_count a1 σM = some oM ∧ oX.1 = oM.1 ∧ Rel (k + 1) oX.2 oM.2)
def Sim_of (Rel : Nat → Mem → Mem → Prop) (k : Nat) (σX σM : Mem) : Prop := (∀ a1 a2 : Int32, ∃ (out : (Int32 × Mem) ⊕ Mem) (oM : Int32 × Mem), fX7_of a1 a2 σX = some out ∧ fX8_of a1 a2 σM = some oM ∧ Sum.elim (fun oX => oM.2 0 2 = 0 ∧ oX.1 = oM.1 ∧ Rel (k + 1) oX.2 oM.2) (fun τ => oM.2 0 2 = 1 ∧ Rel (k + 1) τ oM.2) out)
def Sim_cycle (Rel : Nat → Mem → Mem → Prop) (k : Nat) (σX σM : Mem) : Prop := (∀ a1 : Int32, ∃ oX oM : Int32 × Mem, fX7_cycle a1 σX = some oX ∧ fX8_cycle a1 σM = some oM ∧ oX.1 = oM.1 ∧ Rel (k + 1) oX.2 oM.2)
def Sim_form (Rel : Nat → Mem → Mem → Prop) (k : Nat) (σX σM : Mem) : Prop := (∀ a1 a2 : Int32, ∃ oX oM : Int32 × Mem, fX7_form a1 a2 σX = some oX ∧ fX8_form a1 a2 σM = some oM ∧ oX.1 = oM.1 ∧ Rel (k + 1) oX.2 oM.2)
def Sim_poly (Rel : Nat → Mem → Mem → Prop) (k : Nat) (σX σM : Mem) : Prop := (∀ a1 a2 a3 a4 : Int32, ∃ oX oM : Int32 × Mem, fX7_poly a1 a2 a3 a4 σX = some oX ∧ fX8_poly a1 a2 a3 a4 σM = some oM ∧ oX.1 = oM.1 ∧ Rel (k + 1) oX.2 oM.2)
def Sim_value (Rel : Nat → Mem → Mem → Prop) (k : Nat) (σX σM : Mem) : Prop := (∀ a1 a2 a3 a4 a5 : Int32, ∃ oX oM : Int32 × Mem, fX7_value a1 a2 a3 a4 a5 σX = some oX ∧ fX8_value a1 a2 a3 a4 a5 σM = some oM ∧ oX.1 = oM.1 ∧ Rel (k + 1) oX.2 oM.2)
def Sim_told (Rel : Nat → Mem → Mem → Prop) (k : Nat) (σX σM : Mem) : Prop := (∀ a1 a2 a3 a4 a5 : Int32, ∃ oX oM : Int32 × Mem, fX7_told a1 a2 a3 a4 a5 σX = some oX ∧ fX8_told a1 a2 a3 a4 a5 σM = some oM ∧ oX.1 = oM.1 ∧ Rel (k + 1) oX.2 oM.2)
def Sim_reduced (Rel : Nat → Mem → Mem → Prop) (k : Nat) (σX σM : Mem) : Prop := (∀ a1 : Int32, ∃ oX oM : Int32 × Mem, fX7_reduced a1 σX = some oX ∧ fX8_reduced a1 σM = some oM ∧ oX.1 = oM.1 ∧ Rel (k + 1) oX.2 oM.2)
def Sim_cell (Rel : Nat → Mem → Mem → Prop) (k : Nat) (σX σM : Mem) : Prop := (∀ a1 a2 : Int32, ∃ oX oM : Int32 × Mem, fX7_cell a1 a2 σX = some oX ∧ fX8_cell a1 a2 σM = some oM ∧ oX.1 = oM.1 ∧ Rel (k + 1) oX.2 oM.2)
def Sim_needed (Rel : Nat → Mem → Mem → Prop) (k : Nat) (σX σM : Mem) : Prop := (∀ a1 : Int32, ∃ oX oM : Int32 × Mem, fX7_needed a1 σX = some oX ∧ fX8_needed a1 σM = some oM ∧ oX.1 = oM.1 ∧ Rel (k + 1) oX.2 oM.2)
def Sim_run (Rel : Nat → Mem → Mem → Prop) (k : Nat) (σX σM : Mem) : Prop := (∀ a1 a2 a3 : Int32, ∃ oX oM : Int32 × Mem, fX7_run a1 a2 a3 σX = some oX ∧ fX8_run a1 a2 a3 σM = some oM ∧ oX.1 = oM.1 ∧ Rel (k + 1) oX.2 oM.2)
def Sim_runReduced (Rel : Nat → Mem → Mem → Prop) (k : Nat) (σX σM : Mem) : Prop := (∀ a1 a2 a3 : Int32, ∃ oX oM : Int32 × Mem, fX7_runReduced a1 a2 a3 σX = some oX ∧ fX8_runReduced a1 a2 a3 σM = some oM ∧ oX.1 = oM.1 ∧ Rel (k + 1) oX.2 oM.2)
def Sim_seen (Rel : Nat → Mem → Mem → Prop) (k : Nat) (σX σM : Mem) : Prop := (∀ a1 : Int32, ∃ oX oM : Int32 × Mem, fX7_seen a1 σX = some oX ∧ fX8_seen a1 σM = some oM ∧ oX.1 = oM.1 ∧ Rel (k + 1) oX.2 oM.2)
def Sim_ahead (Rel : Nat → Mem → Mem → Prop) (k : Nat) (σX σM : Mem) : Prop := (∀ a1 a2 a3 : Int32, ∃ oX oM : Int32 × Mem, fX7_ahead a1 a2 a3 σX = some oX ∧ fX8_ahead a1 a2 a3 σM = some oM ∧ oX.1 = oM.1 ∧ Rel (k + 1) oX.2 oM.2)
def Sim_swapped (Rel : Nat → Mem → Mem → Prop) (k : Nat) (σX σM : Mem) : Prop := (∀ a1 a2 a3 a4 : Int32, ∃ oX oM : Int32 × Mem, fX7_swapped a1 a2 a3 a4 σX = some oX ∧ fX8_swapped a1 a2 a3 a4 σM = some oM ∧ oX.1 = oM.1 ∧ Rel (k + 1) oX.2 oM.2)
def Sim (Rel : Nat → Mem → Mem → Prop) : Prop := ∀ (k : Nat) (σX σM : Mem), k < 512 → Rel k σX σM → Rel (k + 1) σX σM ∧ Sim_number Rel k σX σM ∧ Sim_input Rel k σX σM ∧ Sim_carried Rel k σX σM ∧ Sim_op Rel k σX σM ∧ Sim_next Rel k σX σM ∧ Sim_pop Rel k σX σM ∧ Sim_test Rel k σX σM ∧ Sim_show Rel k σX σM ∧ Sim_count Rel k σX σM ∧ Sim_of Rel k σX σM ∧ Sim_cycle Rel k σX σM ∧ Sim_form Rel k σX σM ∧ Sim_poly Rel k σX σM ∧ Sim_value Rel k σX σM ∧ Sim_told Rel k σX σM ∧ Sim_reduced Rel k σX σM ∧ Sim_cell Rel k σX σM ∧ Sim_needed Rel k σX σM ∧ Sim_run Rel k σX σM ∧ Sim_runReduced Rel k σX σM ∧ Sim_seen Rel k σX σM ∧ Sim_ahead Rel k σX σM ∧ Sim_swapped Rel k σX σM
set_option maxHeartbeats 4000000 in
set_option maxRecDepth 100000 in
theorem law_number {E : Gx} {cI cL : ClassId} {adX adM : Nat → Nat} {qo b L sa : Nat} {xs : Nat → Int32} (C : CL E cI cL adX adM qo b L sa xs) {Rel : Nat → Mem → Mem → Prop} {k ce sl : Nat} {x4 : Int32} {σX σM : Mem} {fo : Nat → Int64} (hce : ce ≤ room_1.cells ∧ sl ≤ room_1.slots) (hce6 : ce + 1 ≤ room_1.cells ∧ sl + 6 ≤ room_1.slots) (hi1 : vp_in (x4 + 1) L) (hsim : Sim_number Rel k σX σM) (hend : ∀ (τX τM : Mem) (go : Nat → Int64) (ce2 sl2 : Nat), Rel (k + 1) τX τM → ce2 ≤ ce + 1 → sl2 ≤ sl + 6 → GL E cI cL adX adM qo 1102 [(0, .ref b), (1, .ref (adX 7)), (2, .ref (adM 0)), (3, .ref qo), (4, .int x4)] [] τX τM go ce2 sl2) : GL E cI cL adX adM qo 156 [(0, .ref b), (1, .ref (adX 7)), (2, .ref (adM 0)), (3, .ref qo), (4, .int x4)] [] σX σM fo ce sl := by
  obtain ⟨s1, hs1⟩ : ∃ z, xs (x4 + 1).toNatClampNeg = z := ⟨_, rfl⟩
  obtain ⟨oX, oM, hX, hM, heq, hrel⟩ := hsim s1
  refine l_aload_n 157 C dL_156 rfl (j := 1) rfl rfl ?_
  refine l_aload_n 158 C dL_157 rfl (j := 0) rfl rfl ?_
  refine l_iload 160 C dL_158 (j := 4) rfl rfl ?_
  refine l_iconst 161 (v := 1) C dL_160 (by decide) rfl ?_
  refine l_iadd 162 C dL_161 rfl ?_
  refine l_sld 163 C hi1 dL_162 rfl ?_
  rw [hs1]
  refine l_cX 166 C (As := [.int s1]) (o := oX) (mX7_number (a1 := s1) (σ := σX) hX) wl_L_27 wi_X7_number wz_X7_number wc_X7_number wn_X7 qX7_number rfl rfl ⟨Nat.le_of_ble_eq_true rfl, Nat.le_of_ble_eq_true rfl⟩ rfl rfl (Nat.le_of_ble_eq_true rfl) hce dL_163 rfl ?_
  refine l_aload_n 167 C dL_166 rfl (j := 2) rfl rfl ?_
  refine l_aload_n 168 C dL_167 rfl (j := 0) rfl rfl ?_
  refine l_iload 170 C dL_168 (j := 4) rfl rfl ?_
  refine l_iconst 171 (v := 1) C dL_170 (by decide) rfl ?_
  refine l_iadd 172 C dL_171 rfl ?_
  refine l_sld 173 C hi1 dL_172 rfl ?_
  rw [hs1]
  refine l_cM 176 C (As := [.int s1]) (o := oM) (mX8_number (a1 := s1) (σ := σM) hM) wl_L_31 wi_X8_number wz_X8_number wc_X8_number wn_X8 qX8_number rfl rfl ⟨Nat.le_of_ble_eq_true rfl, Nat.le_of_ble_eq_true rfl⟩ rfl rfl (Nat.le_of_ble_eq_true rfl) hce dL_173 rfl ?_
  refine l_icmp_eq 1102 179 C dL_176 (by decide) rfl (fun hc => ?_) (fun hc => ?_)
  · refine l_sub [0, 1, 2, 3, 4] ?_ rfl
    exact hend _ _ _ _ _ hrel (by omega) (by omega)
  · exact absurd (heq) hc
set_option maxHeartbeats 4000000 in
set_option maxRecDepth 100000 in
theorem law_input {E : Gx} {cI cL : ClassId} {adX adM : Nat → Nat} {qo b L sa : Nat} {xs : Nat → Int32} (C : CL E cI cL adX adM qo b L sa xs) {Rel : Nat → Mem → Mem → Prop} {k ce sl : Nat} {x4 : Int32} {σX σM : Mem} {fo : Nat → Int64} (hce : ce ≤ room_1.cells ∧ sl ≤ room_1.slots) (hce6 : ce + 1 ≤ room_1.cells ∧ sl + 6 ≤ room_1.slots) (hsim : Sim_input Rel k σX σM) (hend : ∀ (τX τM : Mem) (go : Nat → Int64) (ce2 sl2 : Nat), Rel (k + 1) τX τM → ce2 ≤ ce + 1 → sl2 ≤ sl + 6 → GL E cI cL adX adM qo 1102 [(0, .ref b), (1, .ref (adX 7)), (2, .ref (adM 0)), (3, .ref qo), (4, .int x4)] [] τX τM go ce2 sl2) : GL E cI cL adX adM qo 181 [(0, .ref b), (1, .ref (adX 7)), (2, .ref (adM 0)), (3, .ref qo), (4, .int x4)] [] σX σM fo ce sl := by

  obtain ⟨oX, oM, hX, hM, heq, hrel⟩ := hsim
  refine l_aload_n 182 C dL_181 rfl (j := 1) rfl rfl ?_
  refine l_cX 185 C (As := []) (o := oX) (mX7_input (σ := σX) hX) wl_L_32 wi_X7_input wz_X7_input wc_X7_input wn_X7 qX7_input rfl rfl ⟨Nat.le_of_ble_eq_true rfl, Nat.le_of_ble_eq_true rfl⟩ rfl rfl (Nat.le_of_ble_eq_true rfl) hce dL_182 rfl ?_
  refine l_aload_n 186 C dL_185 rfl (j := 2) rfl rfl ?_
  refine l_cM 189 C (As := []) (o := oM) (mX8_input (σ := σM) hM) wl_L_36 wi_X8_input wz_X8_input wc_X8_input wn_X8 qX8_input rfl rfl ⟨Nat.le_of_ble_eq_true rfl, Nat.le_of_ble_eq_true rfl⟩ rfl rfl (Nat.le_of_ble_eq_true rfl) hce dL_186 rfl ?_
  refine l_icmp_eq 1102 192 C dL_189 (by decide) rfl (fun hc => ?_) (fun hc => ?_)
  · refine l_sub [0, 1, 2, 3, 4] ?_ rfl
    exact hend _ _ _ _ _ hrel (by omega) (by omega)
  · exact absurd (heq) hc
set_option maxHeartbeats 4000000 in
set_option maxRecDepth 100000 in
theorem law_carried {E : Gx} {cI cL : ClassId} {adX adM : Nat → Nat} {qo b L sa : Nat} {xs : Nat → Int32} (C : CL E cI cL adX adM qo b L sa xs) {Rel : Nat → Mem → Mem → Prop} {k ce sl : Nat} {x4 : Int32} {σX σM : Mem} {fo : Nat → Int64} (hce : ce ≤ room_1.cells ∧ sl ≤ room_1.slots) (hce6 : ce + 1 ≤ room_1.cells ∧ sl + 6 ≤ room_1.slots) (hi1 : vp_in (x4 + 1) L) (hsim : Sim_carried Rel k σX σM) (hend : ∀ (τX τM : Mem) (go : Nat → Int64) (ce2 sl2 : Nat), Rel (k + 1) τX τM → ce2 ≤ ce + 1 → sl2 ≤ sl + 6 → GL E cI cL adX adM qo 1102 [(0, .ref b), (1, .ref (adX 7)), (2, .ref (adM 0)), (3, .ref qo), (4, .int x4)] [] τX τM go ce2 sl2) : GL E cI cL adX adM qo 194 [(0, .ref b), (1, .ref (adX 7)), (2, .ref (adM 0)), (3, .ref qo), (4, .int x4)] [] σX σM fo ce sl := by
  obtain ⟨s1, hs1⟩ : ∃ z, xs (x4 + 1).toNatClampNeg = z := ⟨_, rfl⟩
  obtain ⟨oX, oM, hX, hM, heq, hrel⟩ := hsim s1
  refine l_aload_n 195 C dL_194 rfl (j := 1) rfl rfl ?_
  refine l_aload_n 196 C dL_195 rfl (j := 0) rfl rfl ?_
  refine l_iload 198 C dL_196 (j := 4) rfl rfl ?_
  refine l_iconst 199 (v := 1) C dL_198 (by decide) rfl ?_
  refine l_iadd 200 C dL_199 rfl ?_
  refine l_sld 201 C hi1 dL_200 rfl ?_
  rw [hs1]
  refine l_cX 204 C (As := [.int s1]) (o := oX) (mX7_carried (a1 := s1) (σ := σX) hX) wl_L_37 wi_X7_carried wz_X7_carried wc_X7_carried wn_X7 qX7_carried rfl rfl ⟨Nat.le_of_ble_eq_true rfl, Nat.le_of_ble_eq_true rfl⟩ rfl rfl (Nat.le_of_ble_eq_true rfl) hce dL_201 rfl ?_
  refine l_aload_n 205 C dL_204 rfl (j := 2) rfl rfl ?_
  refine l_aload_n 206 C dL_205 rfl (j := 0) rfl rfl ?_
  refine l_iload 208 C dL_206 (j := 4) rfl rfl ?_
  refine l_iconst 209 (v := 1) C dL_208 (by decide) rfl ?_
  refine l_iadd 210 C dL_209 rfl ?_
  refine l_sld 211 C hi1 dL_210 rfl ?_
  rw [hs1]
  refine l_cM 214 C (As := [.int s1]) (o := oM) (mX8_carried (a1 := s1) (σ := σM) hM) wl_L_40 wi_X8_carried wz_X8_carried wc_X8_carried wn_X8 qX8_carried rfl rfl ⟨Nat.le_of_ble_eq_true rfl, Nat.le_of_ble_eq_true rfl⟩ rfl rfl (Nat.le_of_ble_eq_true rfl) hce dL_211 rfl ?_
  refine l_icmp_eq 1102 217 C dL_214 (by decide) rfl (fun hc => ?_) (fun hc => ?_)
  · refine l_sub [0, 1, 2, 3, 4] ?_ rfl
    exact hend _ _ _ _ _ hrel (by omega) (by omega)
  · exact absurd (heq) hc
set_option maxHeartbeats 4000000 in
set_option maxRecDepth 100000 in
theorem law_op {E : Gx} {cI cL : ClassId} {adX adM : Nat → Nat} {qo b L sa : Nat} {xs : Nat → Int32} (C : CL E cI cL adX adM qo b L sa xs) {Rel : Nat → Mem → Mem → Prop} {k ce sl : Nat} {x4 : Int32} {σX σM : Mem} {fo : Nat → Int64} (hce : ce ≤ room_1.cells ∧ sl ≤ room_1.slots) (hce6 : ce + 1 ≤ room_1.cells ∧ sl + 6 ≤ room_1.slots) (hi1 : vp_in (x4 + 1) L) (hi2 : vp_in (x4 + 2) L) (hi3 : vp_in (x4 + 3) L) (hsim : Sim_op Rel k σX σM) (hend : ∀ (τX τM : Mem) (go : Nat → Int64) (ce2 sl2 : Nat), Rel (k + 1) τX τM → ce2 ≤ ce + 1 → sl2 ≤ sl + 6 → GL E cI cL adX adM qo 1102 [(0, .ref b), (1, .ref (adX 7)), (2, .ref (adM 0)), (3, .ref qo), (4, .int x4)] [] τX τM go ce2 sl2) : GL E cI cL adX adM qo 219 [(0, .ref b), (1, .ref (adX 7)), (2, .ref (adM 0)), (3, .ref qo), (4, .int x4)] [] σX σM fo ce sl := by
  obtain ⟨s1, hs1⟩ : ∃ z, xs (x4 + 1).toNatClampNeg = z := ⟨_, rfl⟩
  obtain ⟨s2, hs2⟩ : ∃ z, xs (x4 + 2).toNatClampNeg = z := ⟨_, rfl⟩
  obtain ⟨s3, hs3⟩ : ∃ z, xs (x4 + 3).toNatClampNeg = z := ⟨_, rfl⟩
  obtain ⟨oX, oM, hX, hM, heq, hrel⟩ := hsim s1 s2 s3
  refine l_aload_n 220 C dL_219 rfl (j := 1) rfl rfl ?_
  refine l_aload_n 221 C dL_220 rfl (j := 0) rfl rfl ?_
  refine l_iload 223 C dL_221 (j := 4) rfl rfl ?_
  refine l_iconst 224 (v := 1) C dL_223 (by decide) rfl ?_
  refine l_iadd 225 C dL_224 rfl ?_
  refine l_sld 226 C hi1 dL_225 rfl ?_
  rw [hs1]
  refine l_aload_n 227 C dL_226 rfl (j := 0) rfl rfl ?_
  refine l_iload 229 C dL_227 (j := 4) rfl rfl ?_
  refine l_iconst 230 (v := 2) C dL_229 (by decide) rfl ?_
  refine l_iadd 231 C dL_230 rfl ?_
  refine l_sld 232 C hi2 dL_231 rfl ?_
  rw [hs2]
  refine l_aload_n 233 C dL_232 rfl (j := 0) rfl rfl ?_
  refine l_iload 235 C dL_233 (j := 4) rfl rfl ?_
  refine l_iconst 236 (v := 3) C dL_235 (by decide) rfl ?_
  refine l_iadd 237 C dL_236 rfl ?_
  refine l_sld 238 C hi3 dL_237 rfl ?_
  rw [hs3]
  refine l_cX 241 C (As := [.int s1, .int s2, .int s3]) (o := oX) (mX7_op (a1 := s1) (a2 := s2) (a3 := s3) (σ := σX) hX) wl_L_41 wi_X7_op wz_X7_op wc_X7_op wn_X7 qX7_op rfl rfl ⟨Nat.le_of_ble_eq_true rfl, Nat.le_of_ble_eq_true rfl⟩ rfl rfl (Nat.le_of_ble_eq_true rfl) hce dL_238 rfl ?_
  refine l_aload_n 242 C dL_241 rfl (j := 2) rfl rfl ?_
  refine l_aload_n 243 C dL_242 rfl (j := 0) rfl rfl ?_
  refine l_iload 245 C dL_243 (j := 4) rfl rfl ?_
  refine l_iconst 246 (v := 1) C dL_245 (by decide) rfl ?_
  refine l_iadd 247 C dL_246 rfl ?_
  refine l_sld 248 C hi1 dL_247 rfl ?_
  rw [hs1]
  refine l_aload_n 249 C dL_248 rfl (j := 0) rfl rfl ?_
  refine l_iload 251 C dL_249 (j := 4) rfl rfl ?_
  refine l_iconst 252 (v := 2) C dL_251 (by decide) rfl ?_
  refine l_iadd 253 C dL_252 rfl ?_
  refine l_sld 254 C hi2 dL_253 rfl ?_
  rw [hs2]
  refine l_aload_n 255 C dL_254 rfl (j := 0) rfl rfl ?_
  refine l_iload 257 C dL_255 (j := 4) rfl rfl ?_
  refine l_iconst 258 (v := 3) C dL_257 (by decide) rfl ?_
  refine l_iadd 259 C dL_258 rfl ?_
  refine l_sld 260 C hi3 dL_259 rfl ?_
  rw [hs3]
  refine l_cM 263 C (As := [.int s1, .int s2, .int s3]) (o := oM) (mX8_op (a1 := s1) (a2 := s2) (a3 := s3) (σ := σM) hM) wl_L_45 wi_X8_op wz_X8_op wc_X8_op wn_X8 qX8_op rfl rfl ⟨Nat.le_of_ble_eq_true rfl, Nat.le_of_ble_eq_true rfl⟩ rfl rfl (Nat.le_of_ble_eq_true rfl) hce dL_260 rfl ?_
  refine l_icmp_eq 1102 266 C dL_263 (by decide) rfl (fun hc => ?_) (fun hc => ?_)
  · refine l_sub [0, 1, 2, 3, 4] ?_ rfl
    exact hend _ _ _ _ _ hrel (by omega) (by omega)
  · exact absurd (heq) hc
set_option maxHeartbeats 4000000 in
set_option maxRecDepth 100000 in
theorem law_next {E : Gx} {cI cL : ClassId} {adX adM : Nat → Nat} {qo b L sa : Nat} {xs : Nat → Int32} (C : CL E cI cL adX adM qo b L sa xs) {Rel : Nat → Mem → Mem → Prop} {k ce sl : Nat} {x4 : Int32} {σX σM : Mem} {fo : Nat → Int64} (hce : ce ≤ room_1.cells ∧ sl ≤ room_1.slots) (hce6 : ce + 1 ≤ room_1.cells ∧ sl + 6 ≤ room_1.slots) (hi1 : vp_in (x4 + 1) L) (hi2 : vp_in (x4 + 2) L) (hsim : Sim_next Rel k σX σM) (hend : ∀ (τX τM : Mem) (go : Nat → Int64) (ce2 sl2 : Nat), Rel (k + 1) τX τM → ce2 ≤ ce + 1 → sl2 ≤ sl + 6 → GL E cI cL adX adM qo 1102 [(0, .ref b), (1, .ref (adX 7)), (2, .ref (adM 0)), (3, .ref qo), (4, .int x4)] [] τX τM go ce2 sl2) : GL E cI cL adX adM qo 268 [(0, .ref b), (1, .ref (adX 7)), (2, .ref (adM 0)), (3, .ref qo), (4, .int x4)] [] σX σM fo ce sl := by
  obtain ⟨s1, hs1⟩ : ∃ z, xs (x4 + 1).toNatClampNeg = z := ⟨_, rfl⟩
  obtain ⟨s2, hs2⟩ : ∃ z, xs (x4 + 2).toNatClampNeg = z := ⟨_, rfl⟩
  obtain ⟨oX, oM, hX, hM, heq, hrel⟩ := hsim s1 s2
  refine l_aload_n 269 C dL_268 rfl (j := 1) rfl rfl ?_
  refine l_aload_n 270 C dL_269 rfl (j := 0) rfl rfl ?_
  refine l_iload 272 C dL_270 (j := 4) rfl rfl ?_
  refine l_iconst 273 (v := 1) C dL_272 (by decide) rfl ?_
  refine l_iadd 274 C dL_273 rfl ?_
  refine l_sld 275 C hi1 dL_274 rfl ?_
  rw [hs1]
  refine l_aload_n 276 C dL_275 rfl (j := 0) rfl rfl ?_
  refine l_iload 278 C dL_276 (j := 4) rfl rfl ?_
  refine l_iconst 279 (v := 2) C dL_278 (by decide) rfl ?_
  refine l_iadd 280 C dL_279 rfl ?_
  refine l_sld 281 C hi2 dL_280 rfl ?_
  rw [hs2]
  refine l_cX 284 C (As := [.int s1, .int s2]) (o := oX) (mX7_next (a1 := s1) (a2 := s2) (σ := σX) hX) wl_L_46 wi_X7_next wz_X7_next wc_X7_next wn_X7 qX7_next rfl rfl ⟨Nat.le_of_ble_eq_true rfl, Nat.le_of_ble_eq_true rfl⟩ rfl rfl (Nat.le_of_ble_eq_true rfl) hce dL_281 rfl ?_
  refine l_aload_n 285 C dL_284 rfl (j := 2) rfl rfl ?_
  refine l_aload_n 286 C dL_285 rfl (j := 0) rfl rfl ?_
  refine l_iload 288 C dL_286 (j := 4) rfl rfl ?_
  refine l_iconst 289 (v := 1) C dL_288 (by decide) rfl ?_
  refine l_iadd 290 C dL_289 rfl ?_
  refine l_sld 291 C hi1 dL_290 rfl ?_
  rw [hs1]
  refine l_aload_n 292 C dL_291 rfl (j := 0) rfl rfl ?_
  refine l_iload 294 C dL_292 (j := 4) rfl rfl ?_
  refine l_iconst 295 (v := 2) C dL_294 (by decide) rfl ?_
  refine l_iadd 296 C dL_295 rfl ?_
  refine l_sld 297 C hi2 dL_296 rfl ?_
  rw [hs2]
  refine l_cM 300 C (As := [.int s1, .int s2]) (o := oM) (mX8_next (a1 := s1) (a2 := s2) (σ := σM) hM) wl_L_50 wi_X8_next wz_X8_next wc_X8_next wn_X8 qX8_next rfl rfl ⟨Nat.le_of_ble_eq_true rfl, Nat.le_of_ble_eq_true rfl⟩ rfl rfl (Nat.le_of_ble_eq_true rfl) hce dL_297 rfl ?_
  refine l_icmp_eq 1102 303 C dL_300 (by decide) rfl (fun hc => ?_) (fun hc => ?_)
  · refine l_sub [0, 1, 2, 3, 4] ?_ rfl
    exact hend _ _ _ _ _ hrel (by omega) (by omega)
  · exact absurd (heq) hc
set_option maxHeartbeats 4000000 in
set_option maxRecDepth 100000 in
theorem law_pop {E : Gx} {cI cL : ClassId} {adX adM : Nat → Nat} {qo b L sa : Nat} {xs : Nat → Int32} (C : CL E cI cL adX adM qo b L sa xs) {Rel : Nat → Mem → Mem → Prop} {k ce sl : Nat} {x4 : Int32} {σX σM : Mem} {fo : Nat → Int64} (hce : ce ≤ room_1.cells ∧ sl ≤ room_1.slots) (hce6 : ce + 1 ≤ room_1.cells ∧ sl + 6 ≤ room_1.slots) (hsim : Sim_pop Rel k σX σM) (hend : ∀ (τX τM : Mem) (go : Nat → Int64) (ce2 sl2 : Nat), Rel (k + 1) τX τM → ce2 ≤ ce + 1 → sl2 ≤ sl + 6 → GL E cI cL adX adM qo 1102 [(0, .ref b), (1, .ref (adX 7)), (2, .ref (adM 0)), (3, .ref qo), (4, .int x4)] [] τX τM go ce2 sl2) : GL E cI cL adX adM qo 305 [(0, .ref b), (1, .ref (adX 7)), (2, .ref (adM 0)), (3, .ref qo), (4, .int x4)] [] σX σM fo ce sl := by

  obtain ⟨oX, oM, hX, hM, heq, hrel⟩ := hsim
  refine l_aload_n 306 C dL_305 rfl (j := 1) rfl rfl ?_
  refine l_cX 309 C (As := []) (o := oX) (mX7_pop (σ := σX) hX) wl_L_51 wi_X7_pop wz_X7_pop wc_X7_pop wn_X7 qX7_pop rfl rfl ⟨Nat.le_of_ble_eq_true rfl, Nat.le_of_ble_eq_true rfl⟩ rfl rfl (Nat.le_of_ble_eq_true rfl) hce dL_306 rfl ?_
  refine l_aload_n 310 C dL_309 rfl (j := 2) rfl rfl ?_
  refine l_cM 313 C (As := []) (o := oM) (mX8_pop (σ := σM) hM) wl_L_54 wi_X8_pop wz_X8_pop wc_X8_pop wn_X8 qX8_pop rfl rfl ⟨Nat.le_of_ble_eq_true rfl, Nat.le_of_ble_eq_true rfl⟩ rfl rfl (Nat.le_of_ble_eq_true rfl) hce dL_310 rfl ?_
  refine l_icmp_eq 1102 316 C dL_313 (by decide) rfl (fun hc => ?_) (fun hc => ?_)
  · refine l_sub [0, 1, 2, 3, 4] ?_ rfl
    exact hend _ _ _ _ _ hrel (by omega) (by omega)
  · exact absurd (heq) hc
set_option maxHeartbeats 4000000 in
set_option maxRecDepth 100000 in
theorem law_test {E : Gx} {cI cL : ClassId} {adX adM : Nat → Nat} {qo b L sa : Nat} {xs : Nat → Int32} (C : CL E cI cL adX adM qo b L sa xs) {Rel : Nat → Mem → Mem → Prop} {k ce sl : Nat} {x4 : Int32} {σX σM : Mem} {fo : Nat → Int64} (hce : ce ≤ room_1.cells ∧ sl ≤ room_1.slots) (hce6 : ce + 1 ≤ room_1.cells ∧ sl + 6 ≤ room_1.slots) (hi1 : vp_in (x4 + 1) L) (hi2 : vp_in (x4 + 2) L) (hi3 : vp_in (x4 + 3) L) (hsim : Sim_test Rel k σX σM) (hend : ∀ (τX τM : Mem) (go : Nat → Int64) (ce2 sl2 : Nat), Rel (k + 1) τX τM → ce2 ≤ ce + 1 → sl2 ≤ sl + 6 → GL E cI cL adX adM qo 1102 [(0, .ref b), (1, .ref (adX 7)), (2, .ref (adM 0)), (3, .ref qo), (4, .int x4)] [] τX τM go ce2 sl2) : GL E cI cL adX adM qo 318 [(0, .ref b), (1, .ref (adX 7)), (2, .ref (adM 0)), (3, .ref qo), (4, .int x4)] [] σX σM fo ce sl := by
  obtain ⟨s1, hs1⟩ : ∃ z, xs (x4 + 1).toNatClampNeg = z := ⟨_, rfl⟩
  obtain ⟨s2, hs2⟩ : ∃ z, xs (x4 + 2).toNatClampNeg = z := ⟨_, rfl⟩
  obtain ⟨s3, hs3⟩ : ∃ z, xs (x4 + 3).toNatClampNeg = z := ⟨_, rfl⟩
  obtain ⟨oX, oM, hX, hM, heq, hrel⟩ := hsim s1 s2 s3
  refine l_aload_n 319 C dL_318 rfl (j := 1) rfl rfl ?_
  refine l_aload_n 320 C dL_319 rfl (j := 0) rfl rfl ?_
  refine l_iload 322 C dL_320 (j := 4) rfl rfl ?_
  refine l_iconst 323 (v := 1) C dL_322 (by decide) rfl ?_
  refine l_iadd 324 C dL_323 rfl ?_
  refine l_sld 325 C hi1 dL_324 rfl ?_
  rw [hs1]
  refine l_aload_n 326 C dL_325 rfl (j := 0) rfl rfl ?_
  refine l_iload 328 C dL_326 (j := 4) rfl rfl ?_
  refine l_iconst 329 (v := 2) C dL_328 (by decide) rfl ?_
  refine l_iadd 330 C dL_329 rfl ?_
  refine l_sld 331 C hi2 dL_330 rfl ?_
  rw [hs2]
  refine l_aload_n 332 C dL_331 rfl (j := 0) rfl rfl ?_
  refine l_iload 334 C dL_332 (j := 4) rfl rfl ?_
  refine l_iconst 335 (v := 3) C dL_334 (by decide) rfl ?_
  refine l_iadd 336 C dL_335 rfl ?_
  refine l_sld 337 C hi3 dL_336 rfl ?_
  rw [hs3]
  refine l_cX 340 C (As := [.int s1, .int s2, .int s3]) (o := oX) (mX7_test (a1 := s1) (a2 := s2) (a3 := s3) (σ := σX) hX) wl_L_55 wi_X7_test wz_X7_test wc_X7_test wn_X7 qX7_test rfl rfl ⟨Nat.le_of_ble_eq_true rfl, Nat.le_of_ble_eq_true rfl⟩ rfl rfl (Nat.le_of_ble_eq_true rfl) hce dL_337 rfl ?_
  refine l_aload_n 341 C dL_340 rfl (j := 2) rfl rfl ?_
  refine l_aload_n 342 C dL_341 rfl (j := 0) rfl rfl ?_
  refine l_iload 344 C dL_342 (j := 4) rfl rfl ?_
  refine l_iconst 345 (v := 1) C dL_344 (by decide) rfl ?_
  refine l_iadd 346 C dL_345 rfl ?_
  refine l_sld 347 C hi1 dL_346 rfl ?_
  rw [hs1]
  refine l_aload_n 348 C dL_347 rfl (j := 0) rfl rfl ?_
  refine l_iload 350 C dL_348 (j := 4) rfl rfl ?_
  refine l_iconst 351 (v := 2) C dL_350 (by decide) rfl ?_
  refine l_iadd 352 C dL_351 rfl ?_
  refine l_sld 353 C hi2 dL_352 rfl ?_
  rw [hs2]
  refine l_aload_n 354 C dL_353 rfl (j := 0) rfl rfl ?_
  refine l_iload 356 C dL_354 (j := 4) rfl rfl ?_
  refine l_iconst 357 (v := 3) C dL_356 (by decide) rfl ?_
  refine l_iadd 358 C dL_357 rfl ?_
  refine l_sld 359 C hi3 dL_358 rfl ?_
  rw [hs3]
  refine l_cM 362 C (As := [.int s1, .int s2, .int s3]) (o := oM) (mX8_test (a1 := s1) (a2 := s2) (a3 := s3) (σ := σM) hM) wl_L_59 wi_X8_test wz_X8_test wc_X8_test wn_X8 qX8_test rfl rfl ⟨Nat.le_of_ble_eq_true rfl, Nat.le_of_ble_eq_true rfl⟩ rfl rfl (Nat.le_of_ble_eq_true rfl) hce dL_359 rfl ?_
  refine l_icmp_eq 1102 365 C dL_362 (by decide) rfl (fun hc => ?_) (fun hc => ?_)
  · refine l_sub [0, 1, 2, 3, 4] ?_ rfl
    exact hend _ _ _ _ _ hrel (by omega) (by omega)
  · exact absurd (heq) hc
set_option maxHeartbeats 4000000 in
set_option maxRecDepth 100000 in
theorem law_show {E : Gx} {cI cL : ClassId} {adX adM : Nat → Nat} {qo b L sa : Nat} {xs : Nat → Int32} (C : CL E cI cL adX adM qo b L sa xs) {Rel : Nat → Mem → Mem → Prop} {k ce sl : Nat} {x4 : Int32} {σX σM : Mem} {fo : Nat → Int64} (hce : ce ≤ room_1.cells ∧ sl ≤ room_1.slots) (hce6 : ce + 1 ≤ room_1.cells ∧ sl + 6 ≤ room_1.slots) (hi1 : vp_in (x4 + 1) L) (hi2 : vp_in (x4 + 2) L) (hsim : Sim_show Rel k σX σM) (hend : ∀ (τX τM : Mem) (go : Nat → Int64) (ce2 sl2 : Nat), Rel (k + 1) τX τM → ce2 ≤ ce + 1 → sl2 ≤ sl + 6 → GL E cI cL adX adM qo 1102 [(0, .ref b), (1, .ref (adX 7)), (2, .ref (adM 0)), (3, .ref qo), (4, .int x4)] [] τX τM go ce2 sl2) : GL E cI cL adX adM qo 367 [(0, .ref b), (1, .ref (adX 7)), (2, .ref (adM 0)), (3, .ref qo), (4, .int x4)] [] σX σM fo ce sl := by
  obtain ⟨s1, hs1⟩ : ∃ z, xs (x4 + 1).toNatClampNeg = z := ⟨_, rfl⟩
  obtain ⟨s2, hs2⟩ : ∃ z, xs (x4 + 2).toNatClampNeg = z := ⟨_, rfl⟩
  by_cases hz : s2 = 0
  · obtain ⟨oX, oM, hX, hM, heq, hrel⟩ := hsim s1 0 (Or.inl rfl)
    refine l_aload_n 368 C dL_367 rfl (j := 1) rfl rfl ?_
    refine l_aload_n 369 C dL_368 rfl (j := 0) rfl rfl ?_
    refine l_iload 371 C dL_369 (j := 4) rfl rfl ?_
    refine l_iconst 372 (v := 1) C dL_371 (by decide) rfl ?_
    refine l_iadd 373 C dL_372 rfl ?_
    refine l_sld 374 C hi1 dL_373 rfl ?_
    rw [hs1]
    refine l_aload_n 375 C dL_374 rfl (j := 0) rfl rfl ?_
    refine l_iload 377 C dL_375 (j := 4) rfl rfl ?_
    refine l_iconst 378 (v := 2) C dL_377 (by decide) rfl ?_
    refine l_iadd 379 C dL_378 rfl ?_
    refine l_sld 380 C hi2 dL_379 rfl ?_
    rw [hs2]
    refine l_if_eq 387 383 C dL_380 (by decide) rfl (fun hc => ?_) (fun hc => ?_)
    · refine l_iconst 388 (v := 0) C dL_387 (by decide) rfl ?_
      refine l_cX 391 C (As := [.int s1, .int 0]) (o := oX) (mX7_show (a1 := s1) (a2 := 0) (σ := σX) hX) wl_L_60 wi_X7_show wz_X7_show wc_X7_show wn_X7 qX7_show rfl rfl ⟨Nat.le_of_ble_eq_true rfl, Nat.le_of_ble_eq_true rfl⟩ rfl rfl (Nat.le_of_ble_eq_true rfl) hce dL_388 rfl ?_
      refine l_aload_n 392 C dL_391 rfl (j := 2) rfl rfl ?_
      refine l_aload_n 393 C dL_392 rfl (j := 0) rfl rfl ?_
      refine l_iload 395 C dL_393 (j := 4) rfl rfl ?_
      refine l_iconst 396 (v := 1) C dL_395 (by decide) rfl ?_
      refine l_iadd 397 C dL_396 rfl ?_
      refine l_sld 398 C hi1 dL_397 rfl ?_
      rw [hs1]
      refine l_aload_n 399 C dL_398 rfl (j := 0) rfl rfl ?_
      refine l_iload 401 C dL_399 (j := 4) rfl rfl ?_
      refine l_iconst 402 (v := 2) C dL_401 (by decide) rfl ?_
      refine l_iadd 403 C dL_402 rfl ?_
      refine l_sld 404 C hi2 dL_403 rfl ?_
      rw [hs2]
      refine l_if_eq 411 407 C dL_404 (by decide) rfl (fun hc => ?_) (fun hc => ?_)
      · refine l_iconst 412 (v := 0) C dL_411 (by decide) rfl ?_
        refine l_cM 415 C (As := [.int s1, .int 0]) (o := oM) (mX8_show (a1 := s1) (a2 := 0) (σ := σM) hM) wl_L_64 wi_X8_show wz_X8_show wc_X8_show wn_X8 qX8_show rfl rfl ⟨Nat.le_of_ble_eq_true rfl, Nat.le_of_ble_eq_true rfl⟩ rfl rfl (Nat.le_of_ble_eq_true rfl) hce dL_412 rfl ?_
        refine l_icmp_eq 1102 418 C dL_415 (by decide) rfl (fun hc => ?_) (fun hc => ?_)
        · refine l_sub [0, 1, 2, 3, 4] ?_ rfl
          exact hend _ _ _ _ _ hrel (by omega) (by omega)
        · exact absurd (heq) hc
      · exact absurd hz hc
    · exact absurd hz hc
  · obtain ⟨oX, oM, hX, hM, heq, hrel⟩ := hsim s1 1 (Or.inr rfl)
    refine l_aload_n 368 C dL_367 rfl (j := 1) rfl rfl ?_
    refine l_aload_n 369 C dL_368 rfl (j := 0) rfl rfl ?_
    refine l_iload 371 C dL_369 (j := 4) rfl rfl ?_
    refine l_iconst 372 (v := 1) C dL_371 (by decide) rfl ?_
    refine l_iadd 373 C dL_372 rfl ?_
    refine l_sld 374 C hi1 dL_373 rfl ?_
    rw [hs1]
    refine l_aload_n 375 C dL_374 rfl (j := 0) rfl rfl ?_
    refine l_iload 377 C dL_375 (j := 4) rfl rfl ?_
    refine l_iconst 378 (v := 2) C dL_377 (by decide) rfl ?_
    refine l_iadd 379 C dL_378 rfl ?_
    refine l_sld 380 C hi2 dL_379 rfl ?_
    rw [hs2]
    refine l_if_eq 387 383 C dL_380 (by decide) rfl (fun hc => ?_) (fun hc => ?_)
    · exact absurd hc hz
    · refine l_iconst 384 (v := 1) C dL_383 (by decide) rfl ?_
      refine l_goto 388 C dL_384 (by decide) ?_
      refine l_cX 391 C (As := [.int s1, .int 1]) (o := oX) (mX7_show (a1 := s1) (a2 := 1) (σ := σX) hX) wl_L_60 wi_X7_show wz_X7_show wc_X7_show wn_X7 qX7_show rfl rfl ⟨Nat.le_of_ble_eq_true rfl, Nat.le_of_ble_eq_true rfl⟩ rfl rfl (Nat.le_of_ble_eq_true rfl) hce dL_388 rfl ?_
      refine l_aload_n 392 C dL_391 rfl (j := 2) rfl rfl ?_
      refine l_aload_n 393 C dL_392 rfl (j := 0) rfl rfl ?_
      refine l_iload 395 C dL_393 (j := 4) rfl rfl ?_
      refine l_iconst 396 (v := 1) C dL_395 (by decide) rfl ?_
      refine l_iadd 397 C dL_396 rfl ?_
      refine l_sld 398 C hi1 dL_397 rfl ?_
      rw [hs1]
      refine l_aload_n 399 C dL_398 rfl (j := 0) rfl rfl ?_
      refine l_iload 401 C dL_399 (j := 4) rfl rfl ?_
      refine l_iconst 402 (v := 2) C dL_401 (by decide) rfl ?_
      refine l_iadd 403 C dL_402 rfl ?_
      refine l_sld 404 C hi2 dL_403 rfl ?_
      rw [hs2]
      refine l_if_eq 411 407 C dL_404 (by decide) rfl (fun hc => ?_) (fun hc => ?_)
      · exact absurd hc hz
      · refine l_iconst 408 (v := 1) C dL_407 (by decide) rfl ?_
        refine l_goto 412 C dL_408 (by decide) ?_
        refine l_cM 415 C (As := [.int s1, .int 1]) (o := oM) (mX8_show (a1 := s1) (a2 := 1) (σ := σM) hM) wl_L_64 wi_X8_show wz_X8_show wc_X8_show wn_X8 qX8_show rfl rfl ⟨Nat.le_of_ble_eq_true rfl, Nat.le_of_ble_eq_true rfl⟩ rfl rfl (Nat.le_of_ble_eq_true rfl) hce dL_412 rfl ?_
        refine l_icmp_eq 1102 418 C dL_415 (by decide) rfl (fun hc => ?_) (fun hc => ?_)
        · refine l_sub [0, 1, 2, 3, 4] ?_ rfl
          exact hend _ _ _ _ _ hrel (by omega) (by omega)
        · exact absurd (heq) hc
set_option maxHeartbeats 4000000 in
set_option maxRecDepth 100000 in
theorem law_count {E : Gx} {cI cL : ClassId} {adX adM : Nat → Nat} {qo b L sa : Nat} {xs : Nat → Int32} (C : CL E cI cL adX adM qo b L sa xs) {Rel : Nat → Mem → Mem → Prop} {k ce sl : Nat} {x4 : Int32} {σX σM : Mem} {fo : Nat → Int64} (hce : ce ≤ room_1.cells ∧ sl ≤ room_1.slots) (hce6 : ce + 1 ≤ room_1.cells ∧ sl + 6 ≤ room_1.slots) (hi1 : vp_in (x4 + 1) L) (hsim : Sim_count Rel k σX σM) (hend : ∀ (τX τM : Mem) (go : Nat → Int64) (ce2 sl2 : Nat), Rel (k + 1) τX τM → ce2 ≤ ce + 1 → sl2 ≤ sl + 6 → GL E cI cL adX adM qo 1102 [(0, .ref b), (1, .ref (adX 7)), (2, .ref (adM 0)), (3, .ref qo), (4, .int x4)] [] τX τM go ce2 sl2) : GL E cI cL adX adM qo 420 [(0, .ref b), (1, .ref (adX 7)), (2, .ref (adM 0)), (3, .ref qo), (4, .int x4)] [] σX σM fo ce sl := by
  obtain ⟨s1, hs1⟩ : ∃ z, xs (x4 + 1).toNatClampNeg = z := ⟨_, rfl⟩
  obtain ⟨oX, oM, hX, hM, heq, hrel⟩ := hsim s1
  refine l_aload_n 421 C dL_420 rfl (j := 1) rfl rfl ?_
  refine l_aload_n 422 C dL_421 rfl (j := 0) rfl rfl ?_
  refine l_iload 424 C dL_422 (j := 4) rfl rfl ?_
  refine l_iconst 425 (v := 1) C dL_424 (by decide) rfl ?_
  refine l_iadd 426 C dL_425 rfl ?_
  refine l_sld 427 C hi1 dL_426 rfl ?_
  rw [hs1]
  refine l_cX 430 C (As := [.int s1]) (o := oX) (mX7_count (a1 := s1) (σ := σX) hX) wl_L_65 wi_X7_count wz_X7_count wc_X7_count wn_X7 qX7_count rfl rfl ⟨Nat.le_of_ble_eq_true rfl, Nat.le_of_ble_eq_true rfl⟩ rfl rfl (Nat.le_of_ble_eq_true rfl) hce dL_427 rfl ?_
  refine l_aload_n 431 C dL_430 rfl (j := 2) rfl rfl ?_
  refine l_aload_n 432 C dL_431 rfl (j := 0) rfl rfl ?_
  refine l_iload 434 C dL_432 (j := 4) rfl rfl ?_
  refine l_iconst 435 (v := 1) C dL_434 (by decide) rfl ?_
  refine l_iadd 436 C dL_435 rfl ?_
  refine l_sld 437 C hi1 dL_436 rfl ?_
  rw [hs1]
  refine l_cM 440 C (As := [.int s1]) (o := oM) (mX8_count (a1 := s1) (σ := σM) hM) wl_L_68 wi_X8_count wz_X8_count wc_X8_count wn_X8 qX8_count rfl rfl ⟨Nat.le_of_ble_eq_true rfl, Nat.le_of_ble_eq_true rfl⟩ rfl rfl (Nat.le_of_ble_eq_true rfl) hce dL_437 rfl ?_
  refine l_icmp_eq 1102 443 C dL_440 (by decide) rfl (fun hc => ?_) (fun hc => ?_)
  · refine l_sub [0, 1, 2, 3, 4] ?_ rfl
    exact hend _ _ _ _ _ hrel (by omega) (by omega)
  · exact absurd (heq) hc
set_option maxHeartbeats 4000000 in
set_option maxRecDepth 100000 in
theorem law_of {E : Gx} {cI cL : ClassId} {adX adM : Nat → Nat} {qo b L sa : Nat} {xs : Nat → Int32} (C : CL E cI cL adX adM qo b L sa xs) {Rel : Nat → Mem → Mem → Prop} {k ce sl : Nat} {x4 : Int32} {σX σM : Mem} {fo : Nat → Int64} (hce : ce ≤ room_1.cells ∧ sl ≤ room_1.slots) (hce6 : ce + 1 ≤ room_1.cells ∧ sl + 6 ≤ room_1.slots) (hi1 : vp_in (x4 + 1) L) (hi2 : vp_in (x4 + 2) L) (hsim : Sim_of Rel k σX σM) (hend : ∀ (τX τM : Mem) (go : Nat → Int64) (ce2 sl2 : Nat), Rel (k + 1) τX τM → ce2 ≤ ce + 1 → sl2 ≤ sl + 6 → GL E cI cL adX adM qo 1102 [(0, .ref b), (1, .ref (adX 7)), (2, .ref (adM 0)), (3, .ref qo), (4, .int x4)] [] τX τM go ce2 sl2) : GL E cI cL adX adM qo 445 [(0, .ref b), (1, .ref (adX 7)), (2, .ref (adM 0)), (3, .ref qo), (4, .int x4)] [] σX σM fo ce sl := by
  obtain ⟨s1, hs1⟩ : ∃ z, xs (x4 + 1).toNatClampNeg = z := ⟨_, rfl⟩
  obtain ⟨s2, hs2⟩ : ∃ z, xs (x4 + 2).toNatClampNeg = z := ⟨_, rfl⟩
  obtain ⟨out, oM, hX, hM, hrel⟩ := hsim s1 s2
  cases out with
  | inl oX =>
    refine l_aload_n 446 C dL_445 rfl (j := 1) rfl rfl ?_
    refine l_aload_n 447 C dL_446 rfl (j := 0) rfl rfl ?_
    refine l_iload 449 C dL_447 (j := 4) rfl rfl ?_
    refine l_iconst 450 (v := 1) C dL_449 (by decide) rfl ?_
    refine l_iadd 451 C dL_450 rfl ?_
    refine l_sld 452 C hi1 dL_451 rfl ?_
    rw [hs1]
    refine l_aload_n 453 C dL_452 rfl (j := 0) rfl rfl ?_
    refine l_iload 455 C dL_453 (j := 4) rfl rfl ?_
    refine l_iconst 456 (v := 2) C dL_455 (by decide) rfl ?_
    refine l_iadd 457 C dL_456 rfl ?_
    refine l_sld 458 C hi2 dL_457 rfl ?_
    rw [hs2]
    refine l_aload_n 459 C dL_458 rfl (j := 3) rfl rfl ?_
    refine l_of 462 C hX hce6 dL_459 rfl ?_
    show GL E cI cL adX adM qo 462 [(0, .ref b), (1, .ref (adX 7)), (2, .ref (adM 0)), (3, .ref qo), (4, .int x4)] [.int 0] oX.2 σM (vp_updL fo 0 oX.1.toInt64) _ _
    refine l_istore 464 [(5, .int 0), (0, .ref b), (1, .ref (adX 7)), (2, .ref (adM 0)), (3, .ref qo), (4, .int x4)] C dL_462 (by decide) rfl rfl ?_
    refine l_aload_n 465 C dL_464 rfl (j := 3) rfl rfl ?_
    refine l_aload_n 466 C dL_465 rfl (j := 1) rfl rfl ?_
    refine l_iload 468 C dL_466 (j := 5) rfl rfl ?_
    refine l_iconst 469 (v := 1) C dL_468 (by decide) rfl ?_
    refine l_iadd 470 C dL_469 rfl ?_
    refine l_sld 471 C hi1 dL_470 rfl ?_
    rw [hs1]
    refine l_aload_n 472 C dL_471 rfl (j := 1) rfl rfl ?_
    refine l_iload 474 C dL_472 (j := 5) rfl rfl ?_
    refine l_iconst 475 (v := 2) C dL_474 (by decide) rfl ?_
    refine l_iadd 476 C dL_475 rfl ?_
    refine l_sld 477 C hi2 dL_476 rfl ?_
    rw [hs2]
    refine l_cM 480 C (As := [.int s1, .int s2]) (o := oM) (mX8_of (a1 := s1) (a2 := s2) (σ := σM) hM) wl_L_72 wi_X8_of wz_X8_of wc_X8_of wn_X8 qX8_of rfl rfl ⟨Nat.le_of_ble_eq_true rfl, Nat.le_of_ble_eq_true rfl⟩ rfl rfl (Nat.le_of_ble_eq_true rfl) hce6 dL_477 rfl ?_
    refine l_istore 482 [(6, .int oM.1), (5, .int 0), (0, .ref b), (1, .ref (adX 7)), (2, .ref (adM 0)), (3, .ref qo), (4, .int x4)] C dL_480 (by decide) rfl rfl ?_
    refine l_aload_n 483 C dL_482 rfl (j := 4) rfl rfl ?_
    refine l_cM 486 C (As := []) (o := (oM.2 0 2, oM.2)) (mX8_thrown (σ := oM.2) (by unfold fX8_thrown; rfl)) wl_L_73 wi_X8_thrown wz_X8_thrown wc_X8_thrown wn_X8 qX8_thrown rfl rfl ⟨Nat.le_of_ble_eq_true rfl, Nat.le_of_ble_eq_true rfl⟩ rfl rfl (Nat.le_of_ble_eq_true rfl) hce6 dL_483 rfl ?_
    refine l_iload 488 C dL_486 (j := 1) rfl rfl ?_
    refine l_icmp_eq 493 491 C dL_488 (by decide) rfl (fun hc => ?_) (fun hc => ?_)
    · refine l_iload 495 C dL_493 (j := 1) rfl rfl ?_
      refine l_if_ne 510 498 C dL_495 (by decide) rfl (fun hc => ?_) (fun hc => ?_)
      · exact absurd (rfl) hc
      · refine l_aload_n 499 C dL_498 rfl (j := 5) rfl rfl ?_
        refine l_iconst 500 (v := 0) C dL_499 (by decide) rfl ?_
        refine l_lald 501 C dL_500 rfl ?_
        refine l_iload 503 C dL_501 (j := 0) rfl rfl ?_
        refine l_i2l 504 C dL_503 rfl ?_
        refine l_lcmp 505 C dL_504 rfl ?_
        refine l_if_eq 510 508 C dL_505 (by decide) rfl (fun hc => ?_) (fun hc => ?_)
        · refine l_goto 1102 C dL_510 (by decide) ?_
          refine l_sub [2, 3, 4, 5, 6] ?_ rfl
          exact hend _ _ _ _ _ hrel.2.2 (by omega) (by omega)
        · exact absurd (by rw [show vp_updL fo 0 oX.1.toInt64 0 = oX.1.toInt64 from by simp [vp_updL], hrel.2.1]; simp [lg_cmp]) hc
    · exact absurd (hrel.1) hc
  | inr τ =>
    refine l_aload_n 446 C dL_445 rfl (j := 1) rfl rfl ?_
    refine l_aload_n 447 C dL_446 rfl (j := 0) rfl rfl ?_
    refine l_iload 449 C dL_447 (j := 4) rfl rfl ?_
    refine l_iconst 450 (v := 1) C dL_449 (by decide) rfl ?_
    refine l_iadd 451 C dL_450 rfl ?_
    refine l_sld 452 C hi1 dL_451 rfl ?_
    rw [hs1]
    refine l_aload_n 453 C dL_452 rfl (j := 0) rfl rfl ?_
    refine l_iload 455 C dL_453 (j := 4) rfl rfl ?_
    refine l_iconst 456 (v := 2) C dL_455 (by decide) rfl ?_
    refine l_iadd 457 C dL_456 rfl ?_
    refine l_sld 458 C hi2 dL_457 rfl ?_
    rw [hs2]
    refine l_aload_n 459 C dL_458 rfl (j := 3) rfl rfl ?_
    refine l_of 462 C hX hce6 dL_459 rfl ?_
    show GL E cI cL adX adM qo 462 [(0, .ref b), (1, .ref (adX 7)), (2, .ref (adM 0)), (3, .ref qo), (4, .int x4)] [.int 1] τ σM fo _ _
    refine l_istore 464 [(5, .int 1), (0, .ref b), (1, .ref (adX 7)), (2, .ref (adM 0)), (3, .ref qo), (4, .int x4)] C dL_462 (by decide) rfl rfl ?_
    refine l_aload_n 465 C dL_464 rfl (j := 3) rfl rfl ?_
    refine l_aload_n 466 C dL_465 rfl (j := 1) rfl rfl ?_
    refine l_iload 468 C dL_466 (j := 5) rfl rfl ?_
    refine l_iconst 469 (v := 1) C dL_468 (by decide) rfl ?_
    refine l_iadd 470 C dL_469 rfl ?_
    refine l_sld 471 C hi1 dL_470 rfl ?_
    rw [hs1]
    refine l_aload_n 472 C dL_471 rfl (j := 1) rfl rfl ?_
    refine l_iload 474 C dL_472 (j := 5) rfl rfl ?_
    refine l_iconst 475 (v := 2) C dL_474 (by decide) rfl ?_
    refine l_iadd 476 C dL_475 rfl ?_
    refine l_sld 477 C hi2 dL_476 rfl ?_
    rw [hs2]
    refine l_cM 480 C (As := [.int s1, .int s2]) (o := oM) (mX8_of (a1 := s1) (a2 := s2) (σ := σM) hM) wl_L_72 wi_X8_of wz_X8_of wc_X8_of wn_X8 qX8_of rfl rfl ⟨Nat.le_of_ble_eq_true rfl, Nat.le_of_ble_eq_true rfl⟩ rfl rfl (Nat.le_of_ble_eq_true rfl) hce6 dL_477 rfl ?_
    refine l_istore 482 [(6, .int oM.1), (5, .int 1), (0, .ref b), (1, .ref (adX 7)), (2, .ref (adM 0)), (3, .ref qo), (4, .int x4)] C dL_480 (by decide) rfl rfl ?_
    refine l_aload_n 483 C dL_482 rfl (j := 4) rfl rfl ?_
    refine l_cM 486 C (As := []) (o := (oM.2 0 2, oM.2)) (mX8_thrown (σ := oM.2) (by unfold fX8_thrown; rfl)) wl_L_73 wi_X8_thrown wz_X8_thrown wc_X8_thrown wn_X8 qX8_thrown rfl rfl ⟨Nat.le_of_ble_eq_true rfl, Nat.le_of_ble_eq_true rfl⟩ rfl rfl (Nat.le_of_ble_eq_true rfl) hce6 dL_483 rfl ?_
    refine l_iload 488 C dL_486 (j := 1) rfl rfl ?_
    refine l_icmp_eq 493 491 C dL_488 (by decide) rfl (fun hc => ?_) (fun hc => ?_)
    · refine l_iload 495 C dL_493 (j := 1) rfl rfl ?_
      refine l_if_ne 510 498 C dL_495 (by decide) rfl (fun hc => ?_) (fun hc => ?_)
      · refine l_goto 1102 C dL_510 (by decide) ?_
        refine l_sub [2, 3, 4, 5, 6] ?_ rfl
        exact hend _ _ _ _ _ hrel.2 (by omega) (by omega)
      · exact absurd hc (by decide)
    · exact absurd (hrel.1) hc
set_option maxHeartbeats 4000000 in
set_option maxRecDepth 100000 in
theorem law_cycle {E : Gx} {cI cL : ClassId} {adX adM : Nat → Nat} {qo b L sa : Nat} {xs : Nat → Int32} (C : CL E cI cL adX adM qo b L sa xs) {Rel : Nat → Mem → Mem → Prop} {k ce sl : Nat} {x4 : Int32} {σX σM : Mem} {fo : Nat → Int64} (hce : ce ≤ room_1.cells ∧ sl ≤ room_1.slots) (hce6 : ce + 1 ≤ room_1.cells ∧ sl + 6 ≤ room_1.slots) (hi1 : vp_in (x4 + 1) L) (hsim : Sim_cycle Rel k σX σM) (hend : ∀ (τX τM : Mem) (go : Nat → Int64) (ce2 sl2 : Nat), Rel (k + 1) τX τM → ce2 ≤ ce + 1 → sl2 ≤ sl + 6 → GL E cI cL adX adM qo 1102 [(0, .ref b), (1, .ref (adX 7)), (2, .ref (adM 0)), (3, .ref qo), (4, .int x4)] [] τX τM go ce2 sl2) : GL E cI cL adX adM qo 513 [(0, .ref b), (1, .ref (adX 7)), (2, .ref (adM 0)), (3, .ref qo), (4, .int x4)] [] σX σM fo ce sl := by
  obtain ⟨s1, hs1⟩ : ∃ z, xs (x4 + 1).toNatClampNeg = z := ⟨_, rfl⟩
  obtain ⟨oX, oM, hX, hM, heq, hrel⟩ := hsim s1
  refine l_aload_n 514 C dL_513 rfl (j := 1) rfl rfl ?_
  refine l_aload_n 515 C dL_514 rfl (j := 0) rfl rfl ?_
  refine l_iload 517 C dL_515 (j := 4) rfl rfl ?_
  refine l_iconst 518 (v := 1) C dL_517 (by decide) rfl ?_
  refine l_iadd 519 C dL_518 rfl ?_
  refine l_sld 520 C hi1 dL_519 rfl ?_
  rw [hs1]
  refine l_cX 523 C (As := [.int s1]) (o := oX) (mX7_cycle (a1 := s1) (σ := σX) hX) wl_L_76 wi_X7_cycle wz_X7_cycle wc_X7_cycle wn_X7 qX7_cycle rfl rfl ⟨Nat.le_of_ble_eq_true rfl, Nat.le_of_ble_eq_true rfl⟩ rfl rfl (Nat.le_of_ble_eq_true rfl) hce dL_520 rfl ?_
  refine l_aload_n 524 C dL_523 rfl (j := 2) rfl rfl ?_
  refine l_aload_n 525 C dL_524 rfl (j := 0) rfl rfl ?_
  refine l_iload 527 C dL_525 (j := 4) rfl rfl ?_
  refine l_iconst 528 (v := 1) C dL_527 (by decide) rfl ?_
  refine l_iadd 529 C dL_528 rfl ?_
  refine l_sld 530 C hi1 dL_529 rfl ?_
  rw [hs1]
  refine l_cM 533 C (As := [.int s1]) (o := oM) (mX8_cycle (a1 := s1) (σ := σM) hM) wl_L_79 wi_X8_cycle wz_X8_cycle wc_X8_cycle wn_X8 qX8_cycle rfl rfl ⟨Nat.le_of_ble_eq_true rfl, Nat.le_of_ble_eq_true rfl⟩ rfl rfl (Nat.le_of_ble_eq_true rfl) hce dL_530 rfl ?_
  refine l_icmp_eq 1102 536 C dL_533 (by decide) rfl (fun hc => ?_) (fun hc => ?_)
  · refine l_sub [0, 1, 2, 3, 4] ?_ rfl
    exact hend _ _ _ _ _ hrel (by omega) (by omega)
  · exact absurd (heq) hc
set_option maxHeartbeats 4000000 in
set_option maxRecDepth 100000 in
theorem law_form {E : Gx} {cI cL : ClassId} {adX adM : Nat → Nat} {qo b L sa : Nat} {xs : Nat → Int32} (C : CL E cI cL adX adM qo b L sa xs) {Rel : Nat → Mem → Mem → Prop} {k ce sl : Nat} {x4 : Int32} {σX σM : Mem} {fo : Nat → Int64} (hce : ce ≤ room_1.cells ∧ sl ≤ room_1.slots) (hce6 : ce + 1 ≤ room_1.cells ∧ sl + 6 ≤ room_1.slots) (hi1 : vp_in (x4 + 1) L) (hi2 : vp_in (x4 + 2) L) (hsim : Sim_form Rel k σX σM) (hend : ∀ (τX τM : Mem) (go : Nat → Int64) (ce2 sl2 : Nat), Rel (k + 1) τX τM → ce2 ≤ ce + 1 → sl2 ≤ sl + 6 → GL E cI cL adX adM qo 1102 [(0, .ref b), (1, .ref (adX 7)), (2, .ref (adM 0)), (3, .ref qo), (4, .int x4)] [] τX τM go ce2 sl2) : GL E cI cL adX adM qo 538 [(0, .ref b), (1, .ref (adX 7)), (2, .ref (adM 0)), (3, .ref qo), (4, .int x4)] [] σX σM fo ce sl := by
  obtain ⟨s1, hs1⟩ : ∃ z, xs (x4 + 1).toNatClampNeg = z := ⟨_, rfl⟩
  obtain ⟨s2, hs2⟩ : ∃ z, xs (x4 + 2).toNatClampNeg = z := ⟨_, rfl⟩
  obtain ⟨oX, oM, hX, hM, heq, hrel⟩ := hsim s1 s2
  refine l_aload_n 539 C dL_538 rfl (j := 1) rfl rfl ?_
  refine l_aload_n 540 C dL_539 rfl (j := 0) rfl rfl ?_
  refine l_iload 542 C dL_540 (j := 4) rfl rfl ?_
  refine l_iconst 543 (v := 1) C dL_542 (by decide) rfl ?_
  refine l_iadd 544 C dL_543 rfl ?_
  refine l_sld 545 C hi1 dL_544 rfl ?_
  rw [hs1]
  refine l_aload_n 546 C dL_545 rfl (j := 0) rfl rfl ?_
  refine l_iload 548 C dL_546 (j := 4) rfl rfl ?_
  refine l_iconst 549 (v := 2) C dL_548 (by decide) rfl ?_
  refine l_iadd 550 C dL_549 rfl ?_
  refine l_sld 551 C hi2 dL_550 rfl ?_
  rw [hs2]
  refine l_cX 554 C (As := [.int s1, .int s2]) (o := oX) (mX7_form (a1 := s1) (a2 := s2) (σ := σX) hX) wl_L_80 wi_X7_form wz_X7_form wc_X7_form wn_X7 qX7_form rfl rfl ⟨Nat.le_of_ble_eq_true rfl, Nat.le_of_ble_eq_true rfl⟩ rfl rfl (Nat.le_of_ble_eq_true rfl) hce dL_551 rfl ?_
  refine l_aload_n 555 C dL_554 rfl (j := 2) rfl rfl ?_
  refine l_aload_n 556 C dL_555 rfl (j := 0) rfl rfl ?_
  refine l_iload 558 C dL_556 (j := 4) rfl rfl ?_
  refine l_iconst 559 (v := 1) C dL_558 (by decide) rfl ?_
  refine l_iadd 560 C dL_559 rfl ?_
  refine l_sld 561 C hi1 dL_560 rfl ?_
  rw [hs1]
  refine l_aload_n 562 C dL_561 rfl (j := 0) rfl rfl ?_
  refine l_iload 564 C dL_562 (j := 4) rfl rfl ?_
  refine l_iconst 565 (v := 2) C dL_564 (by decide) rfl ?_
  refine l_iadd 566 C dL_565 rfl ?_
  refine l_sld 567 C hi2 dL_566 rfl ?_
  rw [hs2]
  refine l_cM 570 C (As := [.int s1, .int s2]) (o := oM) (mX8_form (a1 := s1) (a2 := s2) (σ := σM) hM) wl_L_83 wi_X8_form wz_X8_form wc_X8_form wn_X8 qX8_form rfl rfl ⟨Nat.le_of_ble_eq_true rfl, Nat.le_of_ble_eq_true rfl⟩ rfl rfl (Nat.le_of_ble_eq_true rfl) hce dL_567 rfl ?_
  refine l_icmp_eq 1102 573 C dL_570 (by decide) rfl (fun hc => ?_) (fun hc => ?_)
  · refine l_sub [0, 1, 2, 3, 4] ?_ rfl
    exact hend _ _ _ _ _ hrel (by omega) (by omega)
  · exact absurd (heq) hc
set_option maxHeartbeats 4000000 in
set_option maxRecDepth 100000 in
theorem law_poly {E : Gx} {cI cL : ClassId} {adX adM : Nat → Nat} {qo b L sa : Nat} {xs : Nat → Int32} (C : CL E cI cL adX adM qo b L sa xs) {Rel : Nat → Mem → Mem → Prop} {k ce sl : Nat} {x4 : Int32} {σX σM : Mem} {fo : Nat → Int64} (hce : ce ≤ room_1.cells ∧ sl ≤ room_1.slots) (hce6 : ce + 1 ≤ room_1.cells ∧ sl + 6 ≤ room_1.slots) (hi1 : vp_in (x4 + 1) L) (hi2 : vp_in (x4 + 2) L) (hi3 : vp_in (x4 + 3) L) (hi4 : vp_in (x4 + 4) L) (hsim : Sim_poly Rel k σX σM) (hend : ∀ (τX τM : Mem) (go : Nat → Int64) (ce2 sl2 : Nat), Rel (k + 1) τX τM → ce2 ≤ ce + 1 → sl2 ≤ sl + 6 → GL E cI cL adX adM qo 1102 [(0, .ref b), (1, .ref (adX 7)), (2, .ref (adM 0)), (3, .ref qo), (4, .int x4)] [] τX τM go ce2 sl2) : GL E cI cL adX adM qo 575 [(0, .ref b), (1, .ref (adX 7)), (2, .ref (adM 0)), (3, .ref qo), (4, .int x4)] [] σX σM fo ce sl := by
  obtain ⟨s1, hs1⟩ : ∃ z, xs (x4 + 1).toNatClampNeg = z := ⟨_, rfl⟩
  obtain ⟨s2, hs2⟩ : ∃ z, xs (x4 + 2).toNatClampNeg = z := ⟨_, rfl⟩
  obtain ⟨s3, hs3⟩ : ∃ z, xs (x4 + 3).toNatClampNeg = z := ⟨_, rfl⟩
  obtain ⟨s4, hs4⟩ : ∃ z, xs (x4 + 4).toNatClampNeg = z := ⟨_, rfl⟩
  obtain ⟨oX, oM, hX, hM, heq, hrel⟩ := hsim s1 s2 s3 s4
  refine l_aload_n 576 C dL_575 rfl (j := 1) rfl rfl ?_
  refine l_aload_n 577 C dL_576 rfl (j := 0) rfl rfl ?_
  refine l_iload 579 C dL_577 (j := 4) rfl rfl ?_
  refine l_iconst 580 (v := 1) C dL_579 (by decide) rfl ?_
  refine l_iadd 581 C dL_580 rfl ?_
  refine l_sld 582 C hi1 dL_581 rfl ?_
  rw [hs1]
  refine l_aload_n 583 C dL_582 rfl (j := 0) rfl rfl ?_
  refine l_iload 585 C dL_583 (j := 4) rfl rfl ?_
  refine l_iconst 586 (v := 2) C dL_585 (by decide) rfl ?_
  refine l_iadd 587 C dL_586 rfl ?_
  refine l_sld 588 C hi2 dL_587 rfl ?_
  rw [hs2]
  refine l_aload_n 589 C dL_588 rfl (j := 0) rfl rfl ?_
  refine l_iload 591 C dL_589 (j := 4) rfl rfl ?_
  refine l_iconst 592 (v := 3) C dL_591 (by decide) rfl ?_
  refine l_iadd 593 C dL_592 rfl ?_
  refine l_sld 594 C hi3 dL_593 rfl ?_
  rw [hs3]
  refine l_aload_n 595 C dL_594 rfl (j := 0) rfl rfl ?_
  refine l_iload 597 C dL_595 (j := 4) rfl rfl ?_
  refine l_iconst 598 (v := 4) C dL_597 (by decide) rfl ?_
  refine l_iadd 599 C dL_598 rfl ?_
  refine l_sld 600 C hi4 dL_599 rfl ?_
  rw [hs4]
  refine l_cX 603 C (As := [.int s1, .int s2, .int s3, .int s4]) (o := oX) (mX7_poly (a1 := s1) (a2 := s2) (a3 := s3) (a4 := s4) (σ := σX) hX) wl_L_84 wi_X7_poly wz_X7_poly wc_X7_poly wn_X7 qX7_poly rfl rfl ⟨Nat.le_of_ble_eq_true rfl, Nat.le_of_ble_eq_true rfl⟩ rfl rfl (Nat.le_of_ble_eq_true rfl) hce dL_600 rfl ?_
  refine l_aload_n 604 C dL_603 rfl (j := 2) rfl rfl ?_
  refine l_aload_n 605 C dL_604 rfl (j := 0) rfl rfl ?_
  refine l_iload 607 C dL_605 (j := 4) rfl rfl ?_
  refine l_iconst 608 (v := 1) C dL_607 (by decide) rfl ?_
  refine l_iadd 609 C dL_608 rfl ?_
  refine l_sld 610 C hi1 dL_609 rfl ?_
  rw [hs1]
  refine l_aload_n 611 C dL_610 rfl (j := 0) rfl rfl ?_
  refine l_iload 613 C dL_611 (j := 4) rfl rfl ?_
  refine l_iconst 614 (v := 2) C dL_613 (by decide) rfl ?_
  refine l_iadd 615 C dL_614 rfl ?_
  refine l_sld 616 C hi2 dL_615 rfl ?_
  rw [hs2]
  refine l_aload_n 617 C dL_616 rfl (j := 0) rfl rfl ?_
  refine l_iload 619 C dL_617 (j := 4) rfl rfl ?_
  refine l_iconst 620 (v := 3) C dL_619 (by decide) rfl ?_
  refine l_iadd 621 C dL_620 rfl ?_
  refine l_sld 622 C hi3 dL_621 rfl ?_
  rw [hs3]
  refine l_aload_n 623 C dL_622 rfl (j := 0) rfl rfl ?_
  refine l_iload 625 C dL_623 (j := 4) rfl rfl ?_
  refine l_iconst 626 (v := 4) C dL_625 (by decide) rfl ?_
  refine l_iadd 627 C dL_626 rfl ?_
  refine l_sld 628 C hi4 dL_627 rfl ?_
  rw [hs4]
  refine l_cM 631 C (As := [.int s1, .int s2, .int s3, .int s4]) (o := oM) (mX8_poly (a1 := s1) (a2 := s2) (a3 := s3) (a4 := s4) (σ := σM) hM) wl_L_88 wi_X8_poly wz_X8_poly wc_X8_poly wn_X8 qX8_poly rfl rfl ⟨Nat.le_of_ble_eq_true rfl, Nat.le_of_ble_eq_true rfl⟩ rfl rfl (Nat.le_of_ble_eq_true rfl) hce dL_628 rfl ?_
  refine l_icmp_eq 1102 634 C dL_631 (by decide) rfl (fun hc => ?_) (fun hc => ?_)
  · refine l_sub [0, 1, 2, 3, 4] ?_ rfl
    exact hend _ _ _ _ _ hrel (by omega) (by omega)
  · exact absurd (heq) hc
set_option maxHeartbeats 4000000 in
set_option maxRecDepth 100000 in
theorem law_value {E : Gx} {cI cL : ClassId} {adX adM : Nat → Nat} {qo b L sa : Nat} {xs : Nat → Int32} (C : CL E cI cL adX adM qo b L sa xs) {Rel : Nat → Mem → Mem → Prop} {k ce sl : Nat} {x4 : Int32} {σX σM : Mem} {fo : Nat → Int64} (hce : ce ≤ room_1.cells ∧ sl ≤ room_1.slots) (hce6 : ce + 1 ≤ room_1.cells ∧ sl + 6 ≤ room_1.slots) (hi1 : vp_in (x4 + 1) L) (hi2 : vp_in (x4 + 2) L) (hi3 : vp_in (x4 + 3) L) (hi4 : vp_in (x4 + 4) L) (hi5 : vp_in (x4 + 5) L) (hsim : Sim_value Rel k σX σM) (hend : ∀ (τX τM : Mem) (go : Nat → Int64) (ce2 sl2 : Nat), Rel (k + 1) τX τM → ce2 ≤ ce + 1 → sl2 ≤ sl + 6 → GL E cI cL adX adM qo 1102 [(0, .ref b), (1, .ref (adX 7)), (2, .ref (adM 0)), (3, .ref qo), (4, .int x4)] [] τX τM go ce2 sl2) : GL E cI cL adX adM qo 636 [(0, .ref b), (1, .ref (adX 7)), (2, .ref (adM 0)), (3, .ref qo), (4, .int x4)] [] σX σM fo ce sl := by
  obtain ⟨s1, hs1⟩ : ∃ z, xs (x4 + 1).toNatClampNeg = z := ⟨_, rfl⟩
  obtain ⟨s2, hs2⟩ : ∃ z, xs (x4 + 2).toNatClampNeg = z := ⟨_, rfl⟩
  obtain ⟨s3, hs3⟩ : ∃ z, xs (x4 + 3).toNatClampNeg = z := ⟨_, rfl⟩
  obtain ⟨s4, hs4⟩ : ∃ z, xs (x4 + 4).toNatClampNeg = z := ⟨_, rfl⟩
  obtain ⟨s5, hs5⟩ : ∃ z, xs (x4 + 5).toNatClampNeg = z := ⟨_, rfl⟩
  obtain ⟨oX, oM, hX, hM, heq, hrel⟩ := hsim s1 s2 s3 s4 s5
  refine l_aload_n 637 C dL_636 rfl (j := 1) rfl rfl ?_
  refine l_aload_n 638 C dL_637 rfl (j := 0) rfl rfl ?_
  refine l_iload 640 C dL_638 (j := 4) rfl rfl ?_
  refine l_iconst 641 (v := 1) C dL_640 (by decide) rfl ?_
  refine l_iadd 642 C dL_641 rfl ?_
  refine l_sld 643 C hi1 dL_642 rfl ?_
  rw [hs1]
  refine l_aload_n 644 C dL_643 rfl (j := 0) rfl rfl ?_
  refine l_iload 646 C dL_644 (j := 4) rfl rfl ?_
  refine l_iconst 647 (v := 2) C dL_646 (by decide) rfl ?_
  refine l_iadd 648 C dL_647 rfl ?_
  refine l_sld 649 C hi2 dL_648 rfl ?_
  rw [hs2]
  refine l_aload_n 650 C dL_649 rfl (j := 0) rfl rfl ?_
  refine l_iload 652 C dL_650 (j := 4) rfl rfl ?_
  refine l_iconst 653 (v := 3) C dL_652 (by decide) rfl ?_
  refine l_iadd 654 C dL_653 rfl ?_
  refine l_sld 655 C hi3 dL_654 rfl ?_
  rw [hs3]
  refine l_aload_n 656 C dL_655 rfl (j := 0) rfl rfl ?_
  refine l_iload 658 C dL_656 (j := 4) rfl rfl ?_
  refine l_iconst 659 (v := 4) C dL_658 (by decide) rfl ?_
  refine l_iadd 660 C dL_659 rfl ?_
  refine l_sld 661 C hi4 dL_660 rfl ?_
  rw [hs4]
  refine l_aload_n 662 C dL_661 rfl (j := 0) rfl rfl ?_
  refine l_iload 664 C dL_662 (j := 4) rfl rfl ?_
  refine l_iconst 665 (v := 5) C dL_664 (by decide) rfl ?_
  refine l_iadd 666 C dL_665 rfl ?_
  refine l_sld 667 C hi5 dL_666 rfl ?_
  rw [hs5]
  refine l_cX 670 C (As := [.int s1, .int s2, .int s3, .int s4, .int s5]) (o := oX) (mX7_value (a1 := s1) (a2 := s2) (a3 := s3) (a4 := s4) (a5 := s5) (σ := σX) hX) wl_L_89 wi_X7_value wz_X7_value wc_X7_value wn_X7 qX7_value rfl rfl ⟨Nat.le_of_ble_eq_true rfl, Nat.le_of_ble_eq_true rfl⟩ rfl rfl (Nat.le_of_ble_eq_true rfl) hce dL_667 rfl ?_
  refine l_aload_n 671 C dL_670 rfl (j := 2) rfl rfl ?_
  refine l_aload_n 672 C dL_671 rfl (j := 0) rfl rfl ?_
  refine l_iload 674 C dL_672 (j := 4) rfl rfl ?_
  refine l_iconst 675 (v := 1) C dL_674 (by decide) rfl ?_
  refine l_iadd 676 C dL_675 rfl ?_
  refine l_sld 677 C hi1 dL_676 rfl ?_
  rw [hs1]
  refine l_aload_n 678 C dL_677 rfl (j := 0) rfl rfl ?_
  refine l_iload 680 C dL_678 (j := 4) rfl rfl ?_
  refine l_iconst 681 (v := 2) C dL_680 (by decide) rfl ?_
  refine l_iadd 682 C dL_681 rfl ?_
  refine l_sld 683 C hi2 dL_682 rfl ?_
  rw [hs2]
  refine l_aload_n 684 C dL_683 rfl (j := 0) rfl rfl ?_
  refine l_iload 686 C dL_684 (j := 4) rfl rfl ?_
  refine l_iconst 687 (v := 3) C dL_686 (by decide) rfl ?_
  refine l_iadd 688 C dL_687 rfl ?_
  refine l_sld 689 C hi3 dL_688 rfl ?_
  rw [hs3]
  refine l_aload_n 690 C dL_689 rfl (j := 0) rfl rfl ?_
  refine l_iload 692 C dL_690 (j := 4) rfl rfl ?_
  refine l_iconst 693 (v := 4) C dL_692 (by decide) rfl ?_
  refine l_iadd 694 C dL_693 rfl ?_
  refine l_sld 695 C hi4 dL_694 rfl ?_
  rw [hs4]
  refine l_aload_n 696 C dL_695 rfl (j := 0) rfl rfl ?_
  refine l_iload 698 C dL_696 (j := 4) rfl rfl ?_
  refine l_iconst 699 (v := 5) C dL_698 (by decide) rfl ?_
  refine l_iadd 700 C dL_699 rfl ?_
  refine l_sld 701 C hi5 dL_700 rfl ?_
  rw [hs5]
  refine l_cM 704 C (As := [.int s1, .int s2, .int s3, .int s4, .int s5]) (o := oM) (mX8_value (a1 := s1) (a2 := s2) (a3 := s3) (a4 := s4) (a5 := s5) (σ := σM) hM) wl_L_93 wi_X8_value wz_X8_value wc_X8_value wn_X8 qX8_value rfl rfl ⟨Nat.le_of_ble_eq_true rfl, Nat.le_of_ble_eq_true rfl⟩ rfl rfl (Nat.le_of_ble_eq_true rfl) hce dL_701 rfl ?_
  refine l_icmp_eq 1102 707 C dL_704 (by decide) rfl (fun hc => ?_) (fun hc => ?_)
  · refine l_sub [0, 1, 2, 3, 4] ?_ rfl
    exact hend _ _ _ _ _ hrel (by omega) (by omega)
  · exact absurd (heq) hc
set_option maxHeartbeats 4000000 in
set_option maxRecDepth 100000 in
theorem law_told {E : Gx} {cI cL : ClassId} {adX adM : Nat → Nat} {qo b L sa : Nat} {xs : Nat → Int32} (C : CL E cI cL adX adM qo b L sa xs) {Rel : Nat → Mem → Mem → Prop} {k ce sl : Nat} {x4 : Int32} {σX σM : Mem} {fo : Nat → Int64} (hce : ce ≤ room_1.cells ∧ sl ≤ room_1.slots) (hce6 : ce + 1 ≤ room_1.cells ∧ sl + 6 ≤ room_1.slots) (hi1 : vp_in (x4 + 1) L) (hi2 : vp_in (x4 + 2) L) (hi3 : vp_in (x4 + 3) L) (hi4 : vp_in (x4 + 4) L) (hi5 : vp_in (x4 + 5) L) (hsim : Sim_told Rel k σX σM) (hend : ∀ (τX τM : Mem) (go : Nat → Int64) (ce2 sl2 : Nat), Rel (k + 1) τX τM → ce2 ≤ ce + 1 → sl2 ≤ sl + 6 → GL E cI cL adX adM qo 1102 [(0, .ref b), (1, .ref (adX 7)), (2, .ref (adM 0)), (3, .ref qo), (4, .int x4)] [] τX τM go ce2 sl2) : GL E cI cL adX adM qo 709 [(0, .ref b), (1, .ref (adX 7)), (2, .ref (adM 0)), (3, .ref qo), (4, .int x4)] [] σX σM fo ce sl := by
  obtain ⟨s1, hs1⟩ : ∃ z, xs (x4 + 1).toNatClampNeg = z := ⟨_, rfl⟩
  obtain ⟨s2, hs2⟩ : ∃ z, xs (x4 + 2).toNatClampNeg = z := ⟨_, rfl⟩
  obtain ⟨s3, hs3⟩ : ∃ z, xs (x4 + 3).toNatClampNeg = z := ⟨_, rfl⟩
  obtain ⟨s4, hs4⟩ : ∃ z, xs (x4 + 4).toNatClampNeg = z := ⟨_, rfl⟩
  obtain ⟨s5, hs5⟩ : ∃ z, xs (x4 + 5).toNatClampNeg = z := ⟨_, rfl⟩
  obtain ⟨oX, oM, hX, hM, heq, hrel⟩ := hsim s1 s2 s3 s4 s5
  refine l_aload_n 710 C dL_709 rfl (j := 1) rfl rfl ?_
  refine l_aload_n 711 C dL_710 rfl (j := 0) rfl rfl ?_
  refine l_iload 713 C dL_711 (j := 4) rfl rfl ?_
  refine l_iconst 714 (v := 1) C dL_713 (by decide) rfl ?_
  refine l_iadd 715 C dL_714 rfl ?_
  refine l_sld 716 C hi1 dL_715 rfl ?_
  rw [hs1]
  refine l_aload_n 717 C dL_716 rfl (j := 0) rfl rfl ?_
  refine l_iload 719 C dL_717 (j := 4) rfl rfl ?_
  refine l_iconst 720 (v := 2) C dL_719 (by decide) rfl ?_
  refine l_iadd 721 C dL_720 rfl ?_
  refine l_sld 722 C hi2 dL_721 rfl ?_
  rw [hs2]
  refine l_aload_n 723 C dL_722 rfl (j := 0) rfl rfl ?_
  refine l_iload 725 C dL_723 (j := 4) rfl rfl ?_
  refine l_iconst 726 (v := 3) C dL_725 (by decide) rfl ?_
  refine l_iadd 727 C dL_726 rfl ?_
  refine l_sld 728 C hi3 dL_727 rfl ?_
  rw [hs3]
  refine l_aload_n 729 C dL_728 rfl (j := 0) rfl rfl ?_
  refine l_iload 731 C dL_729 (j := 4) rfl rfl ?_
  refine l_iconst 732 (v := 4) C dL_731 (by decide) rfl ?_
  refine l_iadd 733 C dL_732 rfl ?_
  refine l_sld 734 C hi4 dL_733 rfl ?_
  rw [hs4]
  refine l_aload_n 735 C dL_734 rfl (j := 0) rfl rfl ?_
  refine l_iload 737 C dL_735 (j := 4) rfl rfl ?_
  refine l_iconst 738 (v := 5) C dL_737 (by decide) rfl ?_
  refine l_iadd 739 C dL_738 rfl ?_
  refine l_sld 740 C hi5 dL_739 rfl ?_
  rw [hs5]
  refine l_cX 743 C (As := [.int s1, .int s2, .int s3, .int s4, .int s5]) (o := oX) (mX7_told (a1 := s1) (a2 := s2) (a3 := s3) (a4 := s4) (a5 := s5) (σ := σX) hX) wl_L_94 wi_X7_told wz_X7_told wc_X7_told wn_X7 qX7_told rfl rfl ⟨Nat.le_of_ble_eq_true rfl, Nat.le_of_ble_eq_true rfl⟩ rfl rfl (Nat.le_of_ble_eq_true rfl) hce dL_740 rfl ?_
  refine l_aload_n 744 C dL_743 rfl (j := 2) rfl rfl ?_
  refine l_aload_n 745 C dL_744 rfl (j := 0) rfl rfl ?_
  refine l_iload 747 C dL_745 (j := 4) rfl rfl ?_
  refine l_iconst 748 (v := 1) C dL_747 (by decide) rfl ?_
  refine l_iadd 749 C dL_748 rfl ?_
  refine l_sld 750 C hi1 dL_749 rfl ?_
  rw [hs1]
  refine l_aload_n 751 C dL_750 rfl (j := 0) rfl rfl ?_
  refine l_iload 753 C dL_751 (j := 4) rfl rfl ?_
  refine l_iconst 754 (v := 2) C dL_753 (by decide) rfl ?_
  refine l_iadd 755 C dL_754 rfl ?_
  refine l_sld 756 C hi2 dL_755 rfl ?_
  rw [hs2]
  refine l_aload_n 757 C dL_756 rfl (j := 0) rfl rfl ?_
  refine l_iload 759 C dL_757 (j := 4) rfl rfl ?_
  refine l_iconst 760 (v := 3) C dL_759 (by decide) rfl ?_
  refine l_iadd 761 C dL_760 rfl ?_
  refine l_sld 762 C hi3 dL_761 rfl ?_
  rw [hs3]
  refine l_aload_n 763 C dL_762 rfl (j := 0) rfl rfl ?_
  refine l_iload 765 C dL_763 (j := 4) rfl rfl ?_
  refine l_iconst 766 (v := 4) C dL_765 (by decide) rfl ?_
  refine l_iadd 767 C dL_766 rfl ?_
  refine l_sld 768 C hi4 dL_767 rfl ?_
  rw [hs4]
  refine l_aload_n 769 C dL_768 rfl (j := 0) rfl rfl ?_
  refine l_iload 771 C dL_769 (j := 4) rfl rfl ?_
  refine l_iconst 772 (v := 5) C dL_771 (by decide) rfl ?_
  refine l_iadd 773 C dL_772 rfl ?_
  refine l_sld 774 C hi5 dL_773 rfl ?_
  rw [hs5]
  refine l_cM 777 C (As := [.int s1, .int s2, .int s3, .int s4, .int s5]) (o := oM) (mX8_told (a1 := s1) (a2 := s2) (a3 := s3) (a4 := s4) (a5 := s5) (σ := σM) hM) wl_L_97 wi_X8_told wz_X8_told wc_X8_told wn_X8 qX8_told rfl rfl ⟨Nat.le_of_ble_eq_true rfl, Nat.le_of_ble_eq_true rfl⟩ rfl rfl (Nat.le_of_ble_eq_true rfl) hce dL_774 rfl ?_
  refine l_icmp_eq 1102 780 C dL_777 (by decide) rfl (fun hc => ?_) (fun hc => ?_)
  · refine l_sub [0, 1, 2, 3, 4] ?_ rfl
    exact hend _ _ _ _ _ hrel (by omega) (by omega)
  · exact absurd (heq) hc
set_option maxHeartbeats 4000000 in
set_option maxRecDepth 100000 in
theorem law_reduced {E : Gx} {cI cL : ClassId} {adX adM : Nat → Nat} {qo b L sa : Nat} {xs : Nat → Int32} (C : CL E cI cL adX adM qo b L sa xs) {Rel : Nat → Mem → Mem → Prop} {k ce sl : Nat} {x4 : Int32} {σX σM : Mem} {fo : Nat → Int64} (hce : ce ≤ room_1.cells ∧ sl ≤ room_1.slots) (hce6 : ce + 1 ≤ room_1.cells ∧ sl + 6 ≤ room_1.slots) (hi1 : vp_in (x4 + 1) L) (hsim : Sim_reduced Rel k σX σM) (hend : ∀ (τX τM : Mem) (go : Nat → Int64) (ce2 sl2 : Nat), Rel (k + 1) τX τM → ce2 ≤ ce + 1 → sl2 ≤ sl + 6 → GL E cI cL adX adM qo 1102 [(0, .ref b), (1, .ref (adX 7)), (2, .ref (adM 0)), (3, .ref qo), (4, .int x4)] [] τX τM go ce2 sl2) : GL E cI cL adX adM qo 782 [(0, .ref b), (1, .ref (adX 7)), (2, .ref (adM 0)), (3, .ref qo), (4, .int x4)] [] σX σM fo ce sl := by
  obtain ⟨s1, hs1⟩ : ∃ z, xs (x4 + 1).toNatClampNeg = z := ⟨_, rfl⟩
  obtain ⟨oX, oM, hX, hM, heq, hrel⟩ := hsim s1
  refine l_aload_n 783 C dL_782 rfl (j := 1) rfl rfl ?_
  refine l_aload_n 784 C dL_783 rfl (j := 0) rfl rfl ?_
  refine l_iload 786 C dL_784 (j := 4) rfl rfl ?_
  refine l_iconst 787 (v := 1) C dL_786 (by decide) rfl ?_
  refine l_iadd 788 C dL_787 rfl ?_
  refine l_sld 789 C hi1 dL_788 rfl ?_
  rw [hs1]
  refine l_cX 792 C (As := [.int s1]) (o := oX) (mX7_reduced (a1 := s1) (σ := σX) hX) wl_L_98 wi_X7_reduced wz_X7_reduced wc_X7_reduced wn_X7 qX7_reduced rfl rfl ⟨Nat.le_of_ble_eq_true rfl, Nat.le_of_ble_eq_true rfl⟩ rfl rfl (Nat.le_of_ble_eq_true rfl) hce dL_789 rfl ?_
  refine l_aload_n 793 C dL_792 rfl (j := 2) rfl rfl ?_
  refine l_aload_n 794 C dL_793 rfl (j := 0) rfl rfl ?_
  refine l_iload 796 C dL_794 (j := 4) rfl rfl ?_
  refine l_iconst 797 (v := 1) C dL_796 (by decide) rfl ?_
  refine l_iadd 798 C dL_797 rfl ?_
  refine l_sld 799 C hi1 dL_798 rfl ?_
  rw [hs1]
  refine l_cM 802 C (As := [.int s1]) (o := oM) (mX8_reduced (a1 := s1) (σ := σM) hM) wl_L_101 wi_X8_reduced wz_X8_reduced wc_X8_reduced wn_X8 qX8_reduced rfl rfl ⟨Nat.le_of_ble_eq_true rfl, Nat.le_of_ble_eq_true rfl⟩ rfl rfl (Nat.le_of_ble_eq_true rfl) hce dL_799 rfl ?_
  refine l_icmp_eq 1102 805 C dL_802 (by decide) rfl (fun hc => ?_) (fun hc => ?_)
  · refine l_sub [0, 1, 2, 3, 4] ?_ rfl
    exact hend _ _ _ _ _ hrel (by omega) (by omega)
  · exact absurd (heq) hc
set_option maxHeartbeats 4000000 in
set_option maxRecDepth 100000 in
theorem law_cell {E : Gx} {cI cL : ClassId} {adX adM : Nat → Nat} {qo b L sa : Nat} {xs : Nat → Int32} (C : CL E cI cL adX adM qo b L sa xs) {Rel : Nat → Mem → Mem → Prop} {k ce sl : Nat} {x4 : Int32} {σX σM : Mem} {fo : Nat → Int64} (hce : ce ≤ room_1.cells ∧ sl ≤ room_1.slots) (hce6 : ce + 1 ≤ room_1.cells ∧ sl + 6 ≤ room_1.slots) (hi1 : vp_in (x4 + 1) L) (hi2 : vp_in (x4 + 2) L) (hsim : Sim_cell Rel k σX σM) (hend : ∀ (τX τM : Mem) (go : Nat → Int64) (ce2 sl2 : Nat), Rel (k + 1) τX τM → ce2 ≤ ce + 1 → sl2 ≤ sl + 6 → GL E cI cL adX adM qo 1102 [(0, .ref b), (1, .ref (adX 7)), (2, .ref (adM 0)), (3, .ref qo), (4, .int x4)] [] τX τM go ce2 sl2) : GL E cI cL adX adM qo 807 [(0, .ref b), (1, .ref (adX 7)), (2, .ref (adM 0)), (3, .ref qo), (4, .int x4)] [] σX σM fo ce sl := by
  obtain ⟨s1, hs1⟩ : ∃ z, xs (x4 + 1).toNatClampNeg = z := ⟨_, rfl⟩
  obtain ⟨s2, hs2⟩ : ∃ z, xs (x4 + 2).toNatClampNeg = z := ⟨_, rfl⟩
  obtain ⟨oX, oM, hX, hM, heq, hrel⟩ := hsim s1 s2
  refine l_aload_n 808 C dL_807 rfl (j := 1) rfl rfl ?_
  refine l_aload_n 809 C dL_808 rfl (j := 0) rfl rfl ?_
  refine l_iload 811 C dL_809 (j := 4) rfl rfl ?_
  refine l_iconst 812 (v := 1) C dL_811 (by decide) rfl ?_
  refine l_iadd 813 C dL_812 rfl ?_
  refine l_sld 814 C hi1 dL_813 rfl ?_
  rw [hs1]
  refine l_aload_n 815 C dL_814 rfl (j := 0) rfl rfl ?_
  refine l_iload 817 C dL_815 (j := 4) rfl rfl ?_
  refine l_iconst 818 (v := 2) C dL_817 (by decide) rfl ?_
  refine l_iadd 819 C dL_818 rfl ?_
  refine l_sld 820 C hi2 dL_819 rfl ?_
  rw [hs2]
  refine l_cX 823 C (As := [.int s1, .int s2]) (o := oX) (mX7_cell (a1 := s1) (a2 := s2) (σ := σX) hX) wl_L_102 wi_X7_cell wz_X7_cell wc_X7_cell wn_X7 qX7_cell rfl rfl ⟨Nat.le_of_ble_eq_true rfl, Nat.le_of_ble_eq_true rfl⟩ rfl rfl (Nat.le_of_ble_eq_true rfl) hce dL_820 rfl ?_
  refine l_aload_n 824 C dL_823 rfl (j := 2) rfl rfl ?_
  refine l_aload_n 825 C dL_824 rfl (j := 0) rfl rfl ?_
  refine l_iload 827 C dL_825 (j := 4) rfl rfl ?_
  refine l_iconst 828 (v := 1) C dL_827 (by decide) rfl ?_
  refine l_iadd 829 C dL_828 rfl ?_
  refine l_sld 830 C hi1 dL_829 rfl ?_
  rw [hs1]
  refine l_aload_n 831 C dL_830 rfl (j := 0) rfl rfl ?_
  refine l_iload 833 C dL_831 (j := 4) rfl rfl ?_
  refine l_iconst 834 (v := 2) C dL_833 (by decide) rfl ?_
  refine l_iadd 835 C dL_834 rfl ?_
  refine l_sld 836 C hi2 dL_835 rfl ?_
  rw [hs2]
  refine l_cM 839 C (As := [.int s1, .int s2]) (o := oM) (mX8_cell (a1 := s1) (a2 := s2) (σ := σM) hM) wl_L_104 wi_X8_cell wz_X8_cell wc_X8_cell wn_X8 qX8_cell rfl rfl ⟨Nat.le_of_ble_eq_true rfl, Nat.le_of_ble_eq_true rfl⟩ rfl rfl (Nat.le_of_ble_eq_true rfl) hce dL_836 rfl ?_
  refine l_icmp_eq 1102 842 C dL_839 (by decide) rfl (fun hc => ?_) (fun hc => ?_)
  · refine l_sub [0, 1, 2, 3, 4] ?_ rfl
    exact hend _ _ _ _ _ hrel (by omega) (by omega)
  · exact absurd (heq) hc
set_option maxHeartbeats 4000000 in
set_option maxRecDepth 100000 in
theorem law_needed {E : Gx} {cI cL : ClassId} {adX adM : Nat → Nat} {qo b L sa : Nat} {xs : Nat → Int32} (C : CL E cI cL adX adM qo b L sa xs) {Rel : Nat → Mem → Mem → Prop} {k ce sl : Nat} {x4 : Int32} {σX σM : Mem} {fo : Nat → Int64} (hce : ce ≤ room_1.cells ∧ sl ≤ room_1.slots) (hce6 : ce + 1 ≤ room_1.cells ∧ sl + 6 ≤ room_1.slots) (hi1 : vp_in (x4 + 1) L) (hsim : Sim_needed Rel k σX σM) (hend : ∀ (τX τM : Mem) (go : Nat → Int64) (ce2 sl2 : Nat), Rel (k + 1) τX τM → ce2 ≤ ce + 1 → sl2 ≤ sl + 6 → GL E cI cL adX adM qo 1102 [(0, .ref b), (1, .ref (adX 7)), (2, .ref (adM 0)), (3, .ref qo), (4, .int x4)] [] τX τM go ce2 sl2) : GL E cI cL adX adM qo 844 [(0, .ref b), (1, .ref (adX 7)), (2, .ref (adM 0)), (3, .ref qo), (4, .int x4)] [] σX σM fo ce sl := by
  obtain ⟨s1, hs1⟩ : ∃ z, xs (x4 + 1).toNatClampNeg = z := ⟨_, rfl⟩
  obtain ⟨oX, oM, hX, hM, heq, hrel⟩ := hsim s1
  refine l_aload_n 845 C dL_844 rfl (j := 1) rfl rfl ?_
  refine l_aload_n 846 C dL_845 rfl (j := 0) rfl rfl ?_
  refine l_iload 848 C dL_846 (j := 4) rfl rfl ?_
  refine l_iconst 849 (v := 1) C dL_848 (by decide) rfl ?_
  refine l_iadd 850 C dL_849 rfl ?_
  refine l_sld 851 C hi1 dL_850 rfl ?_
  rw [hs1]
  refine l_cX 854 C (As := [.int s1]) (o := oX) (mX7_needed (a1 := s1) (σ := σX) hX) wl_L_105 wi_X7_needed wz_X7_needed wc_X7_needed wn_X7 qX7_needed rfl rfl ⟨Nat.le_of_ble_eq_true rfl, Nat.le_of_ble_eq_true rfl⟩ rfl rfl (Nat.le_of_ble_eq_true rfl) hce dL_851 rfl ?_
  refine l_aload_n 855 C dL_854 rfl (j := 2) rfl rfl ?_
  refine l_aload_n 856 C dL_855 rfl (j := 0) rfl rfl ?_
  refine l_iload 858 C dL_856 (j := 4) rfl rfl ?_
  refine l_iconst 859 (v := 1) C dL_858 (by decide) rfl ?_
  refine l_iadd 860 C dL_859 rfl ?_
  refine l_sld 861 C hi1 dL_860 rfl ?_
  rw [hs1]
  refine l_cM 864 C (As := [.int s1]) (o := oM) (mX8_needed (a1 := s1) (σ := σM) hM) wl_L_108 wi_X8_needed wz_X8_needed wc_X8_needed wn_X8 qX8_needed rfl rfl ⟨Nat.le_of_ble_eq_true rfl, Nat.le_of_ble_eq_true rfl⟩ rfl rfl (Nat.le_of_ble_eq_true rfl) hce dL_861 rfl ?_
  refine l_icmp_eq 1102 867 C dL_864 (by decide) rfl (fun hc => ?_) (fun hc => ?_)
  · refine l_sub [0, 1, 2, 3, 4] ?_ rfl
    exact hend _ _ _ _ _ hrel (by omega) (by omega)
  · exact absurd (heq) hc
set_option maxHeartbeats 4000000 in
set_option maxRecDepth 100000 in
theorem law_run {E : Gx} {cI cL : ClassId} {adX adM : Nat → Nat} {qo b L sa : Nat} {xs : Nat → Int32} (C : CL E cI cL adX adM qo b L sa xs) {Rel : Nat → Mem → Mem → Prop} {k ce sl : Nat} {x4 : Int32} {σX σM : Mem} {fo : Nat → Int64} (hce : ce ≤ room_1.cells ∧ sl ≤ room_1.slots) (hce6 : ce + 1 ≤ room_1.cells ∧ sl + 6 ≤ room_1.slots) (hi1 : vp_in (x4 + 1) L) (hi2 : vp_in (x4 + 2) L) (hi3 : vp_in (x4 + 3) L) (hsim : Sim_run Rel k σX σM) (hend : ∀ (τX τM : Mem) (go : Nat → Int64) (ce2 sl2 : Nat), Rel (k + 1) τX τM → ce2 ≤ ce + 1 → sl2 ≤ sl + 6 → GL E cI cL adX adM qo 1102 [(0, .ref b), (1, .ref (adX 7)), (2, .ref (adM 0)), (3, .ref qo), (4, .int x4)] [] τX τM go ce2 sl2) : GL E cI cL adX adM qo 869 [(0, .ref b), (1, .ref (adX 7)), (2, .ref (adM 0)), (3, .ref qo), (4, .int x4)] [] σX σM fo ce sl := by
  obtain ⟨s1, hs1⟩ : ∃ z, xs (x4 + 1).toNatClampNeg = z := ⟨_, rfl⟩
  obtain ⟨s2, hs2⟩ : ∃ z, xs (x4 + 2).toNatClampNeg = z := ⟨_, rfl⟩
  obtain ⟨s3, hs3⟩ : ∃ z, xs (x4 + 3).toNatClampNeg = z := ⟨_, rfl⟩
  obtain ⟨oX, oM, hX, hM, heq, hrel⟩ := hsim s1 s2 s3
  refine l_aload_n 870 C dL_869 rfl (j := 1) rfl rfl ?_
  refine l_aload_n 871 C dL_870 rfl (j := 0) rfl rfl ?_
  refine l_iload 873 C dL_871 (j := 4) rfl rfl ?_
  refine l_iconst 874 (v := 1) C dL_873 (by decide) rfl ?_
  refine l_iadd 875 C dL_874 rfl ?_
  refine l_sld 876 C hi1 dL_875 rfl ?_
  rw [hs1]
  refine l_aload_n 877 C dL_876 rfl (j := 0) rfl rfl ?_
  refine l_iload 879 C dL_877 (j := 4) rfl rfl ?_
  refine l_iconst 880 (v := 2) C dL_879 (by decide) rfl ?_
  refine l_iadd 881 C dL_880 rfl ?_
  refine l_sld 882 C hi2 dL_881 rfl ?_
  rw [hs2]
  refine l_aload_n 883 C dL_882 rfl (j := 0) rfl rfl ?_
  refine l_iload 885 C dL_883 (j := 4) rfl rfl ?_
  refine l_iconst 886 (v := 3) C dL_885 (by decide) rfl ?_
  refine l_iadd 887 C dL_886 rfl ?_
  refine l_sld 888 C hi3 dL_887 rfl ?_
  rw [hs3]
  refine l_cX 891 C (As := [.int s1, .int s2, .int s3]) (o := oX) (mX7_run (a1 := s1) (a2 := s2) (a3 := s3) (σ := σX) hX) wl_L_109 wi_X7_run wz_X7_run wc_X7_run wn_X7 qX7_run rfl rfl ⟨Nat.le_of_ble_eq_true rfl, Nat.le_of_ble_eq_true rfl⟩ rfl rfl (Nat.le_of_ble_eq_true rfl) hce dL_888 rfl ?_
  refine l_aload_n 892 C dL_891 rfl (j := 2) rfl rfl ?_
  refine l_aload_n 893 C dL_892 rfl (j := 0) rfl rfl ?_
  refine l_iload 895 C dL_893 (j := 4) rfl rfl ?_
  refine l_iconst 896 (v := 1) C dL_895 (by decide) rfl ?_
  refine l_iadd 897 C dL_896 rfl ?_
  refine l_sld 898 C hi1 dL_897 rfl ?_
  rw [hs1]
  refine l_aload_n 899 C dL_898 rfl (j := 0) rfl rfl ?_
  refine l_iload 901 C dL_899 (j := 4) rfl rfl ?_
  refine l_iconst 902 (v := 2) C dL_901 (by decide) rfl ?_
  refine l_iadd 903 C dL_902 rfl ?_
  refine l_sld 904 C hi2 dL_903 rfl ?_
  rw [hs2]
  refine l_aload_n 905 C dL_904 rfl (j := 0) rfl rfl ?_
  refine l_iload 907 C dL_905 (j := 4) rfl rfl ?_
  refine l_iconst 908 (v := 3) C dL_907 (by decide) rfl ?_
  refine l_iadd 909 C dL_908 rfl ?_
  refine l_sld 910 C hi3 dL_909 rfl ?_
  rw [hs3]
  refine l_cM 913 C (As := [.int s1, .int s2, .int s3]) (o := oM) (mX8_run (a1 := s1) (a2 := s2) (a3 := s3) (σ := σM) hM) wl_L_112 wi_X8_run wz_X8_run wc_X8_run wn_X8 qX8_run rfl rfl ⟨Nat.le_of_ble_eq_true rfl, Nat.le_of_ble_eq_true rfl⟩ rfl rfl (Nat.le_of_ble_eq_true rfl) hce dL_910 rfl ?_
  refine l_icmp_eq 1102 916 C dL_913 (by decide) rfl (fun hc => ?_) (fun hc => ?_)
  · refine l_sub [0, 1, 2, 3, 4] ?_ rfl
    exact hend _ _ _ _ _ hrel (by omega) (by omega)
  · exact absurd (heq) hc
set_option maxHeartbeats 4000000 in
set_option maxRecDepth 100000 in
theorem law_runReduced {E : Gx} {cI cL : ClassId} {adX adM : Nat → Nat} {qo b L sa : Nat} {xs : Nat → Int32} (C : CL E cI cL adX adM qo b L sa xs) {Rel : Nat → Mem → Mem → Prop} {k ce sl : Nat} {x4 : Int32} {σX σM : Mem} {fo : Nat → Int64} (hce : ce ≤ room_1.cells ∧ sl ≤ room_1.slots) (hce6 : ce + 1 ≤ room_1.cells ∧ sl + 6 ≤ room_1.slots) (hi1 : vp_in (x4 + 1) L) (hi2 : vp_in (x4 + 2) L) (hi3 : vp_in (x4 + 3) L) (hsim : Sim_runReduced Rel k σX σM) (hend : ∀ (τX τM : Mem) (go : Nat → Int64) (ce2 sl2 : Nat), Rel (k + 1) τX τM → ce2 ≤ ce + 1 → sl2 ≤ sl + 6 → GL E cI cL adX adM qo 1102 [(0, .ref b), (1, .ref (adX 7)), (2, .ref (adM 0)), (3, .ref qo), (4, .int x4)] [] τX τM go ce2 sl2) : GL E cI cL adX adM qo 918 [(0, .ref b), (1, .ref (adX 7)), (2, .ref (adM 0)), (3, .ref qo), (4, .int x4)] [] σX σM fo ce sl := by
  obtain ⟨s1, hs1⟩ : ∃ z, xs (x4 + 1).toNatClampNeg = z := ⟨_, rfl⟩
  obtain ⟨s2, hs2⟩ : ∃ z, xs (x4 + 2).toNatClampNeg = z := ⟨_, rfl⟩
  obtain ⟨s3, hs3⟩ : ∃ z, xs (x4 + 3).toNatClampNeg = z := ⟨_, rfl⟩
  obtain ⟨oX, oM, hX, hM, heq, hrel⟩ := hsim s1 s2 s3
  refine l_aload_n 919 C dL_918 rfl (j := 1) rfl rfl ?_
  refine l_aload_n 920 C dL_919 rfl (j := 0) rfl rfl ?_
  refine l_iload 922 C dL_920 (j := 4) rfl rfl ?_
  refine l_iconst 923 (v := 1) C dL_922 (by decide) rfl ?_
  refine l_iadd 924 C dL_923 rfl ?_
  refine l_sld 925 C hi1 dL_924 rfl ?_
  rw [hs1]
  refine l_aload_n 926 C dL_925 rfl (j := 0) rfl rfl ?_
  refine l_iload 928 C dL_926 (j := 4) rfl rfl ?_
  refine l_iconst 929 (v := 2) C dL_928 (by decide) rfl ?_
  refine l_iadd 930 C dL_929 rfl ?_
  refine l_sld 931 C hi2 dL_930 rfl ?_
  rw [hs2]
  refine l_aload_n 932 C dL_931 rfl (j := 0) rfl rfl ?_
  refine l_iload 934 C dL_932 (j := 4) rfl rfl ?_
  refine l_iconst 935 (v := 3) C dL_934 (by decide) rfl ?_
  refine l_iadd 936 C dL_935 rfl ?_
  refine l_sld 937 C hi3 dL_936 rfl ?_
  rw [hs3]
  refine l_cX 940 C (As := [.int s1, .int s2, .int s3]) (o := oX) (mX7_runReduced (a1 := s1) (a2 := s2) (a3 := s3) (σ := σX) hX) wl_L_113 wi_X7_runReduced wz_X7_runReduced wc_X7_runReduced wn_X7 qX7_runReduced rfl rfl ⟨Nat.le_of_ble_eq_true rfl, Nat.le_of_ble_eq_true rfl⟩ rfl rfl (Nat.le_of_ble_eq_true rfl) hce dL_937 rfl ?_
  refine l_aload_n 941 C dL_940 rfl (j := 2) rfl rfl ?_
  refine l_aload_n 942 C dL_941 rfl (j := 0) rfl rfl ?_
  refine l_iload 944 C dL_942 (j := 4) rfl rfl ?_
  refine l_iconst 945 (v := 1) C dL_944 (by decide) rfl ?_
  refine l_iadd 946 C dL_945 rfl ?_
  refine l_sld 947 C hi1 dL_946 rfl ?_
  rw [hs1]
  refine l_aload_n 948 C dL_947 rfl (j := 0) rfl rfl ?_
  refine l_iload 950 C dL_948 (j := 4) rfl rfl ?_
  refine l_iconst 951 (v := 2) C dL_950 (by decide) rfl ?_
  refine l_iadd 952 C dL_951 rfl ?_
  refine l_sld 953 C hi2 dL_952 rfl ?_
  rw [hs2]
  refine l_aload_n 954 C dL_953 rfl (j := 0) rfl rfl ?_
  refine l_iload 956 C dL_954 (j := 4) rfl rfl ?_
  refine l_iconst 957 (v := 3) C dL_956 (by decide) rfl ?_
  refine l_iadd 958 C dL_957 rfl ?_
  refine l_sld 959 C hi3 dL_958 rfl ?_
  rw [hs3]
  refine l_cM 962 C (As := [.int s1, .int s2, .int s3]) (o := oM) (mX8_runReduced (a1 := s1) (a2 := s2) (a3 := s3) (σ := σM) hM) wl_L_116 wi_X8_runReduced wz_X8_runReduced wc_X8_runReduced wn_X8 qX8_runReduced rfl rfl ⟨Nat.le_of_ble_eq_true rfl, Nat.le_of_ble_eq_true rfl⟩ rfl rfl (Nat.le_of_ble_eq_true rfl) hce dL_959 rfl ?_
  refine l_icmp_eq 1102 965 C dL_962 (by decide) rfl (fun hc => ?_) (fun hc => ?_)
  · refine l_sub [0, 1, 2, 3, 4] ?_ rfl
    exact hend _ _ _ _ _ hrel (by omega) (by omega)
  · exact absurd (heq) hc
set_option maxHeartbeats 4000000 in
set_option maxRecDepth 100000 in
theorem law_seen {E : Gx} {cI cL : ClassId} {adX adM : Nat → Nat} {qo b L sa : Nat} {xs : Nat → Int32} (C : CL E cI cL adX adM qo b L sa xs) {Rel : Nat → Mem → Mem → Prop} {k ce sl : Nat} {x4 : Int32} {σX σM : Mem} {fo : Nat → Int64} (hce : ce ≤ room_1.cells ∧ sl ≤ room_1.slots) (hce6 : ce + 1 ≤ room_1.cells ∧ sl + 6 ≤ room_1.slots) (hi1 : vp_in (x4 + 1) L) (hsim : Sim_seen Rel k σX σM) (hend : ∀ (τX τM : Mem) (go : Nat → Int64) (ce2 sl2 : Nat), Rel (k + 1) τX τM → ce2 ≤ ce + 1 → sl2 ≤ sl + 6 → GL E cI cL adX adM qo 1102 [(0, .ref b), (1, .ref (adX 7)), (2, .ref (adM 0)), (3, .ref qo), (4, .int x4)] [] τX τM go ce2 sl2) : GL E cI cL adX adM qo 967 [(0, .ref b), (1, .ref (adX 7)), (2, .ref (adM 0)), (3, .ref qo), (4, .int x4)] [] σX σM fo ce sl := by
  obtain ⟨s1, hs1⟩ : ∃ z, xs (x4 + 1).toNatClampNeg = z := ⟨_, rfl⟩
  obtain ⟨oX, oM, hX, hM, heq, hrel⟩ := hsim s1
  refine l_aload_n 968 C dL_967 rfl (j := 1) rfl rfl ?_
  refine l_aload_n 969 C dL_968 rfl (j := 0) rfl rfl ?_
  refine l_iload 971 C dL_969 (j := 4) rfl rfl ?_
  refine l_iconst 972 (v := 1) C dL_971 (by decide) rfl ?_
  refine l_iadd 973 C dL_972 rfl ?_
  refine l_sld 974 C hi1 dL_973 rfl ?_
  rw [hs1]
  refine l_cX 977 C (As := [.int s1]) (o := oX) (mX7_seen (a1 := s1) (σ := σX) hX) wl_L_117 wi_X7_seen wz_X7_seen wc_X7_seen wn_X7 qX7_seen rfl rfl ⟨Nat.le_of_ble_eq_true rfl, Nat.le_of_ble_eq_true rfl⟩ rfl rfl (Nat.le_of_ble_eq_true rfl) hce dL_974 rfl ?_
  refine l_aload_n 978 C dL_977 rfl (j := 2) rfl rfl ?_
  refine l_aload_n 979 C dL_978 rfl (j := 0) rfl rfl ?_
  refine l_iload 981 C dL_979 (j := 4) rfl rfl ?_
  refine l_iconst 982 (v := 1) C dL_981 (by decide) rfl ?_
  refine l_iadd 983 C dL_982 rfl ?_
  refine l_sld 984 C hi1 dL_983 rfl ?_
  rw [hs1]
  refine l_cM 987 C (As := [.int s1]) (o := oM) (mX8_seen (a1 := s1) (σ := σM) hM) wl_L_120 wi_X8_seen wz_X8_seen wc_X8_seen wn_X8 qX8_seen rfl rfl ⟨Nat.le_of_ble_eq_true rfl, Nat.le_of_ble_eq_true rfl⟩ rfl rfl (Nat.le_of_ble_eq_true rfl) hce dL_984 rfl ?_
  refine l_icmp_eq 1102 990 C dL_987 (by decide) rfl (fun hc => ?_) (fun hc => ?_)
  · refine l_sub [0, 1, 2, 3, 4] ?_ rfl
    exact hend _ _ _ _ _ hrel (by omega) (by omega)
  · exact absurd (heq) hc
set_option maxHeartbeats 4000000 in
set_option maxRecDepth 100000 in
theorem law_ahead {E : Gx} {cI cL : ClassId} {adX adM : Nat → Nat} {qo b L sa : Nat} {xs : Nat → Int32} (C : CL E cI cL adX adM qo b L sa xs) {Rel : Nat → Mem → Mem → Prop} {k ce sl : Nat} {x4 : Int32} {σX σM : Mem} {fo : Nat → Int64} (hce : ce ≤ room_1.cells ∧ sl ≤ room_1.slots) (hce6 : ce + 1 ≤ room_1.cells ∧ sl + 6 ≤ room_1.slots) (hi1 : vp_in (x4 + 1) L) (hi2 : vp_in (x4 + 2) L) (hi3 : vp_in (x4 + 3) L) (hsim : Sim_ahead Rel k σX σM) (hend : ∀ (τX τM : Mem) (go : Nat → Int64) (ce2 sl2 : Nat), Rel (k + 1) τX τM → ce2 ≤ ce + 1 → sl2 ≤ sl + 6 → GL E cI cL adX adM qo 1102 [(0, .ref b), (1, .ref (adX 7)), (2, .ref (adM 0)), (3, .ref qo), (4, .int x4)] [] τX τM go ce2 sl2) : GL E cI cL adX adM qo 992 [(0, .ref b), (1, .ref (adX 7)), (2, .ref (adM 0)), (3, .ref qo), (4, .int x4)] [] σX σM fo ce sl := by
  obtain ⟨s1, hs1⟩ : ∃ z, xs (x4 + 1).toNatClampNeg = z := ⟨_, rfl⟩
  obtain ⟨s2, hs2⟩ : ∃ z, xs (x4 + 2).toNatClampNeg = z := ⟨_, rfl⟩
  obtain ⟨s3, hs3⟩ : ∃ z, xs (x4 + 3).toNatClampNeg = z := ⟨_, rfl⟩
  obtain ⟨oX, oM, hX, hM, heq, hrel⟩ := hsim s1 s2 s3
  refine l_aload_n 993 C dL_992 rfl (j := 1) rfl rfl ?_
  refine l_aload_n 994 C dL_993 rfl (j := 0) rfl rfl ?_
  refine l_iload 996 C dL_994 (j := 4) rfl rfl ?_
  refine l_iconst 997 (v := 1) C dL_996 (by decide) rfl ?_
  refine l_iadd 998 C dL_997 rfl ?_
  refine l_sld 999 C hi1 dL_998 rfl ?_
  rw [hs1]
  refine l_aload_n 1000 C dL_999 rfl (j := 0) rfl rfl ?_
  refine l_iload 1002 C dL_1000 (j := 4) rfl rfl ?_
  refine l_iconst 1003 (v := 2) C dL_1002 (by decide) rfl ?_
  refine l_iadd 1004 C dL_1003 rfl ?_
  refine l_sld 1005 C hi2 dL_1004 rfl ?_
  rw [hs2]
  refine l_aload_n 1006 C dL_1005 rfl (j := 0) rfl rfl ?_
  refine l_iload 1008 C dL_1006 (j := 4) rfl rfl ?_
  refine l_iconst 1009 (v := 3) C dL_1008 (by decide) rfl ?_
  refine l_iadd 1010 C dL_1009 rfl ?_
  refine l_sld 1011 C hi3 dL_1010 rfl ?_
  rw [hs3]
  refine l_cX 1014 C (As := [.int s1, .int s2, .int s3]) (o := oX) (mX7_ahead (a1 := s1) (a2 := s2) (a3 := s3) (σ := σX) hX) wl_L_121 wi_X7_ahead wz_X7_ahead wc_X7_ahead wn_X7 qX7_ahead rfl rfl ⟨Nat.le_of_ble_eq_true rfl, Nat.le_of_ble_eq_true rfl⟩ rfl rfl (Nat.le_of_ble_eq_true rfl) hce dL_1011 rfl ?_
  refine l_aload_n 1015 C dL_1014 rfl (j := 2) rfl rfl ?_
  refine l_aload_n 1016 C dL_1015 rfl (j := 0) rfl rfl ?_
  refine l_iload 1018 C dL_1016 (j := 4) rfl rfl ?_
  refine l_iconst 1019 (v := 1) C dL_1018 (by decide) rfl ?_
  refine l_iadd 1020 C dL_1019 rfl ?_
  refine l_sld 1021 C hi1 dL_1020 rfl ?_
  rw [hs1]
  refine l_aload_n 1022 C dL_1021 rfl (j := 0) rfl rfl ?_
  refine l_iload 1024 C dL_1022 (j := 4) rfl rfl ?_
  refine l_iconst 1025 (v := 2) C dL_1024 (by decide) rfl ?_
  refine l_iadd 1026 C dL_1025 rfl ?_
  refine l_sld 1027 C hi2 dL_1026 rfl ?_
  rw [hs2]
  refine l_aload_n 1028 C dL_1027 rfl (j := 0) rfl rfl ?_
  refine l_iload 1030 C dL_1028 (j := 4) rfl rfl ?_
  refine l_iconst 1031 (v := 3) C dL_1030 (by decide) rfl ?_
  refine l_iadd 1032 C dL_1031 rfl ?_
  refine l_sld 1033 C hi3 dL_1032 rfl ?_
  rw [hs3]
  refine l_cM 1036 C (As := [.int s1, .int s2, .int s3]) (o := oM) (mX8_ahead (a1 := s1) (a2 := s2) (a3 := s3) (σ := σM) hM) wl_L_124 wi_X8_ahead wz_X8_ahead wc_X8_ahead wn_X8 qX8_ahead rfl rfl ⟨Nat.le_of_ble_eq_true rfl, Nat.le_of_ble_eq_true rfl⟩ rfl rfl (Nat.le_of_ble_eq_true rfl) hce dL_1033 rfl ?_
  refine l_icmp_eq 1102 1039 C dL_1036 (by decide) rfl (fun hc => ?_) (fun hc => ?_)
  · refine l_sub [0, 1, 2, 3, 4] ?_ rfl
    exact hend _ _ _ _ _ hrel (by omega) (by omega)
  · exact absurd (heq) hc
set_option maxHeartbeats 4000000 in
set_option maxRecDepth 100000 in
theorem law_swapped {E : Gx} {cI cL : ClassId} {adX adM : Nat → Nat} {qo b L sa : Nat} {xs : Nat → Int32} (C : CL E cI cL adX adM qo b L sa xs) {Rel : Nat → Mem → Mem → Prop} {k ce sl : Nat} {x4 : Int32} {σX σM : Mem} {fo : Nat → Int64} (hce : ce ≤ room_1.cells ∧ sl ≤ room_1.slots) (hce6 : ce + 1 ≤ room_1.cells ∧ sl + 6 ≤ room_1.slots) (hi1 : vp_in (x4 + 1) L) (hi2 : vp_in (x4 + 2) L) (hi3 : vp_in (x4 + 3) L) (hi4 : vp_in (x4 + 4) L) (hsim : Sim_swapped Rel k σX σM) (hend : ∀ (τX τM : Mem) (go : Nat → Int64) (ce2 sl2 : Nat), Rel (k + 1) τX τM → ce2 ≤ ce + 1 → sl2 ≤ sl + 6 → GL E cI cL adX adM qo 1102 [(0, .ref b), (1, .ref (adX 7)), (2, .ref (adM 0)), (3, .ref qo), (4, .int x4)] [] τX τM go ce2 sl2) : GL E cI cL adX adM qo 1041 [(0, .ref b), (1, .ref (adX 7)), (2, .ref (adM 0)), (3, .ref qo), (4, .int x4)] [] σX σM fo ce sl := by
  obtain ⟨s1, hs1⟩ : ∃ z, xs (x4 + 1).toNatClampNeg = z := ⟨_, rfl⟩
  obtain ⟨s2, hs2⟩ : ∃ z, xs (x4 + 2).toNatClampNeg = z := ⟨_, rfl⟩
  obtain ⟨s3, hs3⟩ : ∃ z, xs (x4 + 3).toNatClampNeg = z := ⟨_, rfl⟩
  obtain ⟨s4, hs4⟩ : ∃ z, xs (x4 + 4).toNatClampNeg = z := ⟨_, rfl⟩
  obtain ⟨oX, oM, hX, hM, heq, hrel⟩ := hsim s1 s2 s3 s4
  refine l_aload_n 1042 C dL_1041 rfl (j := 1) rfl rfl ?_
  refine l_aload_n 1043 C dL_1042 rfl (j := 0) rfl rfl ?_
  refine l_iload 1045 C dL_1043 (j := 4) rfl rfl ?_
  refine l_iconst 1046 (v := 1) C dL_1045 (by decide) rfl ?_
  refine l_iadd 1047 C dL_1046 rfl ?_
  refine l_sld 1048 C hi1 dL_1047 rfl ?_
  rw [hs1]
  refine l_aload_n 1049 C dL_1048 rfl (j := 0) rfl rfl ?_
  refine l_iload 1051 C dL_1049 (j := 4) rfl rfl ?_
  refine l_iconst 1052 (v := 2) C dL_1051 (by decide) rfl ?_
  refine l_iadd 1053 C dL_1052 rfl ?_
  refine l_sld 1054 C hi2 dL_1053 rfl ?_
  rw [hs2]
  refine l_aload_n 1055 C dL_1054 rfl (j := 0) rfl rfl ?_
  refine l_iload 1057 C dL_1055 (j := 4) rfl rfl ?_
  refine l_iconst 1058 (v := 3) C dL_1057 (by decide) rfl ?_
  refine l_iadd 1059 C dL_1058 rfl ?_
  refine l_sld 1060 C hi3 dL_1059 rfl ?_
  rw [hs3]
  refine l_aload_n 1061 C dL_1060 rfl (j := 0) rfl rfl ?_
  refine l_iload 1063 C dL_1061 (j := 4) rfl rfl ?_
  refine l_iconst 1064 (v := 4) C dL_1063 (by decide) rfl ?_
  refine l_iadd 1065 C dL_1064 rfl ?_
  refine l_sld 1066 C hi4 dL_1065 rfl ?_
  rw [hs4]
  refine l_cX 1069 C (As := [.int s1, .int s2, .int s3, .int s4]) (o := oX) (mX7_swapped (a1 := s1) (a2 := s2) (a3 := s3) (a4 := s4) (σ := σX) hX) wl_L_125 wi_X7_swapped wz_X7_swapped wc_X7_swapped wn_X7 qX7_swapped rfl rfl ⟨Nat.le_of_ble_eq_true rfl, Nat.le_of_ble_eq_true rfl⟩ rfl rfl (Nat.le_of_ble_eq_true rfl) hce dL_1066 rfl ?_
  refine l_aload_n 1070 C dL_1069 rfl (j := 2) rfl rfl ?_
  refine l_aload_n 1071 C dL_1070 rfl (j := 0) rfl rfl ?_
  refine l_iload 1073 C dL_1071 (j := 4) rfl rfl ?_
  refine l_iconst 1074 (v := 1) C dL_1073 (by decide) rfl ?_
  refine l_iadd 1075 C dL_1074 rfl ?_
  refine l_sld 1076 C hi1 dL_1075 rfl ?_
  rw [hs1]
  refine l_aload_n 1077 C dL_1076 rfl (j := 0) rfl rfl ?_
  refine l_iload 1079 C dL_1077 (j := 4) rfl rfl ?_
  refine l_iconst 1080 (v := 2) C dL_1079 (by decide) rfl ?_
  refine l_iadd 1081 C dL_1080 rfl ?_
  refine l_sld 1082 C hi2 dL_1081 rfl ?_
  rw [hs2]
  refine l_aload_n 1083 C dL_1082 rfl (j := 0) rfl rfl ?_
  refine l_iload 1085 C dL_1083 (j := 4) rfl rfl ?_
  refine l_iconst 1086 (v := 3) C dL_1085 (by decide) rfl ?_
  refine l_iadd 1087 C dL_1086 rfl ?_
  refine l_sld 1088 C hi3 dL_1087 rfl ?_
  rw [hs3]
  refine l_aload_n 1089 C dL_1088 rfl (j := 0) rfl rfl ?_
  refine l_iload 1091 C dL_1089 (j := 4) rfl rfl ?_
  refine l_iconst 1092 (v := 4) C dL_1091 (by decide) rfl ?_
  refine l_iadd 1093 C dL_1092 rfl ?_
  refine l_sld 1094 C hi4 dL_1093 rfl ?_
  rw [hs4]
  refine l_cM 1097 C (As := [.int s1, .int s2, .int s3, .int s4]) (o := oM) (mX8_swapped (a1 := s1) (a2 := s2) (a3 := s3) (a4 := s4) (σ := σM) hM) wl_L_128 wi_X8_swapped wz_X8_swapped wc_X8_swapped wn_X8 qX8_swapped rfl rfl ⟨Nat.le_of_ble_eq_true rfl, Nat.le_of_ble_eq_true rfl⟩ rfl rfl (Nat.le_of_ble_eq_true rfl) hce dL_1094 rfl ?_
  refine l_icmp_eq 1102 1100 C dL_1097 (by decide) rfl (fun hc => ?_) (fun hc => ?_)
  · refine l_sub [0, 1, 2, 3, 4] ?_ rfl
    exact hend _ _ _ _ _ hrel (by omega) (by omega)
  · exact absurd (heq) hc
