/-! LoopReducer$Cycles.codeOfInput(I)I -/
abbrev rmX0_codeOfInput : Room := { frames := 0, cells := 0, slots := 0, locals := 0 }
theorem qX0_codeOfInput : yX0_codeOfInput.cls ≠ "java/lang/invoke/MethodHandle" ∧ yX0_codeOfInput.cls ≠ "java/lang/invoke/VarHandle" ∧ (parseMethodDescriptor yX0_codeOfInput.desc).map (fun d => d.parameters.length) = some 1 := by decide +kernel
theorem DX0_codeOfInput : ∀ q ∈ ([(0, .iload_n 0, 1), (1, .ifCond .ne 5, 3), (4, .iconst 1, 1), (5, .ireturn, 1), (6, .iload_n 0, 1), (7, .iconst 1, 1), (8, .if_icmp .ne 8, 3), (11, .bipush 7, 2), (13, .goto 5, 3), (16, .bipush 49, 2), (18, .ireturn, 1)] : List (Nat × Instr × Nat)), decode cX0_codeOfInput q.1 = .ok q.2 := by decide +kernel
theorem dX0_codeOfInput_0 : decode cX0_codeOfInput 0 = .ok (.iload_n 0, 1) := DX0_codeOfInput (0, .iload_n 0, 1) (List.mem_of_getElem? (i := 0) rfl)
theorem dX0_codeOfInput_1 : decode cX0_codeOfInput 1 = .ok (.ifCond .ne 5, 3) := DX0_codeOfInput (1, .ifCond .ne 5, 3) (List.mem_of_getElem? (i := 1) rfl)
theorem dX0_codeOfInput_4 : decode cX0_codeOfInput 4 = .ok (.iconst 1, 1) := DX0_codeOfInput (4, .iconst 1, 1) (List.mem_of_getElem? (i := 2) rfl)
theorem dX0_codeOfInput_5 : decode cX0_codeOfInput 5 = .ok (.ireturn, 1) := DX0_codeOfInput (5, .ireturn, 1) (List.mem_of_getElem? (i := 3) rfl)
theorem dX0_codeOfInput_6 : decode cX0_codeOfInput 6 = .ok (.iload_n 0, 1) := DX0_codeOfInput (6, .iload_n 0, 1) (List.mem_of_getElem? (i := 4) rfl)
theorem dX0_codeOfInput_7 : decode cX0_codeOfInput 7 = .ok (.iconst 1, 1) := DX0_codeOfInput (7, .iconst 1, 1) (List.mem_of_getElem? (i := 5) rfl)
theorem dX0_codeOfInput_8 : decode cX0_codeOfInput 8 = .ok (.if_icmp .ne 8, 3) := DX0_codeOfInput (8, .if_icmp .ne 8, 3) (List.mem_of_getElem? (i := 6) rfl)
theorem dX0_codeOfInput_11 : decode cX0_codeOfInput 11 = .ok (.bipush 7, 2) := DX0_codeOfInput (11, .bipush 7, 2) (List.mem_of_getElem? (i := 7) rfl)
theorem dX0_codeOfInput_13 : decode cX0_codeOfInput 13 = .ok (.goto 5, 3) := DX0_codeOfInput (13, .goto 5, 3) (List.mem_of_getElem? (i := 8) rfl)
theorem dX0_codeOfInput_16 : decode cX0_codeOfInput 16 = .ok (.bipush 49, 2) := DX0_codeOfInput (16, .bipush 49, 2) (List.mem_of_getElem? (i := 9) rfl)
theorem dX0_codeOfInput_18 : decode cX0_codeOfInput 18 = .ok (.ireturn, 1) := DX0_codeOfInput (18, .ireturn, 1) (List.mem_of_getElem? (i := 10) rfl)
noncomputable def fX0_codeOfInput_L18 (s0 : Int32) (σ : Mem) : Option (Int32 × Mem) :=
  some (s0, σ)
set_option maxHeartbeats 4000000 in
set_option maxRecDepth 100000 in
theorem tX0_codeOfInput_L18 {E : Gx} {cI : ClassId} {ad : Nat → Nat} (C : Cx E rmX0_codeOfInput cI layX ad 1 RX0 cX0_codeOfInput) {out : Int32 × Mem} (K0 : KI E rmX0_codeOfInput cI layX ad 1 cX0_codeOfInput .int out) {s0 : Int32} {σ : Mem} (h : fX0_codeOfInput_L18 s0 σ = some out) : G E rmX0_codeOfInput cI layX ad 1 18 [] [.int s0] σ := by
  unfold fX0_codeOfInput_L18 at h
  cases h
  exact K0 _ _ dX0_codeOfInput_18 rfl
noncomputable def fX0_codeOfInput (a1 : Int32) (σ : Mem) : Option (Int32 × Mem) :=
  if a1 = 0 then
    some (1, σ)
  else
    if a1 = 1 then
      fX0_codeOfInput_L18 7 σ
    else
      fX0_codeOfInput_L18 49 σ
set_option maxHeartbeats 4000000 in
set_option maxRecDepth 100000 in
theorem mX0_codeOfInput {l : Launch} {D : va_G} {cI : ClassId} {ad : Nat → Nat} {a1 : Int32} {σ : Mem} {out : Int32 × Mem} (h : fX0_codeOfInput a1 σ = some out) : MI l D cI layX ad yX0_codeOfInput cX0_codeOfInput 1 .int rmX0_codeOfInput [.int a1] σ out := by
  refine met_i (by decide) (Nat.le_of_ble_eq_true rfl) (fun E C K0 => ?_)
  show G E rmX0_codeOfInput cI layX ad 1 0 [(0, .int a1)] [] σ
  unfold fX0_codeOfInput at h
  refine g_iload_n 1 C dX0_codeOfInput_0 rfl (j := 0) rfl rfl ?_
  refine g_if_ne 6 4 C dX0_codeOfInput_1 (by decide) rfl h (fun h => ?_) (fun h => ?_)
  · refine g_iconst 5 (v := 1) C dX0_codeOfInput_4 (by decide) rfl ?_
    cases h
    exact K0 _ _ dX0_codeOfInput_5 rfl
  · refine g_iload_n 7 C dX0_codeOfInput_6 rfl (j := 0) rfl rfl ?_
    refine g_iconst 8 (v := 1) C dX0_codeOfInput_7 (by decide) rfl ?_
    refine g_icmp_ne 16 11 C dX0_codeOfInput_8 (by decide) rfl h (fun h => ?_) (fun h => ?_)
    · refine g_bipush 13 (v := 7) C dX0_codeOfInput_11 (by decide) rfl ?_
      refine g_goto 18 C dX0_codeOfInput_13 (by decide) ?_
      exact g_sub [] (tX0_codeOfInput_L18 (s0 := 7) (σ := σ) C K0 h) rfl
    · refine g_bipush 18 (v := 49) C dX0_codeOfInput_16 (by decide) rfl ?_
      exact g_sub [] (tX0_codeOfInput_L18 (s0 := 49) (σ := σ) C K0 h) rfl

/-! LoopReducer$Cycles.findMembers()V -/
abbrev rmX0_findMembers : Room := { frames := 2, cells := 0, slots := 0, locals := 42 }
theorem qX0_findMembers : yX0_findMembers.cls ≠ "java/lang/invoke/MethodHandle" ∧ yX0_findMembers.cls ≠ "java/lang/invoke/VarHandle" ∧ (parseMethodDescriptor yX0_findMembers.desc).map (fun d => d.parameters.length) = some 0 := by decide +kernel
theorem DX0_findMembers : ∀ q ∈ ([(0, .iconst 0, 1), (1, .istore_n 1, 1), (2, .iload_n 1, 1), (3, .aload_n 0, 1), (4, .getfield 24, 3), (7, .getfield 42, 3), (10, .if_icmp .ge 23, 3), (13, .aload_n 0, 1), (14, .getfield 9, 3), (17, .iload_n 1, 1), (18, .aload_n 0, 1), (19, .getfield 24, 3), (22, .iload_n 1, 1), (23, .invokevirtual 56, 3), (26, .iastore, 1), (27, .iinc 1 1, 3), (30, .goto (-28), 3), (33, .iconst 0, 1), (34, .istore_n 1, 1), (35, .iload_n 1, 1), (36, .aload_n 0, 1), (37, .getfield 24, 3), (40, .getfield 42, 3), (43, .if_icmp .ge 56, 3), (46, .iconst 0, 1), (47, .istore_n 2, 1), (48, .iload_n 2, 1), (49, .aload_n 0, 1), (50, .getfield 24, 3), (53, .getfield 42, 3), (56, .if_icmp .ge 37, 3), (59, .aload_n 0, 1), (60, .getfield 9, 3), (63, .iload_n 2, 1), (64, .iaload, 1), (65, .iload_n 1, 1), (66, .invokestatic 45, 3), (69, .ifCond .eq 18, 3), (72, .aload_n 0, 1), (73, .getfield 9, 3), (76, .iload_n 2, 1), (77, .dup2, 1), (78, .iaload, 1), (79, .aload_n 0, 1), (80, .getfield 9, 3), (83, .iload_n 1, 1), (84, .iaload, 1), (85, .ior, 1), (86, .iastore, 1), (87, .iinc 2 1, 3), (90, .goto (-42), 3), (93, .iinc 1 1, 3), (96, .goto (-61), 3), (99, .iconst 0, 1), (100, .istore_n 1, 1), (101, .iload_n 1, 1), (102, .aload_n 0, 1), (103, .getfield 24, 3), (106, .getfield 42, 3), (109, .if_icmp .ge 75, 3), (112, .aload_n 0, 1), (113, .getfield 15, 3), (116, .iload_n 1, 1), (117, .iconst 1, 1), (118, .iload_n 1, 1), (119, .ishl, 1), (120, .iastore, 1), (121, .iconst 0, 1), (122, .istore_n 2, 1), (123, .iload_n 2, 1), (124, .aload_n 0, 1), (125, .getfield 24, 3), (128, .getfield 42, 3), (131, .if_icmp .ge 47, 3), (134, .aload_n 0, 1), (135, .getfield 9, 3), (138, .iload_n 1, 1), (139, .iaload, 1), (140, .iload_n 2, 1), (141, .invokestatic 45, 3), (144, .ifCond .eq 28, 3), (147, .aload_n 0, 1), (148, .getfield 9, 3), (151, .iload_n 2, 1), (152, .iaload, 1), (153, .iload_n 1, 1), (154, .invokestatic 45, 3), (157, .ifCond .eq 15, 3), (160, .aload_n 0, 1), (161, .getfield 15, 3), (164, .iload_n 1, 1), (165, .dup2, 1), (166, .iaload, 1), (167, .iconst 1, 1), (168, .iload_n 2, 1), (169, .ishl, 1), (170, .ior, 1), (171, .iastore, 1), (172, .iinc 2 1, 3), (175, .goto (-52), 3), (178, .iinc 1 1, 3), (181, .goto (-80), 3), (184, .return_, 1)] : List (Nat × Instr × Nat)), decode cX0_findMembers q.1 = .ok q.2 := by decide +kernel
theorem dX0_findMembers_0 : decode cX0_findMembers 0 = .ok (.iconst 0, 1) := DX0_findMembers (0, .iconst 0, 1) (List.mem_of_getElem? (i := 0) rfl)
theorem dX0_findMembers_1 : decode cX0_findMembers 1 = .ok (.istore_n 1, 1) := DX0_findMembers (1, .istore_n 1, 1) (List.mem_of_getElem? (i := 1) rfl)
theorem dX0_findMembers_2 : decode cX0_findMembers 2 = .ok (.iload_n 1, 1) := DX0_findMembers (2, .iload_n 1, 1) (List.mem_of_getElem? (i := 2) rfl)
theorem dX0_findMembers_3 : decode cX0_findMembers 3 = .ok (.aload_n 0, 1) := DX0_findMembers (3, .aload_n 0, 1) (List.mem_of_getElem? (i := 3) rfl)
theorem dX0_findMembers_4 : decode cX0_findMembers 4 = .ok (.getfield 24, 3) := DX0_findMembers (4, .getfield 24, 3) (List.mem_of_getElem? (i := 4) rfl)
theorem dX0_findMembers_7 : decode cX0_findMembers 7 = .ok (.getfield 42, 3) := DX0_findMembers (7, .getfield 42, 3) (List.mem_of_getElem? (i := 5) rfl)
theorem dX0_findMembers_10 : decode cX0_findMembers 10 = .ok (.if_icmp .ge 23, 3) := DX0_findMembers (10, .if_icmp .ge 23, 3) (List.mem_of_getElem? (i := 6) rfl)
theorem dX0_findMembers_13 : decode cX0_findMembers 13 = .ok (.aload_n 0, 1) := DX0_findMembers (13, .aload_n 0, 1) (List.mem_of_getElem? (i := 7) rfl)
theorem dX0_findMembers_14 : decode cX0_findMembers 14 = .ok (.getfield 9, 3) := DX0_findMembers (14, .getfield 9, 3) (List.mem_of_getElem? (i := 8) rfl)
theorem dX0_findMembers_17 : decode cX0_findMembers 17 = .ok (.iload_n 1, 1) := DX0_findMembers (17, .iload_n 1, 1) (List.mem_of_getElem? (i := 9) rfl)
theorem dX0_findMembers_18 : decode cX0_findMembers 18 = .ok (.aload_n 0, 1) := DX0_findMembers (18, .aload_n 0, 1) (List.mem_of_getElem? (i := 10) rfl)
theorem dX0_findMembers_19 : decode cX0_findMembers 19 = .ok (.getfield 24, 3) := DX0_findMembers (19, .getfield 24, 3) (List.mem_of_getElem? (i := 11) rfl)
theorem dX0_findMembers_22 : decode cX0_findMembers 22 = .ok (.iload_n 1, 1) := DX0_findMembers (22, .iload_n 1, 1) (List.mem_of_getElem? (i := 12) rfl)
theorem dX0_findMembers_23 : decode cX0_findMembers 23 = .ok (.invokevirtual 56, 3) := DX0_findMembers (23, .invokevirtual 56, 3) (List.mem_of_getElem? (i := 13) rfl)
theorem dX0_findMembers_26 : decode cX0_findMembers 26 = .ok (.iastore, 1) := DX0_findMembers (26, .iastore, 1) (List.mem_of_getElem? (i := 14) rfl)
theorem dX0_findMembers_27 : decode cX0_findMembers 27 = .ok (.iinc 1 1, 3) := DX0_findMembers (27, .iinc 1 1, 3) (List.mem_of_getElem? (i := 15) rfl)
theorem dX0_findMembers_30 : decode cX0_findMembers 30 = .ok (.goto (-28), 3) := DX0_findMembers (30, .goto (-28), 3) (List.mem_of_getElem? (i := 16) rfl)
theorem dX0_findMembers_33 : decode cX0_findMembers 33 = .ok (.iconst 0, 1) := DX0_findMembers (33, .iconst 0, 1) (List.mem_of_getElem? (i := 17) rfl)
theorem dX0_findMembers_34 : decode cX0_findMembers 34 = .ok (.istore_n 1, 1) := DX0_findMembers (34, .istore_n 1, 1) (List.mem_of_getElem? (i := 18) rfl)
theorem dX0_findMembers_35 : decode cX0_findMembers 35 = .ok (.iload_n 1, 1) := DX0_findMembers (35, .iload_n 1, 1) (List.mem_of_getElem? (i := 19) rfl)
theorem dX0_findMembers_36 : decode cX0_findMembers 36 = .ok (.aload_n 0, 1) := DX0_findMembers (36, .aload_n 0, 1) (List.mem_of_getElem? (i := 20) rfl)
theorem dX0_findMembers_37 : decode cX0_findMembers 37 = .ok (.getfield 24, 3) := DX0_findMembers (37, .getfield 24, 3) (List.mem_of_getElem? (i := 21) rfl)
theorem dX0_findMembers_40 : decode cX0_findMembers 40 = .ok (.getfield 42, 3) := DX0_findMembers (40, .getfield 42, 3) (List.mem_of_getElem? (i := 22) rfl)
theorem dX0_findMembers_43 : decode cX0_findMembers 43 = .ok (.if_icmp .ge 56, 3) := DX0_findMembers (43, .if_icmp .ge 56, 3) (List.mem_of_getElem? (i := 23) rfl)
theorem dX0_findMembers_46 : decode cX0_findMembers 46 = .ok (.iconst 0, 1) := DX0_findMembers (46, .iconst 0, 1) (List.mem_of_getElem? (i := 24) rfl)
theorem dX0_findMembers_47 : decode cX0_findMembers 47 = .ok (.istore_n 2, 1) := DX0_findMembers (47, .istore_n 2, 1) (List.mem_of_getElem? (i := 25) rfl)
theorem dX0_findMembers_48 : decode cX0_findMembers 48 = .ok (.iload_n 2, 1) := DX0_findMembers (48, .iload_n 2, 1) (List.mem_of_getElem? (i := 26) rfl)
theorem dX0_findMembers_49 : decode cX0_findMembers 49 = .ok (.aload_n 0, 1) := DX0_findMembers (49, .aload_n 0, 1) (List.mem_of_getElem? (i := 27) rfl)
theorem dX0_findMembers_50 : decode cX0_findMembers 50 = .ok (.getfield 24, 3) := DX0_findMembers (50, .getfield 24, 3) (List.mem_of_getElem? (i := 28) rfl)
theorem dX0_findMembers_53 : decode cX0_findMembers 53 = .ok (.getfield 42, 3) := DX0_findMembers (53, .getfield 42, 3) (List.mem_of_getElem? (i := 29) rfl)
theorem dX0_findMembers_56 : decode cX0_findMembers 56 = .ok (.if_icmp .ge 37, 3) := DX0_findMembers (56, .if_icmp .ge 37, 3) (List.mem_of_getElem? (i := 30) rfl)
theorem dX0_findMembers_59 : decode cX0_findMembers 59 = .ok (.aload_n 0, 1) := DX0_findMembers (59, .aload_n 0, 1) (List.mem_of_getElem? (i := 31) rfl)
theorem dX0_findMembers_60 : decode cX0_findMembers 60 = .ok (.getfield 9, 3) := DX0_findMembers (60, .getfield 9, 3) (List.mem_of_getElem? (i := 32) rfl)
theorem dX0_findMembers_63 : decode cX0_findMembers 63 = .ok (.iload_n 2, 1) := DX0_findMembers (63, .iload_n 2, 1) (List.mem_of_getElem? (i := 33) rfl)
theorem dX0_findMembers_64 : decode cX0_findMembers 64 = .ok (.iaload, 1) := DX0_findMembers (64, .iaload, 1) (List.mem_of_getElem? (i := 34) rfl)
theorem dX0_findMembers_65 : decode cX0_findMembers 65 = .ok (.iload_n 1, 1) := DX0_findMembers (65, .iload_n 1, 1) (List.mem_of_getElem? (i := 35) rfl)
theorem dX0_findMembers_66 : decode cX0_findMembers 66 = .ok (.invokestatic 45, 3) := DX0_findMembers (66, .invokestatic 45, 3) (List.mem_of_getElem? (i := 36) rfl)
theorem dX0_findMembers_69 : decode cX0_findMembers 69 = .ok (.ifCond .eq 18, 3) := DX0_findMembers (69, .ifCond .eq 18, 3) (List.mem_of_getElem? (i := 37) rfl)
theorem dX0_findMembers_72 : decode cX0_findMembers 72 = .ok (.aload_n 0, 1) := DX0_findMembers (72, .aload_n 0, 1) (List.mem_of_getElem? (i := 38) rfl)
theorem dX0_findMembers_73 : decode cX0_findMembers 73 = .ok (.getfield 9, 3) := DX0_findMembers (73, .getfield 9, 3) (List.mem_of_getElem? (i := 39) rfl)
theorem dX0_findMembers_76 : decode cX0_findMembers 76 = .ok (.iload_n 2, 1) := DX0_findMembers (76, .iload_n 2, 1) (List.mem_of_getElem? (i := 40) rfl)
theorem dX0_findMembers_77 : decode cX0_findMembers 77 = .ok (.dup2, 1) := DX0_findMembers (77, .dup2, 1) (List.mem_of_getElem? (i := 41) rfl)
theorem dX0_findMembers_78 : decode cX0_findMembers 78 = .ok (.iaload, 1) := DX0_findMembers (78, .iaload, 1) (List.mem_of_getElem? (i := 42) rfl)
theorem dX0_findMembers_79 : decode cX0_findMembers 79 = .ok (.aload_n 0, 1) := DX0_findMembers (79, .aload_n 0, 1) (List.mem_of_getElem? (i := 43) rfl)
theorem dX0_findMembers_80 : decode cX0_findMembers 80 = .ok (.getfield 9, 3) := DX0_findMembers (80, .getfield 9, 3) (List.mem_of_getElem? (i := 44) rfl)
theorem dX0_findMembers_83 : decode cX0_findMembers 83 = .ok (.iload_n 1, 1) := DX0_findMembers (83, .iload_n 1, 1) (List.mem_of_getElem? (i := 45) rfl)
theorem dX0_findMembers_84 : decode cX0_findMembers 84 = .ok (.iaload, 1) := DX0_findMembers (84, .iaload, 1) (List.mem_of_getElem? (i := 46) rfl)
theorem dX0_findMembers_85 : decode cX0_findMembers 85 = .ok (.ior, 1) := DX0_findMembers (85, .ior, 1) (List.mem_of_getElem? (i := 47) rfl)
theorem dX0_findMembers_86 : decode cX0_findMembers 86 = .ok (.iastore, 1) := DX0_findMembers (86, .iastore, 1) (List.mem_of_getElem? (i := 48) rfl)
theorem dX0_findMembers_87 : decode cX0_findMembers 87 = .ok (.iinc 2 1, 3) := DX0_findMembers (87, .iinc 2 1, 3) (List.mem_of_getElem? (i := 49) rfl)
theorem dX0_findMembers_90 : decode cX0_findMembers 90 = .ok (.goto (-42), 3) := DX0_findMembers (90, .goto (-42), 3) (List.mem_of_getElem? (i := 50) rfl)
theorem dX0_findMembers_93 : decode cX0_findMembers 93 = .ok (.iinc 1 1, 3) := DX0_findMembers (93, .iinc 1 1, 3) (List.mem_of_getElem? (i := 51) rfl)
theorem dX0_findMembers_96 : decode cX0_findMembers 96 = .ok (.goto (-61), 3) := DX0_findMembers (96, .goto (-61), 3) (List.mem_of_getElem? (i := 52) rfl)
theorem dX0_findMembers_99 : decode cX0_findMembers 99 = .ok (.iconst 0, 1) := DX0_findMembers (99, .iconst 0, 1) (List.mem_of_getElem? (i := 53) rfl)
theorem dX0_findMembers_100 : decode cX0_findMembers 100 = .ok (.istore_n 1, 1) := DX0_findMembers (100, .istore_n 1, 1) (List.mem_of_getElem? (i := 54) rfl)
theorem dX0_findMembers_101 : decode cX0_findMembers 101 = .ok (.iload_n 1, 1) := DX0_findMembers (101, .iload_n 1, 1) (List.mem_of_getElem? (i := 55) rfl)
theorem dX0_findMembers_102 : decode cX0_findMembers 102 = .ok (.aload_n 0, 1) := DX0_findMembers (102, .aload_n 0, 1) (List.mem_of_getElem? (i := 56) rfl)
theorem dX0_findMembers_103 : decode cX0_findMembers 103 = .ok (.getfield 24, 3) := DX0_findMembers (103, .getfield 24, 3) (List.mem_of_getElem? (i := 57) rfl)
theorem dX0_findMembers_106 : decode cX0_findMembers 106 = .ok (.getfield 42, 3) := DX0_findMembers (106, .getfield 42, 3) (List.mem_of_getElem? (i := 58) rfl)
theorem dX0_findMembers_109 : decode cX0_findMembers 109 = .ok (.if_icmp .ge 75, 3) := DX0_findMembers (109, .if_icmp .ge 75, 3) (List.mem_of_getElem? (i := 59) rfl)
theorem dX0_findMembers_112 : decode cX0_findMembers 112 = .ok (.aload_n 0, 1) := DX0_findMembers (112, .aload_n 0, 1) (List.mem_of_getElem? (i := 60) rfl)
theorem dX0_findMembers_113 : decode cX0_findMembers 113 = .ok (.getfield 15, 3) := DX0_findMembers (113, .getfield 15, 3) (List.mem_of_getElem? (i := 61) rfl)
theorem dX0_findMembers_116 : decode cX0_findMembers 116 = .ok (.iload_n 1, 1) := DX0_findMembers (116, .iload_n 1, 1) (List.mem_of_getElem? (i := 62) rfl)
theorem dX0_findMembers_117 : decode cX0_findMembers 117 = .ok (.iconst 1, 1) := DX0_findMembers (117, .iconst 1, 1) (List.mem_of_getElem? (i := 63) rfl)
theorem dX0_findMembers_118 : decode cX0_findMembers 118 = .ok (.iload_n 1, 1) := DX0_findMembers (118, .iload_n 1, 1) (List.mem_of_getElem? (i := 64) rfl)
theorem dX0_findMembers_119 : decode cX0_findMembers 119 = .ok (.ishl, 1) := DX0_findMembers (119, .ishl, 1) (List.mem_of_getElem? (i := 65) rfl)
theorem dX0_findMembers_120 : decode cX0_findMembers 120 = .ok (.iastore, 1) := DX0_findMembers (120, .iastore, 1) (List.mem_of_getElem? (i := 66) rfl)
theorem dX0_findMembers_121 : decode cX0_findMembers 121 = .ok (.iconst 0, 1) := DX0_findMembers (121, .iconst 0, 1) (List.mem_of_getElem? (i := 67) rfl)
theorem dX0_findMembers_122 : decode cX0_findMembers 122 = .ok (.istore_n 2, 1) := DX0_findMembers (122, .istore_n 2, 1) (List.mem_of_getElem? (i := 68) rfl)
theorem dX0_findMembers_123 : decode cX0_findMembers 123 = .ok (.iload_n 2, 1) := DX0_findMembers (123, .iload_n 2, 1) (List.mem_of_getElem? (i := 69) rfl)
theorem dX0_findMembers_124 : decode cX0_findMembers 124 = .ok (.aload_n 0, 1) := DX0_findMembers (124, .aload_n 0, 1) (List.mem_of_getElem? (i := 70) rfl)
theorem dX0_findMembers_125 : decode cX0_findMembers 125 = .ok (.getfield 24, 3) := DX0_findMembers (125, .getfield 24, 3) (List.mem_of_getElem? (i := 71) rfl)
theorem dX0_findMembers_128 : decode cX0_findMembers 128 = .ok (.getfield 42, 3) := DX0_findMembers (128, .getfield 42, 3) (List.mem_of_getElem? (i := 72) rfl)
theorem dX0_findMembers_131 : decode cX0_findMembers 131 = .ok (.if_icmp .ge 47, 3) := DX0_findMembers (131, .if_icmp .ge 47, 3) (List.mem_of_getElem? (i := 73) rfl)
theorem dX0_findMembers_134 : decode cX0_findMembers 134 = .ok (.aload_n 0, 1) := DX0_findMembers (134, .aload_n 0, 1) (List.mem_of_getElem? (i := 74) rfl)
theorem dX0_findMembers_135 : decode cX0_findMembers 135 = .ok (.getfield 9, 3) := DX0_findMembers (135, .getfield 9, 3) (List.mem_of_getElem? (i := 75) rfl)
theorem dX0_findMembers_138 : decode cX0_findMembers 138 = .ok (.iload_n 1, 1) := DX0_findMembers (138, .iload_n 1, 1) (List.mem_of_getElem? (i := 76) rfl)
theorem dX0_findMembers_139 : decode cX0_findMembers 139 = .ok (.iaload, 1) := DX0_findMembers (139, .iaload, 1) (List.mem_of_getElem? (i := 77) rfl)
theorem dX0_findMembers_140 : decode cX0_findMembers 140 = .ok (.iload_n 2, 1) := DX0_findMembers (140, .iload_n 2, 1) (List.mem_of_getElem? (i := 78) rfl)
theorem dX0_findMembers_141 : decode cX0_findMembers 141 = .ok (.invokestatic 45, 3) := DX0_findMembers (141, .invokestatic 45, 3) (List.mem_of_getElem? (i := 79) rfl)
theorem dX0_findMembers_144 : decode cX0_findMembers 144 = .ok (.ifCond .eq 28, 3) := DX0_findMembers (144, .ifCond .eq 28, 3) (List.mem_of_getElem? (i := 80) rfl)
theorem dX0_findMembers_147 : decode cX0_findMembers 147 = .ok (.aload_n 0, 1) := DX0_findMembers (147, .aload_n 0, 1) (List.mem_of_getElem? (i := 81) rfl)
theorem dX0_findMembers_148 : decode cX0_findMembers 148 = .ok (.getfield 9, 3) := DX0_findMembers (148, .getfield 9, 3) (List.mem_of_getElem? (i := 82) rfl)
theorem dX0_findMembers_151 : decode cX0_findMembers 151 = .ok (.iload_n 2, 1) := DX0_findMembers (151, .iload_n 2, 1) (List.mem_of_getElem? (i := 83) rfl)
theorem dX0_findMembers_152 : decode cX0_findMembers 152 = .ok (.iaload, 1) := DX0_findMembers (152, .iaload, 1) (List.mem_of_getElem? (i := 84) rfl)
theorem dX0_findMembers_153 : decode cX0_findMembers 153 = .ok (.iload_n 1, 1) := DX0_findMembers (153, .iload_n 1, 1) (List.mem_of_getElem? (i := 85) rfl)
theorem dX0_findMembers_154 : decode cX0_findMembers 154 = .ok (.invokestatic 45, 3) := DX0_findMembers (154, .invokestatic 45, 3) (List.mem_of_getElem? (i := 86) rfl)
theorem dX0_findMembers_157 : decode cX0_findMembers 157 = .ok (.ifCond .eq 15, 3) := DX0_findMembers (157, .ifCond .eq 15, 3) (List.mem_of_getElem? (i := 87) rfl)
theorem dX0_findMembers_160 : decode cX0_findMembers 160 = .ok (.aload_n 0, 1) := DX0_findMembers (160, .aload_n 0, 1) (List.mem_of_getElem? (i := 88) rfl)
theorem dX0_findMembers_161 : decode cX0_findMembers 161 = .ok (.getfield 15, 3) := DX0_findMembers (161, .getfield 15, 3) (List.mem_of_getElem? (i := 89) rfl)
theorem dX0_findMembers_164 : decode cX0_findMembers 164 = .ok (.iload_n 1, 1) := DX0_findMembers (164, .iload_n 1, 1) (List.mem_of_getElem? (i := 90) rfl)
theorem dX0_findMembers_165 : decode cX0_findMembers 165 = .ok (.dup2, 1) := DX0_findMembers (165, .dup2, 1) (List.mem_of_getElem? (i := 91) rfl)
theorem dX0_findMembers_166 : decode cX0_findMembers 166 = .ok (.iaload, 1) := DX0_findMembers (166, .iaload, 1) (List.mem_of_getElem? (i := 92) rfl)
theorem dX0_findMembers_167 : decode cX0_findMembers 167 = .ok (.iconst 1, 1) := DX0_findMembers (167, .iconst 1, 1) (List.mem_of_getElem? (i := 93) rfl)
theorem dX0_findMembers_168 : decode cX0_findMembers 168 = .ok (.iload_n 2, 1) := DX0_findMembers (168, .iload_n 2, 1) (List.mem_of_getElem? (i := 94) rfl)
theorem dX0_findMembers_169 : decode cX0_findMembers 169 = .ok (.ishl, 1) := DX0_findMembers (169, .ishl, 1) (List.mem_of_getElem? (i := 95) rfl)
theorem dX0_findMembers_170 : decode cX0_findMembers 170 = .ok (.ior, 1) := DX0_findMembers (170, .ior, 1) (List.mem_of_getElem? (i := 96) rfl)
theorem dX0_findMembers_171 : decode cX0_findMembers 171 = .ok (.iastore, 1) := DX0_findMembers (171, .iastore, 1) (List.mem_of_getElem? (i := 97) rfl)
theorem dX0_findMembers_172 : decode cX0_findMembers 172 = .ok (.iinc 2 1, 3) := DX0_findMembers (172, .iinc 2 1, 3) (List.mem_of_getElem? (i := 98) rfl)
theorem dX0_findMembers_175 : decode cX0_findMembers 175 = .ok (.goto (-52), 3) := DX0_findMembers (175, .goto (-52), 3) (List.mem_of_getElem? (i := 99) rfl)
theorem dX0_findMembers_178 : decode cX0_findMembers 178 = .ok (.iinc 1 1, 3) := DX0_findMembers (178, .iinc 1 1, 3) (List.mem_of_getElem? (i := 100) rfl)
theorem dX0_findMembers_181 : decode cX0_findMembers 181 = .ok (.goto (-80), 3) := DX0_findMembers (181, .goto (-80), 3) (List.mem_of_getElem? (i := 101) rfl)
theorem dX0_findMembers_184 : decode cX0_findMembers 184 = .ok (.return_, 1) := DX0_findMembers (184, .return_, 1) (List.mem_of_getElem? (i := 102) rfl)
noncomputable def fX0_findMembers_B2 (l1 : Int32) (σ : Mem) : Option ((Int32 × Mem) ⊕ (Mem)) :=
  if (σ 3 4) ≤ l1 then
    some (.inr σ)
  else
    (fX3_parts l1 σ).bind fun o1 =>
    chk (inb l1 30) <|
    some (.inl (l1 + 1, up2 o1.2 18 l1.toNatClampNeg o1.1))
set_option maxHeartbeats 4000000 in
set_option maxRecDepth 100000 in
theorem tX0_findMembers_B2 {E : Gx} {cI : ClassId} {ad : Nat → Nat} (C : Cx E rmX0_findMembers cI layX ad 3 RX0 cX0_findMembers) {out : Mem} (K0 : KV E rmX0_findMembers cI layX ad 3 cX0_findMembers out) {l1 : Int32} {σ : Mem} {res : (Int32 × Mem) ⊕ (Mem)} (h : fX0_findMembers_B2 l1 σ = some res) (K : Sum.elim (fun a => G E rmX0_findMembers cI layX ad 3 2 [(0, .ref (ad 0)), (1, .int a.1)] [] a.2) (fun b => G E rmX0_findMembers cI layX ad 3 33 [(0, .ref (ad 0))] [] b) res) : G E rmX0_findMembers cI layX ad 3 2 [(0, .ref (ad 0)), (1, .int l1)] [] σ := by
  unfold fX0_findMembers_B2 at h
  refine g_iload_n 3 C dX0_findMembers_2 rfl (j := 1) rfl rfl ?_
  refine g_aload_n 4 C dX0_findMembers_3 rfl (j := 0) rfl rfl ?_
  refine g_getr 7 (j := 0) C rfl rfl wu_X0 (by decide) wf_X0_24 rfl dX0_findMembers_4 rfl ?_
  refine g_getiN 10 (j := 4) C rfl rfl wu_X3 (by decide) (List.mem_of_getElem? (i := 13) rfl) rfl dX0_findMembers_7 rfl ?_
  refine g_icmp_ge 33 13 C dX0_findMembers_10 (by decide) rfl h (fun h => ?_) (fun h => ?_)
  · have hh := end_inr h K
    exact g_sub [0] (hh) rfl
  · refine g_aload_n 14 C dX0_findMembers_13 rfl (j := 0) rfl rfl ?_
    refine g_getr 17 (j := 2) C rfl rfl wu_X0 (by decide) wf_X0_9 rfl dX0_findMembers_14 rfl ?_
    refine g_iload_n 18 C dX0_findMembers_17 rfl (j := 1) rfl rfl ?_
    refine g_aload_n 19 C dX0_findMembers_18 rfl (j := 0) rfl rfl ?_
    refine g_getr 22 (j := 0) C rfl rfl wu_X0 (by decide) wf_X0_24 rfl dX0_findMembers_19 rfl ?_
    refine g_iload_n 23 C dX0_findMembers_22 rfl (j := 1) rfl rfl ?_
    refine g_cni 26 C (As := [.int l1]) (fun _ h => mX3_parts (a1 := l1) (σ := σ) h) (List.mem_of_getElem? (i := 13) rfl) wi_X3_parts wz_X3_parts wc_X3_parts wn_X3 qX3_parts rfl rfl ⟨Nat.le_of_ble_eq_true rfl, Nat.le_of_ble_eq_true rfl⟩ rfl rfl rfl rfl (Nat.le_of_ble_eq_true rfl) dX0_findMembers_23 rfl h (fun o1 h => ?_)
    refine g_iast 27 C rfl dX0_findMembers_26 rfl h (fun h => ?_)
    refine g_iinc 30 [(1, .int (l1 + 1)), (0, .ref (ad 0))] C dX0_findMembers_27 (j := 1) rfl (by rfl) (by decide) rfl rfl ?_
    refine g_goto 2 C dX0_findMembers_30 (by decide) ?_
    have hh := end_inl h K
    exact g_sub [1, 0] (hh) rfl
noncomputable def fX0_findMembers_L87 (l1 : Int32) (l2 : Int32) (σ : Mem) : Option ((Int32 × Mem) ⊕ (Mem)) :=
  some (.inl (l2 + 1, σ))
set_option maxHeartbeats 4000000 in
set_option maxRecDepth 100000 in
theorem tX0_findMembers_L87 {E : Gx} {cI : ClassId} {ad : Nat → Nat} (C : Cx E rmX0_findMembers cI layX ad 3 RX0 cX0_findMembers) {out : Mem} (K0 : KV E rmX0_findMembers cI layX ad 3 cX0_findMembers out) {l1 : Int32} {l2 : Int32} {σ : Mem} {res : (Int32 × Mem) ⊕ (Mem)} (h : fX0_findMembers_L87 l1 l2 σ = some res) (K : Sum.elim (fun a => G E rmX0_findMembers cI layX ad 3 48 [(0, .ref (ad 0)), (1, .int l1), (2, .int a.1)] [] a.2) (fun b => G E rmX0_findMembers cI layX ad 3 93 [(0, .ref (ad 0)), (1, .int l1)] [] b) res) : G E rmX0_findMembers cI layX ad 3 87 [(0, .ref (ad 0)), (1, .int l1), (2, .int l2)] [] σ := by
  unfold fX0_findMembers_L87 at h
  refine g_iinc 90 [(2, .int (l2 + 1)), (0, .ref (ad 0)), (1, .int l1)] C dX0_findMembers_87 (j := 2) rfl (by rfl) (by decide) rfl rfl ?_
  refine g_goto 48 C dX0_findMembers_90 (by decide) ?_
  have hh := end_inl h K
  exact g_sub [1, 2, 0] (hh) rfl
noncomputable def fX0_findMembers_B48 (l1 : Int32) (l2 : Int32) (σ : Mem) : Option ((Int32 × Mem) ⊕ (Mem)) :=
  if (σ 3 4) ≤ l2 then
    some (.inr σ)
  else
    chk (inb l2 30) <|
    (fX7_isIn (σ 18 l2.toNatClampNeg) l1 σ).bind fun o3 =>
    if o3.1 = 0 then
      fX0_findMembers_L87 l1 l2 o3.2
    else
      chk (inb l2 30) <|
      chk (inb l1 30) <|
      chk (inb l2 30) <|
      fX0_findMembers_L87 l1 l2 (up2 o3.2 18 l2.toNatClampNeg ((o3.2 18 l2.toNatClampNeg) ||| (o3.2 18 l1.toNatClampNeg)))
set_option maxHeartbeats 4000000 in
set_option maxRecDepth 100000 in
theorem tX0_findMembers_B48 {E : Gx} {cI : ClassId} {ad : Nat → Nat} (C : Cx E rmX0_findMembers cI layX ad 3 RX0 cX0_findMembers) {out : Mem} (K0 : KV E rmX0_findMembers cI layX ad 3 cX0_findMembers out) {l1 : Int32} {l2 : Int32} {σ : Mem} {res : (Int32 × Mem) ⊕ (Mem)} (h : fX0_findMembers_B48 l1 l2 σ = some res) (K : Sum.elim (fun a => G E rmX0_findMembers cI layX ad 3 48 [(0, .ref (ad 0)), (1, .int l1), (2, .int a.1)] [] a.2) (fun b => G E rmX0_findMembers cI layX ad 3 93 [(0, .ref (ad 0)), (1, .int l1)] [] b) res) : G E rmX0_findMembers cI layX ad 3 48 [(0, .ref (ad 0)), (1, .int l1), (2, .int l2)] [] σ := by
  unfold fX0_findMembers_B48 at h
  refine g_iload_n 49 C dX0_findMembers_48 rfl (j := 2) rfl rfl ?_
  refine g_aload_n 50 C dX0_findMembers_49 rfl (j := 0) rfl rfl ?_
  refine g_getr 53 (j := 0) C rfl rfl wu_X0 (by decide) wf_X0_24 rfl dX0_findMembers_50 rfl ?_
  refine g_getiN 56 (j := 4) C rfl rfl wu_X3 (by decide) (List.mem_of_getElem? (i := 13) rfl) rfl dX0_findMembers_53 rfl ?_
  refine g_icmp_ge 93 59 C dX0_findMembers_56 (by decide) rfl h (fun h => ?_) (fun h => ?_)
  · have hh := end_inr h K
    exact g_sub [0, 1] (hh) rfl
  · refine g_aload_n 60 C dX0_findMembers_59 rfl (j := 0) rfl rfl ?_
    refine g_getr 63 (j := 2) C rfl rfl wu_X0 (by decide) wf_X0_9 rfl dX0_findMembers_60 rfl ?_
    refine g_iload_n 64 C dX0_findMembers_63 rfl (j := 2) rfl rfl ?_
    refine g_iald 65 C rfl dX0_findMembers_64 rfl h (fun h => ?_)
    refine g_iload_n 66 C dX0_findMembers_65 rfl (j := 1) rfl rfl ?_
    refine g_cti 69 C (As := [.int (σ 18 l2.toNatClampNeg), .int l1]) (fun _ h => mX7_isIn (a1 := σ 18 l2.toNatClampNeg) (a2 := l1) (σ := σ) h) (List.mem_of_getElem? (i := 14) rfl) ws_X7_isIn wc_X7_isIn wn_X7 qX7_isIn rfl rfl ⟨Nat.le_of_ble_eq_true rfl, Nat.le_of_ble_eq_true rfl⟩ rfl rfl (Nat.le_of_ble_eq_true rfl) dX0_findMembers_66 rfl h (fun o3 h => ?_)
    refine g_if_eq 87 72 C dX0_findMembers_69 (by decide) rfl h (fun h => ?_) (fun h => ?_)
    · exact tX0_findMembers_L87 (l1 := l1) (l2 := l2) (σ := o3.2) C K0 h K
    · refine g_aload_n 73 C dX0_findMembers_72 rfl (j := 0) rfl rfl ?_
      refine g_getr 76 (j := 2) C rfl rfl wu_X0 (by decide) wf_X0_9 rfl dX0_findMembers_73 rfl ?_
      refine g_iload_n 77 C dX0_findMembers_76 rfl (j := 2) rfl rfl ?_
      refine g_dup2 78 C dX0_findMembers_77 rfl rfl rfl ?_
      refine g_iald 79 C rfl dX0_findMembers_78 rfl h (fun h => ?_)
      refine g_aload_n 80 C dX0_findMembers_79 rfl (j := 0) rfl rfl ?_
      refine g_getr 83 (j := 2) C rfl rfl wu_X0 (by decide) wf_X0_9 rfl dX0_findMembers_80 rfl ?_
      refine g_iload_n 84 C dX0_findMembers_83 rfl (j := 1) rfl rfl ?_
      refine g_iald 85 C rfl dX0_findMembers_84 rfl h (fun h => ?_)
      refine g_ior 86 C dX0_findMembers_85 rfl ?_
      refine g_iast 87 C rfl dX0_findMembers_86 rfl h (fun h => ?_)
      exact tX0_findMembers_L87 (l1 := l1) (l2 := l2) (σ := up2 o3.2 18 l2.toNatClampNeg ((o3.2 18 l2.toNatClampNeg) ||| (o3.2 18 l1.toNatClampNeg))) C K0 h K
noncomputable def fX0_findMembers_L93 (l1 : Int32) (σ : Mem) : Option ((Int32 × Mem) ⊕ (Mem)) :=
  some (.inl (l1 + 1, σ))
set_option maxHeartbeats 4000000 in
set_option maxRecDepth 100000 in
theorem tX0_findMembers_L93 {E : Gx} {cI : ClassId} {ad : Nat → Nat} (C : Cx E rmX0_findMembers cI layX ad 3 RX0 cX0_findMembers) {out : Mem} (K0 : KV E rmX0_findMembers cI layX ad 3 cX0_findMembers out) {l1 : Int32} {σ : Mem} {res : (Int32 × Mem) ⊕ (Mem)} (h : fX0_findMembers_L93 l1 σ = some res) (K : Sum.elim (fun a => G E rmX0_findMembers cI layX ad 3 35 [(0, .ref (ad 0)), (1, .int a.1)] [] a.2) (fun b => G E rmX0_findMembers cI layX ad 3 99 [(0, .ref (ad 0))] [] b) res) : G E rmX0_findMembers cI layX ad 3 93 [(0, .ref (ad 0)), (1, .int l1)] [] σ := by
  unfold fX0_findMembers_L93 at h
  refine g_iinc 96 [(1, .int (l1 + 1)), (0, .ref (ad 0))] C dX0_findMembers_93 (j := 1) rfl (by rfl) (by decide) rfl rfl ?_
  refine g_goto 35 C dX0_findMembers_96 (by decide) ?_
  have hh := end_inl h K
  exact g_sub [1, 0] (hh) rfl
noncomputable def fX0_findMembers_B35 (l1 : Int32) (σ : Mem) : Option ((Int32 × Mem) ⊕ (Mem)) :=
  if (σ 3 4) ≤ l1 then
    some (.inr σ)
  else
    (loop (fun a => fX0_findMembers_B48 l1 a.1 a.2) (0, σ)).bind fun b4 =>
    fX0_findMembers_L93 l1 b4
set_option maxHeartbeats 4000000 in
set_option maxRecDepth 100000 in
theorem tX0_findMembers_B35 {E : Gx} {cI : ClassId} {ad : Nat → Nat} (C : Cx E rmX0_findMembers cI layX ad 3 RX0 cX0_findMembers) {out : Mem} (K0 : KV E rmX0_findMembers cI layX ad 3 cX0_findMembers out) {l1 : Int32} {σ : Mem} {res : (Int32 × Mem) ⊕ (Mem)} (h : fX0_findMembers_B35 l1 σ = some res) (K : Sum.elim (fun a => G E rmX0_findMembers cI layX ad 3 35 [(0, .ref (ad 0)), (1, .int a.1)] [] a.2) (fun b => G E rmX0_findMembers cI layX ad 3 99 [(0, .ref (ad 0))] [] b) res) : G E rmX0_findMembers cI layX ad 3 35 [(0, .ref (ad 0)), (1, .int l1)] [] σ := by
  unfold fX0_findMembers_B35 at h
  refine g_iload_n 36 C dX0_findMembers_35 rfl (j := 1) rfl rfl ?_
  refine g_aload_n 37 C dX0_findMembers_36 rfl (j := 0) rfl rfl ?_
  refine g_getr 40 (j := 0) C rfl rfl wu_X0 (by decide) wf_X0_24 rfl dX0_findMembers_37 rfl ?_
  refine g_getiN 43 (j := 4) C rfl rfl wu_X3 (by decide) (List.mem_of_getElem? (i := 13) rfl) rfl dX0_findMembers_40 rfl ?_
  refine g_icmp_ge 99 46 C dX0_findMembers_43 (by decide) rfl h (fun h => ?_) (fun h => ?_)
  · have hh := end_inr h K
    exact g_sub [0] (hh) rfl
  · refine g_iconst 47 (v := 0) C dX0_findMembers_46 (by decide) rfl ?_
    refine g_istore_n 48 [(2, .int 0), (0, .ref (ad 0)), (1, .int l1)] C dX0_findMembers_47 rfl (by decide) rfl rfl ?_
    obtain ⟨b4, hb, h⟩ := bind_some h
    refine g_sub [1, 2, 0] (g_loop (a := (0, σ)) (fun a => G E rmX0_findMembers cI layX ad 3 48 [(0, .ref (ad 0)), (1, .int l1), (2, .int a.1)] [] a.2) (fun b => G E rmX0_findMembers cI layX ad 3 93 [(0, .ref (ad 0)), (1, .int l1)] [] b) hb (fun a res h K => tX0_findMembers_B48 (l1 := l1) (l2 := a.1) (σ := a.2) (res := res) C K0 h K) ?_) rfl
    show G E rmX0_findMembers cI layX ad 3 93 [(0, .ref (ad 0)), (1, .int l1)] [] b4
    exact tX0_findMembers_L93 (l1 := l1) (σ := b4) C K0 h K
noncomputable def fX0_findMembers_L172 (l1 : Int32) (l2 : Int32) (σ : Mem) : Option ((Int32 × Mem) ⊕ (Mem)) :=
  some (.inl (l2 + 1, σ))
set_option maxHeartbeats 4000000 in
set_option maxRecDepth 100000 in
theorem tX0_findMembers_L172 {E : Gx} {cI : ClassId} {ad : Nat → Nat} (C : Cx E rmX0_findMembers cI layX ad 3 RX0 cX0_findMembers) {out : Mem} (K0 : KV E rmX0_findMembers cI layX ad 3 cX0_findMembers out) {l1 : Int32} {l2 : Int32} {σ : Mem} {res : (Int32 × Mem) ⊕ (Mem)} (h : fX0_findMembers_L172 l1 l2 σ = some res) (K : Sum.elim (fun a => G E rmX0_findMembers cI layX ad 3 123 [(0, .ref (ad 0)), (1, .int l1), (2, .int a.1)] [] a.2) (fun b => G E rmX0_findMembers cI layX ad 3 178 [(0, .ref (ad 0)), (1, .int l1)] [] b) res) : G E rmX0_findMembers cI layX ad 3 172 [(0, .ref (ad 0)), (1, .int l1), (2, .int l2)] [] σ := by
  unfold fX0_findMembers_L172 at h
  refine g_iinc 175 [(2, .int (l2 + 1)), (0, .ref (ad 0)), (1, .int l1)] C dX0_findMembers_172 (j := 2) rfl (by rfl) (by decide) rfl rfl ?_
  refine g_goto 123 C dX0_findMembers_175 (by decide) ?_
  have hh := end_inl h K
  exact g_sub [1, 2, 0] (hh) rfl
noncomputable def fX0_findMembers_B123 (l1 : Int32) (l2 : Int32) (σ : Mem) : Option ((Int32 × Mem) ⊕ (Mem)) :=
  if (σ 3 4) ≤ l2 then
    some (.inr σ)
  else
    chk (inb l1 30) <|
    (fX7_isIn (σ 18 l1.toNatClampNeg) l2 σ).bind fun o6 =>
    if o6.1 = 0 then
      fX0_findMembers_L172 l1 l2 o6.2
    else
      chk (inb l2 30) <|
      (fX7_isIn (o6.2 18 l2.toNatClampNeg) l1 o6.2).bind fun o7 =>
      if o7.1 = 0 then
        fX0_findMembers_L172 l1 l2 o7.2
      else
        chk (inb l1 30) <|
        chk (inb l1 30) <|
        fX0_findMembers_L172 l1 l2 (up2 o7.2 19 l1.toNatClampNeg ((o7.2 19 l1.toNatClampNeg) ||| (1 <<< (l2 &&& 31))))
set_option maxHeartbeats 4000000 in
set_option maxRecDepth 100000 in
theorem tX0_findMembers_B123 {E : Gx} {cI : ClassId} {ad : Nat → Nat} (C : Cx E rmX0_findMembers cI layX ad 3 RX0 cX0_findMembers) {out : Mem} (K0 : KV E rmX0_findMembers cI layX ad 3 cX0_findMembers out) {l1 : Int32} {l2 : Int32} {σ : Mem} {res : (Int32 × Mem) ⊕ (Mem)} (h : fX0_findMembers_B123 l1 l2 σ = some res) (K : Sum.elim (fun a => G E rmX0_findMembers cI layX ad 3 123 [(0, .ref (ad 0)), (1, .int l1), (2, .int a.1)] [] a.2) (fun b => G E rmX0_findMembers cI layX ad 3 178 [(0, .ref (ad 0)), (1, .int l1)] [] b) res) : G E rmX0_findMembers cI layX ad 3 123 [(0, .ref (ad 0)), (1, .int l1), (2, .int l2)] [] σ := by
  unfold fX0_findMembers_B123 at h
  refine g_iload_n 124 C dX0_findMembers_123 rfl (j := 2) rfl rfl ?_
  refine g_aload_n 125 C dX0_findMembers_124 rfl (j := 0) rfl rfl ?_
  refine g_getr 128 (j := 0) C rfl rfl wu_X0 (by decide) wf_X0_24 rfl dX0_findMembers_125 rfl ?_
  refine g_getiN 131 (j := 4) C rfl rfl wu_X3 (by decide) (List.mem_of_getElem? (i := 13) rfl) rfl dX0_findMembers_128 rfl ?_
  refine g_icmp_ge 178 134 C dX0_findMembers_131 (by decide) rfl h (fun h => ?_) (fun h => ?_)
  · have hh := end_inr h K
    exact g_sub [0, 1] (hh) rfl
  · refine g_aload_n 135 C dX0_findMembers_134 rfl (j := 0) rfl rfl ?_
    refine g_getr 138 (j := 2) C rfl rfl wu_X0 (by decide) wf_X0_9 rfl dX0_findMembers_135 rfl ?_
    refine g_iload_n 139 C dX0_findMembers_138 rfl (j := 1) rfl rfl ?_
    refine g_iald 140 C rfl dX0_findMembers_139 rfl h (fun h => ?_)
    refine g_iload_n 141 C dX0_findMembers_140 rfl (j := 2) rfl rfl ?_
    refine g_cti 144 C (As := [.int (σ 18 l1.toNatClampNeg), .int l2]) (fun _ h => mX7_isIn (a1 := σ 18 l1.toNatClampNeg) (a2 := l2) (σ := σ) h) (List.mem_of_getElem? (i := 14) rfl) ws_X7_isIn wc_X7_isIn wn_X7 qX7_isIn rfl rfl ⟨Nat.le_of_ble_eq_true rfl, Nat.le_of_ble_eq_true rfl⟩ rfl rfl (Nat.le_of_ble_eq_true rfl) dX0_findMembers_141 rfl h (fun o6 h => ?_)
    refine g_if_eq 172 147 C dX0_findMembers_144 (by decide) rfl h (fun h => ?_) (fun h => ?_)
    · exact tX0_findMembers_L172 (l1 := l1) (l2 := l2) (σ := o6.2) C K0 h K
    · refine g_aload_n 148 C dX0_findMembers_147 rfl (j := 0) rfl rfl ?_
      refine g_getr 151 (j := 2) C rfl rfl wu_X0 (by decide) wf_X0_9 rfl dX0_findMembers_148 rfl ?_
      refine g_iload_n 152 C dX0_findMembers_151 rfl (j := 2) rfl rfl ?_
      refine g_iald 153 C rfl dX0_findMembers_152 rfl h (fun h => ?_)
      refine g_iload_n 154 C dX0_findMembers_153 rfl (j := 1) rfl rfl ?_
      refine g_cti 157 C (As := [.int (o6.2 18 l2.toNatClampNeg), .int l1]) (fun _ h => mX7_isIn (a1 := o6.2 18 l2.toNatClampNeg) (a2 := l1) (σ := o6.2) h) (List.mem_of_getElem? (i := 14) rfl) ws_X7_isIn wc_X7_isIn wn_X7 qX7_isIn rfl rfl ⟨Nat.le_of_ble_eq_true rfl, Nat.le_of_ble_eq_true rfl⟩ rfl rfl (Nat.le_of_ble_eq_true rfl) dX0_findMembers_154 rfl h (fun o7 h => ?_)
      refine g_if_eq 172 160 C dX0_findMembers_157 (by decide) rfl h (fun h => ?_) (fun h => ?_)
      · exact tX0_findMembers_L172 (l1 := l1) (l2 := l2) (σ := o7.2) C K0 h K
      · refine g_aload_n 161 C dX0_findMembers_160 rfl (j := 0) rfl rfl ?_
        refine g_getr 164 (j := 3) C rfl rfl wu_X0 (by decide) wf_X0_15 rfl dX0_findMembers_161 rfl ?_
        refine g_iload_n 165 C dX0_findMembers_164 rfl (j := 1) rfl rfl ?_
        refine g_dup2 166 C dX0_findMembers_165 rfl rfl rfl ?_
        refine g_iald 167 C rfl dX0_findMembers_166 rfl h (fun h => ?_)
        refine g_iconst 168 (v := 1) C dX0_findMembers_167 (by decide) rfl ?_
        refine g_iload_n 169 C dX0_findMembers_168 rfl (j := 2) rfl rfl ?_
        refine g_ishl 170 C dX0_findMembers_169 rfl ?_
        refine g_ior 171 C dX0_findMembers_170 rfl ?_
        refine g_iast 172 C rfl dX0_findMembers_171 rfl h (fun h => ?_)
        exact tX0_findMembers_L172 (l1 := l1) (l2 := l2) (σ := up2 o7.2 19 l1.toNatClampNeg ((o7.2 19 l1.toNatClampNeg) ||| (1 <<< (l2 &&& 31)))) C K0 h K
noncomputable def fX0_findMembers_L178 (l1 : Int32) (σ : Mem) : Option ((Int32 × Mem) ⊕ (Mem)) :=
  some (.inl (l1 + 1, σ))
set_option maxHeartbeats 4000000 in
set_option maxRecDepth 100000 in
theorem tX0_findMembers_L178 {E : Gx} {cI : ClassId} {ad : Nat → Nat} (C : Cx E rmX0_findMembers cI layX ad 3 RX0 cX0_findMembers) {out : Mem} (K0 : KV E rmX0_findMembers cI layX ad 3 cX0_findMembers out) {l1 : Int32} {σ : Mem} {res : (Int32 × Mem) ⊕ (Mem)} (h : fX0_findMembers_L178 l1 σ = some res) (K : Sum.elim (fun a => G E rmX0_findMembers cI layX ad 3 101 [(0, .ref (ad 0)), (1, .int a.1)] [] a.2) (fun b => G E rmX0_findMembers cI layX ad 3 184 [] [] b) res) : G E rmX0_findMembers cI layX ad 3 178 [(0, .ref (ad 0)), (1, .int l1)] [] σ := by
  unfold fX0_findMembers_L178 at h
  refine g_iinc 181 [(1, .int (l1 + 1)), (0, .ref (ad 0))] C dX0_findMembers_178 (j := 1) rfl (by rfl) (by decide) rfl rfl ?_
  refine g_goto 101 C dX0_findMembers_181 (by decide) ?_
  have hh := end_inl h K
  exact g_sub [1, 0] (hh) rfl
noncomputable def fX0_findMembers_B101 (l1 : Int32) (σ : Mem) : Option ((Int32 × Mem) ⊕ (Mem)) :=
  if (σ 3 4) ≤ l1 then
    some (.inr σ)
  else
    chk (inb l1 30) <|
    (loop (fun a => fX0_findMembers_B123 l1 a.1 a.2) (0, up2 σ 19 l1.toNatClampNeg (1 <<< (l1 &&& 31)))).bind fun b8 =>
    fX0_findMembers_L178 l1 b8
set_option maxHeartbeats 4000000 in
set_option maxRecDepth 100000 in
theorem tX0_findMembers_B101 {E : Gx} {cI : ClassId} {ad : Nat → Nat} (C : Cx E rmX0_findMembers cI layX ad 3 RX0 cX0_findMembers) {out : Mem} (K0 : KV E rmX0_findMembers cI layX ad 3 cX0_findMembers out) {l1 : Int32} {σ : Mem} {res : (Int32 × Mem) ⊕ (Mem)} (h : fX0_findMembers_B101 l1 σ = some res) (K : Sum.elim (fun a => G E rmX0_findMembers cI layX ad 3 101 [(0, .ref (ad 0)), (1, .int a.1)] [] a.2) (fun b => G E rmX0_findMembers cI layX ad 3 184 [] [] b) res) : G E rmX0_findMembers cI layX ad 3 101 [(0, .ref (ad 0)), (1, .int l1)] [] σ := by
  unfold fX0_findMembers_B101 at h
  refine g_iload_n 102 C dX0_findMembers_101 rfl (j := 1) rfl rfl ?_
  refine g_aload_n 103 C dX0_findMembers_102 rfl (j := 0) rfl rfl ?_
  refine g_getr 106 (j := 0) C rfl rfl wu_X0 (by decide) wf_X0_24 rfl dX0_findMembers_103 rfl ?_
  refine g_getiN 109 (j := 4) C rfl rfl wu_X3 (by decide) (List.mem_of_getElem? (i := 13) rfl) rfl dX0_findMembers_106 rfl ?_
  refine g_icmp_ge 184 112 C dX0_findMembers_109 (by decide) rfl h (fun h => ?_) (fun h => ?_)
  · have hh := end_inr h K
    exact g_sub [] (hh) rfl
  · refine g_aload_n 113 C dX0_findMembers_112 rfl (j := 0) rfl rfl ?_
    refine g_getr 116 (j := 3) C rfl rfl wu_X0 (by decide) wf_X0_15 rfl dX0_findMembers_113 rfl ?_
    refine g_iload_n 117 C dX0_findMembers_116 rfl (j := 1) rfl rfl ?_
    refine g_iconst 118 (v := 1) C dX0_findMembers_117 (by decide) rfl ?_
    refine g_iload_n 119 C dX0_findMembers_118 rfl (j := 1) rfl rfl ?_
    refine g_ishl 120 C dX0_findMembers_119 rfl ?_
    refine g_iast 121 C rfl dX0_findMembers_120 rfl h (fun h => ?_)
    refine g_iconst 122 (v := 0) C dX0_findMembers_121 (by decide) rfl ?_
    refine g_istore_n 123 [(2, .int 0), (0, .ref (ad 0)), (1, .int l1)] C dX0_findMembers_122 rfl (by decide) rfl rfl ?_
    obtain ⟨b8, hb, h⟩ := bind_some h
    refine g_sub [1, 2, 0] (g_loop (a := (0, up2 σ 19 l1.toNatClampNeg (1 <<< (l1 &&& 31)))) (fun a => G E rmX0_findMembers cI layX ad 3 123 [(0, .ref (ad 0)), (1, .int l1), (2, .int a.1)] [] a.2) (fun b => G E rmX0_findMembers cI layX ad 3 178 [(0, .ref (ad 0)), (1, .int l1)] [] b) hb (fun a res h K => tX0_findMembers_B123 (l1 := l1) (l2 := a.1) (σ := a.2) (res := res) C K0 h K) ?_) rfl
    show G E rmX0_findMembers cI layX ad 3 178 [(0, .ref (ad 0)), (1, .int l1)] [] b8
    exact tX0_findMembers_L178 (l1 := l1) (σ := b8) C K0 h K
noncomputable def fX0_findMembers_L184 (σ : Mem) : Option (Mem) :=
  some σ
set_option maxHeartbeats 4000000 in
set_option maxRecDepth 100000 in
theorem tX0_findMembers_L184 {E : Gx} {cI : ClassId} {ad : Nat → Nat} (C : Cx E rmX0_findMembers cI layX ad 3 RX0 cX0_findMembers) {out : Mem} (K0 : KV E rmX0_findMembers cI layX ad 3 cX0_findMembers out) {σ : Mem} (h : fX0_findMembers_L184 σ = some out) : G E rmX0_findMembers cI layX ad 3 184 [] [] σ := by
  unfold fX0_findMembers_L184 at h
  cases h
  exact K0 _ _ dX0_findMembers_184
noncomputable def fX0_findMembers_L99 (σ : Mem) : Option (Mem) :=
  (loop (fun a => fX0_findMembers_B101 a.1 a.2) (0, σ)).bind fun b9 =>
  fX0_findMembers_L184 b9
set_option maxHeartbeats 4000000 in
set_option maxRecDepth 100000 in
theorem tX0_findMembers_L99 {E : Gx} {cI : ClassId} {ad : Nat → Nat} (C : Cx E rmX0_findMembers cI layX ad 3 RX0 cX0_findMembers) {out : Mem} (K0 : KV E rmX0_findMembers cI layX ad 3 cX0_findMembers out) {σ : Mem} (h : fX0_findMembers_L99 σ = some out) : G E rmX0_findMembers cI layX ad 3 99 [(0, .ref (ad 0))] [] σ := by
  unfold fX0_findMembers_L99 at h
  refine g_iconst 100 (v := 0) C dX0_findMembers_99 (by decide) rfl ?_
  refine g_istore_n 101 [(1, .int 0), (0, .ref (ad 0))] C dX0_findMembers_100 rfl (by decide) rfl rfl ?_
  obtain ⟨b9, hb, h⟩ := bind_some h
  refine g_sub [1, 0] (g_loop (a := (0, σ)) (fun a => G E rmX0_findMembers cI layX ad 3 101 [(0, .ref (ad 0)), (1, .int a.1)] [] a.2) (fun b => G E rmX0_findMembers cI layX ad 3 184 [] [] b) hb (fun a res h K => tX0_findMembers_B101 (l1 := a.1) (σ := a.2) (res := res) C K0 h K) ?_) rfl
  show G E rmX0_findMembers cI layX ad 3 184 [] [] b9
  exact tX0_findMembers_L184 (σ := b9) C K0 h
noncomputable def fX0_findMembers_L33 (σ : Mem) : Option (Mem) :=
  (loop (fun a => fX0_findMembers_B35 a.1 a.2) (0, σ)).bind fun b5 =>
  fX0_findMembers_L99 b5
set_option maxHeartbeats 4000000 in
set_option maxRecDepth 100000 in
theorem tX0_findMembers_L33 {E : Gx} {cI : ClassId} {ad : Nat → Nat} (C : Cx E rmX0_findMembers cI layX ad 3 RX0 cX0_findMembers) {out : Mem} (K0 : KV E rmX0_findMembers cI layX ad 3 cX0_findMembers out) {σ : Mem} (h : fX0_findMembers_L33 σ = some out) : G E rmX0_findMembers cI layX ad 3 33 [(0, .ref (ad 0))] [] σ := by
  unfold fX0_findMembers_L33 at h
  refine g_iconst 34 (v := 0) C dX0_findMembers_33 (by decide) rfl ?_
  refine g_istore_n 35 [(1, .int 0), (0, .ref (ad 0))] C dX0_findMembers_34 rfl (by decide) rfl rfl ?_
  obtain ⟨b5, hb, h⟩ := bind_some h
  refine g_sub [1, 0] (g_loop (a := (0, σ)) (fun a => G E rmX0_findMembers cI layX ad 3 35 [(0, .ref (ad 0)), (1, .int a.1)] [] a.2) (fun b => G E rmX0_findMembers cI layX ad 3 99 [(0, .ref (ad 0))] [] b) hb (fun a res h K => tX0_findMembers_B35 (l1 := a.1) (σ := a.2) (res := res) C K0 h K) ?_) rfl
  show G E rmX0_findMembers cI layX ad 3 99 [(0, .ref (ad 0))] [] b5
  exact tX0_findMembers_L99 (σ := b5) C K0 h
noncomputable def fX0_findMembers (σ : Mem) : Option (Mem) :=
  (loop (fun a => fX0_findMembers_B2 a.1 a.2) (0, σ)).bind fun b2 =>
  fX0_findMembers_L33 b2
set_option maxHeartbeats 4000000 in
set_option maxRecDepth 100000 in
theorem mX0_findMembers {l : Launch} {D : va_G} {cI : ClassId} {ad : Nat → Nat} {σ : Mem} {out : Mem} (h : fX0_findMembers σ = some out) : MV l D cI layX ad yX0_findMembers cX0_findMembers 3 rmX0_findMembers [.ref (ad 0)] σ out := by
  refine met_v (by decide) (Nat.le_of_ble_eq_true rfl) (fun E C K0 => ?_)
  show G E rmX0_findMembers cI layX ad 3 0 [(0, .ref (ad 0))] [] σ
  unfold fX0_findMembers at h
  refine g_iconst 1 (v := 0) C dX0_findMembers_0 (by decide) rfl ?_
  refine g_istore_n 2 [(1, .int 0), (0, .ref (ad 0))] C dX0_findMembers_1 rfl (by decide) rfl rfl ?_
  obtain ⟨b2, hb, h⟩ := bind_some h
  refine g_sub [1, 0] (g_loop (a := (0, σ)) (fun a => G E rmX0_findMembers cI layX ad 3 2 [(0, .ref (ad 0)), (1, .int a.1)] [] a.2) (fun b => G E rmX0_findMembers cI layX ad 3 33 [(0, .ref (ad 0))] [] b) hb (fun a res h K => tX0_findMembers_B2 (l1 := a.1) (σ := a.2) (res := res) C K0 h K) ?_) rfl
  show G E rmX0_findMembers cI layX ad 3 33 [(0, .ref (ad 0))] [] b2
  exact tX0_findMembers_L33 (σ := b2) C K0 h

/-! LoopReducer$Cycles.setKinds(II)V -/
abbrev rmX0_setKinds : Room := { frames := 1, cells := 0, slots := 0, locals := 22 }
theorem qX0_setKinds : yX0_setKinds.cls ≠ "java/lang/invoke/MethodHandle" ∧ yX0_setKinds.cls ≠ "java/lang/invoke/VarHandle" ∧ (parseMethodDescriptor yX0_setKinds.desc).map (fun d => d.parameters.length) = some 2 := by decide +kernel
theorem DX0_setKinds : ∀ q ∈ ([(0, .iconst 0, 1), (1, .istore_n 3, 1), (2, .iload_n 3, 1), (3, .aload_n 0, 1), (4, .getfield 24, 3), (7, .getfield 42, 3), (10, .if_icmp .ge 82, 3), (13, .iload_n 1, 1), (14, .iload_n 3, 1), (15, .invokestatic 45, 3), (18, .ifCond .eq 68, 3), (21, .aload_n 0, 1), (22, .getfield 28, 3), (25, .iload_n 3, 1), (26, .invokevirtual 75, 3), (29, .ifCond .ne 13, 3), (32, .aload_n 0, 1), (33, .getfield 18, 3), (36, .iload_n 3, 1), (37, .iload_n 2, 1), (38, .iastore, 1), (39, .goto 47, 3), (42, .aload_n 0, 1), (43, .getfield 28, 3), (46, .getfield 60, 3), (49, .iload_n 3, 1), (50, .iaload, 1), (51, .ifCond .le 13, 3), (54, .aload_n 0, 1), (55, .getfield 18, 3), (58, .iload_n 3, 1), (59, .iconst 2, 1), (60, .iastore, 1), (61, .goto 25, 3), (64, .aload_n 0, 1), (65, .getfield 18, 3), (68, .iload_n 3, 1), (69, .aload_n 0, 1), (70, .getfield 28, 3), (73, .iload_n 3, 1), (74, .invokevirtual 79, 3), (77, .ifCond .le 7, 3), (80, .iconst 1, 1), (81, .goto 4, 3), (84, .iconst 0, 1), (85, .iastore, 1), (86, .iinc 3 1, 3), (89, .goto (-87), 3), (92, .return_, 1)] : List (Nat × Instr × Nat)), decode cX0_setKinds q.1 = .ok q.2 := by decide +kernel
theorem dX0_setKinds_0 : decode cX0_setKinds 0 = .ok (.iconst 0, 1) := DX0_setKinds (0, .iconst 0, 1) (List.mem_of_getElem? (i := 0) rfl)
theorem dX0_setKinds_1 : decode cX0_setKinds 1 = .ok (.istore_n 3, 1) := DX0_setKinds (1, .istore_n 3, 1) (List.mem_of_getElem? (i := 1) rfl)
theorem dX0_setKinds_2 : decode cX0_setKinds 2 = .ok (.iload_n 3, 1) := DX0_setKinds (2, .iload_n 3, 1) (List.mem_of_getElem? (i := 2) rfl)
theorem dX0_setKinds_3 : decode cX0_setKinds 3 = .ok (.aload_n 0, 1) := DX0_setKinds (3, .aload_n 0, 1) (List.mem_of_getElem? (i := 3) rfl)
theorem dX0_setKinds_4 : decode cX0_setKinds 4 = .ok (.getfield 24, 3) := DX0_setKinds (4, .getfield 24, 3) (List.mem_of_getElem? (i := 4) rfl)
theorem dX0_setKinds_7 : decode cX0_setKinds 7 = .ok (.getfield 42, 3) := DX0_setKinds (7, .getfield 42, 3) (List.mem_of_getElem? (i := 5) rfl)
theorem dX0_setKinds_10 : decode cX0_setKinds 10 = .ok (.if_icmp .ge 82, 3) := DX0_setKinds (10, .if_icmp .ge 82, 3) (List.mem_of_getElem? (i := 6) rfl)
theorem dX0_setKinds_13 : decode cX0_setKinds 13 = .ok (.iload_n 1, 1) := DX0_setKinds (13, .iload_n 1, 1) (List.mem_of_getElem? (i := 7) rfl)
theorem dX0_setKinds_14 : decode cX0_setKinds 14 = .ok (.iload_n 3, 1) := DX0_setKinds (14, .iload_n 3, 1) (List.mem_of_getElem? (i := 8) rfl)
theorem dX0_setKinds_15 : decode cX0_setKinds 15 = .ok (.invokestatic 45, 3) := DX0_setKinds (15, .invokestatic 45, 3) (List.mem_of_getElem? (i := 9) rfl)
theorem dX0_setKinds_18 : decode cX0_setKinds 18 = .ok (.ifCond .eq 68, 3) := DX0_setKinds (18, .ifCond .eq 68, 3) (List.mem_of_getElem? (i := 10) rfl)
theorem dX0_setKinds_21 : decode cX0_setKinds 21 = .ok (.aload_n 0, 1) := DX0_setKinds (21, .aload_n 0, 1) (List.mem_of_getElem? (i := 11) rfl)
theorem dX0_setKinds_22 : decode cX0_setKinds 22 = .ok (.getfield 28, 3) := DX0_setKinds (22, .getfield 28, 3) (List.mem_of_getElem? (i := 12) rfl)
theorem dX0_setKinds_25 : decode cX0_setKinds 25 = .ok (.iload_n 3, 1) := DX0_setKinds (25, .iload_n 3, 1) (List.mem_of_getElem? (i := 13) rfl)
theorem dX0_setKinds_26 : decode cX0_setKinds 26 = .ok (.invokevirtual 75, 3) := DX0_setKinds (26, .invokevirtual 75, 3) (List.mem_of_getElem? (i := 14) rfl)
theorem dX0_setKinds_29 : decode cX0_setKinds 29 = .ok (.ifCond .ne 13, 3) := DX0_setKinds (29, .ifCond .ne 13, 3) (List.mem_of_getElem? (i := 15) rfl)
theorem dX0_setKinds_32 : decode cX0_setKinds 32 = .ok (.aload_n 0, 1) := DX0_setKinds (32, .aload_n 0, 1) (List.mem_of_getElem? (i := 16) rfl)
theorem dX0_setKinds_33 : decode cX0_setKinds 33 = .ok (.getfield 18, 3) := DX0_setKinds (33, .getfield 18, 3) (List.mem_of_getElem? (i := 17) rfl)
theorem dX0_setKinds_36 : decode cX0_setKinds 36 = .ok (.iload_n 3, 1) := DX0_setKinds (36, .iload_n 3, 1) (List.mem_of_getElem? (i := 18) rfl)
theorem dX0_setKinds_37 : decode cX0_setKinds 37 = .ok (.iload_n 2, 1) := DX0_setKinds (37, .iload_n 2, 1) (List.mem_of_getElem? (i := 19) rfl)
theorem dX0_setKinds_38 : decode cX0_setKinds 38 = .ok (.iastore, 1) := DX0_setKinds (38, .iastore, 1) (List.mem_of_getElem? (i := 20) rfl)
theorem dX0_setKinds_39 : decode cX0_setKinds 39 = .ok (.goto 47, 3) := DX0_setKinds (39, .goto 47, 3) (List.mem_of_getElem? (i := 21) rfl)
theorem dX0_setKinds_42 : decode cX0_setKinds 42 = .ok (.aload_n 0, 1) := DX0_setKinds (42, .aload_n 0, 1) (List.mem_of_getElem? (i := 22) rfl)
theorem dX0_setKinds_43 : decode cX0_setKinds 43 = .ok (.getfield 28, 3) := DX0_setKinds (43, .getfield 28, 3) (List.mem_of_getElem? (i := 23) rfl)
theorem dX0_setKinds_46 : decode cX0_setKinds 46 = .ok (.getfield 60, 3) := DX0_setKinds (46, .getfield 60, 3) (List.mem_of_getElem? (i := 24) rfl)
theorem dX0_setKinds_49 : decode cX0_setKinds 49 = .ok (.iload_n 3, 1) := DX0_setKinds (49, .iload_n 3, 1) (List.mem_of_getElem? (i := 25) rfl)
theorem dX0_setKinds_50 : decode cX0_setKinds 50 = .ok (.iaload, 1) := DX0_setKinds (50, .iaload, 1) (List.mem_of_getElem? (i := 26) rfl)
theorem dX0_setKinds_51 : decode cX0_setKinds 51 = .ok (.ifCond .le 13, 3) := DX0_setKinds (51, .ifCond .le 13, 3) (List.mem_of_getElem? (i := 27) rfl)
theorem dX0_setKinds_54 : decode cX0_setKinds 54 = .ok (.aload_n 0, 1) := DX0_setKinds (54, .aload_n 0, 1) (List.mem_of_getElem? (i := 28) rfl)
theorem dX0_setKinds_55 : decode cX0_setKinds 55 = .ok (.getfield 18, 3) := DX0_setKinds (55, .getfield 18, 3) (List.mem_of_getElem? (i := 29) rfl)
theorem dX0_setKinds_58 : decode cX0_setKinds 58 = .ok (.iload_n 3, 1) := DX0_setKinds (58, .iload_n 3, 1) (List.mem_of_getElem? (i := 30) rfl)
theorem dX0_setKinds_59 : decode cX0_setKinds 59 = .ok (.iconst 2, 1) := DX0_setKinds (59, .iconst 2, 1) (List.mem_of_getElem? (i := 31) rfl)
theorem dX0_setKinds_60 : decode cX0_setKinds 60 = .ok (.iastore, 1) := DX0_setKinds (60, .iastore, 1) (List.mem_of_getElem? (i := 32) rfl)
theorem dX0_setKinds_61 : decode cX0_setKinds 61 = .ok (.goto 25, 3) := DX0_setKinds (61, .goto 25, 3) (List.mem_of_getElem? (i := 33) rfl)
theorem dX0_setKinds_64 : decode cX0_setKinds 64 = .ok (.aload_n 0, 1) := DX0_setKinds (64, .aload_n 0, 1) (List.mem_of_getElem? (i := 34) rfl)
theorem dX0_setKinds_65 : decode cX0_setKinds 65 = .ok (.getfield 18, 3) := DX0_setKinds (65, .getfield 18, 3) (List.mem_of_getElem? (i := 35) rfl)
theorem dX0_setKinds_68 : decode cX0_setKinds 68 = .ok (.iload_n 3, 1) := DX0_setKinds (68, .iload_n 3, 1) (List.mem_of_getElem? (i := 36) rfl)
theorem dX0_setKinds_69 : decode cX0_setKinds 69 = .ok (.aload_n 0, 1) := DX0_setKinds (69, .aload_n 0, 1) (List.mem_of_getElem? (i := 37) rfl)
theorem dX0_setKinds_70 : decode cX0_setKinds 70 = .ok (.getfield 28, 3) := DX0_setKinds (70, .getfield 28, 3) (List.mem_of_getElem? (i := 38) rfl)
theorem dX0_setKinds_73 : decode cX0_setKinds 73 = .ok (.iload_n 3, 1) := DX0_setKinds (73, .iload_n 3, 1) (List.mem_of_getElem? (i := 39) rfl)
theorem dX0_setKinds_74 : decode cX0_setKinds 74 = .ok (.invokevirtual 79, 3) := DX0_setKinds (74, .invokevirtual 79, 3) (List.mem_of_getElem? (i := 40) rfl)
theorem dX0_setKinds_77 : decode cX0_setKinds 77 = .ok (.ifCond .le 7, 3) := DX0_setKinds (77, .ifCond .le 7, 3) (List.mem_of_getElem? (i := 41) rfl)
theorem dX0_setKinds_80 : decode cX0_setKinds 80 = .ok (.iconst 1, 1) := DX0_setKinds (80, .iconst 1, 1) (List.mem_of_getElem? (i := 42) rfl)
theorem dX0_setKinds_81 : decode cX0_setKinds 81 = .ok (.goto 4, 3) := DX0_setKinds (81, .goto 4, 3) (List.mem_of_getElem? (i := 43) rfl)
theorem dX0_setKinds_84 : decode cX0_setKinds 84 = .ok (.iconst 0, 1) := DX0_setKinds (84, .iconst 0, 1) (List.mem_of_getElem? (i := 44) rfl)
theorem dX0_setKinds_85 : decode cX0_setKinds 85 = .ok (.iastore, 1) := DX0_setKinds (85, .iastore, 1) (List.mem_of_getElem? (i := 45) rfl)
theorem dX0_setKinds_86 : decode cX0_setKinds 86 = .ok (.iinc 3 1, 3) := DX0_setKinds (86, .iinc 3 1, 3) (List.mem_of_getElem? (i := 46) rfl)
theorem dX0_setKinds_89 : decode cX0_setKinds 89 = .ok (.goto (-87), 3) := DX0_setKinds (89, .goto (-87), 3) (List.mem_of_getElem? (i := 47) rfl)
theorem dX0_setKinds_92 : decode cX0_setKinds 92 = .ok (.return_, 1) := DX0_setKinds (92, .return_, 1) (List.mem_of_getElem? (i := 48) rfl)
noncomputable def fX0_setKinds_L86 (l1 : Int32) (l2 : Int32) (l3 : Int32) (σ : Mem) : Option ((Int32 × Mem) ⊕ (Mem)) :=
  some (.inl (l3 + 1, σ))
set_option maxHeartbeats 4000000 in
set_option maxRecDepth 100000 in
theorem tX0_setKinds_L86 {E : Gx} {cI : ClassId} {ad : Nat → Nat} (C : Cx E rmX0_setKinds cI layX ad 4 RX0 cX0_setKinds) {out : Mem} (K0 : KV E rmX0_setKinds cI layX ad 4 cX0_setKinds out) {l1 : Int32} {l2 : Int32} {l3 : Int32} {σ : Mem} {res : (Int32 × Mem) ⊕ (Mem)} (h : fX0_setKinds_L86 l1 l2 l3 σ = some res) (K : Sum.elim (fun a => G E rmX0_setKinds cI layX ad 4 2 [(0, .ref (ad 0)), (1, .int l1), (2, .int l2), (3, .int a.1)] [] a.2) (fun b => G E rmX0_setKinds cI layX ad 4 92 [] [] b) res) : G E rmX0_setKinds cI layX ad 4 86 [(0, .ref (ad 0)), (1, .int l1), (2, .int l2), (3, .int l3)] [] σ := by
  unfold fX0_setKinds_L86 at h
  refine g_iinc 89 [(3, .int (l3 + 1)), (0, .ref (ad 0)), (1, .int l1), (2, .int l2)] C dX0_setKinds_86 (j := 3) rfl (by rfl) (by decide) rfl rfl ?_
  refine g_goto 2 C dX0_setKinds_89 (by decide) ?_
  have hh := end_inl h K
  exact g_sub [1, 2, 3, 0] (hh) rfl
noncomputable def fX0_setKinds_L85 (l1 : Int32) (l2 : Int32) (l3 : Int32) (s1 : Int32) (s2 : Int32) (σ : Mem) : Option ((Int32 × Mem) ⊕ (Mem)) :=
  chk (inb s1 30) <|
  fX0_setKinds_L86 l1 l2 l3 (up2 σ 20 s1.toNatClampNeg s2)
set_option maxHeartbeats 4000000 in
set_option maxRecDepth 100000 in
theorem tX0_setKinds_L85 {E : Gx} {cI : ClassId} {ad : Nat → Nat} (C : Cx E rmX0_setKinds cI layX ad 4 RX0 cX0_setKinds) {out : Mem} (K0 : KV E rmX0_setKinds cI layX ad 4 cX0_setKinds out) {l1 : Int32} {l2 : Int32} {l3 : Int32} {s1 : Int32} {s2 : Int32} {σ : Mem} {res : (Int32 × Mem) ⊕ (Mem)} (h : fX0_setKinds_L85 l1 l2 l3 s1 s2 σ = some res) (K : Sum.elim (fun a => G E rmX0_setKinds cI layX ad 4 2 [(0, .ref (ad 0)), (1, .int l1), (2, .int l2), (3, .int a.1)] [] a.2) (fun b => G E rmX0_setKinds cI layX ad 4 92 [] [] b) res) : G E rmX0_setKinds cI layX ad 4 85 [(0, .ref (ad 0)), (1, .int l1), (2, .int l2), (3, .int l3)] [.int s2, .int s1, .ref (ad 20)] σ := by
  unfold fX0_setKinds_L85 at h
  refine g_iast 86 C rfl dX0_setKinds_85 rfl h (fun h => ?_)
  exact tX0_setKinds_L86 (l1 := l1) (l2 := l2) (l3 := l3) (σ := up2 σ 20 s1.toNatClampNeg s2) C K0 h K
noncomputable def fX0_setKinds_B2 (l1 : Int32) (l2 : Int32) (l3 : Int32) (σ : Mem) : Option ((Int32 × Mem) ⊕ (Mem)) :=
  if (σ 3 4) ≤ l3 then
    some (.inr σ)
  else
    (fX7_isIn l1 l3 σ).bind fun o1 =>
    if o1.1 = 0 then
      fX0_setKinds_L86 l1 l2 l3 o1.2
    else
      (fX1_isThere l3 o1.2).bind fun o2 =>
      if o2.1 = 0 then
        chk (inb l3 30) <|
        fX0_setKinds_L86 l1 l2 l3 (up2 o2.2 20 l3.toNatClampNeg l2)
      else
        chk (inb l3 31) <|
        if (o2.2 17 l3.toNatClampNeg) ≤ 0 then
          (fX1_degree l3 o2.2).bind fun o3 =>
          if o3.1 ≤ 0 then
            fX0_setKinds_L85 l1 l2 l3 l3 0 o3.2
          else
            fX0_setKinds_L85 l1 l2 l3 l3 1 o3.2
        else
          chk (inb l3 30) <|
          fX0_setKinds_L86 l1 l2 l3 (up2 o2.2 20 l3.toNatClampNeg 2)
set_option maxHeartbeats 4000000 in
set_option maxRecDepth 100000 in
theorem tX0_setKinds_B2 {E : Gx} {cI : ClassId} {ad : Nat → Nat} (C : Cx E rmX0_setKinds cI layX ad 4 RX0 cX0_setKinds) {out : Mem} (K0 : KV E rmX0_setKinds cI layX ad 4 cX0_setKinds out) {l1 : Int32} {l2 : Int32} {l3 : Int32} {σ : Mem} {res : (Int32 × Mem) ⊕ (Mem)} (h : fX0_setKinds_B2 l1 l2 l3 σ = some res) (K : Sum.elim (fun a => G E rmX0_setKinds cI layX ad 4 2 [(0, .ref (ad 0)), (1, .int l1), (2, .int l2), (3, .int a.1)] [] a.2) (fun b => G E rmX0_setKinds cI layX ad 4 92 [] [] b) res) : G E rmX0_setKinds cI layX ad 4 2 [(0, .ref (ad 0)), (1, .int l1), (2, .int l2), (3, .int l3)] [] σ := by
  unfold fX0_setKinds_B2 at h
  refine g_iload_n 3 C dX0_setKinds_2 rfl (j := 3) rfl rfl ?_
  refine g_aload_n 4 C dX0_setKinds_3 rfl (j := 0) rfl rfl ?_
  refine g_getr 7 (j := 0) C rfl rfl wu_X0 (by decide) wf_X0_24 rfl dX0_setKinds_4 rfl ?_
  refine g_getiN 10 (j := 4) C rfl rfl wu_X3 (by decide) (List.mem_of_getElem? (i := 13) rfl) rfl dX0_setKinds_7 rfl ?_
  refine g_icmp_ge 92 13 C dX0_setKinds_10 (by decide) rfl h (fun h => ?_) (fun h => ?_)
  · have hh := end_inr h K
    exact g_sub [] (hh) rfl
  · refine g_iload_n 14 C dX0_setKinds_13 rfl (j := 1) rfl rfl ?_
    refine g_iload_n 15 C dX0_setKinds_14 rfl (j := 3) rfl rfl ?_
    refine g_cti 18 C (As := [.int l1, .int l3]) (fun _ h => mX7_isIn (a1 := l1) (a2 := l3) (σ := σ) h) (List.mem_of_getElem? (i := 14) rfl) ws_X7_isIn wc_X7_isIn wn_X7 qX7_isIn rfl rfl ⟨Nat.le_of_ble_eq_true rfl, Nat.le_of_ble_eq_true rfl⟩ rfl rfl (Nat.le_of_ble_eq_true rfl) dX0_setKinds_15 rfl h (fun o1 h => ?_)
    refine g_if_eq 86 21 C dX0_setKinds_18 (by decide) rfl h (fun h => ?_) (fun h => ?_)
    · exact tX0_setKinds_L86 (l1 := l1) (l2 := l2) (l3 := l3) (σ := o1.2) C K0 h K
    · refine g_aload_n 22 C dX0_setKinds_21 rfl (j := 0) rfl rfl ?_
      refine g_getr 25 (j := 1) C rfl rfl wu_X0 (by decide) wf_X0_28 rfl dX0_setKinds_22 rfl ?_
      refine g_iload_n 26 C dX0_setKinds_25 rfl (j := 3) rfl rfl ?_
      refine g_cni 29 C (As := [.int l3]) (fun _ h => mX1_isThere (a1 := l3) (σ := o1.2) h) (List.mem_of_getElem? (i := 22) rfl) wi_X1_isThere wz_X1_isThere wc_X1_isThere wn_X1 qX1_isThere rfl rfl ⟨Nat.le_of_ble_eq_true rfl, Nat.le_of_ble_eq_true rfl⟩ rfl rfl rfl rfl (Nat.le_of_ble_eq_true rfl) dX0_setKinds_26 rfl h (fun o2 h => ?_)
      refine g_if_ne 42 32 C dX0_setKinds_29 (by decide) rfl h (fun h => ?_) (fun h => ?_)
      · refine g_aload_n 33 C dX0_setKinds_32 rfl (j := 0) rfl rfl ?_
        refine g_getr 36 (j := 4) C rfl rfl wu_X0 (by decide) wf_X0_18 rfl dX0_setKinds_33 rfl ?_
        refine g_iload_n 37 C dX0_setKinds_36 rfl (j := 3) rfl rfl ?_
        refine g_iload_n 38 C dX0_setKinds_37 rfl (j := 2) rfl rfl ?_
        refine g_iast 39 C rfl dX0_setKinds_38 rfl h (fun h => ?_)
        refine g_goto 86 C dX0_setKinds_39 (by decide) ?_
        exact tX0_setKinds_L86 (l1 := l1) (l2 := l2) (l3 := l3) (σ := up2 o2.2 20 l3.toNatClampNeg l2) C K0 h K
      · refine g_aload_n 43 C dX0_setKinds_42 rfl (j := 0) rfl rfl ?_
        refine g_getr 46 (j := 1) C rfl rfl wu_X0 (by decide) wf_X0_28 rfl dX0_setKinds_43 rfl ?_
        refine g_getrN 49 (j := 2) C rfl rfl wu_X1 (by decide) (List.mem_of_getElem? (i := 34) rfl) rfl dX0_setKinds_46 rfl ?_
        refine g_iload_n 50 C dX0_setKinds_49 rfl (j := 3) rfl rfl ?_
        refine g_iald 51 C rfl dX0_setKinds_50 rfl h (fun h => ?_)
        refine g_if_le 64 54 C dX0_setKinds_51 (by decide) rfl h (fun h => ?_) (fun h => ?_)
        · refine g_aload_n 65 C dX0_setKinds_64 rfl (j := 0) rfl rfl ?_
          refine g_getr 68 (j := 4) C rfl rfl wu_X0 (by decide) wf_X0_18 rfl dX0_setKinds_65 rfl ?_
          refine g_iload_n 69 C dX0_setKinds_68 rfl (j := 3) rfl rfl ?_
          refine g_aload_n 70 C dX0_setKinds_69 rfl (j := 0) rfl rfl ?_
          refine g_getr 73 (j := 1) C rfl rfl wu_X0 (by decide) wf_X0_28 rfl dX0_setKinds_70 rfl ?_
          refine g_iload_n 74 C dX0_setKinds_73 rfl (j := 3) rfl rfl ?_
          refine g_cni 77 C (As := [.int l3]) (fun _ h => mX1_degree (a1 := l3) (σ := o2.2) h) (List.mem_of_getElem? (i := 20) rfl) wi_X1_degree wz_X1_degree wc_X1_degree wn_X1 qX1_degree rfl rfl ⟨Nat.le_of_ble_eq_true rfl, Nat.le_of_ble_eq_true rfl⟩ rfl rfl rfl rfl (Nat.le_of_ble_eq_true rfl) dX0_setKinds_74 rfl h (fun o3 h => ?_)
          refine g_if_le 84 80 C dX0_setKinds_77 (by decide) rfl h (fun h => ?_) (fun h => ?_)
          · refine g_iconst 85 (v := 0) C dX0_setKinds_84 (by decide) rfl ?_
            exact tX0_setKinds_L85 (l1 := l1) (l2 := l2) (l3 := l3) (s1 := l3) (s2 := 0) (σ := o3.2) C K0 h K
          · refine g_iconst 81 (v := 1) C dX0_setKinds_80 (by decide) rfl ?_
            refine g_goto 85 C dX0_setKinds_81 (by decide) ?_
            exact tX0_setKinds_L85 (l1 := l1) (l2 := l2) (l3 := l3) (s1 := l3) (s2 := 1) (σ := o3.2) C K0 h K
        · refine g_aload_n 55 C dX0_setKinds_54 rfl (j := 0) rfl rfl ?_
          refine g_getr 58 (j := 4) C rfl rfl wu_X0 (by decide) wf_X0_18 rfl dX0_setKinds_55 rfl ?_
          refine g_iload_n 59 C dX0_setKinds_58 rfl (j := 3) rfl rfl ?_
          refine g_iconst 60 (v := 2) C dX0_setKinds_59 (by decide) rfl ?_
          refine g_iast 61 C rfl dX0_setKinds_60 rfl h (fun h => ?_)
          refine g_goto 86 C dX0_setKinds_61 (by decide) ?_
          exact tX0_setKinds_L86 (l1 := l1) (l2 := l2) (l3 := l3) (σ := up2 o2.2 20 l3.toNatClampNeg 2) C K0 h K
noncomputable def fX0_setKinds_L92 (σ : Mem) : Option (Mem) :=
  some σ
set_option maxHeartbeats 4000000 in
set_option maxRecDepth 100000 in
theorem tX0_setKinds_L92 {E : Gx} {cI : ClassId} {ad : Nat → Nat} (C : Cx E rmX0_setKinds cI layX ad 4 RX0 cX0_setKinds) {out : Mem} (K0 : KV E rmX0_setKinds cI layX ad 4 cX0_setKinds out) {σ : Mem} (h : fX0_setKinds_L92 σ = some out) : G E rmX0_setKinds cI layX ad 4 92 [] [] σ := by
  unfold fX0_setKinds_L92 at h
  cases h
  exact K0 _ _ dX0_setKinds_92
noncomputable def fX0_setKinds (a1 : Int32) (a2 : Int32) (σ : Mem) : Option (Mem) :=
  (loop (fun a => fX0_setKinds_B2 a1 a2 a.1 a.2) (0, σ)).bind fun b4 =>
  fX0_setKinds_L92 b4
set_option maxHeartbeats 4000000 in
set_option maxRecDepth 100000 in
theorem mX0_setKinds {l : Launch} {D : va_G} {cI : ClassId} {ad : Nat → Nat} {a1 : Int32} {a2 : Int32} {σ : Mem} {out : Mem} (h : fX0_setKinds a1 a2 σ = some out) : MV l D cI layX ad yX0_setKinds cX0_setKinds 4 rmX0_setKinds [.ref (ad 0), .int a1, .int a2] σ out := by
  refine met_v (by decide) (Nat.le_of_ble_eq_true rfl) (fun E C K0 => ?_)
  show G E rmX0_setKinds cI layX ad 4 0 [(0, .ref (ad 0)), (1, .int a1), (2, .int a2)] [] σ
  unfold fX0_setKinds at h
  refine g_iconst 1 (v := 0) C dX0_setKinds_0 (by decide) rfl ?_
  refine g_istore_n 2 [(3, .int 0), (0, .ref (ad 0)), (1, .int a1), (2, .int a2)] C dX0_setKinds_1 rfl (by decide) rfl rfl ?_
  obtain ⟨b4, hb, h⟩ := bind_some h
  refine g_sub [1, 2, 3, 0] (g_loop (a := (0, σ)) (fun a => G E rmX0_setKinds cI layX ad 4 2 [(0, .ref (ad 0)), (1, .int a1), (2, .int a2), (3, .int a.1)] [] a.2) (fun b => G E rmX0_setKinds cI layX ad 4 92 [] [] b) hb (fun a res h K => tX0_setKinds_B2 (l1 := a1) (l2 := a2) (l3 := a.1) (σ := a.2) (res := res) C K0 h K) ?_) rfl
  show G E rmX0_setKinds cI layX ad 4 92 [] [] b4
  exact tX0_setKinds_L92 (σ := b4) C K0 h

/-! LoopReducer$Cycles.mayStandIn(II)Z -/
abbrev rmX0_mayStandIn : Room := { frames := 1, cells := 0, slots := 0, locals := 21 }
theorem qX0_mayStandIn : yX0_mayStandIn.cls ≠ "java/lang/invoke/MethodHandle" ∧ yX0_mayStandIn.cls ≠ "java/lang/invoke/VarHandle" ∧ (parseMethodDescriptor yX0_mayStandIn.desc).map (fun d => d.parameters.length) = some 2 := by decide +kernel
theorem DX0_mayStandIn : ∀ q ∈ ([(0, .iload_n 2, 1), (1, .iload_n 1, 1), (2, .invokestatic 45, 3), (5, .ifCond .ne 15, 3), (8, .aload_n 0, 1), (9, .getfield 28, 3), (12, .getfield 60, 3), (15, .iload_n 1, 1), (16, .iaload, 1), (17, .ifCond .ne 7, 3), (20, .iconst 1, 1), (21, .goto 4, 3), (24, .iconst 0, 1), (25, .ireturn, 1)] : List (Nat × Instr × Nat)), decode cX0_mayStandIn q.1 = .ok q.2 := by decide +kernel
theorem dX0_mayStandIn_0 : decode cX0_mayStandIn 0 = .ok (.iload_n 2, 1) := DX0_mayStandIn (0, .iload_n 2, 1) (List.mem_of_getElem? (i := 0) rfl)
theorem dX0_mayStandIn_1 : decode cX0_mayStandIn 1 = .ok (.iload_n 1, 1) := DX0_mayStandIn (1, .iload_n 1, 1) (List.mem_of_getElem? (i := 1) rfl)
theorem dX0_mayStandIn_2 : decode cX0_mayStandIn 2 = .ok (.invokestatic 45, 3) := DX0_mayStandIn (2, .invokestatic 45, 3) (List.mem_of_getElem? (i := 2) rfl)
theorem dX0_mayStandIn_5 : decode cX0_mayStandIn 5 = .ok (.ifCond .ne 15, 3) := DX0_mayStandIn (5, .ifCond .ne 15, 3) (List.mem_of_getElem? (i := 3) rfl)
theorem dX0_mayStandIn_8 : decode cX0_mayStandIn 8 = .ok (.aload_n 0, 1) := DX0_mayStandIn (8, .aload_n 0, 1) (List.mem_of_getElem? (i := 4) rfl)
theorem dX0_mayStandIn_9 : decode cX0_mayStandIn 9 = .ok (.getfield 28, 3) := DX0_mayStandIn (9, .getfield 28, 3) (List.mem_of_getElem? (i := 5) rfl)
theorem dX0_mayStandIn_12 : decode cX0_mayStandIn 12 = .ok (.getfield 60, 3) := DX0_mayStandIn (12, .getfield 60, 3) (List.mem_of_getElem? (i := 6) rfl)
theorem dX0_mayStandIn_15 : decode cX0_mayStandIn 15 = .ok (.iload_n 1, 1) := DX0_mayStandIn (15, .iload_n 1, 1) (List.mem_of_getElem? (i := 7) rfl)
theorem dX0_mayStandIn_16 : decode cX0_mayStandIn 16 = .ok (.iaload, 1) := DX0_mayStandIn (16, .iaload, 1) (List.mem_of_getElem? (i := 8) rfl)
theorem dX0_mayStandIn_17 : decode cX0_mayStandIn 17 = .ok (.ifCond .ne 7, 3) := DX0_mayStandIn (17, .ifCond .ne 7, 3) (List.mem_of_getElem? (i := 9) rfl)
theorem dX0_mayStandIn_20 : decode cX0_mayStandIn 20 = .ok (.iconst 1, 1) := DX0_mayStandIn (20, .iconst 1, 1) (List.mem_of_getElem? (i := 10) rfl)
theorem dX0_mayStandIn_21 : decode cX0_mayStandIn 21 = .ok (.goto 4, 3) := DX0_mayStandIn (21, .goto 4, 3) (List.mem_of_getElem? (i := 11) rfl)
theorem dX0_mayStandIn_24 : decode cX0_mayStandIn 24 = .ok (.iconst 0, 1) := DX0_mayStandIn (24, .iconst 0, 1) (List.mem_of_getElem? (i := 12) rfl)
theorem dX0_mayStandIn_25 : decode cX0_mayStandIn 25 = .ok (.ireturn, 1) := DX0_mayStandIn (25, .ireturn, 1) (List.mem_of_getElem? (i := 13) rfl)
noncomputable def fX0_mayStandIn_L25 (s0 : Int32) (σ : Mem) : Option (Int32 × Mem) :=
  chk (s0 == 0 || s0 == 1) <|
  some (s0, σ)
set_option maxHeartbeats 4000000 in
set_option maxRecDepth 100000 in
theorem tX0_mayStandIn_L25 {E : Gx} {cI : ClassId} {ad : Nat → Nat} (C : Cx E rmX0_mayStandIn cI layX ad 3 RX0 cX0_mayStandIn) {out : Int32 × Mem} (K0 : KI E rmX0_mayStandIn cI layX ad 3 cX0_mayStandIn .boolean out) {s0 : Int32} {σ : Mem} (h : fX0_mayStandIn_L25 s0 σ = some out) : G E rmX0_mayStandIn cI layX ad 3 25 [] [.int s0] σ := by
  unfold fX0_mayStandIn_L25 at h
  obtain ⟨hz, h⟩ := chk_some h
  cases h
  exact K0 _ _ dX0_mayStandIn_25 (zb_nar hz)
noncomputable def fX0_mayStandIn_L20 (σ : Mem) : Option (Int32 × Mem) :=
  fX0_mayStandIn_L25 1 σ
set_option maxHeartbeats 4000000 in
set_option maxRecDepth 100000 in
theorem tX0_mayStandIn_L20 {E : Gx} {cI : ClassId} {ad : Nat → Nat} (C : Cx E rmX0_mayStandIn cI layX ad 3 RX0 cX0_mayStandIn) {out : Int32 × Mem} (K0 : KI E rmX0_mayStandIn cI layX ad 3 cX0_mayStandIn .boolean out) {σ : Mem} (h : fX0_mayStandIn_L20 σ = some out) : G E rmX0_mayStandIn cI layX ad 3 20 [] [] σ := by
  unfold fX0_mayStandIn_L20 at h
  refine g_iconst 21 (v := 1) C dX0_mayStandIn_20 (by decide) rfl ?_
  refine g_goto 25 C dX0_mayStandIn_21 (by decide) ?_
  exact tX0_mayStandIn_L25 (s0 := 1) (σ := σ) C K0 h
noncomputable def fX0_mayStandIn (a1 : Int32) (a2 : Int32) (σ : Mem) : Option (Int32 × Mem) :=
  (fX7_isIn a2 a1 σ).bind fun o1 =>
  if o1.1 = 0 then
    chk (inb a1 31) <|
    if (o1.2 17 a1.toNatClampNeg) = 0 then
      fX0_mayStandIn_L20 o1.2
    else
      fX0_mayStandIn_L25 0 o1.2
  else
    fX0_mayStandIn_L20 o1.2
set_option maxHeartbeats 4000000 in
set_option maxRecDepth 100000 in
theorem mX0_mayStandIn {l : Launch} {D : va_G} {cI : ClassId} {ad : Nat → Nat} {a1 : Int32} {a2 : Int32} {σ : Mem} {out : Int32 × Mem} (h : fX0_mayStandIn a1 a2 σ = some out) : MI l D cI layX ad yX0_mayStandIn cX0_mayStandIn 3 .boolean rmX0_mayStandIn [.ref (ad 0), .int a1, .int a2] σ out := by
  refine met_i (by decide) (Nat.le_of_ble_eq_true rfl) (fun E C K0 => ?_)
  show G E rmX0_mayStandIn cI layX ad 3 0 [(0, .ref (ad 0)), (1, .int a1), (2, .int a2)] [] σ
  unfold fX0_mayStandIn at h
  refine g_iload_n 1 C dX0_mayStandIn_0 rfl (j := 2) rfl rfl ?_
  refine g_iload_n 2 C dX0_mayStandIn_1 rfl (j := 1) rfl rfl ?_
  refine g_cti 5 C (As := [.int a2, .int a1]) (fun _ h => mX7_isIn (a1 := a2) (a2 := a1) (σ := σ) h) (List.mem_of_getElem? (i := 14) rfl) ws_X7_isIn wc_X7_isIn wn_X7 qX7_isIn rfl rfl ⟨Nat.le_of_ble_eq_true rfl, Nat.le_of_ble_eq_true rfl⟩ rfl rfl (Nat.le_of_ble_eq_true rfl) dX0_mayStandIn_2 rfl h (fun o1 h => ?_)
  refine g_if_ne 20 8 C dX0_mayStandIn_5 (by decide) rfl h (fun h => ?_) (fun h => ?_)
  · refine g_aload_n 9 C dX0_mayStandIn_8 rfl (j := 0) rfl rfl ?_
    refine g_getr 12 (j := 1) C rfl rfl wu_X0 (by decide) wf_X0_28 rfl dX0_mayStandIn_9 rfl ?_
    refine g_getrN 15 (j := 2) C rfl rfl wu_X1 (by decide) (List.mem_of_getElem? (i := 34) rfl) rfl dX0_mayStandIn_12 rfl ?_
    refine g_iload_n 16 C dX0_mayStandIn_15 rfl (j := 1) rfl rfl ?_
    refine g_iald 17 C rfl dX0_mayStandIn_16 rfl h (fun h => ?_)
    refine g_if_ne 24 20 C dX0_mayStandIn_17 (by decide) rfl h (fun h => ?_) (fun h => ?_)
    · exact g_sub [] (tX0_mayStandIn_L20 (σ := o1.2) C K0 h) rfl
    · refine g_iconst 25 (v := 0) C dX0_mayStandIn_24 (by decide) rfl ?_
      exact g_sub [] (tX0_mayStandIn_L25 (s0 := 0) (σ := o1.2) C K0 h) rfl
  · exact g_sub [] (tX0_mayStandIn_L20 (σ := o1.2) C K0 h) rfl

/-! LoopReducer$Cycles.weight(II)I -/
abbrev rmX0_weight : Room := { frames := 1, cells := 0, slots := 0, locals := 21 }
theorem qX0_weight : yX0_weight.cls ≠ "java/lang/invoke/MethodHandle" ∧ yX0_weight.cls ≠ "java/lang/invoke/VarHandle" ∧ (parseMethodDescriptor yX0_weight.desc).map (fun d => d.parameters.length) = some 2 := by decide +kernel
theorem DX0_weight : ∀ q ∈ ([(0, .iload_n 2, 1), (1, .iload_n 1, 1), (2, .invokestatic 45, 3), (5, .ifCond .eq 12, 3), (8, .aload_n 0, 1), (9, .getfield 21, 3), (12, .iload_n 1, 1), (13, .iaload, 1), (14, .goto 4, 3), (17, .iconst 0, 1), (18, .ireturn, 1)] : List (Nat × Instr × Nat)), decode cX0_weight q.1 = .ok q.2 := by decide +kernel
theorem dX0_weight_0 : decode cX0_weight 0 = .ok (.iload_n 2, 1) := DX0_weight (0, .iload_n 2, 1) (List.mem_of_getElem? (i := 0) rfl)
theorem dX0_weight_1 : decode cX0_weight 1 = .ok (.iload_n 1, 1) := DX0_weight (1, .iload_n 1, 1) (List.mem_of_getElem? (i := 1) rfl)
theorem dX0_weight_2 : decode cX0_weight 2 = .ok (.invokestatic 45, 3) := DX0_weight (2, .invokestatic 45, 3) (List.mem_of_getElem? (i := 2) rfl)
theorem dX0_weight_5 : decode cX0_weight 5 = .ok (.ifCond .eq 12, 3) := DX0_weight (5, .ifCond .eq 12, 3) (List.mem_of_getElem? (i := 3) rfl)
theorem dX0_weight_8 : decode cX0_weight 8 = .ok (.aload_n 0, 1) := DX0_weight (8, .aload_n 0, 1) (List.mem_of_getElem? (i := 4) rfl)
theorem dX0_weight_9 : decode cX0_weight 9 = .ok (.getfield 21, 3) := DX0_weight (9, .getfield 21, 3) (List.mem_of_getElem? (i := 5) rfl)
theorem dX0_weight_12 : decode cX0_weight 12 = .ok (.iload_n 1, 1) := DX0_weight (12, .iload_n 1, 1) (List.mem_of_getElem? (i := 6) rfl)
theorem dX0_weight_13 : decode cX0_weight 13 = .ok (.iaload, 1) := DX0_weight (13, .iaload, 1) (List.mem_of_getElem? (i := 7) rfl)
theorem dX0_weight_14 : decode cX0_weight 14 = .ok (.goto 4, 3) := DX0_weight (14, .goto 4, 3) (List.mem_of_getElem? (i := 8) rfl)
theorem dX0_weight_17 : decode cX0_weight 17 = .ok (.iconst 0, 1) := DX0_weight (17, .iconst 0, 1) (List.mem_of_getElem? (i := 9) rfl)
theorem dX0_weight_18 : decode cX0_weight 18 = .ok (.ireturn, 1) := DX0_weight (18, .ireturn, 1) (List.mem_of_getElem? (i := 10) rfl)
noncomputable def fX0_weight_L18 (s0 : Int32) (σ : Mem) : Option (Int32 × Mem) :=
  some (s0, σ)
set_option maxHeartbeats 4000000 in
set_option maxRecDepth 100000 in
theorem tX0_weight_L18 {E : Gx} {cI : ClassId} {ad : Nat → Nat} (C : Cx E rmX0_weight cI layX ad 3 RX0 cX0_weight) {out : Int32 × Mem} (K0 : KI E rmX0_weight cI layX ad 3 cX0_weight .int out) {s0 : Int32} {σ : Mem} (h : fX0_weight_L18 s0 σ = some out) : G E rmX0_weight cI layX ad 3 18 [] [.int s0] σ := by
  unfold fX0_weight_L18 at h
  cases h
  exact K0 _ _ dX0_weight_18 rfl
noncomputable def fX0_weight (a1 : Int32) (a2 : Int32) (σ : Mem) : Option (Int32 × Mem) :=
  (fX7_isIn a2 a1 σ).bind fun o1 =>
  if o1.1 = 0 then
    fX0_weight_L18 0 o1.2
  else
    chk (inb a1 30) <|
    fX0_weight_L18 (o1.2 21 a1.toNatClampNeg) o1.2
set_option maxHeartbeats 4000000 in
set_option maxRecDepth 100000 in
theorem mX0_weight {l : Launch} {D : va_G} {cI : ClassId} {ad : Nat → Nat} {a1 : Int32} {a2 : Int32} {σ : Mem} {out : Int32 × Mem} (h : fX0_weight a1 a2 σ = some out) : MI l D cI layX ad yX0_weight cX0_weight 3 .int rmX0_weight [.ref (ad 0), .int a1, .int a2] σ out := by
  refine met_i (by decide) (Nat.le_of_ble_eq_true rfl) (fun E C K0 => ?_)
  show G E rmX0_weight cI layX ad 3 0 [(0, .ref (ad 0)), (1, .int a1), (2, .int a2)] [] σ
  unfold fX0_weight at h
  refine g_iload_n 1 C dX0_weight_0 rfl (j := 2) rfl rfl ?_
  refine g_iload_n 2 C dX0_weight_1 rfl (j := 1) rfl rfl ?_
  refine g_cti 5 C (As := [.int a2, .int a1]) (fun _ h => mX7_isIn (a1 := a2) (a2 := a1) (σ := σ) h) (List.mem_of_getElem? (i := 14) rfl) ws_X7_isIn wc_X7_isIn wn_X7 qX7_isIn rfl rfl ⟨Nat.le_of_ble_eq_true rfl, Nat.le_of_ble_eq_true rfl⟩ rfl rfl (Nat.le_of_ble_eq_true rfl) dX0_weight_2 rfl h (fun o1 h => ?_)
  refine g_if_eq 17 8 C dX0_weight_5 (by decide) rfl h (fun h => ?_) (fun h => ?_)
  · refine g_iconst 18 (v := 0) C dX0_weight_17 (by decide) rfl ?_
    exact g_sub [] (tX0_weight_L18 (s0 := 0) (σ := o1.2) C K0 h) rfl
  · refine g_aload_n 9 C dX0_weight_8 rfl (j := 0) rfl rfl ?_
    refine g_getr 12 (j := 5) C rfl rfl wu_X0 (by decide) wf_X0_21 rfl dX0_weight_9 rfl ?_
    refine g_iload_n 13 C dX0_weight_12 rfl (j := 1) rfl rfl ?_
    refine g_iald 14 C rfl dX0_weight_13 rfl h (fun h => ?_)
    refine g_goto 18 C dX0_weight_14 (by decide) ?_
    exact g_sub [] (tX0_weight_L18 (s0 := (o1.2 21 a1.toNatClampNeg)) (σ := o1.2) C K0 h) rfl

/-! LoopReducer$Cycles.roundBy(II)I -/
abbrev rmX0_roundBy : Room := { frames := 1, cells := 0, slots := 0, locals := 20 }
theorem qX0_roundBy : yX0_roundBy.cls ≠ "java/lang/invoke/MethodHandle" ∧ yX0_roundBy.cls ≠ "java/lang/invoke/VarHandle" ∧ (parseMethodDescriptor yX0_roundBy.desc).map (fun d => d.parameters.length) = some 2 := by decide +kernel
theorem DX0_roundBy : ∀ q ∈ ([(0, .aload_n 0, 1), (1, .getfield 15, 3), (4, .iload_n 1, 1), (5, .iaload, 1), (6, .invokestatic 146, 3), (9, .istore_n 3, 1), (10, .iload_n 3, 1), (11, .ifCond .ne 7, 3), (14, .iconst 0, 1), (15, .goto 6, 3), (18, .iload_n 2, 1), (19, .iload_n 3, 1), (20, .irem, 1), (21, .istore 4, 2), (23, .iload_n 1, 1), (24, .istore 5, 2), (26, .iconst 0, 1), (27, .istore 6, 2), (29, .iload 6, 2), (31, .iload 4, 2), (33, .if_icmp .ge 21, 3), (36, .aload_n 0, 1), (37, .getfield 24, 3), (40, .getfield 92, 3), (43, .iload 5, 2), (45, .iaload, 1), (46, .istore 5, 2), (48, .iinc 6 1, 3), (51, .goto (-22), 3), (54, .iload 5, 2), (56, .ireturn, 1)] : List (Nat × Instr × Nat)), decode cX0_roundBy q.1 = .ok q.2 := by decide +kernel
theorem dX0_roundBy_0 : decode cX0_roundBy 0 = .ok (.aload_n 0, 1) := DX0_roundBy (0, .aload_n 0, 1) (List.mem_of_getElem? (i := 0) rfl)
theorem dX0_roundBy_1 : decode cX0_roundBy 1 = .ok (.getfield 15, 3) := DX0_roundBy (1, .getfield 15, 3) (List.mem_of_getElem? (i := 1) rfl)
theorem dX0_roundBy_4 : decode cX0_roundBy 4 = .ok (.iload_n 1, 1) := DX0_roundBy (4, .iload_n 1, 1) (List.mem_of_getElem? (i := 2) rfl)
theorem dX0_roundBy_5 : decode cX0_roundBy 5 = .ok (.iaload, 1) := DX0_roundBy (5, .iaload, 1) (List.mem_of_getElem? (i := 3) rfl)
theorem dX0_roundBy_6 : decode cX0_roundBy 6 = .ok (.invokestatic 146, 3) := DX0_roundBy (6, .invokestatic 146, 3) (List.mem_of_getElem? (i := 4) rfl)
theorem dX0_roundBy_9 : decode cX0_roundBy 9 = .ok (.istore_n 3, 1) := DX0_roundBy (9, .istore_n 3, 1) (List.mem_of_getElem? (i := 5) rfl)
theorem dX0_roundBy_10 : decode cX0_roundBy 10 = .ok (.iload_n 3, 1) := DX0_roundBy (10, .iload_n 3, 1) (List.mem_of_getElem? (i := 6) rfl)
theorem dX0_roundBy_11 : decode cX0_roundBy 11 = .ok (.ifCond .ne 7, 3) := DX0_roundBy (11, .ifCond .ne 7, 3) (List.mem_of_getElem? (i := 7) rfl)
theorem dX0_roundBy_14 : decode cX0_roundBy 14 = .ok (.iconst 0, 1) := DX0_roundBy (14, .iconst 0, 1) (List.mem_of_getElem? (i := 8) rfl)
theorem dX0_roundBy_15 : decode cX0_roundBy 15 = .ok (.goto 6, 3) := DX0_roundBy (15, .goto 6, 3) (List.mem_of_getElem? (i := 9) rfl)
theorem dX0_roundBy_18 : decode cX0_roundBy 18 = .ok (.iload_n 2, 1) := DX0_roundBy (18, .iload_n 2, 1) (List.mem_of_getElem? (i := 10) rfl)
theorem dX0_roundBy_19 : decode cX0_roundBy 19 = .ok (.iload_n 3, 1) := DX0_roundBy (19, .iload_n 3, 1) (List.mem_of_getElem? (i := 11) rfl)
theorem dX0_roundBy_20 : decode cX0_roundBy 20 = .ok (.irem, 1) := DX0_roundBy (20, .irem, 1) (List.mem_of_getElem? (i := 12) rfl)
theorem dX0_roundBy_21 : decode cX0_roundBy 21 = .ok (.istore 4, 2) := DX0_roundBy (21, .istore 4, 2) (List.mem_of_getElem? (i := 13) rfl)
theorem dX0_roundBy_23 : decode cX0_roundBy 23 = .ok (.iload_n 1, 1) := DX0_roundBy (23, .iload_n 1, 1) (List.mem_of_getElem? (i := 14) rfl)
theorem dX0_roundBy_24 : decode cX0_roundBy 24 = .ok (.istore 5, 2) := DX0_roundBy (24, .istore 5, 2) (List.mem_of_getElem? (i := 15) rfl)
theorem dX0_roundBy_26 : decode cX0_roundBy 26 = .ok (.iconst 0, 1) := DX0_roundBy (26, .iconst 0, 1) (List.mem_of_getElem? (i := 16) rfl)
theorem dX0_roundBy_27 : decode cX0_roundBy 27 = .ok (.istore 6, 2) := DX0_roundBy (27, .istore 6, 2) (List.mem_of_getElem? (i := 17) rfl)
theorem dX0_roundBy_29 : decode cX0_roundBy 29 = .ok (.iload 6, 2) := DX0_roundBy (29, .iload 6, 2) (List.mem_of_getElem? (i := 18) rfl)
theorem dX0_roundBy_31 : decode cX0_roundBy 31 = .ok (.iload 4, 2) := DX0_roundBy (31, .iload 4, 2) (List.mem_of_getElem? (i := 19) rfl)
theorem dX0_roundBy_33 : decode cX0_roundBy 33 = .ok (.if_icmp .ge 21, 3) := DX0_roundBy (33, .if_icmp .ge 21, 3) (List.mem_of_getElem? (i := 20) rfl)
theorem dX0_roundBy_36 : decode cX0_roundBy 36 = .ok (.aload_n 0, 1) := DX0_roundBy (36, .aload_n 0, 1) (List.mem_of_getElem? (i := 21) rfl)
theorem dX0_roundBy_37 : decode cX0_roundBy 37 = .ok (.getfield 24, 3) := DX0_roundBy (37, .getfield 24, 3) (List.mem_of_getElem? (i := 22) rfl)
theorem dX0_roundBy_40 : decode cX0_roundBy 40 = .ok (.getfield 92, 3) := DX0_roundBy (40, .getfield 92, 3) (List.mem_of_getElem? (i := 23) rfl)
theorem dX0_roundBy_43 : decode cX0_roundBy 43 = .ok (.iload 5, 2) := DX0_roundBy (43, .iload 5, 2) (List.mem_of_getElem? (i := 24) rfl)
theorem dX0_roundBy_45 : decode cX0_roundBy 45 = .ok (.iaload, 1) := DX0_roundBy (45, .iaload, 1) (List.mem_of_getElem? (i := 25) rfl)
theorem dX0_roundBy_46 : decode cX0_roundBy 46 = .ok (.istore 5, 2) := DX0_roundBy (46, .istore 5, 2) (List.mem_of_getElem? (i := 26) rfl)
theorem dX0_roundBy_48 : decode cX0_roundBy 48 = .ok (.iinc 6 1, 3) := DX0_roundBy (48, .iinc 6 1, 3) (List.mem_of_getElem? (i := 27) rfl)
theorem dX0_roundBy_51 : decode cX0_roundBy 51 = .ok (.goto (-22), 3) := DX0_roundBy (51, .goto (-22), 3) (List.mem_of_getElem? (i := 28) rfl)
theorem dX0_roundBy_54 : decode cX0_roundBy 54 = .ok (.iload 5, 2) := DX0_roundBy (54, .iload 5, 2) (List.mem_of_getElem? (i := 29) rfl)
theorem dX0_roundBy_56 : decode cX0_roundBy 56 = .ok (.ireturn, 1) := DX0_roundBy (56, .ireturn, 1) (List.mem_of_getElem? (i := 30) rfl)
noncomputable def fX0_roundBy_B29 (l4 : Int32) (l5 : Int32) (l6 : Int32) (σ : Mem) : Option ((Int32 × Int32 × Mem) ⊕ (Int32 × Mem)) :=
  if l4 ≤ l6 then
    some (.inr (l5, σ))
  else
    chk (inb l5 30) <|
    some (.inl (σ 10 l5.toNatClampNeg, l6 + 1, σ))
set_option maxHeartbeats 4000000 in
set_option maxRecDepth 100000 in
theorem tX0_roundBy_B29 {E : Gx} {cI : ClassId} {ad : Nat → Nat} (C : Cx E rmX0_roundBy cI layX ad 7 RX0 cX0_roundBy) {out : Int32 × Mem} (K0 : KI E rmX0_roundBy cI layX ad 7 cX0_roundBy .int out) {l4 : Int32} {l5 : Int32} {l6 : Int32} {σ : Mem} {res : (Int32 × Int32 × Mem) ⊕ (Int32 × Mem)} (h : fX0_roundBy_B29 l4 l5 l6 σ = some res) (K : Sum.elim (fun a => G E rmX0_roundBy cI layX ad 7 29 [(0, .ref (ad 0)), (4, .int l4), (5, .int a.1), (6, .int a.2.1)] [] a.2.2) (fun b => G E rmX0_roundBy cI layX ad 7 54 [(5, .int b.1)] [] b.2) res) : G E rmX0_roundBy cI layX ad 7 29 [(0, .ref (ad 0)), (4, .int l4), (5, .int l5), (6, .int l6)] [] σ := by
  unfold fX0_roundBy_B29 at h
  refine g_iload 31 C dX0_roundBy_29 (j := 3) rfl rfl ?_
  refine g_iload 33 C dX0_roundBy_31 (j := 1) rfl rfl ?_
  refine g_icmp_ge 54 36 C dX0_roundBy_33 (by decide) rfl h (fun h => ?_) (fun h => ?_)
  · have hh := end_inr h K
    exact g_sub [2] (hh) rfl
  · refine g_aload_n 37 C dX0_roundBy_36 rfl (j := 0) rfl rfl ?_
    refine g_getr 40 (j := 0) C rfl rfl wu_X0 (by decide) wf_X0_24 rfl dX0_roundBy_37 rfl ?_
    refine g_getrN 43 (j := 3) C rfl rfl wu_X3 (by decide) (List.mem_of_getElem? (i := 11) rfl) rfl dX0_roundBy_40 rfl ?_
    refine g_iload 45 C dX0_roundBy_43 (j := 2) rfl rfl ?_
    refine g_iald 46 C rfl dX0_roundBy_45 rfl h (fun h => ?_)
    refine g_istore 48 [(5, .int (σ 10 l5.toNatClampNeg)), (0, .ref (ad 0)), (4, .int l4), (6, .int l6)] C dX0_roundBy_46 (by decide) rfl rfl ?_
    refine g_iinc 51 [(6, .int (l6 + 1)), (5, .int (σ 10 l5.toNatClampNeg)), (0, .ref (ad 0)), (4, .int l4)] C dX0_roundBy_48 (j := 3) rfl (by rfl) (by decide) rfl rfl ?_
    refine g_goto 29 C dX0_roundBy_51 (by decide) ?_
    have hh := end_inl h K
    exact g_sub [2, 3, 1, 0] (hh) rfl
noncomputable def fX0_roundBy_L54 (l5 : Int32) (σ : Mem) : Option (Int32 × Mem) :=
  some (l5, σ)
set_option maxHeartbeats 4000000 in
set_option maxRecDepth 100000 in
theorem tX0_roundBy_L54 {E : Gx} {cI : ClassId} {ad : Nat → Nat} (C : Cx E rmX0_roundBy cI layX ad 7 RX0 cX0_roundBy) {out : Int32 × Mem} (K0 : KI E rmX0_roundBy cI layX ad 7 cX0_roundBy .int out) {l5 : Int32} {σ : Mem} (h : fX0_roundBy_L54 l5 σ = some out) : G E rmX0_roundBy cI layX ad 7 54 [(5, .int l5)] [] σ := by
  unfold fX0_roundBy_L54 at h
  refine g_iload 56 C dX0_roundBy_54 (j := 0) rfl rfl ?_
  cases h
  exact K0 _ _ dX0_roundBy_56 rfl
noncomputable def fX0_roundBy_L21 (l1 : Int32) (s0 : Int32) (σ : Mem) : Option (Int32 × Mem) :=
  (loop (fun a => fX0_roundBy_B29 s0 a.1 a.2.1 a.2.2) (l1, 0, σ)).bind fun b2 =>
  fX0_roundBy_L54 b2.1 b2.2
set_option maxHeartbeats 4000000 in
set_option maxRecDepth 100000 in
theorem tX0_roundBy_L21 {E : Gx} {cI : ClassId} {ad : Nat → Nat} (C : Cx E rmX0_roundBy cI layX ad 7 RX0 cX0_roundBy) {out : Int32 × Mem} (K0 : KI E rmX0_roundBy cI layX ad 7 cX0_roundBy .int out) {l1 : Int32} {s0 : Int32} {σ : Mem} (h : fX0_roundBy_L21 l1 s0 σ = some out) : G E rmX0_roundBy cI layX ad 7 21 [(0, .ref (ad 0)), (1, .int l1)] [.int s0] σ := by
  unfold fX0_roundBy_L21 at h
  refine g_istore 23 [(4, .int s0), (0, .ref (ad 0)), (1, .int l1)] C dX0_roundBy_21 (by decide) rfl rfl ?_
  refine g_iload_n 24 C dX0_roundBy_23 rfl (j := 2) rfl rfl ?_
  refine g_istore 26 [(5, .int l1), (4, .int s0), (0, .ref (ad 0)), (1, .int l1)] C dX0_roundBy_24 (by decide) rfl rfl ?_
  refine g_iconst 27 (v := 0) C dX0_roundBy_26 (by decide) rfl ?_
  refine g_istore 29 [(6, .int 0), (5, .int l1), (4, .int s0), (0, .ref (ad 0)), (1, .int l1)] C dX0_roundBy_27 (by decide) rfl rfl ?_
  obtain ⟨b2, hb, h⟩ := bind_some h
  refine g_sub [3, 2, 1, 0] (g_loop (a := (l1, 0, σ)) (fun a => G E rmX0_roundBy cI layX ad 7 29 [(0, .ref (ad 0)), (4, .int s0), (5, .int a.1), (6, .int a.2.1)] [] a.2.2) (fun b => G E rmX0_roundBy cI layX ad 7 54 [(5, .int b.1)] [] b.2) hb (fun a res h K => tX0_roundBy_B29 (l4 := s0) (l5 := a.1) (l6 := a.2.1) (σ := a.2.2) (res := res) C K0 h K) ?_) rfl
  show G E rmX0_roundBy cI layX ad 7 54 [(5, .int b2.1)] [] b2.2
  exact tX0_roundBy_L54 (l5 := b2.1) (σ := b2.2) C K0 h
noncomputable def fX0_roundBy (a1 : Int32) (a2 : Int32) (σ : Mem) : Option (Int32 × Mem) :=
  chk (inb a1 30) <|
  (fJ6_bitCount_0f7a4 (σ 19 a1.toNatClampNeg) σ).bind fun o1 =>
  if o1.1 = 0 then
    fX0_roundBy_L21 a1 0 o1.2
  else
    chk (o1.1 != 0) <|
    fX0_roundBy_L21 a1 (a2 - a2 / o1.1 * o1.1) o1.2
set_option maxHeartbeats 4000000 in
set_option maxRecDepth 100000 in
theorem mX0_roundBy {l : Launch} {D : va_G} {cI : ClassId} {ad : Nat → Nat} {a1 : Int32} {a2 : Int32} {σ : Mem} {out : Int32 × Mem} (h : fX0_roundBy a1 a2 σ = some out) : MI l D cI layX ad yX0_roundBy cX0_roundBy 7 .int rmX0_roundBy [.ref (ad 0), .int a1, .int a2] σ out := by
  refine met_i (by decide) (Nat.le_of_ble_eq_true rfl) (fun E C K0 => ?_)
  show G E rmX0_roundBy cI layX ad 7 0 [(0, .ref (ad 0)), (1, .int a1), (2, .int a2)] [] σ
  unfold fX0_roundBy at h
  refine g_aload_n 1 C dX0_roundBy_0 rfl (j := 0) rfl rfl ?_
  refine g_getr 4 (j := 3) C rfl rfl wu_X0 (by decide) wf_X0_15 rfl dX0_roundBy_1 rfl ?_
  refine g_iload_n 5 C dX0_roundBy_4 rfl (j := 1) rfl rfl ?_
  refine g_iald 6 C rfl dX0_roundBy_5 rfl h (fun h => ?_)
  refine g_csi 9 C (As := [.int (σ 19 a1.toNatClampNeg)]) (fun _ h => mJ6_bitCount_0f7a4 (a1 := σ 19 a1.toNatClampNeg) (σ := σ) h) wl_X0_146 ws_J6_bitCount_0f7a4 wc_J6_bitCount_0f7a4 wn_J6 qJ6_bitCount_0f7a4 rfl rfl ⟨Nat.le_of_ble_eq_true rfl, Nat.le_of_ble_eq_true rfl⟩ rfl rfl (Nat.le_of_ble_eq_true rfl) dX0_roundBy_6 rfl h (fun o1 h => ?_)
  refine g_istore_n 10 [(3, .int o1.1), (0, .ref (ad 0)), (1, .int a1), (2, .int a2)] C dX0_roundBy_9 rfl (by decide) rfl rfl ?_
  refine g_iload_n 11 C dX0_roundBy_10 rfl (j := 0) rfl rfl ?_
  refine g_if_ne 18 14 C dX0_roundBy_11 (by decide) rfl h (fun h => ?_) (fun h => ?_)
  · refine g_iconst 15 (v := 0) C dX0_roundBy_14 (by decide) rfl ?_
    refine g_goto 21 C dX0_roundBy_15 (by decide) ?_
    exact g_sub [1, 2] (tX0_roundBy_L21 (l1 := a1) (s0 := 0) (σ := o1.2) C K0 h) rfl
  · refine g_iload_n 19 C dX0_roundBy_18 rfl (j := 3) rfl rfl ?_
    refine g_iload_n 20 C dX0_roundBy_19 rfl (j := 0) rfl rfl ?_
    obtain ⟨hne, h⟩ := chk_some h
    refine g_irem 21 C dX0_roundBy_20 (by simpa using hne) rfl ?_
    exact g_sub [1, 2] (tX0_roundBy_L21 (l1 := a1) (s0 := (a2 - a2 / o1.1 * o1.1)) (σ := o1.2) C K0 h) rfl

/-! LoopReducer$Cycles.settleLater(II)V -/
abbrev rmX0_settleLater : Room := { frames := 3, cells := 0, slots := 0, locals := 75 }
theorem qX0_settleLater : yX0_settleLater.cls ≠ "java/lang/invoke/MethodHandle" ∧ yX0_settleLater.cls ≠ "java/lang/invoke/VarHandle" ∧ (parseMethodDescriptor yX0_settleLater.desc).map (fun d => d.parameters.length) = some 2 := by decide +kernel
theorem DX0_settleLater : ∀ q ∈ ([(0, .aload_n 0, 1), (1, .getfield 28, 3), (4, .iload_n 2, 1), (5, .invokevirtual 75, 3), (8, .ifCond .eq 16, 3), (11, .aload_n 0, 1), (12, .getfield 28, 3), (15, .getfield 60, 3), (18, .iload_n 2, 1), (19, .iaload, 1), (20, .iconst 3, 1), (21, .if_icmp .lt 4, 3), (24, .return_, 1), (25, .aload_n 0, 1), (26, .getfield 28, 3), (29, .iload_n 1, 1), (30, .iload_n 2, 1), (31, .invokevirtual 115, 3), (34, .aload_n 0, 1), (35, .getfield 28, 3), (38, .getfield 60, 3), (41, .iload_n 2, 1), (42, .iaload, 1), (43, .ifCond .ne 27, 3), (46, .aload_n 0, 1), (47, .getfield 28, 3), (50, .iload_n 1, 1), (51, .aload_n 0, 1), (52, .getfield 24, 3), (55, .getfield 82, 3), (58, .iload_n 1, 1), (59, .iaload, 1), (60, .invokevirtual 118, 3), (63, .ifCond .eq 7, 3), (66, .iconst 1, 1), (67, .goto 4, 3), (70, .iconst 0, 1), (71, .istore_n 3, 1), (72, .aload_n 0, 1), (73, .getfield 28, 3), (76, .getfield 60, 3), (79, .iload_n 1, 1), (80, .iload_n 3, 1), (81, .ifCond .eq 7, 3), (84, .iconst 0, 1), (85, .goto 14, 3), (88, .aload_n 0, 1), (89, .getfield 28, 3), (92, .getfield 60, 3), (95, .iload_n 2, 1), (96, .iaload, 1), (97, .iconst 1, 1), (98, .iadd, 1), (99, .iastore, 1), (100, .return_, 1)] : List (Nat × Instr × Nat)), decode cX0_settleLater q.1 = .ok q.2 := by decide +kernel
theorem dX0_settleLater_0 : decode cX0_settleLater 0 = .ok (.aload_n 0, 1) := DX0_settleLater (0, .aload_n 0, 1) (List.mem_of_getElem? (i := 0) rfl)
theorem dX0_settleLater_1 : decode cX0_settleLater 1 = .ok (.getfield 28, 3) := DX0_settleLater (1, .getfield 28, 3) (List.mem_of_getElem? (i := 1) rfl)
theorem dX0_settleLater_4 : decode cX0_settleLater 4 = .ok (.iload_n 2, 1) := DX0_settleLater (4, .iload_n 2, 1) (List.mem_of_getElem? (i := 2) rfl)
theorem dX0_settleLater_5 : decode cX0_settleLater 5 = .ok (.invokevirtual 75, 3) := DX0_settleLater (5, .invokevirtual 75, 3) (List.mem_of_getElem? (i := 3) rfl)
theorem dX0_settleLater_8 : decode cX0_settleLater 8 = .ok (.ifCond .eq 16, 3) := DX0_settleLater (8, .ifCond .eq 16, 3) (List.mem_of_getElem? (i := 4) rfl)
theorem dX0_settleLater_11 : decode cX0_settleLater 11 = .ok (.aload_n 0, 1) := DX0_settleLater (11, .aload_n 0, 1) (List.mem_of_getElem? (i := 5) rfl)
theorem dX0_settleLater_12 : decode cX0_settleLater 12 = .ok (.getfield 28, 3) := DX0_settleLater (12, .getfield 28, 3) (List.mem_of_getElem? (i := 6) rfl)
theorem dX0_settleLater_15 : decode cX0_settleLater 15 = .ok (.getfield 60, 3) := DX0_settleLater (15, .getfield 60, 3) (List.mem_of_getElem? (i := 7) rfl)
theorem dX0_settleLater_18 : decode cX0_settleLater 18 = .ok (.iload_n 2, 1) := DX0_settleLater (18, .iload_n 2, 1) (List.mem_of_getElem? (i := 8) rfl)
theorem dX0_settleLater_19 : decode cX0_settleLater 19 = .ok (.iaload, 1) := DX0_settleLater (19, .iaload, 1) (List.mem_of_getElem? (i := 9) rfl)
theorem dX0_settleLater_20 : decode cX0_settleLater 20 = .ok (.iconst 3, 1) := DX0_settleLater (20, .iconst 3, 1) (List.mem_of_getElem? (i := 10) rfl)
theorem dX0_settleLater_21 : decode cX0_settleLater 21 = .ok (.if_icmp .lt 4, 3) := DX0_settleLater (21, .if_icmp .lt 4, 3) (List.mem_of_getElem? (i := 11) rfl)
theorem dX0_settleLater_24 : decode cX0_settleLater 24 = .ok (.return_, 1) := DX0_settleLater (24, .return_, 1) (List.mem_of_getElem? (i := 12) rfl)
theorem dX0_settleLater_25 : decode cX0_settleLater 25 = .ok (.aload_n 0, 1) := DX0_settleLater (25, .aload_n 0, 1) (List.mem_of_getElem? (i := 13) rfl)
theorem dX0_settleLater_26 : decode cX0_settleLater 26 = .ok (.getfield 28, 3) := DX0_settleLater (26, .getfield 28, 3) (List.mem_of_getElem? (i := 14) rfl)
theorem dX0_settleLater_29 : decode cX0_settleLater 29 = .ok (.iload_n 1, 1) := DX0_settleLater (29, .iload_n 1, 1) (List.mem_of_getElem? (i := 15) rfl)
theorem dX0_settleLater_30 : decode cX0_settleLater 30 = .ok (.iload_n 2, 1) := DX0_settleLater (30, .iload_n 2, 1) (List.mem_of_getElem? (i := 16) rfl)
theorem dX0_settleLater_31 : decode cX0_settleLater 31 = .ok (.invokevirtual 115, 3) := DX0_settleLater (31, .invokevirtual 115, 3) (List.mem_of_getElem? (i := 17) rfl)
theorem dX0_settleLater_34 : decode cX0_settleLater 34 = .ok (.aload_n 0, 1) := DX0_settleLater (34, .aload_n 0, 1) (List.mem_of_getElem? (i := 18) rfl)
theorem dX0_settleLater_35 : decode cX0_settleLater 35 = .ok (.getfield 28, 3) := DX0_settleLater (35, .getfield 28, 3) (List.mem_of_getElem? (i := 19) rfl)
theorem dX0_settleLater_38 : decode cX0_settleLater 38 = .ok (.getfield 60, 3) := DX0_settleLater (38, .getfield 60, 3) (List.mem_of_getElem? (i := 20) rfl)
theorem dX0_settleLater_41 : decode cX0_settleLater 41 = .ok (.iload_n 2, 1) := DX0_settleLater (41, .iload_n 2, 1) (List.mem_of_getElem? (i := 21) rfl)
theorem dX0_settleLater_42 : decode cX0_settleLater 42 = .ok (.iaload, 1) := DX0_settleLater (42, .iaload, 1) (List.mem_of_getElem? (i := 22) rfl)
theorem dX0_settleLater_43 : decode cX0_settleLater 43 = .ok (.ifCond .ne 27, 3) := DX0_settleLater (43, .ifCond .ne 27, 3) (List.mem_of_getElem? (i := 23) rfl)
theorem dX0_settleLater_46 : decode cX0_settleLater 46 = .ok (.aload_n 0, 1) := DX0_settleLater (46, .aload_n 0, 1) (List.mem_of_getElem? (i := 24) rfl)
theorem dX0_settleLater_47 : decode cX0_settleLater 47 = .ok (.getfield 28, 3) := DX0_settleLater (47, .getfield 28, 3) (List.mem_of_getElem? (i := 25) rfl)
theorem dX0_settleLater_50 : decode cX0_settleLater 50 = .ok (.iload_n 1, 1) := DX0_settleLater (50, .iload_n 1, 1) (List.mem_of_getElem? (i := 26) rfl)
theorem dX0_settleLater_51 : decode cX0_settleLater 51 = .ok (.aload_n 0, 1) := DX0_settleLater (51, .aload_n 0, 1) (List.mem_of_getElem? (i := 27) rfl)
theorem dX0_settleLater_52 : decode cX0_settleLater 52 = .ok (.getfield 24, 3) := DX0_settleLater (52, .getfield 24, 3) (List.mem_of_getElem? (i := 28) rfl)
theorem dX0_settleLater_55 : decode cX0_settleLater 55 = .ok (.getfield 82, 3) := DX0_settleLater (55, .getfield 82, 3) (List.mem_of_getElem? (i := 29) rfl)
theorem dX0_settleLater_58 : decode cX0_settleLater 58 = .ok (.iload_n 1, 1) := DX0_settleLater (58, .iload_n 1, 1) (List.mem_of_getElem? (i := 30) rfl)
theorem dX0_settleLater_59 : decode cX0_settleLater 59 = .ok (.iaload, 1) := DX0_settleLater (59, .iaload, 1) (List.mem_of_getElem? (i := 31) rfl)
theorem dX0_settleLater_60 : decode cX0_settleLater 60 = .ok (.invokevirtual 118, 3) := DX0_settleLater (60, .invokevirtual 118, 3) (List.mem_of_getElem? (i := 32) rfl)
theorem dX0_settleLater_63 : decode cX0_settleLater 63 = .ok (.ifCond .eq 7, 3) := DX0_settleLater (63, .ifCond .eq 7, 3) (List.mem_of_getElem? (i := 33) rfl)
theorem dX0_settleLater_66 : decode cX0_settleLater 66 = .ok (.iconst 1, 1) := DX0_settleLater (66, .iconst 1, 1) (List.mem_of_getElem? (i := 34) rfl)
theorem dX0_settleLater_67 : decode cX0_settleLater 67 = .ok (.goto 4, 3) := DX0_settleLater (67, .goto 4, 3) (List.mem_of_getElem? (i := 35) rfl)
theorem dX0_settleLater_70 : decode cX0_settleLater 70 = .ok (.iconst 0, 1) := DX0_settleLater (70, .iconst 0, 1) (List.mem_of_getElem? (i := 36) rfl)
theorem dX0_settleLater_71 : decode cX0_settleLater 71 = .ok (.istore_n 3, 1) := DX0_settleLater (71, .istore_n 3, 1) (List.mem_of_getElem? (i := 37) rfl)
theorem dX0_settleLater_72 : decode cX0_settleLater 72 = .ok (.aload_n 0, 1) := DX0_settleLater (72, .aload_n 0, 1) (List.mem_of_getElem? (i := 38) rfl)
theorem dX0_settleLater_73 : decode cX0_settleLater 73 = .ok (.getfield 28, 3) := DX0_settleLater (73, .getfield 28, 3) (List.mem_of_getElem? (i := 39) rfl)
theorem dX0_settleLater_76 : decode cX0_settleLater 76 = .ok (.getfield 60, 3) := DX0_settleLater (76, .getfield 60, 3) (List.mem_of_getElem? (i := 40) rfl)
theorem dX0_settleLater_79 : decode cX0_settleLater 79 = .ok (.iload_n 1, 1) := DX0_settleLater (79, .iload_n 1, 1) (List.mem_of_getElem? (i := 41) rfl)
theorem dX0_settleLater_80 : decode cX0_settleLater 80 = .ok (.iload_n 3, 1) := DX0_settleLater (80, .iload_n 3, 1) (List.mem_of_getElem? (i := 42) rfl)
theorem dX0_settleLater_81 : decode cX0_settleLater 81 = .ok (.ifCond .eq 7, 3) := DX0_settleLater (81, .ifCond .eq 7, 3) (List.mem_of_getElem? (i := 43) rfl)
theorem dX0_settleLater_84 : decode cX0_settleLater 84 = .ok (.iconst 0, 1) := DX0_settleLater (84, .iconst 0, 1) (List.mem_of_getElem? (i := 44) rfl)
theorem dX0_settleLater_85 : decode cX0_settleLater 85 = .ok (.goto 14, 3) := DX0_settleLater (85, .goto 14, 3) (List.mem_of_getElem? (i := 45) rfl)
theorem dX0_settleLater_88 : decode cX0_settleLater 88 = .ok (.aload_n 0, 1) := DX0_settleLater (88, .aload_n 0, 1) (List.mem_of_getElem? (i := 46) rfl)
theorem dX0_settleLater_89 : decode cX0_settleLater 89 = .ok (.getfield 28, 3) := DX0_settleLater (89, .getfield 28, 3) (List.mem_of_getElem? (i := 47) rfl)
theorem dX0_settleLater_92 : decode cX0_settleLater 92 = .ok (.getfield 60, 3) := DX0_settleLater (92, .getfield 60, 3) (List.mem_of_getElem? (i := 48) rfl)
theorem dX0_settleLater_95 : decode cX0_settleLater 95 = .ok (.iload_n 2, 1) := DX0_settleLater (95, .iload_n 2, 1) (List.mem_of_getElem? (i := 49) rfl)
theorem dX0_settleLater_96 : decode cX0_settleLater 96 = .ok (.iaload, 1) := DX0_settleLater (96, .iaload, 1) (List.mem_of_getElem? (i := 50) rfl)
theorem dX0_settleLater_97 : decode cX0_settleLater 97 = .ok (.iconst 1, 1) := DX0_settleLater (97, .iconst 1, 1) (List.mem_of_getElem? (i := 51) rfl)
theorem dX0_settleLater_98 : decode cX0_settleLater 98 = .ok (.iadd, 1) := DX0_settleLater (98, .iadd, 1) (List.mem_of_getElem? (i := 52) rfl)
theorem dX0_settleLater_99 : decode cX0_settleLater 99 = .ok (.iastore, 1) := DX0_settleLater (99, .iastore, 1) (List.mem_of_getElem? (i := 53) rfl)
theorem dX0_settleLater_100 : decode cX0_settleLater 100 = .ok (.return_, 1) := DX0_settleLater (100, .return_, 1) (List.mem_of_getElem? (i := 54) rfl)
noncomputable def fX0_settleLater_L24 (σ : Mem) : Option (Mem) :=
  some σ
set_option maxHeartbeats 4000000 in
set_option maxRecDepth 100000 in
theorem tX0_settleLater_L24 {E : Gx} {cI : ClassId} {ad : Nat → Nat} (C : Cx E rmX0_settleLater cI layX ad 4 RX0 cX0_settleLater) {out : Mem} (K0 : KV E rmX0_settleLater cI layX ad 4 cX0_settleLater out) {σ : Mem} (h : fX0_settleLater_L24 σ = some out) : G E rmX0_settleLater cI layX ad 4 24 [] [] σ := by
  unfold fX0_settleLater_L24 at h
  cases h
  exact K0 _ _ dX0_settleLater_24
noncomputable def fX0_settleLater_L99 (s1 : Int32) (s2 : Int32) (σ : Mem) : Option (Mem) :=
  chk (inb s1 31) <|
  some (up2 σ 17 s1.toNatClampNeg s2)
set_option maxHeartbeats 4000000 in
set_option maxRecDepth 100000 in
theorem tX0_settleLater_L99 {E : Gx} {cI : ClassId} {ad : Nat → Nat} (C : Cx E rmX0_settleLater cI layX ad 4 RX0 cX0_settleLater) {out : Mem} (K0 : KV E rmX0_settleLater cI layX ad 4 cX0_settleLater out) {s1 : Int32} {s2 : Int32} {σ : Mem} (h : fX0_settleLater_L99 s1 s2 σ = some out) : G E rmX0_settleLater cI layX ad 4 99 [] [.int s2, .int s1, .ref (ad 17)] σ := by
  unfold fX0_settleLater_L99 at h
  refine g_iast 100 C rfl dX0_settleLater_99 rfl h (fun h => ?_)
  cases h
  exact K0 _ _ dX0_settleLater_100
noncomputable def fX0_settleLater_L71 (l1 : Int32) (l2 : Int32) (s0 : Int32) (σ : Mem) : Option (Mem) :=
  if s0 = 0 then
    chk (inb l2 31) <|
    fX0_settleLater_L99 l1 ((σ 17 l2.toNatClampNeg) + 1) σ
  else
    fX0_settleLater_L99 l1 0 σ
set_option maxHeartbeats 4000000 in
set_option maxRecDepth 100000 in
theorem tX0_settleLater_L71 {E : Gx} {cI : ClassId} {ad : Nat → Nat} (C : Cx E rmX0_settleLater cI layX ad 4 RX0 cX0_settleLater) {out : Mem} (K0 : KV E rmX0_settleLater cI layX ad 4 cX0_settleLater out) {l1 : Int32} {l2 : Int32} {s0 : Int32} {σ : Mem} (h : fX0_settleLater_L71 l1 l2 s0 σ = some out) : G E rmX0_settleLater cI layX ad 4 71 [(0, .ref (ad 0)), (1, .int l1), (2, .int l2)] [.int s0] σ := by
  unfold fX0_settleLater_L71 at h
  refine g_istore_n 72 [(3, .int s0), (0, .ref (ad 0)), (1, .int l1), (2, .int l2)] C dX0_settleLater_71 rfl (by decide) rfl rfl ?_
  refine g_aload_n 73 C dX0_settleLater_72 rfl (j := 1) rfl rfl ?_
  refine g_getr 76 (j := 1) C rfl rfl wu_X0 (by decide) wf_X0_28 rfl dX0_settleLater_73 rfl ?_
  refine g_getrN 79 (j := 2) C rfl rfl wu_X1 (by decide) (List.mem_of_getElem? (i := 34) rfl) rfl dX0_settleLater_76 rfl ?_
  refine g_iload_n 80 C dX0_settleLater_79 rfl (j := 2) rfl rfl ?_
  refine g_iload_n 81 C dX0_settleLater_80 rfl (j := 0) rfl rfl ?_
  refine g_if_eq 88 84 C dX0_settleLater_81 (by decide) rfl h (fun h => ?_) (fun h => ?_)
  · refine g_aload_n 89 C dX0_settleLater_88 rfl (j := 1) rfl rfl ?_
    refine g_getr 92 (j := 1) C rfl rfl wu_X0 (by decide) wf_X0_28 rfl dX0_settleLater_89 rfl ?_
    refine g_getrN 95 (j := 2) C rfl rfl wu_X1 (by decide) (List.mem_of_getElem? (i := 34) rfl) rfl dX0_settleLater_92 rfl ?_
    refine g_iload_n 96 C dX0_settleLater_95 rfl (j := 3) rfl rfl ?_
    refine g_iald 97 C rfl dX0_settleLater_96 rfl h (fun h => ?_)
    refine g_iconst 98 (v := 1) C dX0_settleLater_97 (by decide) rfl ?_
    refine g_iadd 99 C dX0_settleLater_98 rfl ?_
    exact g_sub [] (tX0_settleLater_L99 (s1 := l1) (s2 := ((σ 17 l2.toNatClampNeg) + 1)) (σ := σ) C K0 h) rfl
  · refine g_iconst 85 (v := 0) C dX0_settleLater_84 (by decide) rfl ?_
    refine g_goto 99 C dX0_settleLater_85 (by decide) ?_
    exact g_sub [] (tX0_settleLater_L99 (s1 := l1) (s2 := 0) (σ := σ) C K0 h) rfl
noncomputable def fX0_settleLater_L70 (l1 : Int32) (l2 : Int32) (σ : Mem) : Option (Mem) :=
  fX0_settleLater_L71 l1 l2 0 σ
set_option maxHeartbeats 4000000 in
set_option maxRecDepth 100000 in
theorem tX0_settleLater_L70 {E : Gx} {cI : ClassId} {ad : Nat → Nat} (C : Cx E rmX0_settleLater cI layX ad 4 RX0 cX0_settleLater) {out : Mem} (K0 : KV E rmX0_settleLater cI layX ad 4 cX0_settleLater out) {l1 : Int32} {l2 : Int32} {σ : Mem} (h : fX0_settleLater_L70 l1 l2 σ = some out) : G E rmX0_settleLater cI layX ad 4 70 [(0, .ref (ad 0)), (1, .int l1), (2, .int l2)] [] σ := by
  unfold fX0_settleLater_L70 at h
  refine g_iconst 71 (v := 0) C dX0_settleLater_70 (by decide) rfl ?_
  exact tX0_settleLater_L71 (l1 := l1) (l2 := l2) (s0 := 0) (σ := σ) C K0 h
noncomputable def fX0_settleLater (a1 : Int32) (a2 : Int32) (σ : Mem) : Option (Mem) :=
  (fX1_isThere a2 σ).bind fun o1 =>
  if o1.1 = 0 then
    fX0_settleLater_L24 o1.2
  else
    chk (inb a2 31) <|
    if (o1.2 17 a2.toNatClampNeg) < 3 then
      (fX1_putLater a1 a2 o1.2).bind fun o2 =>
      chk (inb a2 31) <|
      if (o2 17 a2.toNatClampNeg) = 0 then
        chk (inb a1 30) <|
        (fX1_startsAlike a1 (o2 9 a1.toNatClampNeg) o2).bind fun o3 =>
        if o3.1 = 0 then
          fX0_settleLater_L70 a1 a2 o3.2
        else
          fX0_settleLater_L71 a1 a2 1 o3.2
      else
        fX0_settleLater_L70 a1 a2 o2
    else
      fX0_settleLater_L24 o1.2
set_option maxHeartbeats 4000000 in
set_option maxRecDepth 100000 in
theorem mX0_settleLater {l : Launch} {D : va_G} {cI : ClassId} {ad : Nat → Nat} {a1 : Int32} {a2 : Int32} {σ : Mem} {out : Mem} (h : fX0_settleLater a1 a2 σ = some out) : MV l D cI layX ad yX0_settleLater cX0_settleLater 4 rmX0_settleLater [.ref (ad 0), .int a1, .int a2] σ out := by
  refine met_v (by decide) (Nat.le_of_ble_eq_true rfl) (fun E C K0 => ?_)
  show G E rmX0_settleLater cI layX ad 4 0 [(0, .ref (ad 0)), (1, .int a1), (2, .int a2)] [] σ
  unfold fX0_settleLater at h
  refine g_aload_n 1 C dX0_settleLater_0 rfl (j := 0) rfl rfl ?_
  refine g_getr 4 (j := 1) C rfl rfl wu_X0 (by decide) wf_X0_28 rfl dX0_settleLater_1 rfl ?_
  refine g_iload_n 5 C dX0_settleLater_4 rfl (j := 2) rfl rfl ?_
  refine g_cni 8 C (As := [.int a2]) (fun _ h => mX1_isThere (a1 := a2) (σ := σ) h) (List.mem_of_getElem? (i := 22) rfl) wi_X1_isThere wz_X1_isThere wc_X1_isThere wn_X1 qX1_isThere rfl rfl ⟨Nat.le_of_ble_eq_true rfl, Nat.le_of_ble_eq_true rfl⟩ rfl rfl rfl rfl (Nat.le_of_ble_eq_true rfl) dX0_settleLater_5 rfl h (fun o1 h => ?_)
  refine g_if_eq 24 11 C dX0_settleLater_8 (by decide) rfl h (fun h => ?_) (fun h => ?_)
  · exact g_sub [] (tX0_settleLater_L24 (σ := o1.2) C K0 h) rfl
  · refine g_aload_n 12 C dX0_settleLater_11 rfl (j := 0) rfl rfl ?_
    refine g_getr 15 (j := 1) C rfl rfl wu_X0 (by decide) wf_X0_28 rfl dX0_settleLater_12 rfl ?_
    refine g_getrN 18 (j := 2) C rfl rfl wu_X1 (by decide) (List.mem_of_getElem? (i := 34) rfl) rfl dX0_settleLater_15 rfl ?_
    refine g_iload_n 19 C dX0_settleLater_18 rfl (j := 2) rfl rfl ?_
    refine g_iald 20 C rfl dX0_settleLater_19 rfl h (fun h => ?_)
    refine g_iconst 21 (v := 3) C dX0_settleLater_20 (by decide) rfl ?_
    refine g_icmp_lt 25 24 C dX0_settleLater_21 (by decide) rfl h (fun h => ?_) (fun h => ?_)
    · refine g_aload_n 26 C dX0_settleLater_25 rfl (j := 0) rfl rfl ?_
      refine g_getr 29 (j := 1) C rfl rfl wu_X0 (by decide) wf_X0_28 rfl dX0_settleLater_26 rfl ?_
      refine g_iload_n 30 C dX0_settleLater_29 rfl (j := 1) rfl rfl ?_
      refine g_iload_n 31 C dX0_settleLater_30 rfl (j := 2) rfl rfl ?_
      refine g_cnv 34 C (As := [.int a1, .int a2]) (fun _ h => mX1_putLater (a1 := a1) (a2 := a2) (σ := o1.2) h) (List.mem_of_getElem? (i := 23) rfl) wi_X1_putLater wz_X1_putLater wc_X1_putLater wn_X1 qX1_putLater rfl rfl ⟨Nat.le_of_ble_eq_true rfl, Nat.le_of_ble_eq_true rfl⟩ rfl rfl rfl rfl (Nat.le_of_ble_eq_true rfl) dX0_settleLater_31 rfl h (fun o2 h => ?_)
      refine g_aload_n 35 C dX0_settleLater_34 rfl (j := 0) rfl rfl ?_
      refine g_getr 38 (j := 1) C rfl rfl wu_X0 (by decide) wf_X0_28 rfl dX0_settleLater_35 rfl ?_
      refine g_getrN 41 (j := 2) C rfl rfl wu_X1 (by decide) (List.mem_of_getElem? (i := 34) rfl) rfl dX0_settleLater_38 rfl ?_
      refine g_iload_n 42 C dX0_settleLater_41 rfl (j := 2) rfl rfl ?_
      refine g_iald 43 C rfl dX0_settleLater_42 rfl h (fun h => ?_)
      refine g_if_ne 70 46 C dX0_settleLater_43 (by decide) rfl h (fun h => ?_) (fun h => ?_)
      · refine g_aload_n 47 C dX0_settleLater_46 rfl (j := 0) rfl rfl ?_
        refine g_getr 50 (j := 1) C rfl rfl wu_X0 (by decide) wf_X0_28 rfl dX0_settleLater_47 rfl ?_
        refine g_iload_n 51 C dX0_settleLater_50 rfl (j := 1) rfl rfl ?_
        refine g_aload_n 52 C dX0_settleLater_51 rfl (j := 0) rfl rfl ?_
        refine g_getr 55 (j := 0) C rfl rfl wu_X0 (by decide) wf_X0_24 rfl dX0_settleLater_52 rfl ?_
        refine g_getrN 58 (j := 2) C rfl rfl wu_X3 (by decide) (List.mem_of_getElem? (i := 8) rfl) rfl dX0_settleLater_55 rfl ?_
        refine g_iload_n 59 C dX0_settleLater_58 rfl (j := 1) rfl rfl ?_
        refine g_iald 60 C rfl dX0_settleLater_59 rfl h (fun h => ?_)
        refine g_cni 63 C (As := [.int a1, .int (o2 9 a1.toNatClampNeg)]) (fun _ h => mX1_startsAlike (a1 := a1) (a2 := o2 9 a1.toNatClampNeg) (σ := o2) h) (List.mem_of_getElem? (i := 24) rfl) wi_X1_startsAlike wz_X1_startsAlike wc_X1_startsAlike wn_X1 qX1_startsAlike rfl rfl ⟨Nat.le_of_ble_eq_true rfl, Nat.le_of_ble_eq_true rfl⟩ rfl rfl rfl rfl (Nat.le_of_ble_eq_true rfl) dX0_settleLater_60 rfl h (fun o3 h => ?_)
        refine g_if_eq 70 66 C dX0_settleLater_63 (by decide) rfl h (fun h => ?_) (fun h => ?_)
        · exact tX0_settleLater_L70 (l1 := a1) (l2 := a2) (σ := o3.2) C K0 h
        · refine g_iconst 67 (v := 1) C dX0_settleLater_66 (by decide) rfl ?_
          refine g_goto 71 C dX0_settleLater_67 (by decide) ?_
          exact tX0_settleLater_L71 (l1 := a1) (l2 := a2) (s0 := 1) (σ := o3.2) C K0 h
      · exact tX0_settleLater_L70 (l1 := a1) (l2 := a2) (σ := o2) C K0 h
    · exact g_sub [] (tX0_settleLater_L24 (σ := o1.2) C K0 h) rfl

/-! LoopReducer$Cycles.weigh(II)Z -/
abbrev rmX0_weigh : Room := { frames := 3, cells := 0, slots := 0, locals := 75 }
theorem qX0_weigh : yX0_weigh.cls ≠ "java/lang/invoke/MethodHandle" ∧ yX0_weigh.cls ≠ "java/lang/invoke/VarHandle" ∧ (parseMethodDescriptor yX0_weigh.desc).map (fun d => d.parameters.length) = some 2 := by decide +kernel
theorem DX0_weigh : ∀ q ∈ ([(0, .aload_n 0, 1), (1, .getfield 24, 3), (4, .getfield 82, 3), (7, .iload_n 1, 1), (8, .iaload, 1), (9, .istore_n 3, 1), (10, .aload_n 0, 1), (11, .getfield 24, 3), (14, .getfield 92, 3), (17, .iload_n 1, 1), (18, .iaload, 1), (19, .istore 4, 2), (21, .aload_n 0, 1), (22, .iload_n 3, 1), (23, .iload_n 2, 1), (24, .invokevirtual 130, 3), (27, .ifCond .eq 13, 3), (30, .aload_n 0, 1), (31, .iload 4, 2), (33, .iload_n 2, 1), (34, .invokevirtual 130, 3), (37, .ifCond .ne 5, 3), (40, .iconst 0, 1), (41, .ireturn, 1), (42, .aload_n 0, 1), (43, .getfield 24, 3), (46, .getfield 65, 3), (49, .iload_n 1, 1), (50, .iaload, 1), (51, .iconst 4, 1), (52, .if_icmp .eq 69, 3), (55, .aload_n 0, 1), (56, .getfield 24, 3), (59, .getfield 65, 3), (62, .iload_n 1, 1), (63, .iaload, 1), (64, .iconst 2, 1), (65, .if_icmp .ne 7, 3), (68, .iconst 1, 1), (69, .goto 4, 3), (72, .iconst (-1), 1), (73, .istore 5, 2), (75, .aload_n 0, 1), (76, .getfield 21, 3), (79, .iload_n 1, 1), (80, .aload_n 0, 1), (81, .iload_n 3, 1), (82, .iload_n 2, 1), (83, .invokevirtual 133, 3), (86, .iload 5, 2), (88, .aload_n 0, 1), (89, .iload 4, 2), (91, .iload_n 2, 1), (92, .invokevirtual 133, 3), (95, .imul, 1), (96, .iadd, 1), (97, .aload_n 0, 1), (98, .getfield 24, 3), (101, .getfield 136, 3), (104, .iand, 1), (105, .iastore, 1), (106, .aload_n 0, 1), (107, .getfield 28, 3), (110, .iload_n 1, 1), (111, .iload_n 3, 1), (112, .iload 4, 2), (114, .iload 5, 2), (116, .invokevirtual 105, 3), (119, .iconst 1, 1), (120, .ireturn, 1), (121, .aload_n 0, 1), (122, .getfield 24, 3), (125, .getfield 65, 3), (128, .iload_n 3, 1), (129, .iaload, 1), (130, .ifCond .ne 7, 3), (133, .iconst 1, 1), (134, .goto 4, 3), (137, .iconst 0, 1), (138, .istore 5, 2), (140, .iload 5, 2), (142, .ifCond .ne 18, 3), (145, .aload_n 0, 1), (146, .getfield 24, 3), (149, .getfield 65, 3), (152, .iload 4, 2), (154, .iaload, 1), (155, .ifCond .eq 5, 3), (158, .iconst 0, 1), (159, .ireturn, 1), (160, .aload_n 0, 1), (161, .getfield 24, 3), (164, .getfield 82, 3), (167, .iload 5, 2), (169, .ifCond .eq 7, 3), (172, .iload_n 3, 1), (173, .goto 5, 3), (176, .iload 4, 2), (178, .iaload, 1), (179, .istore 6, 2), (181, .iload 5, 2), (183, .ifCond .eq 8, 3), (186, .iload 4, 2), (188, .goto 4, 3), (191, .iload_n 3, 1), (192, .istore 7, 2), (194, .aload_n 0, 1), (195, .getfield 21, 3), (198, .iload_n 1, 1), (199, .aload_n 0, 1), (200, .iload 7, 2), (202, .iload_n 2, 1), (203, .invokevirtual 133, 3), (206, .iload 6, 2), (208, .imul, 1), (209, .aload_n 0, 1), (210, .getfield 24, 3), (213, .getfield 136, 3), (216, .iand, 1), (217, .iastore, 1), (218, .aload_n 0, 1), (219, .getfield 28, 3), (222, .iload_n 1, 1), (223, .iload 7, 2), (225, .iload 6, 2), (227, .invokevirtual 139, 3), (230, .iconst 1, 1), (231, .ireturn, 1)] : List (Nat × Instr × Nat)), decode cX0_weigh q.1 = .ok q.2 := by decide +kernel
theorem dX0_weigh_0 : decode cX0_weigh 0 = .ok (.aload_n 0, 1) := DX0_weigh (0, .aload_n 0, 1) (List.mem_of_getElem? (i := 0) rfl)
theorem dX0_weigh_1 : decode cX0_weigh 1 = .ok (.getfield 24, 3) := DX0_weigh (1, .getfield 24, 3) (List.mem_of_getElem? (i := 1) rfl)
theorem dX0_weigh_4 : decode cX0_weigh 4 = .ok (.getfield 82, 3) := DX0_weigh (4, .getfield 82, 3) (List.mem_of_getElem? (i := 2) rfl)
theorem dX0_weigh_7 : decode cX0_weigh 7 = .ok (.iload_n 1, 1) := DX0_weigh (7, .iload_n 1, 1) (List.mem_of_getElem? (i := 3) rfl)
theorem dX0_weigh_8 : decode cX0_weigh 8 = .ok (.iaload, 1) := DX0_weigh (8, .iaload, 1) (List.mem_of_getElem? (i := 4) rfl)
theorem dX0_weigh_9 : decode cX0_weigh 9 = .ok (.istore_n 3, 1) := DX0_weigh (9, .istore_n 3, 1) (List.mem_of_getElem? (i := 5) rfl)
theorem dX0_weigh_10 : decode cX0_weigh 10 = .ok (.aload_n 0, 1) := DX0_weigh (10, .aload_n 0, 1) (List.mem_of_getElem? (i := 6) rfl)
theorem dX0_weigh_11 : decode cX0_weigh 11 = .ok (.getfield 24, 3) := DX0_weigh (11, .getfield 24, 3) (List.mem_of_getElem? (i := 7) rfl)
theorem dX0_weigh_14 : decode cX0_weigh 14 = .ok (.getfield 92, 3) := DX0_weigh (14, .getfield 92, 3) (List.mem_of_getElem? (i := 8) rfl)
theorem dX0_weigh_17 : decode cX0_weigh 17 = .ok (.iload_n 1, 1) := DX0_weigh (17, .iload_n 1, 1) (List.mem_of_getElem? (i := 9) rfl)
theorem dX0_weigh_18 : decode cX0_weigh 18 = .ok (.iaload, 1) := DX0_weigh (18, .iaload, 1) (List.mem_of_getElem? (i := 10) rfl)
theorem dX0_weigh_19 : decode cX0_weigh 19 = .ok (.istore 4, 2) := DX0_weigh (19, .istore 4, 2) (List.mem_of_getElem? (i := 11) rfl)
theorem dX0_weigh_21 : decode cX0_weigh 21 = .ok (.aload_n 0, 1) := DX0_weigh (21, .aload_n 0, 1) (List.mem_of_getElem? (i := 12) rfl)
theorem dX0_weigh_22 : decode cX0_weigh 22 = .ok (.iload_n 3, 1) := DX0_weigh (22, .iload_n 3, 1) (List.mem_of_getElem? (i := 13) rfl)
theorem dX0_weigh_23 : decode cX0_weigh 23 = .ok (.iload_n 2, 1) := DX0_weigh (23, .iload_n 2, 1) (List.mem_of_getElem? (i := 14) rfl)
theorem dX0_weigh_24 : decode cX0_weigh 24 = .ok (.invokevirtual 130, 3) := DX0_weigh (24, .invokevirtual 130, 3) (List.mem_of_getElem? (i := 15) rfl)
theorem dX0_weigh_27 : decode cX0_weigh 27 = .ok (.ifCond .eq 13, 3) := DX0_weigh (27, .ifCond .eq 13, 3) (List.mem_of_getElem? (i := 16) rfl)
theorem dX0_weigh_30 : decode cX0_weigh 30 = .ok (.aload_n 0, 1) := DX0_weigh (30, .aload_n 0, 1) (List.mem_of_getElem? (i := 17) rfl)
theorem dX0_weigh_31 : decode cX0_weigh 31 = .ok (.iload 4, 2) := DX0_weigh (31, .iload 4, 2) (List.mem_of_getElem? (i := 18) rfl)
theorem dX0_weigh_33 : decode cX0_weigh 33 = .ok (.iload_n 2, 1) := DX0_weigh (33, .iload_n 2, 1) (List.mem_of_getElem? (i := 19) rfl)
theorem dX0_weigh_34 : decode cX0_weigh 34 = .ok (.invokevirtual 130, 3) := DX0_weigh (34, .invokevirtual 130, 3) (List.mem_of_getElem? (i := 20) rfl)
theorem dX0_weigh_37 : decode cX0_weigh 37 = .ok (.ifCond .ne 5, 3) := DX0_weigh (37, .ifCond .ne 5, 3) (List.mem_of_getElem? (i := 21) rfl)
theorem dX0_weigh_40 : decode cX0_weigh 40 = .ok (.iconst 0, 1) := DX0_weigh (40, .iconst 0, 1) (List.mem_of_getElem? (i := 22) rfl)
theorem dX0_weigh_41 : decode cX0_weigh 41 = .ok (.ireturn, 1) := DX0_weigh (41, .ireturn, 1) (List.mem_of_getElem? (i := 23) rfl)
theorem dX0_weigh_42 : decode cX0_weigh 42 = .ok (.aload_n 0, 1) := DX0_weigh (42, .aload_n 0, 1) (List.mem_of_getElem? (i := 24) rfl)
theorem dX0_weigh_43 : decode cX0_weigh 43 = .ok (.getfield 24, 3) := DX0_weigh (43, .getfield 24, 3) (List.mem_of_getElem? (i := 25) rfl)
theorem dX0_weigh_46 : decode cX0_weigh 46 = .ok (.getfield 65, 3) := DX0_weigh (46, .getfield 65, 3) (List.mem_of_getElem? (i := 26) rfl)
theorem dX0_weigh_49 : decode cX0_weigh 49 = .ok (.iload_n 1, 1) := DX0_weigh (49, .iload_n 1, 1) (List.mem_of_getElem? (i := 27) rfl)
theorem dX0_weigh_50 : decode cX0_weigh 50 = .ok (.iaload, 1) := DX0_weigh (50, .iaload, 1) (List.mem_of_getElem? (i := 28) rfl)
theorem dX0_weigh_51 : decode cX0_weigh 51 = .ok (.iconst 4, 1) := DX0_weigh (51, .iconst 4, 1) (List.mem_of_getElem? (i := 29) rfl)
theorem dX0_weigh_52 : decode cX0_weigh 52 = .ok (.if_icmp .eq 69, 3) := DX0_weigh (52, .if_icmp .eq 69, 3) (List.mem_of_getElem? (i := 30) rfl)
theorem dX0_weigh_55 : decode cX0_weigh 55 = .ok (.aload_n 0, 1) := DX0_weigh (55, .aload_n 0, 1) (List.mem_of_getElem? (i := 31) rfl)
theorem dX0_weigh_56 : decode cX0_weigh 56 = .ok (.getfield 24, 3) := DX0_weigh (56, .getfield 24, 3) (List.mem_of_getElem? (i := 32) rfl)
theorem dX0_weigh_59 : decode cX0_weigh 59 = .ok (.getfield 65, 3) := DX0_weigh (59, .getfield 65, 3) (List.mem_of_getElem? (i := 33) rfl)
theorem dX0_weigh_62 : decode cX0_weigh 62 = .ok (.iload_n 1, 1) := DX0_weigh (62, .iload_n 1, 1) (List.mem_of_getElem? (i := 34) rfl)
theorem dX0_weigh_63 : decode cX0_weigh 63 = .ok (.iaload, 1) := DX0_weigh (63, .iaload, 1) (List.mem_of_getElem? (i := 35) rfl)
theorem dX0_weigh_64 : decode cX0_weigh 64 = .ok (.iconst 2, 1) := DX0_weigh (64, .iconst 2, 1) (List.mem_of_getElem? (i := 36) rfl)
theorem dX0_weigh_65 : decode cX0_weigh 65 = .ok (.if_icmp .ne 7, 3) := DX0_weigh (65, .if_icmp .ne 7, 3) (List.mem_of_getElem? (i := 37) rfl)
theorem dX0_weigh_68 : decode cX0_weigh 68 = .ok (.iconst 1, 1) := DX0_weigh (68, .iconst 1, 1) (List.mem_of_getElem? (i := 38) rfl)
theorem dX0_weigh_69 : decode cX0_weigh 69 = .ok (.goto 4, 3) := DX0_weigh (69, .goto 4, 3) (List.mem_of_getElem? (i := 39) rfl)
theorem dX0_weigh_72 : decode cX0_weigh 72 = .ok (.iconst (-1), 1) := DX0_weigh (72, .iconst (-1), 1) (List.mem_of_getElem? (i := 40) rfl)
theorem dX0_weigh_73 : decode cX0_weigh 73 = .ok (.istore 5, 2) := DX0_weigh (73, .istore 5, 2) (List.mem_of_getElem? (i := 41) rfl)
theorem dX0_weigh_75 : decode cX0_weigh 75 = .ok (.aload_n 0, 1) := DX0_weigh (75, .aload_n 0, 1) (List.mem_of_getElem? (i := 42) rfl)
theorem dX0_weigh_76 : decode cX0_weigh 76 = .ok (.getfield 21, 3) := DX0_weigh (76, .getfield 21, 3) (List.mem_of_getElem? (i := 43) rfl)
theorem dX0_weigh_79 : decode cX0_weigh 79 = .ok (.iload_n 1, 1) := DX0_weigh (79, .iload_n 1, 1) (List.mem_of_getElem? (i := 44) rfl)
theorem dX0_weigh_80 : decode cX0_weigh 80 = .ok (.aload_n 0, 1) := DX0_weigh (80, .aload_n 0, 1) (List.mem_of_getElem? (i := 45) rfl)
theorem dX0_weigh_81 : decode cX0_weigh 81 = .ok (.iload_n 3, 1) := DX0_weigh (81, .iload_n 3, 1) (List.mem_of_getElem? (i := 46) rfl)
theorem dX0_weigh_82 : decode cX0_weigh 82 = .ok (.iload_n 2, 1) := DX0_weigh (82, .iload_n 2, 1) (List.mem_of_getElem? (i := 47) rfl)
theorem dX0_weigh_83 : decode cX0_weigh 83 = .ok (.invokevirtual 133, 3) := DX0_weigh (83, .invokevirtual 133, 3) (List.mem_of_getElem? (i := 48) rfl)
theorem dX0_weigh_86 : decode cX0_weigh 86 = .ok (.iload 5, 2) := DX0_weigh (86, .iload 5, 2) (List.mem_of_getElem? (i := 49) rfl)
theorem dX0_weigh_88 : decode cX0_weigh 88 = .ok (.aload_n 0, 1) := DX0_weigh (88, .aload_n 0, 1) (List.mem_of_getElem? (i := 50) rfl)
theorem dX0_weigh_89 : decode cX0_weigh 89 = .ok (.iload 4, 2) := DX0_weigh (89, .iload 4, 2) (List.mem_of_getElem? (i := 51) rfl)
theorem dX0_weigh_91 : decode cX0_weigh 91 = .ok (.iload_n 2, 1) := DX0_weigh (91, .iload_n 2, 1) (List.mem_of_getElem? (i := 52) rfl)
theorem dX0_weigh_92 : decode cX0_weigh 92 = .ok (.invokevirtual 133, 3) := DX0_weigh (92, .invokevirtual 133, 3) (List.mem_of_getElem? (i := 53) rfl)
theorem dX0_weigh_95 : decode cX0_weigh 95 = .ok (.imul, 1) := DX0_weigh (95, .imul, 1) (List.mem_of_getElem? (i := 54) rfl)
theorem dX0_weigh_96 : decode cX0_weigh 96 = .ok (.iadd, 1) := DX0_weigh (96, .iadd, 1) (List.mem_of_getElem? (i := 55) rfl)
theorem dX0_weigh_97 : decode cX0_weigh 97 = .ok (.aload_n 0, 1) := DX0_weigh (97, .aload_n 0, 1) (List.mem_of_getElem? (i := 56) rfl)
theorem dX0_weigh_98 : decode cX0_weigh 98 = .ok (.getfield 24, 3) := DX0_weigh (98, .getfield 24, 3) (List.mem_of_getElem? (i := 57) rfl)
theorem dX0_weigh_101 : decode cX0_weigh 101 = .ok (.getfield 136, 3) := DX0_weigh (101, .getfield 136, 3) (List.mem_of_getElem? (i := 58) rfl)
theorem dX0_weigh_104 : decode cX0_weigh 104 = .ok (.iand, 1) := DX0_weigh (104, .iand, 1) (List.mem_of_getElem? (i := 59) rfl)
theorem dX0_weigh_105 : decode cX0_weigh 105 = .ok (.iastore, 1) := DX0_weigh (105, .iastore, 1) (List.mem_of_getElem? (i := 60) rfl)
theorem dX0_weigh_106 : decode cX0_weigh 106 = .ok (.aload_n 0, 1) := DX0_weigh (106, .aload_n 0, 1) (List.mem_of_getElem? (i := 61) rfl)
theorem dX0_weigh_107 : decode cX0_weigh 107 = .ok (.getfield 28, 3) := DX0_weigh (107, .getfield 28, 3) (List.mem_of_getElem? (i := 62) rfl)
theorem dX0_weigh_110 : decode cX0_weigh 110 = .ok (.iload_n 1, 1) := DX0_weigh (110, .iload_n 1, 1) (List.mem_of_getElem? (i := 63) rfl)
theorem dX0_weigh_111 : decode cX0_weigh 111 = .ok (.iload_n 3, 1) := DX0_weigh (111, .iload_n 3, 1) (List.mem_of_getElem? (i := 64) rfl)
theorem dX0_weigh_112 : decode cX0_weigh 112 = .ok (.iload 4, 2) := DX0_weigh (112, .iload 4, 2) (List.mem_of_getElem? (i := 65) rfl)
theorem dX0_weigh_114 : decode cX0_weigh 114 = .ok (.iload 5, 2) := DX0_weigh (114, .iload 5, 2) (List.mem_of_getElem? (i := 66) rfl)
theorem dX0_weigh_116 : decode cX0_weigh 116 = .ok (.invokevirtual 105, 3) := DX0_weigh (116, .invokevirtual 105, 3) (List.mem_of_getElem? (i := 67) rfl)
theorem dX0_weigh_119 : decode cX0_weigh 119 = .ok (.iconst 1, 1) := DX0_weigh (119, .iconst 1, 1) (List.mem_of_getElem? (i := 68) rfl)
theorem dX0_weigh_120 : decode cX0_weigh 120 = .ok (.ireturn, 1) := DX0_weigh (120, .ireturn, 1) (List.mem_of_getElem? (i := 69) rfl)
theorem dX0_weigh_121 : decode cX0_weigh 121 = .ok (.aload_n 0, 1) := DX0_weigh (121, .aload_n 0, 1) (List.mem_of_getElem? (i := 70) rfl)
theorem dX0_weigh_122 : decode cX0_weigh 122 = .ok (.getfield 24, 3) := DX0_weigh (122, .getfield 24, 3) (List.mem_of_getElem? (i := 71) rfl)
theorem dX0_weigh_125 : decode cX0_weigh 125 = .ok (.getfield 65, 3) := DX0_weigh (125, .getfield 65, 3) (List.mem_of_getElem? (i := 72) rfl)
theorem dX0_weigh_128 : decode cX0_weigh 128 = .ok (.iload_n 3, 1) := DX0_weigh (128, .iload_n 3, 1) (List.mem_of_getElem? (i := 73) rfl)
theorem dX0_weigh_129 : decode cX0_weigh 129 = .ok (.iaload, 1) := DX0_weigh (129, .iaload, 1) (List.mem_of_getElem? (i := 74) rfl)
theorem dX0_weigh_130 : decode cX0_weigh 130 = .ok (.ifCond .ne 7, 3) := DX0_weigh (130, .ifCond .ne 7, 3) (List.mem_of_getElem? (i := 75) rfl)
theorem dX0_weigh_133 : decode cX0_weigh 133 = .ok (.iconst 1, 1) := DX0_weigh (133, .iconst 1, 1) (List.mem_of_getElem? (i := 76) rfl)
theorem dX0_weigh_134 : decode cX0_weigh 134 = .ok (.goto 4, 3) := DX0_weigh (134, .goto 4, 3) (List.mem_of_getElem? (i := 77) rfl)
theorem dX0_weigh_137 : decode cX0_weigh 137 = .ok (.iconst 0, 1) := DX0_weigh (137, .iconst 0, 1) (List.mem_of_getElem? (i := 78) rfl)
theorem dX0_weigh_138 : decode cX0_weigh 138 = .ok (.istore 5, 2) := DX0_weigh (138, .istore 5, 2) (List.mem_of_getElem? (i := 79) rfl)
theorem dX0_weigh_140 : decode cX0_weigh 140 = .ok (.iload 5, 2) := DX0_weigh (140, .iload 5, 2) (List.mem_of_getElem? (i := 80) rfl)
theorem dX0_weigh_142 : decode cX0_weigh 142 = .ok (.ifCond .ne 18, 3) := DX0_weigh (142, .ifCond .ne 18, 3) (List.mem_of_getElem? (i := 81) rfl)
theorem dX0_weigh_145 : decode cX0_weigh 145 = .ok (.aload_n 0, 1) := DX0_weigh (145, .aload_n 0, 1) (List.mem_of_getElem? (i := 82) rfl)
theorem dX0_weigh_146 : decode cX0_weigh 146 = .ok (.getfield 24, 3) := DX0_weigh (146, .getfield 24, 3) (List.mem_of_getElem? (i := 83) rfl)
theorem dX0_weigh_149 : decode cX0_weigh 149 = .ok (.getfield 65, 3) := DX0_weigh (149, .getfield 65, 3) (List.mem_of_getElem? (i := 84) rfl)
theorem dX0_weigh_152 : decode cX0_weigh 152 = .ok (.iload 4, 2) := DX0_weigh (152, .iload 4, 2) (List.mem_of_getElem? (i := 85) rfl)
theorem dX0_weigh_154 : decode cX0_weigh 154 = .ok (.iaload, 1) := DX0_weigh (154, .iaload, 1) (List.mem_of_getElem? (i := 86) rfl)
theorem dX0_weigh_155 : decode cX0_weigh 155 = .ok (.ifCond .eq 5, 3) := DX0_weigh (155, .ifCond .eq 5, 3) (List.mem_of_getElem? (i := 87) rfl)
theorem dX0_weigh_158 : decode cX0_weigh 158 = .ok (.iconst 0, 1) := DX0_weigh (158, .iconst 0, 1) (List.mem_of_getElem? (i := 88) rfl)
theorem dX0_weigh_159 : decode cX0_weigh 159 = .ok (.ireturn, 1) := DX0_weigh (159, .ireturn, 1) (List.mem_of_getElem? (i := 89) rfl)
theorem dX0_weigh_160 : decode cX0_weigh 160 = .ok (.aload_n 0, 1) := DX0_weigh (160, .aload_n 0, 1) (List.mem_of_getElem? (i := 90) rfl)
theorem dX0_weigh_161 : decode cX0_weigh 161 = .ok (.getfield 24, 3) := DX0_weigh (161, .getfield 24, 3) (List.mem_of_getElem? (i := 91) rfl)
theorem dX0_weigh_164 : decode cX0_weigh 164 = .ok (.getfield 82, 3) := DX0_weigh (164, .getfield 82, 3) (List.mem_of_getElem? (i := 92) rfl)
theorem dX0_weigh_167 : decode cX0_weigh 167 = .ok (.iload 5, 2) := DX0_weigh (167, .iload 5, 2) (List.mem_of_getElem? (i := 93) rfl)
theorem dX0_weigh_169 : decode cX0_weigh 169 = .ok (.ifCond .eq 7, 3) := DX0_weigh (169, .ifCond .eq 7, 3) (List.mem_of_getElem? (i := 94) rfl)
theorem dX0_weigh_172 : decode cX0_weigh 172 = .ok (.iload_n 3, 1) := DX0_weigh (172, .iload_n 3, 1) (List.mem_of_getElem? (i := 95) rfl)
theorem dX0_weigh_173 : decode cX0_weigh 173 = .ok (.goto 5, 3) := DX0_weigh (173, .goto 5, 3) (List.mem_of_getElem? (i := 96) rfl)
theorem dX0_weigh_176 : decode cX0_weigh 176 = .ok (.iload 4, 2) := DX0_weigh (176, .iload 4, 2) (List.mem_of_getElem? (i := 97) rfl)
theorem dX0_weigh_178 : decode cX0_weigh 178 = .ok (.iaload, 1) := DX0_weigh (178, .iaload, 1) (List.mem_of_getElem? (i := 98) rfl)
theorem dX0_weigh_179 : decode cX0_weigh 179 = .ok (.istore 6, 2) := DX0_weigh (179, .istore 6, 2) (List.mem_of_getElem? (i := 99) rfl)
theorem dX0_weigh_181 : decode cX0_weigh 181 = .ok (.iload 5, 2) := DX0_weigh (181, .iload 5, 2) (List.mem_of_getElem? (i := 100) rfl)
theorem dX0_weigh_183 : decode cX0_weigh 183 = .ok (.ifCond .eq 8, 3) := DX0_weigh (183, .ifCond .eq 8, 3) (List.mem_of_getElem? (i := 101) rfl)
theorem dX0_weigh_186 : decode cX0_weigh 186 = .ok (.iload 4, 2) := DX0_weigh (186, .iload 4, 2) (List.mem_of_getElem? (i := 102) rfl)
theorem dX0_weigh_188 : decode cX0_weigh 188 = .ok (.goto 4, 3) := DX0_weigh (188, .goto 4, 3) (List.mem_of_getElem? (i := 103) rfl)
theorem dX0_weigh_191 : decode cX0_weigh 191 = .ok (.iload_n 3, 1) := DX0_weigh (191, .iload_n 3, 1) (List.mem_of_getElem? (i := 104) rfl)
theorem dX0_weigh_192 : decode cX0_weigh 192 = .ok (.istore 7, 2) := DX0_weigh (192, .istore 7, 2) (List.mem_of_getElem? (i := 105) rfl)
theorem dX0_weigh_194 : decode cX0_weigh 194 = .ok (.aload_n 0, 1) := DX0_weigh (194, .aload_n 0, 1) (List.mem_of_getElem? (i := 106) rfl)
theorem dX0_weigh_195 : decode cX0_weigh 195 = .ok (.getfield 21, 3) := DX0_weigh (195, .getfield 21, 3) (List.mem_of_getElem? (i := 107) rfl)
theorem dX0_weigh_198 : decode cX0_weigh 198 = .ok (.iload_n 1, 1) := DX0_weigh (198, .iload_n 1, 1) (List.mem_of_getElem? (i := 108) rfl)
theorem dX0_weigh_199 : decode cX0_weigh 199 = .ok (.aload_n 0, 1) := DX0_weigh (199, .aload_n 0, 1) (List.mem_of_getElem? (i := 109) rfl)
theorem dX0_weigh_200 : decode cX0_weigh 200 = .ok (.iload 7, 2) := DX0_weigh (200, .iload 7, 2) (List.mem_of_getElem? (i := 110) rfl)
theorem dX0_weigh_202 : decode cX0_weigh 202 = .ok (.iload_n 2, 1) := DX0_weigh (202, .iload_n 2, 1) (List.mem_of_getElem? (i := 111) rfl)
theorem dX0_weigh_203 : decode cX0_weigh 203 = .ok (.invokevirtual 133, 3) := DX0_weigh (203, .invokevirtual 133, 3) (List.mem_of_getElem? (i := 112) rfl)
theorem dX0_weigh_206 : decode cX0_weigh 206 = .ok (.iload 6, 2) := DX0_weigh (206, .iload 6, 2) (List.mem_of_getElem? (i := 113) rfl)
theorem dX0_weigh_208 : decode cX0_weigh 208 = .ok (.imul, 1) := DX0_weigh (208, .imul, 1) (List.mem_of_getElem? (i := 114) rfl)
theorem dX0_weigh_209 : decode cX0_weigh 209 = .ok (.aload_n 0, 1) := DX0_weigh (209, .aload_n 0, 1) (List.mem_of_getElem? (i := 115) rfl)
theorem dX0_weigh_210 : decode cX0_weigh 210 = .ok (.getfield 24, 3) := DX0_weigh (210, .getfield 24, 3) (List.mem_of_getElem? (i := 116) rfl)
theorem dX0_weigh_213 : decode cX0_weigh 213 = .ok (.getfield 136, 3) := DX0_weigh (213, .getfield 136, 3) (List.mem_of_getElem? (i := 117) rfl)
theorem dX0_weigh_216 : decode cX0_weigh 216 = .ok (.iand, 1) := DX0_weigh (216, .iand, 1) (List.mem_of_getElem? (i := 118) rfl)
theorem dX0_weigh_217 : decode cX0_weigh 217 = .ok (.iastore, 1) := DX0_weigh (217, .iastore, 1) (List.mem_of_getElem? (i := 119) rfl)
theorem dX0_weigh_218 : decode cX0_weigh 218 = .ok (.aload_n 0, 1) := DX0_weigh (218, .aload_n 0, 1) (List.mem_of_getElem? (i := 120) rfl)
theorem dX0_weigh_219 : decode cX0_weigh 219 = .ok (.getfield 28, 3) := DX0_weigh (219, .getfield 28, 3) (List.mem_of_getElem? (i := 121) rfl)
theorem dX0_weigh_222 : decode cX0_weigh 222 = .ok (.iload_n 1, 1) := DX0_weigh (222, .iload_n 1, 1) (List.mem_of_getElem? (i := 122) rfl)
theorem dX0_weigh_223 : decode cX0_weigh 223 = .ok (.iload 7, 2) := DX0_weigh (223, .iload 7, 2) (List.mem_of_getElem? (i := 123) rfl)
theorem dX0_weigh_225 : decode cX0_weigh 225 = .ok (.iload 6, 2) := DX0_weigh (225, .iload 6, 2) (List.mem_of_getElem? (i := 124) rfl)
theorem dX0_weigh_227 : decode cX0_weigh 227 = .ok (.invokevirtual 139, 3) := DX0_weigh (227, .invokevirtual 139, 3) (List.mem_of_getElem? (i := 125) rfl)
theorem dX0_weigh_230 : decode cX0_weigh 230 = .ok (.iconst 1, 1) := DX0_weigh (230, .iconst 1, 1) (List.mem_of_getElem? (i := 126) rfl)
theorem dX0_weigh_231 : decode cX0_weigh 231 = .ok (.ireturn, 1) := DX0_weigh (231, .ireturn, 1) (List.mem_of_getElem? (i := 127) rfl)
noncomputable def fX0_weigh_L40 (σ : Mem) : Option (Int32 × Mem) :=
  some (0, σ)
set_option maxHeartbeats 4000000 in
set_option maxRecDepth 100000 in
theorem tX0_weigh_L40 {E : Gx} {cI : ClassId} {ad : Nat → Nat} (C : Cx E rmX0_weigh cI layX ad 8 RX0 cX0_weigh) {out : Int32 × Mem} (K0 : KI E rmX0_weigh cI layX ad 8 cX0_weigh .boolean out) {σ : Mem} (h : fX0_weigh_L40 σ = some out) : G E rmX0_weigh cI layX ad 8 40 [] [] σ := by
  unfold fX0_weigh_L40 at h
  refine g_iconst 41 (v := 0) C dX0_weigh_40 (by decide) rfl ?_
  cases h
  exact K0 _ _ dX0_weigh_41 (zb_nar (x := 0) (by decide))
noncomputable def fX0_weigh_L192 (l1 : Int32) (l2 : Int32) (l6 : Int32) (s0 : Int32) (σ : Mem) : Option (Int32 × Mem) :=
  (fX0_weight s0 l2 σ).bind fun o3 =>
  chk (inb l1 30) <|
  (fX1_putTimes l1 s0 l6 (up2 o3.2 21 l1.toNatClampNeg ((o3.1 * l6) &&& (o3.2 3 0)))).bind fun o4 =>
  some (1, o4)
set_option maxHeartbeats 4000000 in
set_option maxRecDepth 100000 in
theorem tX0_weigh_L192 {E : Gx} {cI : ClassId} {ad : Nat → Nat} (C : Cx E rmX0_weigh cI layX ad 8 RX0 cX0_weigh) {out : Int32 × Mem} (K0 : KI E rmX0_weigh cI layX ad 8 cX0_weigh .boolean out) {l1 : Int32} {l2 : Int32} {l6 : Int32} {s0 : Int32} {σ : Mem} (h : fX0_weigh_L192 l1 l2 l6 s0 σ = some out) : G E rmX0_weigh cI layX ad 8 192 [(0, .ref (ad 0)), (1, .int l1), (2, .int l2), (6, .int l6)] [.int s0] σ := by
  unfold fX0_weigh_L192 at h
  refine g_istore 194 [(7, .int s0), (0, .ref (ad 0)), (1, .int l1), (2, .int l2), (6, .int l6)] C dX0_weigh_192 (by decide) rfl rfl ?_
  refine g_aload_n 195 C dX0_weigh_194 rfl (j := 1) rfl rfl ?_
  refine g_getr 198 (j := 5) C rfl rfl wu_X0 (by decide) wf_X0_21 rfl dX0_weigh_195 rfl ?_
  refine g_iload_n 199 C dX0_weigh_198 rfl (j := 2) rfl rfl ?_
  refine g_aload_n 200 C dX0_weigh_199 rfl (j := 1) rfl rfl ?_
  refine g_iload 202 C dX0_weigh_200 (j := 0) rfl rfl ?_
  refine g_iload_n 203 C dX0_weigh_202 rfl (j := 3) rfl rfl ?_
  refine g_cvi 206 C (As := [.int s0, .int l2]) (fun _ h => mX0_weight (a1 := s0) (a2 := l2) (σ := σ) h) wl_X0_133 wi_X0_weight wz_X0_weight wc_X0_weight wn_X0 qX0_weight rfl rfl ⟨Nat.le_of_ble_eq_true rfl, Nat.le_of_ble_eq_true rfl⟩ rfl rfl rfl rfl (Nat.le_of_ble_eq_true rfl) dX0_weigh_203 rfl h (fun o3 h => ?_)
  refine g_iload 208 C dX0_weigh_206 (j := 4) rfl rfl ?_
  refine g_imul 209 C dX0_weigh_208 rfl ?_
  refine g_aload_n 210 C dX0_weigh_209 rfl (j := 1) rfl rfl ?_
  refine g_getr 213 (j := 0) C rfl rfl wu_X0 (by decide) wf_X0_24 rfl dX0_weigh_210 rfl ?_
  refine g_getiN 216 (j := 0) C rfl rfl wu_X3 (by decide) (List.mem_of_getElem? (i := 2) rfl) rfl dX0_weigh_213 rfl ?_
  refine g_iand 217 C dX0_weigh_216 rfl ?_
  refine g_iast 218 C rfl dX0_weigh_217 rfl h (fun h => ?_)
  refine g_aload_n 219 C dX0_weigh_218 rfl (j := 1) rfl rfl ?_
  refine g_getr 222 (j := 1) C rfl rfl wu_X0 (by decide) wf_X0_28 rfl dX0_weigh_219 rfl ?_
  refine g_iload_n 223 C dX0_weigh_222 rfl (j := 2) rfl rfl ?_
  refine g_iload 225 C dX0_weigh_223 (j := 0) rfl rfl ?_
  refine g_iload 227 C dX0_weigh_225 (j := 4) rfl rfl ?_
  refine g_cnv 230 C (As := [.int l1, .int s0, .int l6]) (fun _ h => mX1_putTimes (a1 := l1) (a2 := s0) (a3 := l6) (σ := up2 o3.2 21 l1.toNatClampNeg ((o3.1 * l6) &&& (o3.2 3 0))) h) (List.mem_of_getElem? (i := 19) rfl) wi_X1_putTimes wz_X1_putTimes wc_X1_putTimes wn_X1 qX1_putTimes rfl rfl ⟨Nat.le_of_ble_eq_true rfl, Nat.le_of_ble_eq_true rfl⟩ rfl rfl rfl rfl (Nat.le_of_ble_eq_true rfl) dX0_weigh_227 rfl h (fun o4 h => ?_)
  refine g_iconst 231 (v := 1) C dX0_weigh_230 (by decide) rfl ?_
  cases h
  exact K0 _ _ dX0_weigh_231 (zb_nar (x := 1) (by decide))
noncomputable def fX0_weigh_L178 (l1 : Int32) (l2 : Int32) (l3 : Int32) (l4 : Int32) (l5 : Int32) (s1 : Int32) (σ : Mem) : Option (Int32 × Mem) :=
  chk (inb s1 30) <|
  if l5 = 0 then
    fX0_weigh_L192 l1 l2 (σ 9 s1.toNatClampNeg) l3 σ
  else
    fX0_weigh_L192 l1 l2 (σ 9 s1.toNatClampNeg) l4 σ
set_option maxHeartbeats 4000000 in
set_option maxRecDepth 100000 in
theorem tX0_weigh_L178 {E : Gx} {cI : ClassId} {ad : Nat → Nat} (C : Cx E rmX0_weigh cI layX ad 8 RX0 cX0_weigh) {out : Int32 × Mem} (K0 : KI E rmX0_weigh cI layX ad 8 cX0_weigh .boolean out) {l1 : Int32} {l2 : Int32} {l3 : Int32} {l4 : Int32} {l5 : Int32} {s1 : Int32} {σ : Mem} (h : fX0_weigh_L178 l1 l2 l3 l4 l5 s1 σ = some out) : G E rmX0_weigh cI layX ad 8 178 [(0, .ref (ad 0)), (1, .int l1), (2, .int l2), (3, .int l3), (4, .int l4), (5, .int l5)] [.int s1, .ref (ad 9)] σ := by
  unfold fX0_weigh_L178 at h
  refine g_iald 179 C rfl dX0_weigh_178 rfl h (fun h => ?_)
  refine g_istore 181 [(6, .int (σ 9 s1.toNatClampNeg)), (0, .ref (ad 0)), (1, .int l1), (2, .int l2), (3, .int l3), (4, .int l4), (5, .int l5)] C dX0_weigh_179 (by decide) rfl rfl ?_
  refine g_iload 183 C dX0_weigh_181 (j := 6) rfl rfl ?_
  refine g_if_eq 191 186 C dX0_weigh_183 (by decide) rfl h (fun h => ?_) (fun h => ?_)
  · refine g_iload_n 192 C dX0_weigh_191 rfl (j := 4) rfl rfl ?_
    exact g_sub [1, 2, 3, 0] (tX0_weigh_L192 (l1 := l1) (l2 := l2) (l6 := (σ 9 s1.toNatClampNeg)) (s0 := l3) (σ := σ) C K0 h) rfl
  · refine g_iload 188 C dX0_weigh_186 (j := 5) rfl rfl ?_
    refine g_goto 192 C dX0_weigh_188 (by decide) ?_
    exact g_sub [1, 2, 3, 0] (tX0_weigh_L192 (l1 := l1) (l2 := l2) (l6 := (σ 9 s1.toNatClampNeg)) (s0 := l4) (σ := σ) C K0 h) rfl
noncomputable def fX0_weigh_L160 (l1 : Int32) (l2 : Int32) (l3 : Int32) (l4 : Int32) (l5 : Int32) (σ : Mem) : Option (Int32 × Mem) :=
  if l5 = 0 then
    fX0_weigh_L178 l1 l2 l3 l4 l5 l4 σ
  else
    fX0_weigh_L178 l1 l2 l3 l4 l5 l3 σ
set_option maxHeartbeats 4000000 in
set_option maxRecDepth 100000 in
theorem tX0_weigh_L160 {E : Gx} {cI : ClassId} {ad : Nat → Nat} (C : Cx E rmX0_weigh cI layX ad 8 RX0 cX0_weigh) {out : Int32 × Mem} (K0 : KI E rmX0_weigh cI layX ad 8 cX0_weigh .boolean out) {l1 : Int32} {l2 : Int32} {l3 : Int32} {l4 : Int32} {l5 : Int32} {σ : Mem} (h : fX0_weigh_L160 l1 l2 l3 l4 l5 σ = some out) : G E rmX0_weigh cI layX ad 8 160 [(0, .ref (ad 0)), (1, .int l1), (2, .int l2), (3, .int l3), (4, .int l4), (5, .int l5)] [] σ := by
  unfold fX0_weigh_L160 at h
  refine g_aload_n 161 C dX0_weigh_160 rfl (j := 0) rfl rfl ?_
  refine g_getr 164 (j := 0) C rfl rfl wu_X0 (by decide) wf_X0_24 rfl dX0_weigh_161 rfl ?_
  refine g_getrN 167 (j := 2) C rfl rfl wu_X3 (by decide) (List.mem_of_getElem? (i := 8) rfl) rfl dX0_weigh_164 rfl ?_
  refine g_iload 169 C dX0_weigh_167 (j := 5) rfl rfl ?_
  refine g_if_eq 176 172 C dX0_weigh_169 (by decide) rfl h (fun h => ?_) (fun h => ?_)
  · refine g_iload 178 C dX0_weigh_176 (j := 4) rfl rfl ?_
    exact tX0_weigh_L178 (l1 := l1) (l2 := l2) (l3 := l3) (l4 := l4) (l5 := l5) (s1 := l4) (σ := σ) C K0 h
  · refine g_iload_n 173 C dX0_weigh_172 rfl (j := 3) rfl rfl ?_
    refine g_goto 178 C dX0_weigh_173 (by decide) ?_
    exact tX0_weigh_L178 (l1 := l1) (l2 := l2) (l3 := l3) (l4 := l4) (l5 := l5) (s1 := l3) (σ := σ) C K0 h
noncomputable def fX0_weigh_L138 (l1 : Int32) (l2 : Int32) (l3 : Int32) (l4 : Int32) (s0 : Int32) (σ : Mem) : Option (Int32 × Mem) :=
  if s0 = 0 then
    chk (inb l4 30) <|
    if (σ 8 l4.toNatClampNeg) = 0 then
      fX0_weigh_L160 l1 l2 l3 l4 s0 σ
    else
      some (0, σ)
  else
    fX0_weigh_L160 l1 l2 l3 l4 s0 σ
set_option maxHeartbeats 4000000 in
set_option maxRecDepth 100000 in
theorem tX0_weigh_L138 {E : Gx} {cI : ClassId} {ad : Nat → Nat} (C : Cx E rmX0_weigh cI layX ad 8 RX0 cX0_weigh) {out : Int32 × Mem} (K0 : KI E rmX0_weigh cI layX ad 8 cX0_weigh .boolean out) {l1 : Int32} {l2 : Int32} {l3 : Int32} {l4 : Int32} {s0 : Int32} {σ : Mem} (h : fX0_weigh_L138 l1 l2 l3 l4 s0 σ = some out) : G E rmX0_weigh cI layX ad 8 138 [(0, .ref (ad 0)), (1, .int l1), (2, .int l2), (3, .int l3), (4, .int l4)] [.int s0] σ := by
  unfold fX0_weigh_L138 at h
  refine g_istore 140 [(5, .int s0), (0, .ref (ad 0)), (1, .int l1), (2, .int l2), (3, .int l3), (4, .int l4)] C dX0_weigh_138 (by decide) rfl rfl ?_
  refine g_iload 142 C dX0_weigh_140 (j := 0) rfl rfl ?_
  refine g_if_ne 160 145 C dX0_weigh_142 (by decide) rfl h (fun h => ?_) (fun h => ?_)
  · refine g_aload_n 146 C dX0_weigh_145 rfl (j := 1) rfl rfl ?_
    refine g_getr 149 (j := 0) C rfl rfl wu_X0 (by decide) wf_X0_24 rfl dX0_weigh_146 rfl ?_
    refine g_getrN 152 (j := 1) C rfl rfl wu_X3 (by decide) (List.mem_of_getElem? (i := 5) rfl) rfl dX0_weigh_149 rfl ?_
    refine g_iload 154 C dX0_weigh_152 (j := 5) rfl rfl ?_
    refine g_iald 155 C rfl dX0_weigh_154 rfl h (fun h => ?_)
    refine g_if_eq 160 158 C dX0_weigh_155 (by decide) rfl h (fun h => ?_) (fun h => ?_)
    · exact g_sub [1, 2, 3, 4, 5, 0] (tX0_weigh_L160 (l1 := l1) (l2 := l2) (l3 := l3) (l4 := l4) (l5 := s0) (σ := σ) C K0 h) rfl
    · refine g_iconst 159 (v := 0) C dX0_weigh_158 (by decide) rfl ?_
      cases h
      exact K0 _ _ dX0_weigh_159 (zb_nar (x := 0) (by decide))
  · exact g_sub [1, 2, 3, 4, 5, 0] (tX0_weigh_L160 (l1 := l1) (l2 := l2) (l3 := l3) (l4 := l4) (l5 := s0) (σ := σ) C K0 h) rfl
noncomputable def fX0_weigh_L73 (l1 : Int32) (l2 : Int32) (l3 : Int32) (l4 : Int32) (s0 : Int32) (σ : Mem) : Option (Int32 × Mem) :=
  (fX0_weight l3 l2 σ).bind fun o5 =>
  (fX0_weight l4 l2 o5.2).bind fun o6 =>
  chk (inb l1 30) <|
  (fX1_putSum l1 l3 l4 s0 (up2 o6.2 21 l1.toNatClampNeg ((o5.1 + (s0 * o6.1)) &&& (o6.2 3 0)))).bind fun o7 =>
  some (1, o7)
set_option maxHeartbeats 4000000 in
set_option maxRecDepth 100000 in
theorem tX0_weigh_L73 {E : Gx} {cI : ClassId} {ad : Nat → Nat} (C : Cx E rmX0_weigh cI layX ad 8 RX0 cX0_weigh) {out : Int32 × Mem} (K0 : KI E rmX0_weigh cI layX ad 8 cX0_weigh .boolean out) {l1 : Int32} {l2 : Int32} {l3 : Int32} {l4 : Int32} {s0 : Int32} {σ : Mem} (h : fX0_weigh_L73 l1 l2 l3 l4 s0 σ = some out) : G E rmX0_weigh cI layX ad 8 73 [(0, .ref (ad 0)), (1, .int l1), (2, .int l2), (3, .int l3), (4, .int l4)] [.int s0] σ := by
  unfold fX0_weigh_L73 at h
  refine g_istore 75 [(5, .int s0), (0, .ref (ad 0)), (1, .int l1), (2, .int l2), (3, .int l3), (4, .int l4)] C dX0_weigh_73 (by decide) rfl rfl ?_
  refine g_aload_n 76 C dX0_weigh_75 rfl (j := 1) rfl rfl ?_
  refine g_getr 79 (j := 5) C rfl rfl wu_X0 (by decide) wf_X0_21 rfl dX0_weigh_76 rfl ?_
  refine g_iload_n 80 C dX0_weigh_79 rfl (j := 2) rfl rfl ?_
  refine g_aload_n 81 C dX0_weigh_80 rfl (j := 1) rfl rfl ?_
  refine g_iload_n 82 C dX0_weigh_81 rfl (j := 4) rfl rfl ?_
  refine g_iload_n 83 C dX0_weigh_82 rfl (j := 3) rfl rfl ?_
  refine g_cvi 86 C (As := [.int l3, .int l2]) (fun _ h => mX0_weight (a1 := l3) (a2 := l2) (σ := σ) h) wl_X0_133 wi_X0_weight wz_X0_weight wc_X0_weight wn_X0 qX0_weight rfl rfl ⟨Nat.le_of_ble_eq_true rfl, Nat.le_of_ble_eq_true rfl⟩ rfl rfl rfl rfl (Nat.le_of_ble_eq_true rfl) dX0_weigh_83 rfl h (fun o5 h => ?_)
  refine g_iload 88 C dX0_weigh_86 (j := 0) rfl rfl ?_
  refine g_aload_n 89 C dX0_weigh_88 rfl (j := 1) rfl rfl ?_
  refine g_iload 91 C dX0_weigh_89 (j := 5) rfl rfl ?_
  refine g_iload_n 92 C dX0_weigh_91 rfl (j := 3) rfl rfl ?_
  refine g_cvi 95 C (As := [.int l4, .int l2]) (fun _ h => mX0_weight (a1 := l4) (a2 := l2) (σ := o5.2) h) wl_X0_133 wi_X0_weight wz_X0_weight wc_X0_weight wn_X0 qX0_weight rfl rfl ⟨Nat.le_of_ble_eq_true rfl, Nat.le_of_ble_eq_true rfl⟩ rfl rfl rfl rfl (Nat.le_of_ble_eq_true rfl) dX0_weigh_92 rfl h (fun o6 h => ?_)
  refine g_imul 96 C dX0_weigh_95 rfl ?_
  refine g_iadd 97 C dX0_weigh_96 rfl ?_
  refine g_aload_n 98 C dX0_weigh_97 rfl (j := 1) rfl rfl ?_
  refine g_getr 101 (j := 0) C rfl rfl wu_X0 (by decide) wf_X0_24 rfl dX0_weigh_98 rfl ?_
  refine g_getiN 104 (j := 0) C rfl rfl wu_X3 (by decide) (List.mem_of_getElem? (i := 2) rfl) rfl dX0_weigh_101 rfl ?_
  refine g_iand 105 C dX0_weigh_104 rfl ?_
  refine g_iast 106 C rfl dX0_weigh_105 rfl h (fun h => ?_)
  refine g_aload_n 107 C dX0_weigh_106 rfl (j := 1) rfl rfl ?_
  refine g_getr 110 (j := 1) C rfl rfl wu_X0 (by decide) wf_X0_28 rfl dX0_weigh_107 rfl ?_
  refine g_iload_n 111 C dX0_weigh_110 rfl (j := 2) rfl rfl ?_
  refine g_iload_n 112 C dX0_weigh_111 rfl (j := 4) rfl rfl ?_
  refine g_iload 114 C dX0_weigh_112 (j := 5) rfl rfl ?_
  refine g_iload 116 C dX0_weigh_114 (j := 0) rfl rfl ?_
  refine g_cnv 119 C (As := [.int l1, .int l3, .int l4, .int s0]) (fun _ h => mX1_putSum (a1 := l1) (a2 := l3) (a3 := l4) (a4 := s0) (σ := up2 o6.2 21 l1.toNatClampNeg ((o5.1 + (s0 * o6.1)) &&& (o6.2 3 0))) h) (List.mem_of_getElem? (i := 17) rfl) wi_X1_putSum wz_X1_putSum wc_X1_putSum wn_X1 qX1_putSum rfl rfl ⟨Nat.le_of_ble_eq_true rfl, Nat.le_of_ble_eq_true rfl⟩ rfl rfl rfl rfl (Nat.le_of_ble_eq_true rfl) dX0_weigh_116 rfl h (fun o7 h => ?_)
  refine g_iconst 120 (v := 1) C dX0_weigh_119 (by decide) rfl ?_
  cases h
  exact K0 _ _ dX0_weigh_120 (zb_nar (x := 1) (by decide))
noncomputable def fX0_weigh (a1 : Int32) (a2 : Int32) (σ : Mem) : Option (Int32 × Mem) :=
  chk (inb a1 30) <|
  chk (inb a1 30) <|
  (fX0_mayStandIn (σ 9 a1.toNatClampNeg) a2 σ).bind fun o1 =>
  if o1.1 = 0 then
    fX0_weigh_L40 o1.2
  else
    (fX0_mayStandIn (σ 10 a1.toNatClampNeg) a2 o1.2).bind fun o2 =>
    if o2.1 = 0 then
      fX0_weigh_L40 o2.2
    else
      chk (inb a1 30) <|
      if (o2.2 8 a1.toNatClampNeg) = 4 then
        chk (inb (σ 9 a1.toNatClampNeg) 30) <|
        if (o2.2 8 (σ 9 a1.toNatClampNeg).toNatClampNeg) = 0 then
          fX0_weigh_L138 a1 a2 (σ 9 a1.toNatClampNeg) (σ 10 a1.toNatClampNeg) 1 o2.2
        else
          fX0_weigh_L138 a1 a2 (σ 9 a1.toNatClampNeg) (σ 10 a1.toNatClampNeg) 0 o2.2
      else
        chk (inb a1 30) <|
        if (o2.2 8 a1.toNatClampNeg) = 2 then
          fX0_weigh_L73 a1 a2 (σ 9 a1.toNatClampNeg) (σ 10 a1.toNatClampNeg) 1 o2.2
        else
          fX0_weigh_L73 a1 a2 (σ 9 a1.toNatClampNeg) (σ 10 a1.toNatClampNeg) (-1) o2.2
set_option maxHeartbeats 4000000 in
set_option maxRecDepth 100000 in
theorem mX0_weigh {l : Launch} {D : va_G} {cI : ClassId} {ad : Nat → Nat} {a1 : Int32} {a2 : Int32} {σ : Mem} {out : Int32 × Mem} (h : fX0_weigh a1 a2 σ = some out) : MI l D cI layX ad yX0_weigh cX0_weigh 8 .boolean rmX0_weigh [.ref (ad 0), .int a1, .int a2] σ out := by
  refine met_i (by decide) (Nat.le_of_ble_eq_true rfl) (fun E C K0 => ?_)
  show G E rmX0_weigh cI layX ad 8 0 [(0, .ref (ad 0)), (1, .int a1), (2, .int a2)] [] σ
  unfold fX0_weigh at h
  refine g_aload_n 1 C dX0_weigh_0 rfl (j := 0) rfl rfl ?_
  refine g_getr 4 (j := 0) C rfl rfl wu_X0 (by decide) wf_X0_24 rfl dX0_weigh_1 rfl ?_
  refine g_getrN 7 (j := 2) C rfl rfl wu_X3 (by decide) (List.mem_of_getElem? (i := 8) rfl) rfl dX0_weigh_4 rfl ?_
  refine g_iload_n 8 C dX0_weigh_7 rfl (j := 1) rfl rfl ?_
  refine g_iald 9 C rfl dX0_weigh_8 rfl h (fun h => ?_)
  refine g_istore_n 10 [(3, .int (σ 9 a1.toNatClampNeg)), (0, .ref (ad 0)), (1, .int a1), (2, .int a2)] C dX0_weigh_9 rfl (by decide) rfl rfl ?_
  refine g_aload_n 11 C dX0_weigh_10 rfl (j := 1) rfl rfl ?_
  refine g_getr 14 (j := 0) C rfl rfl wu_X0 (by decide) wf_X0_24 rfl dX0_weigh_11 rfl ?_
  refine g_getrN 17 (j := 3) C rfl rfl wu_X3 (by decide) (List.mem_of_getElem? (i := 11) rfl) rfl dX0_weigh_14 rfl ?_
  refine g_iload_n 18 C dX0_weigh_17 rfl (j := 2) rfl rfl ?_
  refine g_iald 19 C rfl dX0_weigh_18 rfl h (fun h => ?_)
  refine g_istore 21 [(4, .int (σ 10 a1.toNatClampNeg)), (3, .int (σ 9 a1.toNatClampNeg)), (0, .ref (ad 0)), (1, .int a1), (2, .int a2)] C dX0_weigh_19 (by decide) rfl rfl ?_
  refine g_aload_n 22 C dX0_weigh_21 rfl (j := 2) rfl rfl ?_
  refine g_iload_n 23 C dX0_weigh_22 rfl (j := 1) rfl rfl ?_
  refine g_iload_n 24 C dX0_weigh_23 rfl (j := 4) rfl rfl ?_
  refine g_cvi 27 C (As := [.int (σ 9 a1.toNatClampNeg), .int a2]) (fun _ h => mX0_mayStandIn (a1 := σ 9 a1.toNatClampNeg) (a2 := a2) (σ := σ) h) wl_X0_130 wi_X0_mayStandIn wz_X0_mayStandIn wc_X0_mayStandIn wn_X0 qX0_mayStandIn rfl rfl ⟨Nat.le_of_ble_eq_true rfl, Nat.le_of_ble_eq_true rfl⟩ rfl rfl rfl rfl (Nat.le_of_ble_eq_true rfl) dX0_weigh_24 rfl h (fun o1 h => ?_)
  refine g_if_eq 40 30 C dX0_weigh_27 (by decide) rfl h (fun h => ?_) (fun h => ?_)
  · exact g_sub [] (tX0_weigh_L40 (σ := o1.2) C K0 h) rfl
  · refine g_aload_n 31 C dX0_weigh_30 rfl (j := 2) rfl rfl ?_
    refine g_iload 33 C dX0_weigh_31 (j := 0) rfl rfl ?_
    refine g_iload_n 34 C dX0_weigh_33 rfl (j := 4) rfl rfl ?_
    refine g_cvi 37 C (As := [.int (σ 10 a1.toNatClampNeg), .int a2]) (fun _ h => mX0_mayStandIn (a1 := σ 10 a1.toNatClampNeg) (a2 := a2) (σ := o1.2) h) wl_X0_130 wi_X0_mayStandIn wz_X0_mayStandIn wc_X0_mayStandIn wn_X0 qX0_mayStandIn rfl rfl ⟨Nat.le_of_ble_eq_true rfl, Nat.le_of_ble_eq_true rfl⟩ rfl rfl rfl rfl (Nat.le_of_ble_eq_true rfl) dX0_weigh_34 rfl h (fun o2 h => ?_)
    refine g_if_ne 42 40 C dX0_weigh_37 (by decide) rfl h (fun h => ?_) (fun h => ?_)
    · exact g_sub [] (tX0_weigh_L40 (σ := o2.2) C K0 h) rfl
    · refine g_aload_n 43 C dX0_weigh_42 rfl (j := 2) rfl rfl ?_
      refine g_getr 46 (j := 0) C rfl rfl wu_X0 (by decide) wf_X0_24 rfl dX0_weigh_43 rfl ?_
      refine g_getrN 49 (j := 1) C rfl rfl wu_X3 (by decide) (List.mem_of_getElem? (i := 5) rfl) rfl dX0_weigh_46 rfl ?_
      refine g_iload_n 50 C dX0_weigh_49 rfl (j := 3) rfl rfl ?_
      refine g_iald 51 C rfl dX0_weigh_50 rfl h (fun h => ?_)
      refine g_iconst 52 (v := 4) C dX0_weigh_51 (by decide) rfl ?_
      refine g_icmp_eq 121 55 C dX0_weigh_52 (by decide) rfl h (fun h => ?_) (fun h => ?_)
      · refine g_aload_n 122 C dX0_weigh_121 rfl (j := 2) rfl rfl ?_
        refine g_getr 125 (j := 0) C rfl rfl wu_X0 (by decide) wf_X0_24 rfl dX0_weigh_122 rfl ?_
        refine g_getrN 128 (j := 1) C rfl rfl wu_X3 (by decide) (List.mem_of_getElem? (i := 5) rfl) rfl dX0_weigh_125 rfl ?_
        refine g_iload_n 129 C dX0_weigh_128 rfl (j := 1) rfl rfl ?_
        refine g_iald 130 C rfl dX0_weigh_129 rfl h (fun h => ?_)
        refine g_if_ne 137 133 C dX0_weigh_130 (by decide) rfl h (fun h => ?_) (fun h => ?_)
        · refine g_iconst 134 (v := 1) C dX0_weigh_133 (by decide) rfl ?_
          refine g_goto 138 C dX0_weigh_134 (by decide) ?_
          exact g_sub [2, 3, 4, 1, 0] (tX0_weigh_L138 (l1 := a1) (l2 := a2) (l3 := (σ 9 a1.toNatClampNeg)) (l4 := (σ 10 a1.toNatClampNeg)) (s0 := 1) (σ := o2.2) C K0 h) rfl
        · refine g_iconst 138 (v := 0) C dX0_weigh_137 (by decide) rfl ?_
          exact g_sub [2, 3, 4, 1, 0] (tX0_weigh_L138 (l1 := a1) (l2 := a2) (l3 := (σ 9 a1.toNatClampNeg)) (l4 := (σ 10 a1.toNatClampNeg)) (s0 := 0) (σ := o2.2) C K0 h) rfl
      · refine g_aload_n 56 C dX0_weigh_55 rfl (j := 2) rfl rfl ?_
        refine g_getr 59 (j := 0) C rfl rfl wu_X0 (by decide) wf_X0_24 rfl dX0_weigh_56 rfl ?_
        refine g_getrN 62 (j := 1) C rfl rfl wu_X3 (by decide) (List.mem_of_getElem? (i := 5) rfl) rfl dX0_weigh_59 rfl ?_
        refine g_iload_n 63 C dX0_weigh_62 rfl (j := 3) rfl rfl ?_
        refine g_iald 64 C rfl dX0_weigh_63 rfl h (fun h => ?_)
        refine g_iconst 65 (v := 2) C dX0_weigh_64 (by decide) rfl ?_
        refine g_icmp_ne 72 68 C dX0_weigh_65 (by decide) rfl h (fun h => ?_) (fun h => ?_)
        · refine g_iconst 69 (v := 1) C dX0_weigh_68 (by decide) rfl ?_
          refine g_goto 73 C dX0_weigh_69 (by decide) ?_
          exact g_sub [2, 3, 4, 1, 0] (tX0_weigh_L73 (l1 := a1) (l2 := a2) (l3 := (σ 9 a1.toNatClampNeg)) (l4 := (σ 10 a1.toNatClampNeg)) (s0 := 1) (σ := o2.2) C K0 h) rfl
        · refine g_iconst 73 (v := (-1)) C dX0_weigh_72 (by decide) rfl ?_
          exact g_sub [2, 3, 4, 1, 0] (tX0_weigh_L73 (l1 := a1) (l2 := a2) (l3 := (σ 9 a1.toNatClampNeg)) (l4 := (σ 10 a1.toNatClampNeg)) (s0 := (-1)) (σ := o2.2) C K0 h) rfl

/-! LoopReducer$Cycles.leastAlike(I)I -/
abbrev rmX0_leastAlike : Room := { frames := 2, cells := 0, slots := 0, locals := 48 }
theorem qX0_leastAlike : yX0_leastAlike.cls ≠ "java/lang/invoke/MethodHandle" ∧ yX0_leastAlike.cls ≠ "java/lang/invoke/VarHandle" ∧ (parseMethodDescriptor yX0_leastAlike.desc).map (fun d => d.parameters.length) = some 1 := by decide +kernel
theorem DX0_leastAlike : ∀ q ∈ ([(0, .iconst 0, 1), (1, .istore_n 2, 1), (2, .iload_n 2, 1), (3, .iload_n 1, 1), (4, .if_icmp .ge 46, 3), (7, .aload_n 0, 1), (8, .getfield 28, 3), (11, .getfield 60, 3), (14, .iload_n 2, 1), (15, .iaload, 1), (16, .aload_n 0, 1), (17, .getfield 28, 3), (20, .getfield 60, 3), (23, .iload_n 1, 1), (24, .iaload, 1), (25, .if_icmp .ne 19, 3), (28, .aload_n 0, 1), (29, .getfield 28, 3), (32, .iload_n 2, 1), (33, .iconst 0, 1), (34, .iload_n 1, 1), (35, .iconst 0, 1), (36, .invokevirtual 142, 3), (39, .ifCond .eq 5, 3), (42, .iload_n 2, 1), (43, .ireturn, 1), (44, .iinc 2 1, 3), (47, .goto (-45), 3), (50, .iload_n 1, 1), (51, .ireturn, 1)] : List (Nat × Instr × Nat)), decode cX0_leastAlike q.1 = .ok q.2 := by decide +kernel
theorem dX0_leastAlike_0 : decode cX0_leastAlike 0 = .ok (.iconst 0, 1) := DX0_leastAlike (0, .iconst 0, 1) (List.mem_of_getElem? (i := 0) rfl)
theorem dX0_leastAlike_1 : decode cX0_leastAlike 1 = .ok (.istore_n 2, 1) := DX0_leastAlike (1, .istore_n 2, 1) (List.mem_of_getElem? (i := 1) rfl)
theorem dX0_leastAlike_2 : decode cX0_leastAlike 2 = .ok (.iload_n 2, 1) := DX0_leastAlike (2, .iload_n 2, 1) (List.mem_of_getElem? (i := 2) rfl)
theorem dX0_leastAlike_3 : decode cX0_leastAlike 3 = .ok (.iload_n 1, 1) := DX0_leastAlike (3, .iload_n 1, 1) (List.mem_of_getElem? (i := 3) rfl)
theorem dX0_leastAlike_4 : decode cX0_leastAlike 4 = .ok (.if_icmp .ge 46, 3) := DX0_leastAlike (4, .if_icmp .ge 46, 3) (List.mem_of_getElem? (i := 4) rfl)
theorem dX0_leastAlike_7 : decode cX0_leastAlike 7 = .ok (.aload_n 0, 1) := DX0_leastAlike (7, .aload_n 0, 1) (List.mem_of_getElem? (i := 5) rfl)
theorem dX0_leastAlike_8 : decode cX0_leastAlike 8 = .ok (.getfield 28, 3) := DX0_leastAlike (8, .getfield 28, 3) (List.mem_of_getElem? (i := 6) rfl)
theorem dX0_leastAlike_11 : decode cX0_leastAlike 11 = .ok (.getfield 60, 3) := DX0_leastAlike (11, .getfield 60, 3) (List.mem_of_getElem? (i := 7) rfl)
theorem dX0_leastAlike_14 : decode cX0_leastAlike 14 = .ok (.iload_n 2, 1) := DX0_leastAlike (14, .iload_n 2, 1) (List.mem_of_getElem? (i := 8) rfl)
theorem dX0_leastAlike_15 : decode cX0_leastAlike 15 = .ok (.iaload, 1) := DX0_leastAlike (15, .iaload, 1) (List.mem_of_getElem? (i := 9) rfl)
theorem dX0_leastAlike_16 : decode cX0_leastAlike 16 = .ok (.aload_n 0, 1) := DX0_leastAlike (16, .aload_n 0, 1) (List.mem_of_getElem? (i := 10) rfl)
theorem dX0_leastAlike_17 : decode cX0_leastAlike 17 = .ok (.getfield 28, 3) := DX0_leastAlike (17, .getfield 28, 3) (List.mem_of_getElem? (i := 11) rfl)
theorem dX0_leastAlike_20 : decode cX0_leastAlike 20 = .ok (.getfield 60, 3) := DX0_leastAlike (20, .getfield 60, 3) (List.mem_of_getElem? (i := 12) rfl)
theorem dX0_leastAlike_23 : decode cX0_leastAlike 23 = .ok (.iload_n 1, 1) := DX0_leastAlike (23, .iload_n 1, 1) (List.mem_of_getElem? (i := 13) rfl)
theorem dX0_leastAlike_24 : decode cX0_leastAlike 24 = .ok (.iaload, 1) := DX0_leastAlike (24, .iaload, 1) (List.mem_of_getElem? (i := 14) rfl)
theorem dX0_leastAlike_25 : decode cX0_leastAlike 25 = .ok (.if_icmp .ne 19, 3) := DX0_leastAlike (25, .if_icmp .ne 19, 3) (List.mem_of_getElem? (i := 15) rfl)
theorem dX0_leastAlike_28 : decode cX0_leastAlike 28 = .ok (.aload_n 0, 1) := DX0_leastAlike (28, .aload_n 0, 1) (List.mem_of_getElem? (i := 16) rfl)
theorem dX0_leastAlike_29 : decode cX0_leastAlike 29 = .ok (.getfield 28, 3) := DX0_leastAlike (29, .getfield 28, 3) (List.mem_of_getElem? (i := 17) rfl)
theorem dX0_leastAlike_32 : decode cX0_leastAlike 32 = .ok (.iload_n 2, 1) := DX0_leastAlike (32, .iload_n 2, 1) (List.mem_of_getElem? (i := 18) rfl)
theorem dX0_leastAlike_33 : decode cX0_leastAlike 33 = .ok (.iconst 0, 1) := DX0_leastAlike (33, .iconst 0, 1) (List.mem_of_getElem? (i := 19) rfl)
theorem dX0_leastAlike_34 : decode cX0_leastAlike 34 = .ok (.iload_n 1, 1) := DX0_leastAlike (34, .iload_n 1, 1) (List.mem_of_getElem? (i := 20) rfl)
theorem dX0_leastAlike_35 : decode cX0_leastAlike 35 = .ok (.iconst 0, 1) := DX0_leastAlike (35, .iconst 0, 1) (List.mem_of_getElem? (i := 21) rfl)
theorem dX0_leastAlike_36 : decode cX0_leastAlike 36 = .ok (.invokevirtual 142, 3) := DX0_leastAlike (36, .invokevirtual 142, 3) (List.mem_of_getElem? (i := 22) rfl)
theorem dX0_leastAlike_39 : decode cX0_leastAlike 39 = .ok (.ifCond .eq 5, 3) := DX0_leastAlike (39, .ifCond .eq 5, 3) (List.mem_of_getElem? (i := 23) rfl)
theorem dX0_leastAlike_42 : decode cX0_leastAlike 42 = .ok (.iload_n 2, 1) := DX0_leastAlike (42, .iload_n 2, 1) (List.mem_of_getElem? (i := 24) rfl)
theorem dX0_leastAlike_43 : decode cX0_leastAlike 43 = .ok (.ireturn, 1) := DX0_leastAlike (43, .ireturn, 1) (List.mem_of_getElem? (i := 25) rfl)
theorem dX0_leastAlike_44 : decode cX0_leastAlike 44 = .ok (.iinc 2 1, 3) := DX0_leastAlike (44, .iinc 2 1, 3) (List.mem_of_getElem? (i := 26) rfl)
theorem dX0_leastAlike_47 : decode cX0_leastAlike 47 = .ok (.goto (-45), 3) := DX0_leastAlike (47, .goto (-45), 3) (List.mem_of_getElem? (i := 27) rfl)
theorem dX0_leastAlike_50 : decode cX0_leastAlike 50 = .ok (.iload_n 1, 1) := DX0_leastAlike (50, .iload_n 1, 1) (List.mem_of_getElem? (i := 28) rfl)
theorem dX0_leastAlike_51 : decode cX0_leastAlike 51 = .ok (.ireturn, 1) := DX0_leastAlike (51, .ireturn, 1) (List.mem_of_getElem? (i := 29) rfl)
noncomputable def fX0_leastAlike_L44 (l1 : Int32) (l2 : Int32) (σ : Mem) : Option ((Int32 × Mem) ⊕ ((Mem) ⊕ (Int32 × Mem))) :=
  some (.inl (l2 + 1, σ))
set_option maxHeartbeats 4000000 in
set_option maxRecDepth 100000 in
theorem tX0_leastAlike_L44 {E : Gx} {cI : ClassId} {ad : Nat → Nat} (C : Cx E rmX0_leastAlike cI layX ad 3 RX0 cX0_leastAlike) {out : Int32 × Mem} (K0 : KI E rmX0_leastAlike cI layX ad 3 cX0_leastAlike .int out) {l1 : Int32} {l2 : Int32} {σ : Mem} {res : (Int32 × Mem) ⊕ ((Mem) ⊕ (Int32 × Mem))} (h : fX0_leastAlike_L44 l1 l2 σ = some res) (K : Sum.elim (fun a => G E rmX0_leastAlike cI layX ad 3 2 [(0, .ref (ad 0)), (1, .int l1), (2, .int a.1)] [] a.2) (Sum.elim (fun b => G E rmX0_leastAlike cI layX ad 3 50 [(1, .int l1)] [] b) (fun b => b = out)) res) : G E rmX0_leastAlike cI layX ad 3 44 [(0, .ref (ad 0)), (1, .int l1), (2, .int l2)] [] σ := by
  unfold fX0_leastAlike_L44 at h
  refine g_iinc 47 [(2, .int (l2 + 1)), (0, .ref (ad 0)), (1, .int l1)] C dX0_leastAlike_44 (j := 2) rfl (by rfl) (by decide) rfl rfl ?_
  refine g_goto 2 C dX0_leastAlike_47 (by decide) ?_
  have hh := end_inl h K
  exact g_sub [1, 2, 0] (hh) rfl
noncomputable def fX0_leastAlike_B2 (l1 : Int32) (l2 : Int32) (σ : Mem) : Option ((Int32 × Mem) ⊕ ((Mem) ⊕ (Int32 × Mem))) :=
  if l1 ≤ l2 then
    some (.inr (.inl σ))
  else
    chk (inb l2 31) <|
    chk (inb l1 31) <|
    if (σ 17 l2.toNatClampNeg) = (σ 17 l1.toNatClampNeg) then
      (fX1_isSame l2 0 l1 0 σ).bind fun o1 =>
      if o1.1 = 0 then
        fX0_leastAlike_L44 l1 l2 o1.2
      else
        some (.inr (.inr (l2, o1.2)))
    else
      fX0_leastAlike_L44 l1 l2 σ
set_option maxHeartbeats 4000000 in
set_option maxRecDepth 100000 in
theorem tX0_leastAlike_B2 {E : Gx} {cI : ClassId} {ad : Nat → Nat} (C : Cx E rmX0_leastAlike cI layX ad 3 RX0 cX0_leastAlike) {out : Int32 × Mem} (K0 : KI E rmX0_leastAlike cI layX ad 3 cX0_leastAlike .int out) {l1 : Int32} {l2 : Int32} {σ : Mem} {res : (Int32 × Mem) ⊕ ((Mem) ⊕ (Int32 × Mem))} (h : fX0_leastAlike_B2 l1 l2 σ = some res) (K : Sum.elim (fun a => G E rmX0_leastAlike cI layX ad 3 2 [(0, .ref (ad 0)), (1, .int l1), (2, .int a.1)] [] a.2) (Sum.elim (fun b => G E rmX0_leastAlike cI layX ad 3 50 [(1, .int l1)] [] b) (fun b => b = out)) res) : G E rmX0_leastAlike cI layX ad 3 2 [(0, .ref (ad 0)), (1, .int l1), (2, .int l2)] [] σ := by
  unfold fX0_leastAlike_B2 at h
  refine g_iload_n 3 C dX0_leastAlike_2 rfl (j := 2) rfl rfl ?_
  refine g_iload_n 4 C dX0_leastAlike_3 rfl (j := 1) rfl rfl ?_
  refine g_icmp_ge 50 7 C dX0_leastAlike_4 (by decide) rfl h (fun h => ?_) (fun h => ?_)
  · have hh := end_alt0_2 h K
    exact g_sub [1] (hh) rfl
  · refine g_aload_n 8 C dX0_leastAlike_7 rfl (j := 0) rfl rfl ?_
    refine g_getr 11 (j := 1) C rfl rfl wu_X0 (by decide) wf_X0_28 rfl dX0_leastAlike_8 rfl ?_
    refine g_getrN 14 (j := 2) C rfl rfl wu_X1 (by decide) (List.mem_of_getElem? (i := 34) rfl) rfl dX0_leastAlike_11 rfl ?_
    refine g_iload_n 15 C dX0_leastAlike_14 rfl (j := 2) rfl rfl ?_
    refine g_iald 16 C rfl dX0_leastAlike_15 rfl h (fun h => ?_)
    refine g_aload_n 17 C dX0_leastAlike_16 rfl (j := 0) rfl rfl ?_
    refine g_getr 20 (j := 1) C rfl rfl wu_X0 (by decide) wf_X0_28 rfl dX0_leastAlike_17 rfl ?_
    refine g_getrN 23 (j := 2) C rfl rfl wu_X1 (by decide) (List.mem_of_getElem? (i := 34) rfl) rfl dX0_leastAlike_20 rfl ?_
    refine g_iload_n 24 C dX0_leastAlike_23 rfl (j := 1) rfl rfl ?_
    refine g_iald 25 C rfl dX0_leastAlike_24 rfl h (fun h => ?_)
    refine g_icmp_ne 44 28 C dX0_leastAlike_25 (by decide) rfl h (fun h => ?_) (fun h => ?_)
    · refine g_aload_n 29 C dX0_leastAlike_28 rfl (j := 0) rfl rfl ?_
      refine g_getr 32 (j := 1) C rfl rfl wu_X0 (by decide) wf_X0_28 rfl dX0_leastAlike_29 rfl ?_
      refine g_iload_n 33 C dX0_leastAlike_32 rfl (j := 2) rfl rfl ?_
      refine g_iconst 34 (v := 0) C dX0_leastAlike_33 (by decide) rfl ?_
      refine g_iload_n 35 C dX0_leastAlike_34 rfl (j := 1) rfl rfl ?_
      refine g_iconst 36 (v := 0) C dX0_leastAlike_35 (by decide) rfl ?_
      refine g_cni 39 C (As := [.int l2, .int 0, .int l1, .int 0]) (fun _ h => mX1_isSame (a1 := l2) (a2 := 0) (a3 := l1) (a4 := 0) (σ := σ) h) (List.mem_of_getElem? (i := 34) rfl) wi_X1_isSame wz_X1_isSame wc_X1_isSame wn_X1 qX1_isSame rfl rfl ⟨Nat.le_of_ble_eq_true rfl, Nat.le_of_ble_eq_true rfl⟩ rfl rfl rfl rfl (Nat.le_of_ble_eq_true rfl) dX0_leastAlike_36 rfl h (fun o1 h => ?_)
      refine g_if_eq 44 42 C dX0_leastAlike_39 (by decide) rfl h (fun h => ?_) (fun h => ?_)
      · exact tX0_leastAlike_L44 (l1 := l1) (l2 := l2) (σ := o1.2) C K0 h K
      · refine g_iload_n 43 C dX0_leastAlike_42 rfl (j := 2) rfl rfl ?_
        have ho := end_alt1_2 h K
        replace ho : (l2, o1.2) = out := ho
        subst ho
        exact K0 _ _ dX0_leastAlike_43 rfl
    · exact tX0_leastAlike_L44 (l1 := l1) (l2 := l2) (σ := σ) C K0 h K
noncomputable def fX0_leastAlike_L50 (l1 : Int32) (σ : Mem) : Option (Int32 × Mem) :=
  some (l1, σ)
set_option maxHeartbeats 4000000 in
set_option maxRecDepth 100000 in
theorem tX0_leastAlike_L50 {E : Gx} {cI : ClassId} {ad : Nat → Nat} (C : Cx E rmX0_leastAlike cI layX ad 3 RX0 cX0_leastAlike) {out : Int32 × Mem} (K0 : KI E rmX0_leastAlike cI layX ad 3 cX0_leastAlike .int out) {l1 : Int32} {σ : Mem} (h : fX0_leastAlike_L50 l1 σ = some out) : G E rmX0_leastAlike cI layX ad 3 50 [(1, .int l1)] [] σ := by
  unfold fX0_leastAlike_L50 at h
  refine g_iload_n 51 C dX0_leastAlike_50 rfl (j := 0) rfl rfl ?_
  cases h
  exact K0 _ _ dX0_leastAlike_51 rfl
noncomputable def fX0_leastAlike (a1 : Int32) (σ : Mem) : Option (Int32 × Mem) :=
  (loop (fun a => fX0_leastAlike_B2 a1 a.1 a.2) (0, σ)).bind (Sum.elim (fun b2x0 => fX0_leastAlike_L50 a1 b2x0) (fun b2r => some b2r))
set_option maxHeartbeats 4000000 in
set_option maxRecDepth 100000 in
theorem mX0_leastAlike {l : Launch} {D : va_G} {cI : ClassId} {ad : Nat → Nat} {a1 : Int32} {σ : Mem} {out : Int32 × Mem} (h : fX0_leastAlike a1 σ = some out) : MI l D cI layX ad yX0_leastAlike cX0_leastAlike 3 .int rmX0_leastAlike [.ref (ad 0), .int a1] σ out := by
  refine met_i (by decide) (Nat.le_of_ble_eq_true rfl) (fun E C K0 => ?_)
  show G E rmX0_leastAlike cI layX ad 3 0 [(0, .ref (ad 0)), (1, .int a1)] [] σ
  unfold fX0_leastAlike at h
  refine g_iconst 1 (v := 0) C dX0_leastAlike_0 (by decide) rfl ?_
  refine g_istore_n 2 [(2, .int 0), (0, .ref (ad 0)), (1, .int a1)] C dX0_leastAlike_1 rfl (by decide) rfl rfl ?_
  obtain ⟨b2, hb, h⟩ := bind_some h
  refine g_sub [1, 2, 0] (g_loop (a := (0, σ)) (fun a => G E rmX0_leastAlike cI layX ad 3 2 [(0, .ref (ad 0)), (1, .int a1), (2, .int a.1)] [] a.2) (Sum.elim (fun b => G E rmX0_leastAlike cI layX ad 3 50 [(1, .int a1)] [] b) (fun b => b = out)) hb (fun a res h K => tX0_leastAlike_B2 (l1 := a1) (l2 := a.1) (σ := a.2) (res := res) C K0 h K) ?_) rfl
  rcases b2 with b2x0 | b2r
  · show G E rmX0_leastAlike cI layX ad 3 50 [(1, .int a1)] [] b2x0
    exact tX0_leastAlike_L50 (l1 := a1) (σ := b2x0) C K0 h
  · exact end_top h

/-! LoopReducer$Cycles.settleMade(III)V -/
abbrev rmX0_settleMade : Room := { frames := 3, cells := 0, slots := 0, locals := 82 }
theorem qX0_settleMade : yX0_settleMade.cls ≠ "java/lang/invoke/MethodHandle" ∧ yX0_settleMade.cls ≠ "java/lang/invoke/VarHandle" ∧ (parseMethodDescriptor yX0_settleMade.desc).map (fun d => d.parameters.length) = some 3 := by decide +kernel
theorem DX0_settleMade : ∀ q ∈ ([(0, .aload_n 0, 1), (1, .getfield 28, 3), (4, .iload_n 2, 1), (5, .invokevirtual 75, 3), (8, .ifCond .eq 14, 3), (11, .aload_n 0, 1), (12, .getfield 28, 3), (15, .iload_n 3, 1), (16, .invokevirtual 75, 3), (19, .ifCond .ne 4, 3), (22, .return_, 1), (23, .aload_n 0, 1), (24, .getfield 24, 3), (27, .getfield 65, 3), (30, .iload_n 1, 1), (31, .iaload, 1), (32, .iconst 4, 1), (33, .if_icmp .ne 17, 3), (36, .aload_n 0, 1), (37, .getfield 28, 3), (40, .iload_n 1, 1), (41, .iload_n 2, 1), (42, .iload_n 3, 1), (43, .invokevirtual 101, 3), (46, .ifCond .ne 32, 3), (49, .return_, 1), (50, .aload_n 0, 1), (51, .getfield 28, 3), (54, .iload_n 1, 1), (55, .iload_n 2, 1), (56, .iload_n 3, 1), (57, .aload_n 0, 1), (58, .getfield 24, 3), (61, .getfield 65, 3), (64, .iload_n 1, 1), (65, .iaload, 1), (66, .iconst 2, 1), (67, .if_icmp .ne 7, 3), (70, .iconst 1, 1), (71, .goto 4, 3), (74, .iconst (-1), 1), (75, .invokevirtual 105, 3), (78, .aload_n 0, 1), (79, .getfield 28, 3), (82, .getfield 60, 3), (85, .iload_n 1, 1), (86, .aload_n 0, 1), (87, .getfield 28, 3), (90, .getfield 60, 3), (93, .iload_n 2, 1), (94, .iaload, 1), (95, .aload_n 0, 1), (96, .getfield 28, 3), (99, .getfield 60, 3), (102, .iload_n 3, 1), (103, .iaload, 1), (104, .invokestatic 109, 3), (107, .iastore, 1), (108, .return_, 1)] : List (Nat × Instr × Nat)), decode cX0_settleMade q.1 = .ok q.2 := by decide +kernel
theorem dX0_settleMade_0 : decode cX0_settleMade 0 = .ok (.aload_n 0, 1) := DX0_settleMade (0, .aload_n 0, 1) (List.mem_of_getElem? (i := 0) rfl)
theorem dX0_settleMade_1 : decode cX0_settleMade 1 = .ok (.getfield 28, 3) := DX0_settleMade (1, .getfield 28, 3) (List.mem_of_getElem? (i := 1) rfl)
theorem dX0_settleMade_4 : decode cX0_settleMade 4 = .ok (.iload_n 2, 1) := DX0_settleMade (4, .iload_n 2, 1) (List.mem_of_getElem? (i := 2) rfl)
theorem dX0_settleMade_5 : decode cX0_settleMade 5 = .ok (.invokevirtual 75, 3) := DX0_settleMade (5, .invokevirtual 75, 3) (List.mem_of_getElem? (i := 3) rfl)
theorem dX0_settleMade_8 : decode cX0_settleMade 8 = .ok (.ifCond .eq 14, 3) := DX0_settleMade (8, .ifCond .eq 14, 3) (List.mem_of_getElem? (i := 4) rfl)
theorem dX0_settleMade_11 : decode cX0_settleMade 11 = .ok (.aload_n 0, 1) := DX0_settleMade (11, .aload_n 0, 1) (List.mem_of_getElem? (i := 5) rfl)
theorem dX0_settleMade_12 : decode cX0_settleMade 12 = .ok (.getfield 28, 3) := DX0_settleMade (12, .getfield 28, 3) (List.mem_of_getElem? (i := 6) rfl)
theorem dX0_settleMade_15 : decode cX0_settleMade 15 = .ok (.iload_n 3, 1) := DX0_settleMade (15, .iload_n 3, 1) (List.mem_of_getElem? (i := 7) rfl)
theorem dX0_settleMade_16 : decode cX0_settleMade 16 = .ok (.invokevirtual 75, 3) := DX0_settleMade (16, .invokevirtual 75, 3) (List.mem_of_getElem? (i := 8) rfl)
theorem dX0_settleMade_19 : decode cX0_settleMade 19 = .ok (.ifCond .ne 4, 3) := DX0_settleMade (19, .ifCond .ne 4, 3) (List.mem_of_getElem? (i := 9) rfl)
theorem dX0_settleMade_22 : decode cX0_settleMade 22 = .ok (.return_, 1) := DX0_settleMade (22, .return_, 1) (List.mem_of_getElem? (i := 10) rfl)
theorem dX0_settleMade_23 : decode cX0_settleMade 23 = .ok (.aload_n 0, 1) := DX0_settleMade (23, .aload_n 0, 1) (List.mem_of_getElem? (i := 11) rfl)
theorem dX0_settleMade_24 : decode cX0_settleMade 24 = .ok (.getfield 24, 3) := DX0_settleMade (24, .getfield 24, 3) (List.mem_of_getElem? (i := 12) rfl)
theorem dX0_settleMade_27 : decode cX0_settleMade 27 = .ok (.getfield 65, 3) := DX0_settleMade (27, .getfield 65, 3) (List.mem_of_getElem? (i := 13) rfl)
theorem dX0_settleMade_30 : decode cX0_settleMade 30 = .ok (.iload_n 1, 1) := DX0_settleMade (30, .iload_n 1, 1) (List.mem_of_getElem? (i := 14) rfl)
theorem dX0_settleMade_31 : decode cX0_settleMade 31 = .ok (.iaload, 1) := DX0_settleMade (31, .iaload, 1) (List.mem_of_getElem? (i := 15) rfl)
theorem dX0_settleMade_32 : decode cX0_settleMade 32 = .ok (.iconst 4, 1) := DX0_settleMade (32, .iconst 4, 1) (List.mem_of_getElem? (i := 16) rfl)
theorem dX0_settleMade_33 : decode cX0_settleMade 33 = .ok (.if_icmp .ne 17, 3) := DX0_settleMade (33, .if_icmp .ne 17, 3) (List.mem_of_getElem? (i := 17) rfl)
theorem dX0_settleMade_36 : decode cX0_settleMade 36 = .ok (.aload_n 0, 1) := DX0_settleMade (36, .aload_n 0, 1) (List.mem_of_getElem? (i := 18) rfl)
theorem dX0_settleMade_37 : decode cX0_settleMade 37 = .ok (.getfield 28, 3) := DX0_settleMade (37, .getfield 28, 3) (List.mem_of_getElem? (i := 19) rfl)
theorem dX0_settleMade_40 : decode cX0_settleMade 40 = .ok (.iload_n 1, 1) := DX0_settleMade (40, .iload_n 1, 1) (List.mem_of_getElem? (i := 20) rfl)
theorem dX0_settleMade_41 : decode cX0_settleMade 41 = .ok (.iload_n 2, 1) := DX0_settleMade (41, .iload_n 2, 1) (List.mem_of_getElem? (i := 21) rfl)
theorem dX0_settleMade_42 : decode cX0_settleMade 42 = .ok (.iload_n 3, 1) := DX0_settleMade (42, .iload_n 3, 1) (List.mem_of_getElem? (i := 22) rfl)
theorem dX0_settleMade_43 : decode cX0_settleMade 43 = .ok (.invokevirtual 101, 3) := DX0_settleMade (43, .invokevirtual 101, 3) (List.mem_of_getElem? (i := 23) rfl)
theorem dX0_settleMade_46 : decode cX0_settleMade 46 = .ok (.ifCond .ne 32, 3) := DX0_settleMade (46, .ifCond .ne 32, 3) (List.mem_of_getElem? (i := 24) rfl)
theorem dX0_settleMade_49 : decode cX0_settleMade 49 = .ok (.return_, 1) := DX0_settleMade (49, .return_, 1) (List.mem_of_getElem? (i := 25) rfl)
theorem dX0_settleMade_50 : decode cX0_settleMade 50 = .ok (.aload_n 0, 1) := DX0_settleMade (50, .aload_n 0, 1) (List.mem_of_getElem? (i := 26) rfl)
theorem dX0_settleMade_51 : decode cX0_settleMade 51 = .ok (.getfield 28, 3) := DX0_settleMade (51, .getfield 28, 3) (List.mem_of_getElem? (i := 27) rfl)
theorem dX0_settleMade_54 : decode cX0_settleMade 54 = .ok (.iload_n 1, 1) := DX0_settleMade (54, .iload_n 1, 1) (List.mem_of_getElem? (i := 28) rfl)
theorem dX0_settleMade_55 : decode cX0_settleMade 55 = .ok (.iload_n 2, 1) := DX0_settleMade (55, .iload_n 2, 1) (List.mem_of_getElem? (i := 29) rfl)
theorem dX0_settleMade_56 : decode cX0_settleMade 56 = .ok (.iload_n 3, 1) := DX0_settleMade (56, .iload_n 3, 1) (List.mem_of_getElem? (i := 30) rfl)
theorem dX0_settleMade_57 : decode cX0_settleMade 57 = .ok (.aload_n 0, 1) := DX0_settleMade (57, .aload_n 0, 1) (List.mem_of_getElem? (i := 31) rfl)
theorem dX0_settleMade_58 : decode cX0_settleMade 58 = .ok (.getfield 24, 3) := DX0_settleMade (58, .getfield 24, 3) (List.mem_of_getElem? (i := 32) rfl)
theorem dX0_settleMade_61 : decode cX0_settleMade 61 = .ok (.getfield 65, 3) := DX0_settleMade (61, .getfield 65, 3) (List.mem_of_getElem? (i := 33) rfl)
theorem dX0_settleMade_64 : decode cX0_settleMade 64 = .ok (.iload_n 1, 1) := DX0_settleMade (64, .iload_n 1, 1) (List.mem_of_getElem? (i := 34) rfl)
theorem dX0_settleMade_65 : decode cX0_settleMade 65 = .ok (.iaload, 1) := DX0_settleMade (65, .iaload, 1) (List.mem_of_getElem? (i := 35) rfl)
theorem dX0_settleMade_66 : decode cX0_settleMade 66 = .ok (.iconst 2, 1) := DX0_settleMade (66, .iconst 2, 1) (List.mem_of_getElem? (i := 36) rfl)
theorem dX0_settleMade_67 : decode cX0_settleMade 67 = .ok (.if_icmp .ne 7, 3) := DX0_settleMade (67, .if_icmp .ne 7, 3) (List.mem_of_getElem? (i := 37) rfl)
theorem dX0_settleMade_70 : decode cX0_settleMade 70 = .ok (.iconst 1, 1) := DX0_settleMade (70, .iconst 1, 1) (List.mem_of_getElem? (i := 38) rfl)
theorem dX0_settleMade_71 : decode cX0_settleMade 71 = .ok (.goto 4, 3) := DX0_settleMade (71, .goto 4, 3) (List.mem_of_getElem? (i := 39) rfl)
theorem dX0_settleMade_74 : decode cX0_settleMade 74 = .ok (.iconst (-1), 1) := DX0_settleMade (74, .iconst (-1), 1) (List.mem_of_getElem? (i := 40) rfl)
theorem dX0_settleMade_75 : decode cX0_settleMade 75 = .ok (.invokevirtual 105, 3) := DX0_settleMade (75, .invokevirtual 105, 3) (List.mem_of_getElem? (i := 41) rfl)
theorem dX0_settleMade_78 : decode cX0_settleMade 78 = .ok (.aload_n 0, 1) := DX0_settleMade (78, .aload_n 0, 1) (List.mem_of_getElem? (i := 42) rfl)
theorem dX0_settleMade_79 : decode cX0_settleMade 79 = .ok (.getfield 28, 3) := DX0_settleMade (79, .getfield 28, 3) (List.mem_of_getElem? (i := 43) rfl)
theorem dX0_settleMade_82 : decode cX0_settleMade 82 = .ok (.getfield 60, 3) := DX0_settleMade (82, .getfield 60, 3) (List.mem_of_getElem? (i := 44) rfl)
theorem dX0_settleMade_85 : decode cX0_settleMade 85 = .ok (.iload_n 1, 1) := DX0_settleMade (85, .iload_n 1, 1) (List.mem_of_getElem? (i := 45) rfl)
theorem dX0_settleMade_86 : decode cX0_settleMade 86 = .ok (.aload_n 0, 1) := DX0_settleMade (86, .aload_n 0, 1) (List.mem_of_getElem? (i := 46) rfl)
theorem dX0_settleMade_87 : decode cX0_settleMade 87 = .ok (.getfield 28, 3) := DX0_settleMade (87, .getfield 28, 3) (List.mem_of_getElem? (i := 47) rfl)
theorem dX0_settleMade_90 : decode cX0_settleMade 90 = .ok (.getfield 60, 3) := DX0_settleMade (90, .getfield 60, 3) (List.mem_of_getElem? (i := 48) rfl)
theorem dX0_settleMade_93 : decode cX0_settleMade 93 = .ok (.iload_n 2, 1) := DX0_settleMade (93, .iload_n 2, 1) (List.mem_of_getElem? (i := 49) rfl)
theorem dX0_settleMade_94 : decode cX0_settleMade 94 = .ok (.iaload, 1) := DX0_settleMade (94, .iaload, 1) (List.mem_of_getElem? (i := 50) rfl)
theorem dX0_settleMade_95 : decode cX0_settleMade 95 = .ok (.aload_n 0, 1) := DX0_settleMade (95, .aload_n 0, 1) (List.mem_of_getElem? (i := 51) rfl)
theorem dX0_settleMade_96 : decode cX0_settleMade 96 = .ok (.getfield 28, 3) := DX0_settleMade (96, .getfield 28, 3) (List.mem_of_getElem? (i := 52) rfl)
theorem dX0_settleMade_99 : decode cX0_settleMade 99 = .ok (.getfield 60, 3) := DX0_settleMade (99, .getfield 60, 3) (List.mem_of_getElem? (i := 53) rfl)
theorem dX0_settleMade_102 : decode cX0_settleMade 102 = .ok (.iload_n 3, 1) := DX0_settleMade (102, .iload_n 3, 1) (List.mem_of_getElem? (i := 54) rfl)
theorem dX0_settleMade_103 : decode cX0_settleMade 103 = .ok (.iaload, 1) := DX0_settleMade (103, .iaload, 1) (List.mem_of_getElem? (i := 55) rfl)
theorem dX0_settleMade_104 : decode cX0_settleMade 104 = .ok (.invokestatic 109, 3) := DX0_settleMade (104, .invokestatic 109, 3) (List.mem_of_getElem? (i := 56) rfl)
theorem dX0_settleMade_107 : decode cX0_settleMade 107 = .ok (.iastore, 1) := DX0_settleMade (107, .iastore, 1) (List.mem_of_getElem? (i := 57) rfl)
theorem dX0_settleMade_108 : decode cX0_settleMade 108 = .ok (.return_, 1) := DX0_settleMade (108, .return_, 1) (List.mem_of_getElem? (i := 58) rfl)
noncomputable def fX0_settleMade_L22 (σ : Mem) : Option (Mem) :=
  some σ
set_option maxHeartbeats 4000000 in
set_option maxRecDepth 100000 in
theorem tX0_settleMade_L22 {E : Gx} {cI : ClassId} {ad : Nat → Nat} (C : Cx E rmX0_settleMade cI layX ad 4 RX0 cX0_settleMade) {out : Mem} (K0 : KV E rmX0_settleMade cI layX ad 4 cX0_settleMade out) {σ : Mem} (h : fX0_settleMade_L22 σ = some out) : G E rmX0_settleMade cI layX ad 4 22 [] [] σ := by
  unfold fX0_settleMade_L22 at h
  cases h
  exact K0 _ _ dX0_settleMade_22
noncomputable def fX0_settleMade_L78 (l1 : Int32) (l2 : Int32) (l3 : Int32) (σ : Mem) : Option (Mem) :=
  chk (inb l2 31) <|
  chk (inb l3 31) <|
  chk (inb l1 31) <|
  some (up2 σ 17 l1.toNatClampNeg (if (σ 17 l2.toNatClampNeg) < (σ 17 l3.toNatClampNeg) then (σ 17 l3.toNatClampNeg) else (σ 17 l2.toNatClampNeg)))
set_option maxHeartbeats 4000000 in
set_option maxRecDepth 100000 in
theorem tX0_settleMade_L78 {E : Gx} {cI : ClassId} {ad : Nat → Nat} (C : Cx E rmX0_settleMade cI layX ad 4 RX0 cX0_settleMade) {out : Mem} (K0 : KV E rmX0_settleMade cI layX ad 4 cX0_settleMade out) {l1 : Int32} {l2 : Int32} {l3 : Int32} {σ : Mem} (h : fX0_settleMade_L78 l1 l2 l3 σ = some out) : G E rmX0_settleMade cI layX ad 4 78 [(0, .ref (ad 0)), (1, .int l1), (2, .int l2), (3, .int l3)] [] σ := by
  unfold fX0_settleMade_L78 at h
  refine g_aload_n 79 C dX0_settleMade_78 rfl (j := 0) rfl rfl ?_
  refine g_getr 82 (j := 1) C rfl rfl wu_X0 (by decide) wf_X0_28 rfl dX0_settleMade_79 rfl ?_
  refine g_getrN 85 (j := 2) C rfl rfl wu_X1 (by decide) (List.mem_of_getElem? (i := 34) rfl) rfl dX0_settleMade_82 rfl ?_
  refine g_iload_n 86 C dX0_settleMade_85 rfl (j := 1) rfl rfl ?_
  refine g_aload_n 87 C dX0_settleMade_86 rfl (j := 0) rfl rfl ?_
  refine g_getr 90 (j := 1) C rfl rfl wu_X0 (by decide) wf_X0_28 rfl dX0_settleMade_87 rfl ?_
  refine g_getrN 93 (j := 2) C rfl rfl wu_X1 (by decide) (List.mem_of_getElem? (i := 34) rfl) rfl dX0_settleMade_90 rfl ?_
  refine g_iload_n 94 C dX0_settleMade_93 rfl (j := 2) rfl rfl ?_
  refine g_iald 95 C rfl dX0_settleMade_94 rfl h (fun h => ?_)
  refine g_aload_n 96 C dX0_settleMade_95 rfl (j := 0) rfl rfl ?_
  refine g_getr 99 (j := 1) C rfl rfl wu_X0 (by decide) wf_X0_28 rfl dX0_settleMade_96 rfl ?_
  refine g_getrN 102 (j := 2) C rfl rfl wu_X1 (by decide) (List.mem_of_getElem? (i := 34) rfl) rfl dX0_settleMade_99 rfl ?_
  refine g_iload_n 103 C dX0_settleMade_102 rfl (j := 3) rfl rfl ?_
  refine g_iald 104 C rfl dX0_settleMade_103 rfl h (fun h => ?_)
  refine g_mmax 107 C wl_X0_109 wM_st wM_in wM_cmax (by decide) (Nat.le_of_ble_eq_true rfl) dX0_settleMade_104 rfl ?_
  refine g_iast 108 C rfl dX0_settleMade_107 rfl h (fun h => ?_)
  cases h
  exact K0 _ _ dX0_settleMade_108
noncomputable def fX0_settleMade_L75 (l1 : Int32) (l2 : Int32) (l3 : Int32) (s1 : Int32) (s2 : Int32) (s3 : Int32) (s4 : Int32) (σ : Mem) : Option (Mem) :=
  (fX1_putSum s1 s2 s3 s4 σ).bind fun o3 =>
  fX0_settleMade_L78 l1 l2 l3 o3
set_option maxHeartbeats 4000000 in
set_option maxRecDepth 100000 in
theorem tX0_settleMade_L75 {E : Gx} {cI : ClassId} {ad : Nat → Nat} (C : Cx E rmX0_settleMade cI layX ad 4 RX0 cX0_settleMade) {out : Mem} (K0 : KV E rmX0_settleMade cI layX ad 4 cX0_settleMade out) {l1 : Int32} {l2 : Int32} {l3 : Int32} {s1 : Int32} {s2 : Int32} {s3 : Int32} {s4 : Int32} {σ : Mem} (h : fX0_settleMade_L75 l1 l2 l3 s1 s2 s3 s4 σ = some out) : G E rmX0_settleMade cI layX ad 4 75 [(0, .ref (ad 0)), (1, .int l1), (2, .int l2), (3, .int l3)] [.int s4, .int s3, .int s2, .int s1, .ref (ad 1)] σ := by
  unfold fX0_settleMade_L75 at h
  refine g_cnv 78 C (As := [.int s1, .int s2, .int s3, .int s4]) (fun _ h => mX1_putSum (a1 := s1) (a2 := s2) (a3 := s3) (a4 := s4) (σ := σ) h) (List.mem_of_getElem? (i := 17) rfl) wi_X1_putSum wz_X1_putSum wc_X1_putSum wn_X1 qX1_putSum rfl rfl ⟨Nat.le_of_ble_eq_true rfl, Nat.le_of_ble_eq_true rfl⟩ rfl rfl rfl rfl (Nat.le_of_ble_eq_true rfl) dX0_settleMade_75 rfl h (fun o3 h => ?_)
  exact tX0_settleMade_L78 (l1 := l1) (l2 := l2) (l3 := l3) (σ := o3) C K0 h
noncomputable def fX0_settleMade (a1 : Int32) (a2 : Int32) (a3 : Int32) (σ : Mem) : Option (Mem) :=
  (fX1_isThere a2 σ).bind fun o1 =>
  if o1.1 = 0 then
    fX0_settleMade_L22 o1.2
  else
    (fX1_isThere a3 o1.2).bind fun o2 =>
    if o2.1 = 0 then
      fX0_settleMade_L22 o2.2
    else
      chk (inb a1 30) <|
      if (o2.2 8 a1.toNatClampNeg) = 4 then
        (fX1_putProduct a1 a2 a3 o2.2).bind fun o4 =>
        if o4.1 = 0 then
          some o4.2
        else
          fX0_settleMade_L78 a1 a2 a3 o4.2
      else
        chk (inb a1 30) <|
        if (o2.2 8 a1.toNatClampNeg) = 2 then
          fX0_settleMade_L75 a1 a2 a3 a1 a2 a3 1 o2.2
        else
          fX0_settleMade_L75 a1 a2 a3 a1 a2 a3 (-1) o2.2
set_option maxHeartbeats 4000000 in
set_option maxRecDepth 100000 in
theorem mX0_settleMade {l : Launch} {D : va_G} {cI : ClassId} {ad : Nat → Nat} {a1 : Int32} {a2 : Int32} {a3 : Int32} {σ : Mem} {out : Mem} (h : fX0_settleMade a1 a2 a3 σ = some out) : MV l D cI layX ad yX0_settleMade cX0_settleMade 4 rmX0_settleMade [.ref (ad 0), .int a1, .int a2, .int a3] σ out := by
  refine met_v (by decide) (Nat.le_of_ble_eq_true rfl) (fun E C K0 => ?_)
  show G E rmX0_settleMade cI layX ad 4 0 [(0, .ref (ad 0)), (1, .int a1), (2, .int a2), (3, .int a3)] [] σ
  unfold fX0_settleMade at h
  refine g_aload_n 1 C dX0_settleMade_0 rfl (j := 0) rfl rfl ?_
  refine g_getr 4 (j := 1) C rfl rfl wu_X0 (by decide) wf_X0_28 rfl dX0_settleMade_1 rfl ?_
  refine g_iload_n 5 C dX0_settleMade_4 rfl (j := 2) rfl rfl ?_
  refine g_cni 8 C (As := [.int a2]) (fun _ h => mX1_isThere (a1 := a2) (σ := σ) h) (List.mem_of_getElem? (i := 22) rfl) wi_X1_isThere wz_X1_isThere wc_X1_isThere wn_X1 qX1_isThere rfl rfl ⟨Nat.le_of_ble_eq_true rfl, Nat.le_of_ble_eq_true rfl⟩ rfl rfl rfl rfl (Nat.le_of_ble_eq_true rfl) dX0_settleMade_5 rfl h (fun o1 h => ?_)
  refine g_if_eq 22 11 C dX0_settleMade_8 (by decide) rfl h (fun h => ?_) (fun h => ?_)
  · exact g_sub [] (tX0_settleMade_L22 (σ := o1.2) C K0 h) rfl
  · refine g_aload_n 12 C dX0_settleMade_11 rfl (j := 0) rfl rfl ?_
    refine g_getr 15 (j := 1) C rfl rfl wu_X0 (by decide) wf_X0_28 rfl dX0_settleMade_12 rfl ?_
    refine g_iload_n 16 C dX0_settleMade_15 rfl (j := 3) rfl rfl ?_
    refine g_cni 19 C (As := [.int a3]) (fun _ h => mX1_isThere (a1 := a3) (σ := o1.2) h) (List.mem_of_getElem? (i := 22) rfl) wi_X1_isThere wz_X1_isThere wc_X1_isThere wn_X1 qX1_isThere rfl rfl ⟨Nat.le_of_ble_eq_true rfl, Nat.le_of_ble_eq_true rfl⟩ rfl rfl rfl rfl (Nat.le_of_ble_eq_true rfl) dX0_settleMade_16 rfl h (fun o2 h => ?_)
    refine g_if_ne 23 22 C dX0_settleMade_19 (by decide) rfl h (fun h => ?_) (fun h => ?_)
    · exact g_sub [] (tX0_settleMade_L22 (σ := o2.2) C K0 h) rfl
    · refine g_aload_n 24 C dX0_settleMade_23 rfl (j := 0) rfl rfl ?_
      refine g_getr 27 (j := 0) C rfl rfl wu_X0 (by decide) wf_X0_24 rfl dX0_settleMade_24 rfl ?_
      refine g_getrN 30 (j := 1) C rfl rfl wu_X3 (by decide) (List.mem_of_getElem? (i := 5) rfl) rfl dX0_settleMade_27 rfl ?_
      refine g_iload_n 31 C dX0_settleMade_30 rfl (j := 1) rfl rfl ?_
      refine g_iald 32 C rfl dX0_settleMade_31 rfl h (fun h => ?_)
      refine g_iconst 33 (v := 4) C dX0_settleMade_32 (by decide) rfl ?_
      refine g_icmp_ne 50 36 C dX0_settleMade_33 (by decide) rfl h (fun h => ?_) (fun h => ?_)
      · refine g_aload_n 37 C dX0_settleMade_36 rfl (j := 0) rfl rfl ?_
        refine g_getr 40 (j := 1) C rfl rfl wu_X0 (by decide) wf_X0_28 rfl dX0_settleMade_37 rfl ?_
        refine g_iload_n 41 C dX0_settleMade_40 rfl (j := 1) rfl rfl ?_
        refine g_iload_n 42 C dX0_settleMade_41 rfl (j := 2) rfl rfl ?_
        refine g_iload_n 43 C dX0_settleMade_42 rfl (j := 3) rfl rfl ?_
        refine g_cni 46 C (As := [.int a1, .int a2, .int a3]) (fun _ h => mX1_putProduct (a1 := a1) (a2 := a2) (a3 := a3) (σ := o2.2) h) (List.mem_of_getElem? (i := 28) rfl) wi_X1_putProduct wz_X1_putProduct wc_X1_putProduct wn_X1 qX1_putProduct rfl rfl ⟨Nat.le_of_ble_eq_true rfl, Nat.le_of_ble_eq_true rfl⟩ rfl rfl rfl rfl (Nat.le_of_ble_eq_true rfl) dX0_settleMade_43 rfl h (fun o4 h => ?_)
        refine g_if_ne 78 49 C dX0_settleMade_46 (by decide) rfl h (fun h => ?_) (fun h => ?_)
        · cases h
          exact K0 _ _ dX0_settleMade_49
        · exact tX0_settleMade_L78 (l1 := a1) (l2 := a2) (l3 := a3) (σ := o4.2) C K0 h
      · refine g_aload_n 51 C dX0_settleMade_50 rfl (j := 0) rfl rfl ?_
        refine g_getr 54 (j := 1) C rfl rfl wu_X0 (by decide) wf_X0_28 rfl dX0_settleMade_51 rfl ?_
        refine g_iload_n 55 C dX0_settleMade_54 rfl (j := 1) rfl rfl ?_
        refine g_iload_n 56 C dX0_settleMade_55 rfl (j := 2) rfl rfl ?_
        refine g_iload_n 57 C dX0_settleMade_56 rfl (j := 3) rfl rfl ?_
        refine g_aload_n 58 C dX0_settleMade_57 rfl (j := 0) rfl rfl ?_
        refine g_getr 61 (j := 0) C rfl rfl wu_X0 (by decide) wf_X0_24 rfl dX0_settleMade_58 rfl ?_
        refine g_getrN 64 (j := 1) C rfl rfl wu_X3 (by decide) (List.mem_of_getElem? (i := 5) rfl) rfl dX0_settleMade_61 rfl ?_
        refine g_iload_n 65 C dX0_settleMade_64 rfl (j := 1) rfl rfl ?_
        refine g_iald 66 C rfl dX0_settleMade_65 rfl h (fun h => ?_)
        refine g_iconst 67 (v := 2) C dX0_settleMade_66 (by decide) rfl ?_
        refine g_icmp_ne 74 70 C dX0_settleMade_67 (by decide) rfl h (fun h => ?_) (fun h => ?_)
        · refine g_iconst 71 (v := 1) C dX0_settleMade_70 (by decide) rfl ?_
          refine g_goto 75 C dX0_settleMade_71 (by decide) ?_
          exact tX0_settleMade_L75 (l1 := a1) (l2 := a2) (l3 := a3) (s1 := a1) (s2 := a2) (s3 := a3) (s4 := 1) (σ := o2.2) C K0 h
        · refine g_iconst 75 (v := (-1)) C dX0_settleMade_74 (by decide) rfl ?_
          exact tX0_settleMade_L75 (l1 := a1) (l2 := a2) (l3 := a3) (s1 := a1) (s2 := a2) (s3 := a3) (s4 := (-1)) (σ := o2.2) C K0 h

/-! LoopReducer$Cycles.settleTurning(II)V -/
abbrev rmX0_settleTurning : Room := { frames := 4, cells := 0, slots := 0, locals := 102 }
theorem qX0_settleTurning : yX0_settleTurning.cls ≠ "java/lang/invoke/MethodHandle" ∧ yX0_settleTurning.cls ≠ "java/lang/invoke/VarHandle" ∧ (parseMethodDescriptor yX0_settleTurning.desc).map (fun d => d.parameters.length) = some 2 := by decide +kernel
theorem DX0_settleTurning : ∀ q ∈ ([(0, .aload_n 0, 1), (1, .getfield 28, 3), (4, .iload_n 2, 1), (5, .invokevirtual 121, 3), (8, .aload_n 0, 1), (9, .getfield 21, 3), (12, .iload_n 2, 1), (13, .iconst 1, 1), (14, .iastore, 1), (15, .iload_n 2, 1), (16, .iconst 1, 1), (17, .iadd, 1), (18, .istore_n 3, 1), (19, .iload_n 3, 1), (20, .aload_n 0, 1), (21, .getfield 24, 3), (24, .getfield 42, 3), (27, .if_icmp .ge 27, 3), (30, .iload_n 1, 1), (31, .iload_n 3, 1), (32, .invokestatic 45, 3), (35, .ifCond .eq 13, 3), (38, .aload_n 0, 1), (39, .iload_n 3, 1), (40, .iload_n 1, 1), (41, .invokevirtual 124, 3), (44, .ifCond .ne 4, 3), (47, .return_, 1), (48, .iinc 3 1, 3), (51, .goto (-32), 3), (54, .aload_n 0, 1), (55, .getfield 24, 3), (58, .getfield 92, 3), (61, .iload_n 2, 1), (62, .iaload, 1), (63, .istore_n 3, 1), (64, .aload_n 0, 1), (65, .getfield 21, 3), (68, .iload_n 3, 1), (69, .iaload, 1), (70, .iconst 1, 1), (71, .if_icmp .ne 46, 3), (74, .aload_n 0, 1), (75, .getfield 28, 3), (78, .iload_n 3, 1), (79, .invokevirtual 79, 3), (82, .iconst 3, 1), (83, .if_icmp .ge 34, 3), (86, .aload_n 0, 1), (87, .getfield 28, 3), (90, .iload_n 2, 1), (91, .aload_n 0, 1), (92, .getfield 24, 3), (95, .getfield 82, 3), (98, .iload_n 2, 1), (99, .iaload, 1), (100, .iload_n 3, 1), (101, .invokevirtual 127, 3), (104, .aload_n 0, 1), (105, .getfield 28, 3), (108, .getfield 60, 3), (111, .iload_n 2, 1), (112, .iconst 0, 1), (113, .iastore, 1), (114, .goto 32, 3), (117, .aload_n 0, 1), (118, .getfield 21, 3), (121, .iload_n 3, 1), (122, .iaload, 1), (123, .ifCond .ne 22, 3), (126, .aload_n 0, 1), (127, .getfield 28, 3), (130, .getfield 60, 3), (133, .iload_n 3, 1), (134, .iconst 0, 1), (135, .iastore, 1), (136, .aload_n 0, 1), (137, .iload_n 2, 1), (138, .iload_n 3, 1), (139, .invokevirtual 95, 3), (142, .goto 4, 3), (145, .return_, 1), (146, .iload_n 2, 1), (147, .iconst 1, 1), (148, .iadd, 1), (149, .istore 4, 2), (151, .iload 4, 2), (153, .aload_n 0, 1), (154, .getfield 24, 3), (157, .getfield 42, 3), (160, .if_icmp .ge 56, 3), (163, .iload_n 1, 1), (164, .iload 4, 2), (166, .invokestatic 45, 3), (169, .ifCond .eq 41, 3), (172, .aload_n 0, 1), (173, .getfield 28, 3), (176, .iload 4, 2), (178, .iload 4, 2), (180, .iload_n 2, 1), (181, .aload_n 0, 1), (182, .getfield 21, 3), (185, .iload 4, 2), (187, .iaload, 1), (188, .invokevirtual 105, 3), (191, .aload_n 0, 1), (192, .getfield 28, 3), (195, .getfield 60, 3), (198, .iload 4, 2), (200, .aload_n 0, 1), (201, .getfield 28, 3), (204, .getfield 60, 3), (207, .iload_n 2, 1), (208, .iaload, 1), (209, .iastore, 1), (210, .iinc 4 1, 3), (213, .goto (-62), 3), (216, .return_, 1)] : List (Nat × Instr × Nat)), decode cX0_settleTurning q.1 = .ok q.2 := by decide +kernel
theorem dX0_settleTurning_0 : decode cX0_settleTurning 0 = .ok (.aload_n 0, 1) := DX0_settleTurning (0, .aload_n 0, 1) (List.mem_of_getElem? (i := 0) rfl)
theorem dX0_settleTurning_1 : decode cX0_settleTurning 1 = .ok (.getfield 28, 3) := DX0_settleTurning (1, .getfield 28, 3) (List.mem_of_getElem? (i := 1) rfl)
theorem dX0_settleTurning_4 : decode cX0_settleTurning 4 = .ok (.iload_n 2, 1) := DX0_settleTurning (4, .iload_n 2, 1) (List.mem_of_getElem? (i := 2) rfl)
theorem dX0_settleTurning_5 : decode cX0_settleTurning 5 = .ok (.invokevirtual 121, 3) := DX0_settleTurning (5, .invokevirtual 121, 3) (List.mem_of_getElem? (i := 3) rfl)
theorem dX0_settleTurning_8 : decode cX0_settleTurning 8 = .ok (.aload_n 0, 1) := DX0_settleTurning (8, .aload_n 0, 1) (List.mem_of_getElem? (i := 4) rfl)
theorem dX0_settleTurning_9 : decode cX0_settleTurning 9 = .ok (.getfield 21, 3) := DX0_settleTurning (9, .getfield 21, 3) (List.mem_of_getElem? (i := 5) rfl)
theorem dX0_settleTurning_12 : decode cX0_settleTurning 12 = .ok (.iload_n 2, 1) := DX0_settleTurning (12, .iload_n 2, 1) (List.mem_of_getElem? (i := 6) rfl)
theorem dX0_settleTurning_13 : decode cX0_settleTurning 13 = .ok (.iconst 1, 1) := DX0_settleTurning (13, .iconst 1, 1) (List.mem_of_getElem? (i := 7) rfl)
theorem dX0_settleTurning_14 : decode cX0_settleTurning 14 = .ok (.iastore, 1) := DX0_settleTurning (14, .iastore, 1) (List.mem_of_getElem? (i := 8) rfl)
theorem dX0_settleTurning_15 : decode cX0_settleTurning 15 = .ok (.iload_n 2, 1) := DX0_settleTurning (15, .iload_n 2, 1) (List.mem_of_getElem? (i := 9) rfl)
theorem dX0_settleTurning_16 : decode cX0_settleTurning 16 = .ok (.iconst 1, 1) := DX0_settleTurning (16, .iconst 1, 1) (List.mem_of_getElem? (i := 10) rfl)
theorem dX0_settleTurning_17 : decode cX0_settleTurning 17 = .ok (.iadd, 1) := DX0_settleTurning (17, .iadd, 1) (List.mem_of_getElem? (i := 11) rfl)
theorem dX0_settleTurning_18 : decode cX0_settleTurning 18 = .ok (.istore_n 3, 1) := DX0_settleTurning (18, .istore_n 3, 1) (List.mem_of_getElem? (i := 12) rfl)
theorem dX0_settleTurning_19 : decode cX0_settleTurning 19 = .ok (.iload_n 3, 1) := DX0_settleTurning (19, .iload_n 3, 1) (List.mem_of_getElem? (i := 13) rfl)
theorem dX0_settleTurning_20 : decode cX0_settleTurning 20 = .ok (.aload_n 0, 1) := DX0_settleTurning (20, .aload_n 0, 1) (List.mem_of_getElem? (i := 14) rfl)
theorem dX0_settleTurning_21 : decode cX0_settleTurning 21 = .ok (.getfield 24, 3) := DX0_settleTurning (21, .getfield 24, 3) (List.mem_of_getElem? (i := 15) rfl)
theorem dX0_settleTurning_24 : decode cX0_settleTurning 24 = .ok (.getfield 42, 3) := DX0_settleTurning (24, .getfield 42, 3) (List.mem_of_getElem? (i := 16) rfl)
theorem dX0_settleTurning_27 : decode cX0_settleTurning 27 = .ok (.if_icmp .ge 27, 3) := DX0_settleTurning (27, .if_icmp .ge 27, 3) (List.mem_of_getElem? (i := 17) rfl)
theorem dX0_settleTurning_30 : decode cX0_settleTurning 30 = .ok (.iload_n 1, 1) := DX0_settleTurning (30, .iload_n 1, 1) (List.mem_of_getElem? (i := 18) rfl)
theorem dX0_settleTurning_31 : decode cX0_settleTurning 31 = .ok (.iload_n 3, 1) := DX0_settleTurning (31, .iload_n 3, 1) (List.mem_of_getElem? (i := 19) rfl)
theorem dX0_settleTurning_32 : decode cX0_settleTurning 32 = .ok (.invokestatic 45, 3) := DX0_settleTurning (32, .invokestatic 45, 3) (List.mem_of_getElem? (i := 20) rfl)
theorem dX0_settleTurning_35 : decode cX0_settleTurning 35 = .ok (.ifCond .eq 13, 3) := DX0_settleTurning (35, .ifCond .eq 13, 3) (List.mem_of_getElem? (i := 21) rfl)
theorem dX0_settleTurning_38 : decode cX0_settleTurning 38 = .ok (.aload_n 0, 1) := DX0_settleTurning (38, .aload_n 0, 1) (List.mem_of_getElem? (i := 22) rfl)
theorem dX0_settleTurning_39 : decode cX0_settleTurning 39 = .ok (.iload_n 3, 1) := DX0_settleTurning (39, .iload_n 3, 1) (List.mem_of_getElem? (i := 23) rfl)
theorem dX0_settleTurning_40 : decode cX0_settleTurning 40 = .ok (.iload_n 1, 1) := DX0_settleTurning (40, .iload_n 1, 1) (List.mem_of_getElem? (i := 24) rfl)
theorem dX0_settleTurning_41 : decode cX0_settleTurning 41 = .ok (.invokevirtual 124, 3) := DX0_settleTurning (41, .invokevirtual 124, 3) (List.mem_of_getElem? (i := 25) rfl)
theorem dX0_settleTurning_44 : decode cX0_settleTurning 44 = .ok (.ifCond .ne 4, 3) := DX0_settleTurning (44, .ifCond .ne 4, 3) (List.mem_of_getElem? (i := 26) rfl)
theorem dX0_settleTurning_47 : decode cX0_settleTurning 47 = .ok (.return_, 1) := DX0_settleTurning (47, .return_, 1) (List.mem_of_getElem? (i := 27) rfl)
theorem dX0_settleTurning_48 : decode cX0_settleTurning 48 = .ok (.iinc 3 1, 3) := DX0_settleTurning (48, .iinc 3 1, 3) (List.mem_of_getElem? (i := 28) rfl)
theorem dX0_settleTurning_51 : decode cX0_settleTurning 51 = .ok (.goto (-32), 3) := DX0_settleTurning (51, .goto (-32), 3) (List.mem_of_getElem? (i := 29) rfl)
theorem dX0_settleTurning_54 : decode cX0_settleTurning 54 = .ok (.aload_n 0, 1) := DX0_settleTurning (54, .aload_n 0, 1) (List.mem_of_getElem? (i := 30) rfl)
theorem dX0_settleTurning_55 : decode cX0_settleTurning 55 = .ok (.getfield 24, 3) := DX0_settleTurning (55, .getfield 24, 3) (List.mem_of_getElem? (i := 31) rfl)
theorem dX0_settleTurning_58 : decode cX0_settleTurning 58 = .ok (.getfield 92, 3) := DX0_settleTurning (58, .getfield 92, 3) (List.mem_of_getElem? (i := 32) rfl)
theorem dX0_settleTurning_61 : decode cX0_settleTurning 61 = .ok (.iload_n 2, 1) := DX0_settleTurning (61, .iload_n 2, 1) (List.mem_of_getElem? (i := 33) rfl)
theorem dX0_settleTurning_62 : decode cX0_settleTurning 62 = .ok (.iaload, 1) := DX0_settleTurning (62, .iaload, 1) (List.mem_of_getElem? (i := 34) rfl)
theorem dX0_settleTurning_63 : decode cX0_settleTurning 63 = .ok (.istore_n 3, 1) := DX0_settleTurning (63, .istore_n 3, 1) (List.mem_of_getElem? (i := 35) rfl)
theorem dX0_settleTurning_64 : decode cX0_settleTurning 64 = .ok (.aload_n 0, 1) := DX0_settleTurning (64, .aload_n 0, 1) (List.mem_of_getElem? (i := 36) rfl)
theorem dX0_settleTurning_65 : decode cX0_settleTurning 65 = .ok (.getfield 21, 3) := DX0_settleTurning (65, .getfield 21, 3) (List.mem_of_getElem? (i := 37) rfl)
theorem dX0_settleTurning_68 : decode cX0_settleTurning 68 = .ok (.iload_n 3, 1) := DX0_settleTurning (68, .iload_n 3, 1) (List.mem_of_getElem? (i := 38) rfl)
theorem dX0_settleTurning_69 : decode cX0_settleTurning 69 = .ok (.iaload, 1) := DX0_settleTurning (69, .iaload, 1) (List.mem_of_getElem? (i := 39) rfl)
theorem dX0_settleTurning_70 : decode cX0_settleTurning 70 = .ok (.iconst 1, 1) := DX0_settleTurning (70, .iconst 1, 1) (List.mem_of_getElem? (i := 40) rfl)
theorem dX0_settleTurning_71 : decode cX0_settleTurning 71 = .ok (.if_icmp .ne 46, 3) := DX0_settleTurning (71, .if_icmp .ne 46, 3) (List.mem_of_getElem? (i := 41) rfl)
theorem dX0_settleTurning_74 : decode cX0_settleTurning 74 = .ok (.aload_n 0, 1) := DX0_settleTurning (74, .aload_n 0, 1) (List.mem_of_getElem? (i := 42) rfl)
theorem dX0_settleTurning_75 : decode cX0_settleTurning 75 = .ok (.getfield 28, 3) := DX0_settleTurning (75, .getfield 28, 3) (List.mem_of_getElem? (i := 43) rfl)
theorem dX0_settleTurning_78 : decode cX0_settleTurning 78 = .ok (.iload_n 3, 1) := DX0_settleTurning (78, .iload_n 3, 1) (List.mem_of_getElem? (i := 44) rfl)
theorem dX0_settleTurning_79 : decode cX0_settleTurning 79 = .ok (.invokevirtual 79, 3) := DX0_settleTurning (79, .invokevirtual 79, 3) (List.mem_of_getElem? (i := 45) rfl)
theorem dX0_settleTurning_82 : decode cX0_settleTurning 82 = .ok (.iconst 3, 1) := DX0_settleTurning (82, .iconst 3, 1) (List.mem_of_getElem? (i := 46) rfl)
theorem dX0_settleTurning_83 : decode cX0_settleTurning 83 = .ok (.if_icmp .ge 34, 3) := DX0_settleTurning (83, .if_icmp .ge 34, 3) (List.mem_of_getElem? (i := 47) rfl)
theorem dX0_settleTurning_86 : decode cX0_settleTurning 86 = .ok (.aload_n 0, 1) := DX0_settleTurning (86, .aload_n 0, 1) (List.mem_of_getElem? (i := 48) rfl)
theorem dX0_settleTurning_87 : decode cX0_settleTurning 87 = .ok (.getfield 28, 3) := DX0_settleTurning (87, .getfield 28, 3) (List.mem_of_getElem? (i := 49) rfl)
theorem dX0_settleTurning_90 : decode cX0_settleTurning 90 = .ok (.iload_n 2, 1) := DX0_settleTurning (90, .iload_n 2, 1) (List.mem_of_getElem? (i := 50) rfl)
theorem dX0_settleTurning_91 : decode cX0_settleTurning 91 = .ok (.aload_n 0, 1) := DX0_settleTurning (91, .aload_n 0, 1) (List.mem_of_getElem? (i := 51) rfl)
theorem dX0_settleTurning_92 : decode cX0_settleTurning 92 = .ok (.getfield 24, 3) := DX0_settleTurning (92, .getfield 24, 3) (List.mem_of_getElem? (i := 52) rfl)
theorem dX0_settleTurning_95 : decode cX0_settleTurning 95 = .ok (.getfield 82, 3) := DX0_settleTurning (95, .getfield 82, 3) (List.mem_of_getElem? (i := 53) rfl)
theorem dX0_settleTurning_98 : decode cX0_settleTurning 98 = .ok (.iload_n 2, 1) := DX0_settleTurning (98, .iload_n 2, 1) (List.mem_of_getElem? (i := 54) rfl)
theorem dX0_settleTurning_99 : decode cX0_settleTurning 99 = .ok (.iaload, 1) := DX0_settleTurning (99, .iaload, 1) (List.mem_of_getElem? (i := 55) rfl)
theorem dX0_settleTurning_100 : decode cX0_settleTurning 100 = .ok (.iload_n 3, 1) := DX0_settleTurning (100, .iload_n 3, 1) (List.mem_of_getElem? (i := 56) rfl)
theorem dX0_settleTurning_101 : decode cX0_settleTurning 101 = .ok (.invokevirtual 127, 3) := DX0_settleTurning (101, .invokevirtual 127, 3) (List.mem_of_getElem? (i := 57) rfl)
theorem dX0_settleTurning_104 : decode cX0_settleTurning 104 = .ok (.aload_n 0, 1) := DX0_settleTurning (104, .aload_n 0, 1) (List.mem_of_getElem? (i := 58) rfl)
theorem dX0_settleTurning_105 : decode cX0_settleTurning 105 = .ok (.getfield 28, 3) := DX0_settleTurning (105, .getfield 28, 3) (List.mem_of_getElem? (i := 59) rfl)
theorem dX0_settleTurning_108 : decode cX0_settleTurning 108 = .ok (.getfield 60, 3) := DX0_settleTurning (108, .getfield 60, 3) (List.mem_of_getElem? (i := 60) rfl)
theorem dX0_settleTurning_111 : decode cX0_settleTurning 111 = .ok (.iload_n 2, 1) := DX0_settleTurning (111, .iload_n 2, 1) (List.mem_of_getElem? (i := 61) rfl)
theorem dX0_settleTurning_112 : decode cX0_settleTurning 112 = .ok (.iconst 0, 1) := DX0_settleTurning (112, .iconst 0, 1) (List.mem_of_getElem? (i := 62) rfl)
theorem dX0_settleTurning_113 : decode cX0_settleTurning 113 = .ok (.iastore, 1) := DX0_settleTurning (113, .iastore, 1) (List.mem_of_getElem? (i := 63) rfl)
theorem dX0_settleTurning_114 : decode cX0_settleTurning 114 = .ok (.goto 32, 3) := DX0_settleTurning (114, .goto 32, 3) (List.mem_of_getElem? (i := 64) rfl)
theorem dX0_settleTurning_117 : decode cX0_settleTurning 117 = .ok (.aload_n 0, 1) := DX0_settleTurning (117, .aload_n 0, 1) (List.mem_of_getElem? (i := 65) rfl)
theorem dX0_settleTurning_118 : decode cX0_settleTurning 118 = .ok (.getfield 21, 3) := DX0_settleTurning (118, .getfield 21, 3) (List.mem_of_getElem? (i := 66) rfl)
theorem dX0_settleTurning_121 : decode cX0_settleTurning 121 = .ok (.iload_n 3, 1) := DX0_settleTurning (121, .iload_n 3, 1) (List.mem_of_getElem? (i := 67) rfl)
theorem dX0_settleTurning_122 : decode cX0_settleTurning 122 = .ok (.iaload, 1) := DX0_settleTurning (122, .iaload, 1) (List.mem_of_getElem? (i := 68) rfl)
theorem dX0_settleTurning_123 : decode cX0_settleTurning 123 = .ok (.ifCond .ne 22, 3) := DX0_settleTurning (123, .ifCond .ne 22, 3) (List.mem_of_getElem? (i := 69) rfl)
theorem dX0_settleTurning_126 : decode cX0_settleTurning 126 = .ok (.aload_n 0, 1) := DX0_settleTurning (126, .aload_n 0, 1) (List.mem_of_getElem? (i := 70) rfl)
theorem dX0_settleTurning_127 : decode cX0_settleTurning 127 = .ok (.getfield 28, 3) := DX0_settleTurning (127, .getfield 28, 3) (List.mem_of_getElem? (i := 71) rfl)
theorem dX0_settleTurning_130 : decode cX0_settleTurning 130 = .ok (.getfield 60, 3) := DX0_settleTurning (130, .getfield 60, 3) (List.mem_of_getElem? (i := 72) rfl)
theorem dX0_settleTurning_133 : decode cX0_settleTurning 133 = .ok (.iload_n 3, 1) := DX0_settleTurning (133, .iload_n 3, 1) (List.mem_of_getElem? (i := 73) rfl)
theorem dX0_settleTurning_134 : decode cX0_settleTurning 134 = .ok (.iconst 0, 1) := DX0_settleTurning (134, .iconst 0, 1) (List.mem_of_getElem? (i := 74) rfl)
theorem dX0_settleTurning_135 : decode cX0_settleTurning 135 = .ok (.iastore, 1) := DX0_settleTurning (135, .iastore, 1) (List.mem_of_getElem? (i := 75) rfl)
theorem dX0_settleTurning_136 : decode cX0_settleTurning 136 = .ok (.aload_n 0, 1) := DX0_settleTurning (136, .aload_n 0, 1) (List.mem_of_getElem? (i := 76) rfl)
theorem dX0_settleTurning_137 : decode cX0_settleTurning 137 = .ok (.iload_n 2, 1) := DX0_settleTurning (137, .iload_n 2, 1) (List.mem_of_getElem? (i := 77) rfl)
theorem dX0_settleTurning_138 : decode cX0_settleTurning 138 = .ok (.iload_n 3, 1) := DX0_settleTurning (138, .iload_n 3, 1) (List.mem_of_getElem? (i := 78) rfl)
theorem dX0_settleTurning_139 : decode cX0_settleTurning 139 = .ok (.invokevirtual 95, 3) := DX0_settleTurning (139, .invokevirtual 95, 3) (List.mem_of_getElem? (i := 79) rfl)
theorem dX0_settleTurning_142 : decode cX0_settleTurning 142 = .ok (.goto 4, 3) := DX0_settleTurning (142, .goto 4, 3) (List.mem_of_getElem? (i := 80) rfl)
theorem dX0_settleTurning_145 : decode cX0_settleTurning 145 = .ok (.return_, 1) := DX0_settleTurning (145, .return_, 1) (List.mem_of_getElem? (i := 81) rfl)
theorem dX0_settleTurning_146 : decode cX0_settleTurning 146 = .ok (.iload_n 2, 1) := DX0_settleTurning (146, .iload_n 2, 1) (List.mem_of_getElem? (i := 82) rfl)
theorem dX0_settleTurning_147 : decode cX0_settleTurning 147 = .ok (.iconst 1, 1) := DX0_settleTurning (147, .iconst 1, 1) (List.mem_of_getElem? (i := 83) rfl)
theorem dX0_settleTurning_148 : decode cX0_settleTurning 148 = .ok (.iadd, 1) := DX0_settleTurning (148, .iadd, 1) (List.mem_of_getElem? (i := 84) rfl)
theorem dX0_settleTurning_149 : decode cX0_settleTurning 149 = .ok (.istore 4, 2) := DX0_settleTurning (149, .istore 4, 2) (List.mem_of_getElem? (i := 85) rfl)
theorem dX0_settleTurning_151 : decode cX0_settleTurning 151 = .ok (.iload 4, 2) := DX0_settleTurning (151, .iload 4, 2) (List.mem_of_getElem? (i := 86) rfl)
theorem dX0_settleTurning_153 : decode cX0_settleTurning 153 = .ok (.aload_n 0, 1) := DX0_settleTurning (153, .aload_n 0, 1) (List.mem_of_getElem? (i := 87) rfl)
theorem dX0_settleTurning_154 : decode cX0_settleTurning 154 = .ok (.getfield 24, 3) := DX0_settleTurning (154, .getfield 24, 3) (List.mem_of_getElem? (i := 88) rfl)
theorem dX0_settleTurning_157 : decode cX0_settleTurning 157 = .ok (.getfield 42, 3) := DX0_settleTurning (157, .getfield 42, 3) (List.mem_of_getElem? (i := 89) rfl)
theorem dX0_settleTurning_160 : decode cX0_settleTurning 160 = .ok (.if_icmp .ge 56, 3) := DX0_settleTurning (160, .if_icmp .ge 56, 3) (List.mem_of_getElem? (i := 90) rfl)
theorem dX0_settleTurning_163 : decode cX0_settleTurning 163 = .ok (.iload_n 1, 1) := DX0_settleTurning (163, .iload_n 1, 1) (List.mem_of_getElem? (i := 91) rfl)
theorem dX0_settleTurning_164 : decode cX0_settleTurning 164 = .ok (.iload 4, 2) := DX0_settleTurning (164, .iload 4, 2) (List.mem_of_getElem? (i := 92) rfl)
theorem dX0_settleTurning_166 : decode cX0_settleTurning 166 = .ok (.invokestatic 45, 3) := DX0_settleTurning (166, .invokestatic 45, 3) (List.mem_of_getElem? (i := 93) rfl)
theorem dX0_settleTurning_169 : decode cX0_settleTurning 169 = .ok (.ifCond .eq 41, 3) := DX0_settleTurning (169, .ifCond .eq 41, 3) (List.mem_of_getElem? (i := 94) rfl)
theorem dX0_settleTurning_172 : decode cX0_settleTurning 172 = .ok (.aload_n 0, 1) := DX0_settleTurning (172, .aload_n 0, 1) (List.mem_of_getElem? (i := 95) rfl)
theorem dX0_settleTurning_173 : decode cX0_settleTurning 173 = .ok (.getfield 28, 3) := DX0_settleTurning (173, .getfield 28, 3) (List.mem_of_getElem? (i := 96) rfl)
theorem dX0_settleTurning_176 : decode cX0_settleTurning 176 = .ok (.iload 4, 2) := DX0_settleTurning (176, .iload 4, 2) (List.mem_of_getElem? (i := 97) rfl)
theorem dX0_settleTurning_178 : decode cX0_settleTurning 178 = .ok (.iload 4, 2) := DX0_settleTurning (178, .iload 4, 2) (List.mem_of_getElem? (i := 98) rfl)
theorem dX0_settleTurning_180 : decode cX0_settleTurning 180 = .ok (.iload_n 2, 1) := DX0_settleTurning (180, .iload_n 2, 1) (List.mem_of_getElem? (i := 99) rfl)
theorem dX0_settleTurning_181 : decode cX0_settleTurning 181 = .ok (.aload_n 0, 1) := DX0_settleTurning (181, .aload_n 0, 1) (List.mem_of_getElem? (i := 100) rfl)
theorem dX0_settleTurning_182 : decode cX0_settleTurning 182 = .ok (.getfield 21, 3) := DX0_settleTurning (182, .getfield 21, 3) (List.mem_of_getElem? (i := 101) rfl)
theorem dX0_settleTurning_185 : decode cX0_settleTurning 185 = .ok (.iload 4, 2) := DX0_settleTurning (185, .iload 4, 2) (List.mem_of_getElem? (i := 102) rfl)
theorem dX0_settleTurning_187 : decode cX0_settleTurning 187 = .ok (.iaload, 1) := DX0_settleTurning (187, .iaload, 1) (List.mem_of_getElem? (i := 103) rfl)
theorem dX0_settleTurning_188 : decode cX0_settleTurning 188 = .ok (.invokevirtual 105, 3) := DX0_settleTurning (188, .invokevirtual 105, 3) (List.mem_of_getElem? (i := 104) rfl)
theorem dX0_settleTurning_191 : decode cX0_settleTurning 191 = .ok (.aload_n 0, 1) := DX0_settleTurning (191, .aload_n 0, 1) (List.mem_of_getElem? (i := 105) rfl)
theorem dX0_settleTurning_192 : decode cX0_settleTurning 192 = .ok (.getfield 28, 3) := DX0_settleTurning (192, .getfield 28, 3) (List.mem_of_getElem? (i := 106) rfl)
theorem dX0_settleTurning_195 : decode cX0_settleTurning 195 = .ok (.getfield 60, 3) := DX0_settleTurning (195, .getfield 60, 3) (List.mem_of_getElem? (i := 107) rfl)
theorem dX0_settleTurning_198 : decode cX0_settleTurning 198 = .ok (.iload 4, 2) := DX0_settleTurning (198, .iload 4, 2) (List.mem_of_getElem? (i := 108) rfl)
theorem dX0_settleTurning_200 : decode cX0_settleTurning 200 = .ok (.aload_n 0, 1) := DX0_settleTurning (200, .aload_n 0, 1) (List.mem_of_getElem? (i := 109) rfl)
theorem dX0_settleTurning_201 : decode cX0_settleTurning 201 = .ok (.getfield 28, 3) := DX0_settleTurning (201, .getfield 28, 3) (List.mem_of_getElem? (i := 110) rfl)
theorem dX0_settleTurning_204 : decode cX0_settleTurning 204 = .ok (.getfield 60, 3) := DX0_settleTurning (204, .getfield 60, 3) (List.mem_of_getElem? (i := 111) rfl)
theorem dX0_settleTurning_207 : decode cX0_settleTurning 207 = .ok (.iload_n 2, 1) := DX0_settleTurning (207, .iload_n 2, 1) (List.mem_of_getElem? (i := 112) rfl)
theorem dX0_settleTurning_208 : decode cX0_settleTurning 208 = .ok (.iaload, 1) := DX0_settleTurning (208, .iaload, 1) (List.mem_of_getElem? (i := 113) rfl)
theorem dX0_settleTurning_209 : decode cX0_settleTurning 209 = .ok (.iastore, 1) := DX0_settleTurning (209, .iastore, 1) (List.mem_of_getElem? (i := 114) rfl)
theorem dX0_settleTurning_210 : decode cX0_settleTurning 210 = .ok (.iinc 4 1, 3) := DX0_settleTurning (210, .iinc 4 1, 3) (List.mem_of_getElem? (i := 115) rfl)
theorem dX0_settleTurning_213 : decode cX0_settleTurning 213 = .ok (.goto (-62), 3) := DX0_settleTurning (213, .goto (-62), 3) (List.mem_of_getElem? (i := 116) rfl)
theorem dX0_settleTurning_216 : decode cX0_settleTurning 216 = .ok (.return_, 1) := DX0_settleTurning (216, .return_, 1) (List.mem_of_getElem? (i := 117) rfl)
noncomputable def fX0_settleTurning_L48 (l1 : Int32) (l2 : Int32) (l3 : Int32) (σ : Mem) : Option ((Int32 × Mem) ⊕ ((Mem) ⊕ (Mem))) :=
  some (.inl (l3 + 1, σ))
set_option maxHeartbeats 4000000 in
set_option maxRecDepth 100000 in
theorem tX0_settleTurning_L48 {E : Gx} {cI : ClassId} {ad : Nat → Nat} (C : Cx E rmX0_settleTurning cI layX ad 5 RX0 cX0_settleTurning) {out : Mem} (K0 : KV E rmX0_settleTurning cI layX ad 5 cX0_settleTurning out) {l1 : Int32} {l2 : Int32} {l3 : Int32} {σ : Mem} {res : (Int32 × Mem) ⊕ ((Mem) ⊕ (Mem))} (h : fX0_settleTurning_L48 l1 l2 l3 σ = some res) (K : Sum.elim (fun a => G E rmX0_settleTurning cI layX ad 5 19 [(0, .ref (ad 0)), (1, .int l1), (2, .int l2), (3, .int a.1)] [] a.2) (Sum.elim (fun b => G E rmX0_settleTurning cI layX ad 5 54 [(0, .ref (ad 0)), (1, .int l1), (2, .int l2)] [] b) (fun b => b = out)) res) : G E rmX0_settleTurning cI layX ad 5 48 [(0, .ref (ad 0)), (1, .int l1), (2, .int l2), (3, .int l3)] [] σ := by
  unfold fX0_settleTurning_L48 at h
  refine g_iinc 51 [(3, .int (l3 + 1)), (0, .ref (ad 0)), (1, .int l1), (2, .int l2)] C dX0_settleTurning_48 (j := 3) rfl (by rfl) (by decide) rfl rfl ?_
  refine g_goto 19 C dX0_settleTurning_51 (by decide) ?_
  have hh := end_inl h K
  exact g_sub [1, 2, 3, 0] (hh) rfl
noncomputable def fX0_settleTurning_B19 (l1 : Int32) (l2 : Int32) (l3 : Int32) (σ : Mem) : Option ((Int32 × Mem) ⊕ ((Mem) ⊕ (Mem))) :=
  if (σ 3 4) ≤ l3 then
    some (.inr (.inl σ))
  else
    (fX7_isIn l1 l3 σ).bind fun o2 =>
    if o2.1 = 0 then
      fX0_settleTurning_L48 l1 l2 l3 o2.2
    else
      (fX0_weigh l3 l1 o2.2).bind fun o3 =>
      if o3.1 = 0 then
        some (.inr (.inr o3.2))
      else
        fX0_settleTurning_L48 l1 l2 l3 o3.2
set_option maxHeartbeats 4000000 in
set_option maxRecDepth 100000 in
theorem tX0_settleTurning_B19 {E : Gx} {cI : ClassId} {ad : Nat → Nat} (C : Cx E rmX0_settleTurning cI layX ad 5 RX0 cX0_settleTurning) {out : Mem} (K0 : KV E rmX0_settleTurning cI layX ad 5 cX0_settleTurning out) {l1 : Int32} {l2 : Int32} {l3 : Int32} {σ : Mem} {res : (Int32 × Mem) ⊕ ((Mem) ⊕ (Mem))} (h : fX0_settleTurning_B19 l1 l2 l3 σ = some res) (K : Sum.elim (fun a => G E rmX0_settleTurning cI layX ad 5 19 [(0, .ref (ad 0)), (1, .int l1), (2, .int l2), (3, .int a.1)] [] a.2) (Sum.elim (fun b => G E rmX0_settleTurning cI layX ad 5 54 [(0, .ref (ad 0)), (1, .int l1), (2, .int l2)] [] b) (fun b => b = out)) res) : G E rmX0_settleTurning cI layX ad 5 19 [(0, .ref (ad 0)), (1, .int l1), (2, .int l2), (3, .int l3)] [] σ := by
  unfold fX0_settleTurning_B19 at h
  refine g_iload_n 20 C dX0_settleTurning_19 rfl (j := 3) rfl rfl ?_
  refine g_aload_n 21 C dX0_settleTurning_20 rfl (j := 0) rfl rfl ?_
  refine g_getr 24 (j := 0) C rfl rfl wu_X0 (by decide) wf_X0_24 rfl dX0_settleTurning_21 rfl ?_
  refine g_getiN 27 (j := 4) C rfl rfl wu_X3 (by decide) (List.mem_of_getElem? (i := 13) rfl) rfl dX0_settleTurning_24 rfl ?_
  refine g_icmp_ge 54 30 C dX0_settleTurning_27 (by decide) rfl h (fun h => ?_) (fun h => ?_)
  · have hh := end_alt0_2 h K
    exact g_sub [0, 1, 2] (hh) rfl
  · refine g_iload_n 31 C dX0_settleTurning_30 rfl (j := 1) rfl rfl ?_
    refine g_iload_n 32 C dX0_settleTurning_31 rfl (j := 3) rfl rfl ?_
    refine g_cti 35 C (As := [.int l1, .int l3]) (fun _ h => mX7_isIn (a1 := l1) (a2 := l3) (σ := σ) h) (List.mem_of_getElem? (i := 14) rfl) ws_X7_isIn wc_X7_isIn wn_X7 qX7_isIn rfl rfl ⟨Nat.le_of_ble_eq_true rfl, Nat.le_of_ble_eq_true rfl⟩ rfl rfl (Nat.le_of_ble_eq_true rfl) dX0_settleTurning_32 rfl h (fun o2 h => ?_)
    refine g_if_eq 48 38 C dX0_settleTurning_35 (by decide) rfl h (fun h => ?_) (fun h => ?_)
    · exact tX0_settleTurning_L48 (l1 := l1) (l2 := l2) (l3 := l3) (σ := o2.2) C K0 h K
    · refine g_aload_n 39 C dX0_settleTurning_38 rfl (j := 0) rfl rfl ?_
      refine g_iload_n 40 C dX0_settleTurning_39 rfl (j := 3) rfl rfl ?_
      refine g_iload_n 41 C dX0_settleTurning_40 rfl (j := 1) rfl rfl ?_
      refine g_cvi 44 C (As := [.int l3, .int l1]) (fun _ h => mX0_weigh (a1 := l3) (a2 := l1) (σ := o2.2) h) wl_X0_124 wi_X0_weigh wz_X0_weigh wc_X0_weigh wn_X0 qX0_weigh rfl rfl ⟨Nat.le_of_ble_eq_true rfl, Nat.le_of_ble_eq_true rfl⟩ rfl rfl rfl rfl (Nat.le_of_ble_eq_true rfl) dX0_settleTurning_41 rfl h (fun o3 h => ?_)
      refine g_if_ne 48 47 C dX0_settleTurning_44 (by decide) rfl h (fun h => ?_) (fun h => ?_)
      · have ho := end_alt1_2 h K
        replace ho : o3.2 = out := ho
        subst ho
        exact K0 _ _ dX0_settleTurning_47
      · exact tX0_settleTurning_L48 (l1 := l1) (l2 := l2) (l3 := l3) (σ := o3.2) C K0 h K
noncomputable def fX0_settleTurning_L210 (l1 : Int32) (l2 : Int32) (l4 : Int32) (σ : Mem) : Option ((Int32 × Mem) ⊕ (Mem)) :=
  some (.inl (l4 + 1, σ))
set_option maxHeartbeats 4000000 in
set_option maxRecDepth 100000 in
theorem tX0_settleTurning_L210 {E : Gx} {cI : ClassId} {ad : Nat → Nat} (C : Cx E rmX0_settleTurning cI layX ad 5 RX0 cX0_settleTurning) {out : Mem} (K0 : KV E rmX0_settleTurning cI layX ad 5 cX0_settleTurning out) {l1 : Int32} {l2 : Int32} {l4 : Int32} {σ : Mem} {res : (Int32 × Mem) ⊕ (Mem)} (h : fX0_settleTurning_L210 l1 l2 l4 σ = some res) (K : Sum.elim (fun a => G E rmX0_settleTurning cI layX ad 5 151 [(0, .ref (ad 0)), (1, .int l1), (2, .int l2), (4, .int a.1)] [] a.2) (fun b => G E rmX0_settleTurning cI layX ad 5 216 [] [] b) res) : G E rmX0_settleTurning cI layX ad 5 210 [(0, .ref (ad 0)), (1, .int l1), (2, .int l2), (4, .int l4)] [] σ := by
  unfold fX0_settleTurning_L210 at h
  refine g_iinc 213 [(4, .int (l4 + 1)), (0, .ref (ad 0)), (1, .int l1), (2, .int l2)] C dX0_settleTurning_210 (j := 3) rfl (by rfl) (by decide) rfl rfl ?_
  refine g_goto 151 C dX0_settleTurning_213 (by decide) ?_
  have hh := end_inl h K
  exact g_sub [1, 2, 3, 0] (hh) rfl
noncomputable def fX0_settleTurning_B151 (l1 : Int32) (l2 : Int32) (l4 : Int32) (σ : Mem) : Option ((Int32 × Mem) ⊕ (Mem)) :=
  if (σ 3 4) ≤ l4 then
    some (.inr σ)
  else
    (fX7_isIn l1 l4 σ).bind fun o6 =>
    if o6.1 = 0 then
      fX0_settleTurning_L210 l1 l2 l4 o6.2
    else
      chk (inb l4 30) <|
      (fX1_putSum l4 l4 l2 (o6.2 21 l4.toNatClampNeg) o6.2).bind fun o7 =>
      chk (inb l2 31) <|
      chk (inb l4 31) <|
      fX0_settleTurning_L210 l1 l2 l4 (up2 o7 17 l4.toNatClampNeg (o7 17 l2.toNatClampNeg))
set_option maxHeartbeats 4000000 in
set_option maxRecDepth 100000 in
theorem tX0_settleTurning_B151 {E : Gx} {cI : ClassId} {ad : Nat → Nat} (C : Cx E rmX0_settleTurning cI layX ad 5 RX0 cX0_settleTurning) {out : Mem} (K0 : KV E rmX0_settleTurning cI layX ad 5 cX0_settleTurning out) {l1 : Int32} {l2 : Int32} {l4 : Int32} {σ : Mem} {res : (Int32 × Mem) ⊕ (Mem)} (h : fX0_settleTurning_B151 l1 l2 l4 σ = some res) (K : Sum.elim (fun a => G E rmX0_settleTurning cI layX ad 5 151 [(0, .ref (ad 0)), (1, .int l1), (2, .int l2), (4, .int a.1)] [] a.2) (fun b => G E rmX0_settleTurning cI layX ad 5 216 [] [] b) res) : G E rmX0_settleTurning cI layX ad 5 151 [(0, .ref (ad 0)), (1, .int l1), (2, .int l2), (4, .int l4)] [] σ := by
  unfold fX0_settleTurning_B151 at h
  refine g_iload 153 C dX0_settleTurning_151 (j := 3) rfl rfl ?_
  refine g_aload_n 154 C dX0_settleTurning_153 rfl (j := 0) rfl rfl ?_
  refine g_getr 157 (j := 0) C rfl rfl wu_X0 (by decide) wf_X0_24 rfl dX0_settleTurning_154 rfl ?_
  refine g_getiN 160 (j := 4) C rfl rfl wu_X3 (by decide) (List.mem_of_getElem? (i := 13) rfl) rfl dX0_settleTurning_157 rfl ?_
  refine g_icmp_ge 216 163 C dX0_settleTurning_160 (by decide) rfl h (fun h => ?_) (fun h => ?_)
  · have hh := end_inr h K
    exact g_sub [] (hh) rfl
  · refine g_iload_n 164 C dX0_settleTurning_163 rfl (j := 1) rfl rfl ?_
    refine g_iload 166 C dX0_settleTurning_164 (j := 3) rfl rfl ?_
    refine g_cti 169 C (As := [.int l1, .int l4]) (fun _ h => mX7_isIn (a1 := l1) (a2 := l4) (σ := σ) h) (List.mem_of_getElem? (i := 14) rfl) ws_X7_isIn wc_X7_isIn wn_X7 qX7_isIn rfl rfl ⟨Nat.le_of_ble_eq_true rfl, Nat.le_of_ble_eq_true rfl⟩ rfl rfl (Nat.le_of_ble_eq_true rfl) dX0_settleTurning_166 rfl h (fun o6 h => ?_)
    refine g_if_eq 210 172 C dX0_settleTurning_169 (by decide) rfl h (fun h => ?_) (fun h => ?_)
    · exact tX0_settleTurning_L210 (l1 := l1) (l2 := l2) (l4 := l4) (σ := o6.2) C K0 h K
    · refine g_aload_n 173 C dX0_settleTurning_172 rfl (j := 0) rfl rfl ?_
      refine g_getr 176 (j := 1) C rfl rfl wu_X0 (by decide) wf_X0_28 rfl dX0_settleTurning_173 rfl ?_
      refine g_iload 178 C dX0_settleTurning_176 (j := 3) rfl rfl ?_
      refine g_iload 180 C dX0_settleTurning_178 (j := 3) rfl rfl ?_
      refine g_iload_n 181 C dX0_settleTurning_180 rfl (j := 2) rfl rfl ?_
      refine g_aload_n 182 C dX0_settleTurning_181 rfl (j := 0) rfl rfl ?_
      refine g_getr 185 (j := 5) C rfl rfl wu_X0 (by decide) wf_X0_21 rfl dX0_settleTurning_182 rfl ?_
      refine g_iload 187 C dX0_settleTurning_185 (j := 3) rfl rfl ?_
      refine g_iald 188 C rfl dX0_settleTurning_187 rfl h (fun h => ?_)
      refine g_cnv 191 C (As := [.int l4, .int l4, .int l2, .int (o6.2 21 l4.toNatClampNeg)]) (fun _ h => mX1_putSum (a1 := l4) (a2 := l4) (a3 := l2) (a4 := o6.2 21 l4.toNatClampNeg) (σ := o6.2) h) (List.mem_of_getElem? (i := 17) rfl) wi_X1_putSum wz_X1_putSum wc_X1_putSum wn_X1 qX1_putSum rfl rfl ⟨Nat.le_of_ble_eq_true rfl, Nat.le_of_ble_eq_true rfl⟩ rfl rfl rfl rfl (Nat.le_of_ble_eq_true rfl) dX0_settleTurning_188 rfl h (fun o7 h => ?_)
      refine g_aload_n 192 C dX0_settleTurning_191 rfl (j := 0) rfl rfl ?_
      refine g_getr 195 (j := 1) C rfl rfl wu_X0 (by decide) wf_X0_28 rfl dX0_settleTurning_192 rfl ?_
      refine g_getrN 198 (j := 2) C rfl rfl wu_X1 (by decide) (List.mem_of_getElem? (i := 34) rfl) rfl dX0_settleTurning_195 rfl ?_
      refine g_iload 200 C dX0_settleTurning_198 (j := 3) rfl rfl ?_
      refine g_aload_n 201 C dX0_settleTurning_200 rfl (j := 0) rfl rfl ?_
      refine g_getr 204 (j := 1) C rfl rfl wu_X0 (by decide) wf_X0_28 rfl dX0_settleTurning_201 rfl ?_
      refine g_getrN 207 (j := 2) C rfl rfl wu_X1 (by decide) (List.mem_of_getElem? (i := 34) rfl) rfl dX0_settleTurning_204 rfl ?_
      refine g_iload_n 208 C dX0_settleTurning_207 rfl (j := 2) rfl rfl ?_
      refine g_iald 209 C rfl dX0_settleTurning_208 rfl h (fun h => ?_)
      refine g_iast 210 C rfl dX0_settleTurning_209 rfl h (fun h => ?_)
      exact tX0_settleTurning_L210 (l1 := l1) (l2 := l2) (l4 := l4) (σ := up2 o7 17 l4.toNatClampNeg (o7 17 l2.toNatClampNeg)) C K0 h K
noncomputable def fX0_settleTurning_L216 (σ : Mem) : Option (Mem) :=
  some σ
set_option maxHeartbeats 4000000 in
set_option maxRecDepth 100000 in
theorem tX0_settleTurning_L216 {E : Gx} {cI : ClassId} {ad : Nat → Nat} (C : Cx E rmX0_settleTurning cI layX ad 5 RX0 cX0_settleTurning) {out : Mem} (K0 : KV E rmX0_settleTurning cI layX ad 5 cX0_settleTurning out) {σ : Mem} (h : fX0_settleTurning_L216 σ = some out) : G E rmX0_settleTurning cI layX ad 5 216 [] [] σ := by
  unfold fX0_settleTurning_L216 at h
  cases h
  exact K0 _ _ dX0_settleTurning_216
noncomputable def fX0_settleTurning_L146 (l1 : Int32) (l2 : Int32) (σ : Mem) : Option (Mem) :=
  (loop (fun a => fX0_settleTurning_B151 l1 l2 a.1 a.2) (l2 + 1, σ)).bind fun b8 =>
  fX0_settleTurning_L216 b8
set_option maxHeartbeats 4000000 in
set_option maxRecDepth 100000 in
theorem tX0_settleTurning_L146 {E : Gx} {cI : ClassId} {ad : Nat → Nat} (C : Cx E rmX0_settleTurning cI layX ad 5 RX0 cX0_settleTurning) {out : Mem} (K0 : KV E rmX0_settleTurning cI layX ad 5 cX0_settleTurning out) {l1 : Int32} {l2 : Int32} {σ : Mem} (h : fX0_settleTurning_L146 l1 l2 σ = some out) : G E rmX0_settleTurning cI layX ad 5 146 [(0, .ref (ad 0)), (1, .int l1), (2, .int l2)] [] σ := by
  unfold fX0_settleTurning_L146 at h
  refine g_iload_n 147 C dX0_settleTurning_146 rfl (j := 2) rfl rfl ?_
  refine g_iconst 148 (v := 1) C dX0_settleTurning_147 (by decide) rfl ?_
  refine g_iadd 149 C dX0_settleTurning_148 rfl ?_
  refine g_istore 151 [(4, .int (l2 + 1)), (0, .ref (ad 0)), (1, .int l1), (2, .int l2)] C dX0_settleTurning_149 (by decide) rfl rfl ?_
  obtain ⟨b8, hb, h⟩ := bind_some h
  refine g_sub [1, 2, 3, 0] (g_loop (a := (l2 + 1, σ)) (fun a => G E rmX0_settleTurning cI layX ad 5 151 [(0, .ref (ad 0)), (1, .int l1), (2, .int l2), (4, .int a.1)] [] a.2) (fun b => G E rmX0_settleTurning cI layX ad 5 216 [] [] b) hb (fun a res h K => tX0_settleTurning_B151 (l1 := l1) (l2 := l2) (l4 := a.1) (σ := a.2) (res := res) C K0 h K) ?_) rfl
  show G E rmX0_settleTurning cI layX ad 5 216 [] [] b8
  exact tX0_settleTurning_L216 (σ := b8) C K0 h
noncomputable def fX0_settleTurning_L117 (l1 : Int32) (l2 : Int32) (l3 : Int32) (σ : Mem) : Option (Mem) :=
  chk (inb l3 30) <|
  if (σ 21 l3.toNatClampNeg) = 0 then
    chk (inb l3 31) <|
    (fX0_settleLater l2 l3 (up2 σ 17 l3.toNatClampNeg 0)).bind fun o5 =>
    fX0_settleTurning_L146 l1 l2 o5
  else
    some σ
set_option maxHeartbeats 4000000 in
set_option maxRecDepth 100000 in
theorem tX0_settleTurning_L117 {E : Gx} {cI : ClassId} {ad : Nat → Nat} (C : Cx E rmX0_settleTurning cI layX ad 5 RX0 cX0_settleTurning) {out : Mem} (K0 : KV E rmX0_settleTurning cI layX ad 5 cX0_settleTurning out) {l1 : Int32} {l2 : Int32} {l3 : Int32} {σ : Mem} (h : fX0_settleTurning_L117 l1 l2 l3 σ = some out) : G E rmX0_settleTurning cI layX ad 5 117 [(0, .ref (ad 0)), (1, .int l1), (2, .int l2), (3, .int l3)] [] σ := by
  unfold fX0_settleTurning_L117 at h
  refine g_aload_n 118 C dX0_settleTurning_117 rfl (j := 0) rfl rfl ?_
  refine g_getr 121 (j := 5) C rfl rfl wu_X0 (by decide) wf_X0_21 rfl dX0_settleTurning_118 rfl ?_
  refine g_iload_n 122 C dX0_settleTurning_121 rfl (j := 3) rfl rfl ?_
  refine g_iald 123 C rfl dX0_settleTurning_122 rfl h (fun h => ?_)
  refine g_if_ne 145 126 C dX0_settleTurning_123 (by decide) rfl h (fun h => ?_) (fun h => ?_)
  · refine g_aload_n 127 C dX0_settleTurning_126 rfl (j := 0) rfl rfl ?_
    refine g_getr 130 (j := 1) C rfl rfl wu_X0 (by decide) wf_X0_28 rfl dX0_settleTurning_127 rfl ?_
    refine g_getrN 133 (j := 2) C rfl rfl wu_X1 (by decide) (List.mem_of_getElem? (i := 34) rfl) rfl dX0_settleTurning_130 rfl ?_
    refine g_iload_n 134 C dX0_settleTurning_133 rfl (j := 3) rfl rfl ?_
    refine g_iconst 135 (v := 0) C dX0_settleTurning_134 (by decide) rfl ?_
    refine g_iast 136 C rfl dX0_settleTurning_135 rfl h (fun h => ?_)
    refine g_aload_n 137 C dX0_settleTurning_136 rfl (j := 0) rfl rfl ?_
    refine g_iload_n 138 C dX0_settleTurning_137 rfl (j := 2) rfl rfl ?_
    refine g_iload_n 139 C dX0_settleTurning_138 rfl (j := 3) rfl rfl ?_
    refine g_cvv 142 C (As := [.int l2, .int l3]) (fun _ h => mX0_settleLater (a1 := l2) (a2 := l3) (σ := up2 σ 17 l3.toNatClampNeg 0) h) wl_X0_95 wi_X0_settleLater wz_X0_settleLater wc_X0_settleLater wn_X0 qX0_settleLater rfl rfl ⟨Nat.le_of_ble_eq_true rfl, Nat.le_of_ble_eq_true rfl⟩ rfl rfl rfl rfl (Nat.le_of_ble_eq_true rfl) dX0_settleTurning_139 rfl h (fun o5 h => ?_)
    refine g_goto 146 C dX0_settleTurning_142 (by decide) ?_
    exact g_sub [0, 1, 2] (tX0_settleTurning_L146 (l1 := l1) (l2 := l2) (σ := o5) C K0 h) rfl
  · cases h
    exact K0 _ _ dX0_settleTurning_145
noncomputable def fX0_settleTurning_L54 (l1 : Int32) (l2 : Int32) (σ : Mem) : Option (Mem) :=
  chk (inb l2 30) <|
  chk (inb (σ 10 l2.toNatClampNeg) 30) <|
  if (σ 21 (σ 10 l2.toNatClampNeg).toNatClampNeg) = 1 then
    (fX1_degree (σ 10 l2.toNatClampNeg) σ).bind fun o9 =>
    if 3 ≤ o9.1 then
      fX0_settleTurning_L117 l1 l2 (σ 10 l2.toNatClampNeg) o9.2
    else
      chk (inb l2 30) <|
      (fX1_putAddedUp l2 (o9.2 9 l2.toNatClampNeg) (σ 10 l2.toNatClampNeg) o9.2).bind fun o10 =>
      chk (inb l2 31) <|
      fX0_settleTurning_L146 l1 l2 (up2 o10 17 l2.toNatClampNeg 0)
  else
    fX0_settleTurning_L117 l1 l2 (σ 10 l2.toNatClampNeg) σ
set_option maxHeartbeats 4000000 in
set_option maxRecDepth 100000 in
theorem tX0_settleTurning_L54 {E : Gx} {cI : ClassId} {ad : Nat → Nat} (C : Cx E rmX0_settleTurning cI layX ad 5 RX0 cX0_settleTurning) {out : Mem} (K0 : KV E rmX0_settleTurning cI layX ad 5 cX0_settleTurning out) {l1 : Int32} {l2 : Int32} {σ : Mem} (h : fX0_settleTurning_L54 l1 l2 σ = some out) : G E rmX0_settleTurning cI layX ad 5 54 [(0, .ref (ad 0)), (1, .int l1), (2, .int l2)] [] σ := by
  unfold fX0_settleTurning_L54 at h
  refine g_aload_n 55 C dX0_settleTurning_54 rfl (j := 0) rfl rfl ?_
  refine g_getr 58 (j := 0) C rfl rfl wu_X0 (by decide) wf_X0_24 rfl dX0_settleTurning_55 rfl ?_
  refine g_getrN 61 (j := 3) C rfl rfl wu_X3 (by decide) (List.mem_of_getElem? (i := 11) rfl) rfl dX0_settleTurning_58 rfl ?_
  refine g_iload_n 62 C dX0_settleTurning_61 rfl (j := 2) rfl rfl ?_
  refine g_iald 63 C rfl dX0_settleTurning_62 rfl h (fun h => ?_)
  refine g_istore_n 64 [(3, .int (σ 10 l2.toNatClampNeg)), (0, .ref (ad 0)), (1, .int l1), (2, .int l2)] C dX0_settleTurning_63 rfl (by decide) rfl rfl ?_
  refine g_aload_n 65 C dX0_settleTurning_64 rfl (j := 1) rfl rfl ?_
  refine g_getr 68 (j := 5) C rfl rfl wu_X0 (by decide) wf_X0_21 rfl dX0_settleTurning_65 rfl ?_
  refine g_iload_n 69 C dX0_settleTurning_68 rfl (j := 0) rfl rfl ?_
  refine g_iald 70 C rfl dX0_settleTurning_69 rfl h (fun h => ?_)
  refine g_iconst 71 (v := 1) C dX0_settleTurning_70 (by decide) rfl ?_
  refine g_icmp_ne 117 74 C dX0_settleTurning_71 (by decide) rfl h (fun h => ?_) (fun h => ?_)
  · refine g_aload_n 75 C dX0_settleTurning_74 rfl (j := 1) rfl rfl ?_
    refine g_getr 78 (j := 1) C rfl rfl wu_X0 (by decide) wf_X0_28 rfl dX0_settleTurning_75 rfl ?_
    refine g_iload_n 79 C dX0_settleTurning_78 rfl (j := 0) rfl rfl ?_
    refine g_cni 82 C (As := [.int (σ 10 l2.toNatClampNeg)]) (fun _ h => mX1_degree (a1 := σ 10 l2.toNatClampNeg) (σ := σ) h) (List.mem_of_getElem? (i := 20) rfl) wi_X1_degree wz_X1_degree wc_X1_degree wn_X1 qX1_degree rfl rfl ⟨Nat.le_of_ble_eq_true rfl, Nat.le_of_ble_eq_true rfl⟩ rfl rfl rfl rfl (Nat.le_of_ble_eq_true rfl) dX0_settleTurning_79 rfl h (fun o9 h => ?_)
    refine g_iconst 83 (v := 3) C dX0_settleTurning_82 (by decide) rfl ?_
    refine g_icmp_ge 117 86 C dX0_settleTurning_83 (by decide) rfl h (fun h => ?_) (fun h => ?_)
    · exact g_sub [1, 2, 3, 0] (tX0_settleTurning_L117 (l1 := l1) (l2 := l2) (l3 := (σ 10 l2.toNatClampNeg)) (σ := o9.2) C K0 h) rfl
    · refine g_aload_n 87 C dX0_settleTurning_86 rfl (j := 1) rfl rfl ?_
      refine g_getr 90 (j := 1) C rfl rfl wu_X0 (by decide) wf_X0_28 rfl dX0_settleTurning_87 rfl ?_
      refine g_iload_n 91 C dX0_settleTurning_90 rfl (j := 3) rfl rfl ?_
      refine g_aload_n 92 C dX0_settleTurning_91 rfl (j := 1) rfl rfl ?_
      refine g_getr 95 (j := 0) C rfl rfl wu_X0 (by decide) wf_X0_24 rfl dX0_settleTurning_92 rfl ?_
      refine g_getrN 98 (j := 2) C rfl rfl wu_X3 (by decide) (List.mem_of_getElem? (i := 8) rfl) rfl dX0_settleTurning_95 rfl ?_
      refine g_iload_n 99 C dX0_settleTurning_98 rfl (j := 3) rfl rfl ?_
      refine g_iald 100 C rfl dX0_settleTurning_99 rfl h (fun h => ?_)
      refine g_iload_n 101 C dX0_settleTurning_100 rfl (j := 0) rfl rfl ?_
      refine g_cnv 104 C (As := [.int l2, .int (o9.2 9 l2.toNatClampNeg), .int (σ 10 l2.toNatClampNeg)]) (fun _ h => mX1_putAddedUp (a1 := l2) (a2 := o9.2 9 l2.toNatClampNeg) (a3 := σ 10 l2.toNatClampNeg) (σ := o9.2) h) (List.mem_of_getElem? (i := 21) rfl) wi_X1_putAddedUp wz_X1_putAddedUp wc_X1_putAddedUp wn_X1 qX1_putAddedUp rfl rfl ⟨Nat.le_of_ble_eq_true rfl, Nat.le_of_ble_eq_true rfl⟩ rfl rfl rfl rfl (Nat.le_of_ble_eq_true rfl) dX0_settleTurning_101 rfl h (fun o10 h => ?_)
      refine g_aload_n 105 C dX0_settleTurning_104 rfl (j := 1) rfl rfl ?_
      refine g_getr 108 (j := 1) C rfl rfl wu_X0 (by decide) wf_X0_28 rfl dX0_settleTurning_105 rfl ?_
      refine g_getrN 111 (j := 2) C rfl rfl wu_X1 (by decide) (List.mem_of_getElem? (i := 34) rfl) rfl dX0_settleTurning_108 rfl ?_
      refine g_iload_n 112 C dX0_settleTurning_111 rfl (j := 3) rfl rfl ?_
      refine g_iconst 113 (v := 0) C dX0_settleTurning_112 (by decide) rfl ?_
      refine g_iast 114 C rfl dX0_settleTurning_113 rfl h (fun h => ?_)
      refine g_goto 146 C dX0_settleTurning_114 (by decide) ?_
      exact g_sub [1, 2, 3] (tX0_settleTurning_L146 (l1 := l1) (l2 := l2) (σ := up2 o10 17 l2.toNatClampNeg 0) C K0 h) rfl
  · exact g_sub [1, 2, 3, 0] (tX0_settleTurning_L117 (l1 := l1) (l2 := l2) (l3 := (σ 10 l2.toNatClampNeg)) (σ := σ) C K0 h) rfl
noncomputable def fX0_settleTurning (a1 : Int32) (a2 : Int32) (σ : Mem) : Option (Mem) :=
  (fX1_clear a2 σ).bind fun o1 =>
  chk (inb a2 30) <|
  (loop (fun a => fX0_settleTurning_B19 a1 a2 a.1 a.2) (a2 + 1, up2 o1 21 a2.toNatClampNeg 1)).bind (Sum.elim (fun b4x0 => fX0_settleTurning_L54 a1 a2 b4x0) (fun b4r => some b4r))
set_option maxHeartbeats 4000000 in
set_option maxRecDepth 100000 in
theorem mX0_settleTurning {l : Launch} {D : va_G} {cI : ClassId} {ad : Nat → Nat} {a1 : Int32} {a2 : Int32} {σ : Mem} {out : Mem} (h : fX0_settleTurning a1 a2 σ = some out) : MV l D cI layX ad yX0_settleTurning cX0_settleTurning 5 rmX0_settleTurning [.ref (ad 0), .int a1, .int a2] σ out := by
  refine met_v (by decide) (Nat.le_of_ble_eq_true rfl) (fun E C K0 => ?_)
  show G E rmX0_settleTurning cI layX ad 5 0 [(0, .ref (ad 0)), (1, .int a1), (2, .int a2)] [] σ
  unfold fX0_settleTurning at h
  refine g_aload_n 1 C dX0_settleTurning_0 rfl (j := 0) rfl rfl ?_
  refine g_getr 4 (j := 1) C rfl rfl wu_X0 (by decide) wf_X0_28 rfl dX0_settleTurning_1 rfl ?_
  refine g_iload_n 5 C dX0_settleTurning_4 rfl (j := 2) rfl rfl ?_
  refine g_cnv 8 C (As := [.int a2]) (fun _ h => mX1_clear (a1 := a2) (σ := σ) h) (List.mem_of_getElem? (i := 15) rfl) wi_X1_clear wz_X1_clear wc_X1_clear wn_X1 qX1_clear rfl rfl ⟨Nat.le_of_ble_eq_true rfl, Nat.le_of_ble_eq_true rfl⟩ rfl rfl rfl rfl (Nat.le_of_ble_eq_true rfl) dX0_settleTurning_5 rfl h (fun o1 h => ?_)
  refine g_aload_n 9 C dX0_settleTurning_8 rfl (j := 0) rfl rfl ?_
  refine g_getr 12 (j := 5) C rfl rfl wu_X0 (by decide) wf_X0_21 rfl dX0_settleTurning_9 rfl ?_
  refine g_iload_n 13 C dX0_settleTurning_12 rfl (j := 2) rfl rfl ?_
  refine g_iconst 14 (v := 1) C dX0_settleTurning_13 (by decide) rfl ?_
  refine g_iast 15 C rfl dX0_settleTurning_14 rfl h (fun h => ?_)
  refine g_iload_n 16 C dX0_settleTurning_15 rfl (j := 2) rfl rfl ?_
  refine g_iconst 17 (v := 1) C dX0_settleTurning_16 (by decide) rfl ?_
  refine g_iadd 18 C dX0_settleTurning_17 rfl ?_
  refine g_istore_n 19 [(3, .int (a2 + 1)), (0, .ref (ad 0)), (1, .int a1), (2, .int a2)] C dX0_settleTurning_18 rfl (by decide) rfl rfl ?_
  obtain ⟨b4, hb, h⟩ := bind_some h
  refine g_sub [1, 2, 3, 0] (g_loop (a := (a2 + 1, up2 o1 21 a2.toNatClampNeg 1)) (fun a => G E rmX0_settleTurning cI layX ad 5 19 [(0, .ref (ad 0)), (1, .int a1), (2, .int a2), (3, .int a.1)] [] a.2) (Sum.elim (fun b => G E rmX0_settleTurning cI layX ad 5 54 [(0, .ref (ad 0)), (1, .int a1), (2, .int a2)] [] b) (fun b => b = out)) hb (fun a res h K => tX0_settleTurning_B19 (l1 := a1) (l2 := a2) (l3 := a.1) (σ := a.2) (res := res) C K0 h K) ?_) rfl
  rcases b4 with b4x0 | b4r
  · show G E rmX0_settleTurning cI layX ad 5 54 [(0, .ref (ad 0)), (1, .int a1), (2, .int a2)] [] b4x0
    exact tX0_settleTurning_L54 (l1 := a1) (l2 := a2) (σ := b4x0) C K0 h
  · exact end_top h

/-! LoopReducer$Cycles.settleCycle(I)V -/
abbrev rmX0_settleCycle : Room := { frames := 5, cells := 0, slots := 0, locals := 126 }
theorem qX0_settleCycle : yX0_settleCycle.cls ≠ "java/lang/invoke/MethodHandle" ∧ yX0_settleCycle.cls ≠ "java/lang/invoke/VarHandle" ∧ (parseMethodDescriptor yX0_settleCycle.desc).map (fun d => d.parameters.length) = some 1 := by decide +kernel
theorem DX0_settleCycle : ∀ q ∈ ([(0, .iconst 0, 1), (1, .istore_n 2, 1), (2, .iconst 0, 1), (3, .istore_n 3, 1), (4, .iconst (-1), 1), (5, .istore 4, 2), (7, .iconst 0, 1), (8, .istore 5, 2), (10, .iload 5, 2), (12, .aload_n 0, 1), (13, .getfield 24, 3), (16, .getfield 42, 3), (19, .if_icmp .ge 53, 3), (22, .iload_n 1, 1), (23, .iload 5, 2), (25, .invokestatic 45, 3), (28, .ifCond .eq 38, 3), (31, .aload_n 0, 1), (32, .getfield 28, 3), (35, .getfield 60, 3), (38, .iload 5, 2), (40, .iconst (-1), 1), (41, .iastore, 1), (42, .iinc 2 1, 3), (45, .aload_n 0, 1), (46, .getfield 24, 3), (49, .getfield 65, 3), (52, .iload 5, 2), (54, .iaload, 1), (55, .iconst 5, 1), (56, .if_icmp .ne 10, 3), (59, .iinc 3 1, 3), (62, .iload 5, 2), (64, .istore 4, 2), (66, .iinc 5 1, 3), (69, .goto (-59), 3), (72, .iload_n 3, 1), (73, .iconst 1, 1), (74, .if_icmp .ne 10, 3), (77, .aload_n 0, 1), (78, .iload_n 1, 1), (79, .iload 4, 2), (81, .invokevirtual 68, 3), (84, .aload_n 0, 1), (85, .iload_n 1, 1), (86, .iload_n 3, 1), (87, .iconst 1, 1), (88, .if_icmp .le 12, 3), (91, .iload_n 3, 1), (92, .iload_n 2, 1), (93, .if_icmp .ne 7, 3), (96, .iconst 3, 1), (97, .goto 4, 3), (100, .iconst 4, 1), (101, .invokevirtual 72, 3), (104, .return_, 1)] : List (Nat × Instr × Nat)), decode cX0_settleCycle q.1 = .ok q.2 := by decide +kernel
theorem dX0_settleCycle_0 : decode cX0_settleCycle 0 = .ok (.iconst 0, 1) := DX0_settleCycle (0, .iconst 0, 1) (List.mem_of_getElem? (i := 0) rfl)
theorem dX0_settleCycle_1 : decode cX0_settleCycle 1 = .ok (.istore_n 2, 1) := DX0_settleCycle (1, .istore_n 2, 1) (List.mem_of_getElem? (i := 1) rfl)
theorem dX0_settleCycle_2 : decode cX0_settleCycle 2 = .ok (.iconst 0, 1) := DX0_settleCycle (2, .iconst 0, 1) (List.mem_of_getElem? (i := 2) rfl)
theorem dX0_settleCycle_3 : decode cX0_settleCycle 3 = .ok (.istore_n 3, 1) := DX0_settleCycle (3, .istore_n 3, 1) (List.mem_of_getElem? (i := 3) rfl)
theorem dX0_settleCycle_4 : decode cX0_settleCycle 4 = .ok (.iconst (-1), 1) := DX0_settleCycle (4, .iconst (-1), 1) (List.mem_of_getElem? (i := 4) rfl)
theorem dX0_settleCycle_5 : decode cX0_settleCycle 5 = .ok (.istore 4, 2) := DX0_settleCycle (5, .istore 4, 2) (List.mem_of_getElem? (i := 5) rfl)
theorem dX0_settleCycle_7 : decode cX0_settleCycle 7 = .ok (.iconst 0, 1) := DX0_settleCycle (7, .iconst 0, 1) (List.mem_of_getElem? (i := 6) rfl)
theorem dX0_settleCycle_8 : decode cX0_settleCycle 8 = .ok (.istore 5, 2) := DX0_settleCycle (8, .istore 5, 2) (List.mem_of_getElem? (i := 7) rfl)
theorem dX0_settleCycle_10 : decode cX0_settleCycle 10 = .ok (.iload 5, 2) := DX0_settleCycle (10, .iload 5, 2) (List.mem_of_getElem? (i := 8) rfl)
theorem dX0_settleCycle_12 : decode cX0_settleCycle 12 = .ok (.aload_n 0, 1) := DX0_settleCycle (12, .aload_n 0, 1) (List.mem_of_getElem? (i := 9) rfl)
theorem dX0_settleCycle_13 : decode cX0_settleCycle 13 = .ok (.getfield 24, 3) := DX0_settleCycle (13, .getfield 24, 3) (List.mem_of_getElem? (i := 10) rfl)
theorem dX0_settleCycle_16 : decode cX0_settleCycle 16 = .ok (.getfield 42, 3) := DX0_settleCycle (16, .getfield 42, 3) (List.mem_of_getElem? (i := 11) rfl)
theorem dX0_settleCycle_19 : decode cX0_settleCycle 19 = .ok (.if_icmp .ge 53, 3) := DX0_settleCycle (19, .if_icmp .ge 53, 3) (List.mem_of_getElem? (i := 12) rfl)
theorem dX0_settleCycle_22 : decode cX0_settleCycle 22 = .ok (.iload_n 1, 1) := DX0_settleCycle (22, .iload_n 1, 1) (List.mem_of_getElem? (i := 13) rfl)
theorem dX0_settleCycle_23 : decode cX0_settleCycle 23 = .ok (.iload 5, 2) := DX0_settleCycle (23, .iload 5, 2) (List.mem_of_getElem? (i := 14) rfl)
theorem dX0_settleCycle_25 : decode cX0_settleCycle 25 = .ok (.invokestatic 45, 3) := DX0_settleCycle (25, .invokestatic 45, 3) (List.mem_of_getElem? (i := 15) rfl)
theorem dX0_settleCycle_28 : decode cX0_settleCycle 28 = .ok (.ifCond .eq 38, 3) := DX0_settleCycle (28, .ifCond .eq 38, 3) (List.mem_of_getElem? (i := 16) rfl)
theorem dX0_settleCycle_31 : decode cX0_settleCycle 31 = .ok (.aload_n 0, 1) := DX0_settleCycle (31, .aload_n 0, 1) (List.mem_of_getElem? (i := 17) rfl)
theorem dX0_settleCycle_32 : decode cX0_settleCycle 32 = .ok (.getfield 28, 3) := DX0_settleCycle (32, .getfield 28, 3) (List.mem_of_getElem? (i := 18) rfl)
theorem dX0_settleCycle_35 : decode cX0_settleCycle 35 = .ok (.getfield 60, 3) := DX0_settleCycle (35, .getfield 60, 3) (List.mem_of_getElem? (i := 19) rfl)
theorem dX0_settleCycle_38 : decode cX0_settleCycle 38 = .ok (.iload 5, 2) := DX0_settleCycle (38, .iload 5, 2) (List.mem_of_getElem? (i := 20) rfl)
theorem dX0_settleCycle_40 : decode cX0_settleCycle 40 = .ok (.iconst (-1), 1) := DX0_settleCycle (40, .iconst (-1), 1) (List.mem_of_getElem? (i := 21) rfl)
theorem dX0_settleCycle_41 : decode cX0_settleCycle 41 = .ok (.iastore, 1) := DX0_settleCycle (41, .iastore, 1) (List.mem_of_getElem? (i := 22) rfl)
theorem dX0_settleCycle_42 : decode cX0_settleCycle 42 = .ok (.iinc 2 1, 3) := DX0_settleCycle (42, .iinc 2 1, 3) (List.mem_of_getElem? (i := 23) rfl)
theorem dX0_settleCycle_45 : decode cX0_settleCycle 45 = .ok (.aload_n 0, 1) := DX0_settleCycle (45, .aload_n 0, 1) (List.mem_of_getElem? (i := 24) rfl)
theorem dX0_settleCycle_46 : decode cX0_settleCycle 46 = .ok (.getfield 24, 3) := DX0_settleCycle (46, .getfield 24, 3) (List.mem_of_getElem? (i := 25) rfl)
theorem dX0_settleCycle_49 : decode cX0_settleCycle 49 = .ok (.getfield 65, 3) := DX0_settleCycle (49, .getfield 65, 3) (List.mem_of_getElem? (i := 26) rfl)
theorem dX0_settleCycle_52 : decode cX0_settleCycle 52 = .ok (.iload 5, 2) := DX0_settleCycle (52, .iload 5, 2) (List.mem_of_getElem? (i := 27) rfl)
theorem dX0_settleCycle_54 : decode cX0_settleCycle 54 = .ok (.iaload, 1) := DX0_settleCycle (54, .iaload, 1) (List.mem_of_getElem? (i := 28) rfl)
theorem dX0_settleCycle_55 : decode cX0_settleCycle 55 = .ok (.iconst 5, 1) := DX0_settleCycle (55, .iconst 5, 1) (List.mem_of_getElem? (i := 29) rfl)
theorem dX0_settleCycle_56 : decode cX0_settleCycle 56 = .ok (.if_icmp .ne 10, 3) := DX0_settleCycle (56, .if_icmp .ne 10, 3) (List.mem_of_getElem? (i := 30) rfl)
theorem dX0_settleCycle_59 : decode cX0_settleCycle 59 = .ok (.iinc 3 1, 3) := DX0_settleCycle (59, .iinc 3 1, 3) (List.mem_of_getElem? (i := 31) rfl)
theorem dX0_settleCycle_62 : decode cX0_settleCycle 62 = .ok (.iload 5, 2) := DX0_settleCycle (62, .iload 5, 2) (List.mem_of_getElem? (i := 32) rfl)
theorem dX0_settleCycle_64 : decode cX0_settleCycle 64 = .ok (.istore 4, 2) := DX0_settleCycle (64, .istore 4, 2) (List.mem_of_getElem? (i := 33) rfl)
theorem dX0_settleCycle_66 : decode cX0_settleCycle 66 = .ok (.iinc 5 1, 3) := DX0_settleCycle (66, .iinc 5 1, 3) (List.mem_of_getElem? (i := 34) rfl)
theorem dX0_settleCycle_69 : decode cX0_settleCycle 69 = .ok (.goto (-59), 3) := DX0_settleCycle (69, .goto (-59), 3) (List.mem_of_getElem? (i := 35) rfl)
theorem dX0_settleCycle_72 : decode cX0_settleCycle 72 = .ok (.iload_n 3, 1) := DX0_settleCycle (72, .iload_n 3, 1) (List.mem_of_getElem? (i := 36) rfl)
theorem dX0_settleCycle_73 : decode cX0_settleCycle 73 = .ok (.iconst 1, 1) := DX0_settleCycle (73, .iconst 1, 1) (List.mem_of_getElem? (i := 37) rfl)
theorem dX0_settleCycle_74 : decode cX0_settleCycle 74 = .ok (.if_icmp .ne 10, 3) := DX0_settleCycle (74, .if_icmp .ne 10, 3) (List.mem_of_getElem? (i := 38) rfl)
theorem dX0_settleCycle_77 : decode cX0_settleCycle 77 = .ok (.aload_n 0, 1) := DX0_settleCycle (77, .aload_n 0, 1) (List.mem_of_getElem? (i := 39) rfl)
theorem dX0_settleCycle_78 : decode cX0_settleCycle 78 = .ok (.iload_n 1, 1) := DX0_settleCycle (78, .iload_n 1, 1) (List.mem_of_getElem? (i := 40) rfl)
theorem dX0_settleCycle_79 : decode cX0_settleCycle 79 = .ok (.iload 4, 2) := DX0_settleCycle (79, .iload 4, 2) (List.mem_of_getElem? (i := 41) rfl)
theorem dX0_settleCycle_81 : decode cX0_settleCycle 81 = .ok (.invokevirtual 68, 3) := DX0_settleCycle (81, .invokevirtual 68, 3) (List.mem_of_getElem? (i := 42) rfl)
theorem dX0_settleCycle_84 : decode cX0_settleCycle 84 = .ok (.aload_n 0, 1) := DX0_settleCycle (84, .aload_n 0, 1) (List.mem_of_getElem? (i := 43) rfl)
theorem dX0_settleCycle_85 : decode cX0_settleCycle 85 = .ok (.iload_n 1, 1) := DX0_settleCycle (85, .iload_n 1, 1) (List.mem_of_getElem? (i := 44) rfl)
theorem dX0_settleCycle_86 : decode cX0_settleCycle 86 = .ok (.iload_n 3, 1) := DX0_settleCycle (86, .iload_n 3, 1) (List.mem_of_getElem? (i := 45) rfl)
theorem dX0_settleCycle_87 : decode cX0_settleCycle 87 = .ok (.iconst 1, 1) := DX0_settleCycle (87, .iconst 1, 1) (List.mem_of_getElem? (i := 46) rfl)
theorem dX0_settleCycle_88 : decode cX0_settleCycle 88 = .ok (.if_icmp .le 12, 3) := DX0_settleCycle (88, .if_icmp .le 12, 3) (List.mem_of_getElem? (i := 47) rfl)
theorem dX0_settleCycle_91 : decode cX0_settleCycle 91 = .ok (.iload_n 3, 1) := DX0_settleCycle (91, .iload_n 3, 1) (List.mem_of_getElem? (i := 48) rfl)
theorem dX0_settleCycle_92 : decode cX0_settleCycle 92 = .ok (.iload_n 2, 1) := DX0_settleCycle (92, .iload_n 2, 1) (List.mem_of_getElem? (i := 49) rfl)
theorem dX0_settleCycle_93 : decode cX0_settleCycle 93 = .ok (.if_icmp .ne 7, 3) := DX0_settleCycle (93, .if_icmp .ne 7, 3) (List.mem_of_getElem? (i := 50) rfl)
theorem dX0_settleCycle_96 : decode cX0_settleCycle 96 = .ok (.iconst 3, 1) := DX0_settleCycle (96, .iconst 3, 1) (List.mem_of_getElem? (i := 51) rfl)
theorem dX0_settleCycle_97 : decode cX0_settleCycle 97 = .ok (.goto 4, 3) := DX0_settleCycle (97, .goto 4, 3) (List.mem_of_getElem? (i := 52) rfl)
theorem dX0_settleCycle_100 : decode cX0_settleCycle 100 = .ok (.iconst 4, 1) := DX0_settleCycle (100, .iconst 4, 1) (List.mem_of_getElem? (i := 53) rfl)
theorem dX0_settleCycle_101 : decode cX0_settleCycle 101 = .ok (.invokevirtual 72, 3) := DX0_settleCycle (101, .invokevirtual 72, 3) (List.mem_of_getElem? (i := 54) rfl)
theorem dX0_settleCycle_104 : decode cX0_settleCycle 104 = .ok (.return_, 1) := DX0_settleCycle (104, .return_, 1) (List.mem_of_getElem? (i := 55) rfl)
noncomputable def fX0_settleCycle_L66 (l1 : Int32) (l2 : Int32) (l3 : Int32) (l4 : Int32) (l5 : Int32) (σ : Mem) : Option ((Int32 × Int32 × Int32 × Int32 × Mem) ⊕ (Int32 × Int32 × Int32 × Mem)) :=
  some (.inl (l2, l3, l4, l5 + 1, σ))
set_option maxHeartbeats 4000000 in
set_option maxRecDepth 100000 in
theorem tX0_settleCycle_L66 {E : Gx} {cI : ClassId} {ad : Nat → Nat} (C : Cx E rmX0_settleCycle cI layX ad 6 RX0 cX0_settleCycle) {out : Mem} (K0 : KV E rmX0_settleCycle cI layX ad 6 cX0_settleCycle out) {l1 : Int32} {l2 : Int32} {l3 : Int32} {l4 : Int32} {l5 : Int32} {σ : Mem} {res : (Int32 × Int32 × Int32 × Int32 × Mem) ⊕ (Int32 × Int32 × Int32 × Mem)} (h : fX0_settleCycle_L66 l1 l2 l3 l4 l5 σ = some res) (K : Sum.elim (fun a => G E rmX0_settleCycle cI layX ad 6 10 [(0, .ref (ad 0)), (1, .int l1), (2, .int a.1), (3, .int a.2.1), (4, .int a.2.2.1), (5, .int a.2.2.2.1)] [] a.2.2.2.2) (fun b => G E rmX0_settleCycle cI layX ad 6 72 [(0, .ref (ad 0)), (1, .int l1), (2, .int b.1), (3, .int b.2.1), (4, .int b.2.2.1)] [] b.2.2.2) res) : G E rmX0_settleCycle cI layX ad 6 66 [(0, .ref (ad 0)), (1, .int l1), (2, .int l2), (3, .int l3), (4, .int l4), (5, .int l5)] [] σ := by
  unfold fX0_settleCycle_L66 at h
  refine g_iinc 69 [(5, .int (l5 + 1)), (0, .ref (ad 0)), (1, .int l1), (2, .int l2), (3, .int l3), (4, .int l4)] C dX0_settleCycle_66 (j := 5) rfl (by rfl) (by decide) rfl rfl ?_
  refine g_goto 10 C dX0_settleCycle_69 (by decide) ?_
  have hh := end_inl h K
  exact g_sub [1, 2, 3, 4, 5, 0] (hh) rfl
noncomputable def fX0_settleCycle_B10 (l1 : Int32) (l2 : Int32) (l3 : Int32) (l4 : Int32) (l5 : Int32) (σ : Mem) : Option ((Int32 × Int32 × Int32 × Int32 × Mem) ⊕ (Int32 × Int32 × Int32 × Mem)) :=
  if (σ 3 4) ≤ l5 then
    some (.inr (l2, l3, l4, σ))
  else
    (fX7_isIn l1 l5 σ).bind fun o1 =>
    if o1.1 = 0 then
      fX0_settleCycle_L66 l1 l2 l3 l4 l5 o1.2
    else
      chk (inb l5 31) <|
      chk (inb l5 30) <|
      if ((up2 o1.2 17 l5.toNatClampNeg (-1)) 8 l5.toNatClampNeg) = 5 then
        fX0_settleCycle_L66 l1 (l2 + 1) (l3 + 1) l5 l5 (up2 o1.2 17 l5.toNatClampNeg (-1))
      else
        fX0_settleCycle_L66 l1 (l2 + 1) l3 l4 l5 (up2 o1.2 17 l5.toNatClampNeg (-1))
set_option maxHeartbeats 4000000 in
set_option maxRecDepth 100000 in
theorem tX0_settleCycle_B10 {E : Gx} {cI : ClassId} {ad : Nat → Nat} (C : Cx E rmX0_settleCycle cI layX ad 6 RX0 cX0_settleCycle) {out : Mem} (K0 : KV E rmX0_settleCycle cI layX ad 6 cX0_settleCycle out) {l1 : Int32} {l2 : Int32} {l3 : Int32} {l4 : Int32} {l5 : Int32} {σ : Mem} {res : (Int32 × Int32 × Int32 × Int32 × Mem) ⊕ (Int32 × Int32 × Int32 × Mem)} (h : fX0_settleCycle_B10 l1 l2 l3 l4 l5 σ = some res) (K : Sum.elim (fun a => G E rmX0_settleCycle cI layX ad 6 10 [(0, .ref (ad 0)), (1, .int l1), (2, .int a.1), (3, .int a.2.1), (4, .int a.2.2.1), (5, .int a.2.2.2.1)] [] a.2.2.2.2) (fun b => G E rmX0_settleCycle cI layX ad 6 72 [(0, .ref (ad 0)), (1, .int l1), (2, .int b.1), (3, .int b.2.1), (4, .int b.2.2.1)] [] b.2.2.2) res) : G E rmX0_settleCycle cI layX ad 6 10 [(0, .ref (ad 0)), (1, .int l1), (2, .int l2), (3, .int l3), (4, .int l4), (5, .int l5)] [] σ := by
  unfold fX0_settleCycle_B10 at h
  refine g_iload 12 C dX0_settleCycle_10 (j := 5) rfl rfl ?_
  refine g_aload_n 13 C dX0_settleCycle_12 rfl (j := 0) rfl rfl ?_
  refine g_getr 16 (j := 0) C rfl rfl wu_X0 (by decide) wf_X0_24 rfl dX0_settleCycle_13 rfl ?_
  refine g_getiN 19 (j := 4) C rfl rfl wu_X3 (by decide) (List.mem_of_getElem? (i := 13) rfl) rfl dX0_settleCycle_16 rfl ?_
  refine g_icmp_ge 72 22 C dX0_settleCycle_19 (by decide) rfl h (fun h => ?_) (fun h => ?_)
  · have hh := end_inr h K
    exact g_sub [0, 1, 2, 3, 4] (hh) rfl
  · refine g_iload_n 23 C dX0_settleCycle_22 rfl (j := 1) rfl rfl ?_
    refine g_iload 25 C dX0_settleCycle_23 (j := 5) rfl rfl ?_
    refine g_cti 28 C (As := [.int l1, .int l5]) (fun _ h => mX7_isIn (a1 := l1) (a2 := l5) (σ := σ) h) (List.mem_of_getElem? (i := 14) rfl) ws_X7_isIn wc_X7_isIn wn_X7 qX7_isIn rfl rfl ⟨Nat.le_of_ble_eq_true rfl, Nat.le_of_ble_eq_true rfl⟩ rfl rfl (Nat.le_of_ble_eq_true rfl) dX0_settleCycle_25 rfl h (fun o1 h => ?_)
    refine g_if_eq 66 31 C dX0_settleCycle_28 (by decide) rfl h (fun h => ?_) (fun h => ?_)
    · exact tX0_settleCycle_L66 (l1 := l1) (l2 := l2) (l3 := l3) (l4 := l4) (l5 := l5) (σ := o1.2) C K0 h K
    · refine g_aload_n 32 C dX0_settleCycle_31 rfl (j := 0) rfl rfl ?_
      refine g_getr 35 (j := 1) C rfl rfl wu_X0 (by decide) wf_X0_28 rfl dX0_settleCycle_32 rfl ?_
      refine g_getrN 38 (j := 2) C rfl rfl wu_X1 (by decide) (List.mem_of_getElem? (i := 34) rfl) rfl dX0_settleCycle_35 rfl ?_
      refine g_iload 40 C dX0_settleCycle_38 (j := 5) rfl rfl ?_
      refine g_iconst 41 (v := (-1)) C dX0_settleCycle_40 (by decide) rfl ?_
      refine g_iast 42 C rfl dX0_settleCycle_41 rfl h (fun h => ?_)
      refine g_iinc 45 [(2, .int (l2 + 1)), (0, .ref (ad 0)), (1, .int l1), (3, .int l3), (4, .int l4), (5, .int l5)] C dX0_settleCycle_42 (j := 2) rfl (by rfl) (by decide) rfl rfl ?_
      refine g_aload_n 46 C dX0_settleCycle_45 rfl (j := 1) rfl rfl ?_
      refine g_getr 49 (j := 0) C rfl rfl wu_X0 (by decide) wf_X0_24 rfl dX0_settleCycle_46 rfl ?_
      refine g_getrN 52 (j := 1) C rfl rfl wu_X3 (by decide) (List.mem_of_getElem? (i := 5) rfl) rfl dX0_settleCycle_49 rfl ?_
      refine g_iload 54 C dX0_settleCycle_52 (j := 5) rfl rfl ?_
      refine g_iald 55 C rfl dX0_settleCycle_54 rfl h (fun h => ?_)
      refine g_iconst 56 (v := 5) C dX0_settleCycle_55 (by decide) rfl ?_
      refine g_icmp_ne 66 59 C dX0_settleCycle_56 (by decide) rfl h (fun h => ?_) (fun h => ?_)
      · refine g_iinc 62 [(3, .int (l3 + 1)), (2, .int (l2 + 1)), (0, .ref (ad 0)), (1, .int l1), (4, .int l4), (5, .int l5)] C dX0_settleCycle_59 (j := 3) rfl (by rfl) (by decide) rfl rfl ?_
        refine g_iload 64 C dX0_settleCycle_62 (j := 5) rfl rfl ?_
        refine g_istore 66 [(4, .int l5), (3, .int (l3 + 1)), (2, .int (l2 + 1)), (0, .ref (ad 0)), (1, .int l1), (5, .int l5)] C dX0_settleCycle_64 (by decide) rfl rfl ?_
        exact g_sub [3, 4, 2, 1, 0, 5] (tX0_settleCycle_L66 (l1 := l1) (l2 := (l2 + 1)) (l3 := (l3 + 1)) (l4 := l5) (l5 := l5) (σ := up2 o1.2 17 l5.toNatClampNeg (-1)) C K0 h K) rfl
      · exact g_sub [1, 2, 0, 3, 4, 5] (tX0_settleCycle_L66 (l1 := l1) (l2 := (l2 + 1)) (l3 := l3) (l4 := l4) (l5 := l5) (σ := up2 o1.2 17 l5.toNatClampNeg (-1)) C K0 h K) rfl
noncomputable def fX0_settleCycle_L101 (s1 : Int32) (s2 : Int32) (σ : Mem) : Option (Mem) :=
  (fX0_setKinds s1 s2 σ).bind fun o3 =>
  some o3
set_option maxHeartbeats 4000000 in
set_option maxRecDepth 100000 in
theorem tX0_settleCycle_L101 {E : Gx} {cI : ClassId} {ad : Nat → Nat} (C : Cx E rmX0_settleCycle cI layX ad 6 RX0 cX0_settleCycle) {out : Mem} (K0 : KV E rmX0_settleCycle cI layX ad 6 cX0_settleCycle out) {s1 : Int32} {s2 : Int32} {σ : Mem} (h : fX0_settleCycle_L101 s1 s2 σ = some out) : G E rmX0_settleCycle cI layX ad 6 101 [] [.int s2, .int s1, .ref (ad 0)] σ := by
  unfold fX0_settleCycle_L101 at h
  refine g_cvv 104 C (As := [.int s1, .int s2]) (fun _ h => mX0_setKinds (a1 := s1) (a2 := s2) (σ := σ) h) wl_X0_72 wi_X0_setKinds wz_X0_setKinds wc_X0_setKinds wn_X0 qX0_setKinds rfl rfl ⟨Nat.le_of_ble_eq_true rfl, Nat.le_of_ble_eq_true rfl⟩ rfl rfl rfl rfl (Nat.le_of_ble_eq_true rfl) dX0_settleCycle_101 rfl h (fun o3 h => ?_)
  cases h
  exact K0 _ _ dX0_settleCycle_104
noncomputable def fX0_settleCycle_L100 (s1 : Int32) (σ : Mem) : Option (Mem) :=
  fX0_settleCycle_L101 s1 4 σ
set_option maxHeartbeats 4000000 in
set_option maxRecDepth 100000 in
theorem tX0_settleCycle_L100 {E : Gx} {cI : ClassId} {ad : Nat → Nat} (C : Cx E rmX0_settleCycle cI layX ad 6 RX0 cX0_settleCycle) {out : Mem} (K0 : KV E rmX0_settleCycle cI layX ad 6 cX0_settleCycle out) {s1 : Int32} {σ : Mem} (h : fX0_settleCycle_L100 s1 σ = some out) : G E rmX0_settleCycle cI layX ad 6 100 [] [.int s1, .ref (ad 0)] σ := by
  unfold fX0_settleCycle_L100 at h
  refine g_iconst 101 (v := 4) C dX0_settleCycle_100 (by decide) rfl ?_
  exact tX0_settleCycle_L101 (s1 := s1) (s2 := 4) (σ := σ) C K0 h
noncomputable def fX0_settleCycle_L84 (l1 : Int32) (l2 : Int32) (l3 : Int32) (σ : Mem) : Option (Mem) :=
  if l3 ≤ 1 then
    fX0_settleCycle_L100 l1 σ
  else
    if l3 = l2 then
      fX0_settleCycle_L101 l1 3 σ
    else
      fX0_settleCycle_L100 l1 σ
set_option maxHeartbeats 4000000 in
set_option maxRecDepth 100000 in
theorem tX0_settleCycle_L84 {E : Gx} {cI : ClassId} {ad : Nat → Nat} (C : Cx E rmX0_settleCycle cI layX ad 6 RX0 cX0_settleCycle) {out : Mem} (K0 : KV E rmX0_settleCycle cI layX ad 6 cX0_settleCycle out) {l1 : Int32} {l2 : Int32} {l3 : Int32} {σ : Mem} (h : fX0_settleCycle_L84 l1 l2 l3 σ = some out) : G E rmX0_settleCycle cI layX ad 6 84 [(0, .ref (ad 0)), (1, .int l1), (2, .int l2), (3, .int l3)] [] σ := by
  unfold fX0_settleCycle_L84 at h
  refine g_aload_n 85 C dX0_settleCycle_84 rfl (j := 0) rfl rfl ?_
  refine g_iload_n 86 C dX0_settleCycle_85 rfl (j := 1) rfl rfl ?_
  refine g_iload_n 87 C dX0_settleCycle_86 rfl (j := 3) rfl rfl ?_
  refine g_iconst 88 (v := 1) C dX0_settleCycle_87 (by decide) rfl ?_
  refine g_icmp_le 100 91 C dX0_settleCycle_88 (by decide) rfl h (fun h => ?_) (fun h => ?_)
  · exact g_sub [] (tX0_settleCycle_L100 (s1 := l1) (σ := σ) C K0 h) rfl
  · refine g_iload_n 92 C dX0_settleCycle_91 rfl (j := 3) rfl rfl ?_
    refine g_iload_n 93 C dX0_settleCycle_92 rfl (j := 2) rfl rfl ?_
    refine g_icmp_ne 100 96 C dX0_settleCycle_93 (by decide) rfl h (fun h => ?_) (fun h => ?_)
    · refine g_iconst 97 (v := 3) C dX0_settleCycle_96 (by decide) rfl ?_
      refine g_goto 101 C dX0_settleCycle_97 (by decide) ?_
      exact g_sub [] (tX0_settleCycle_L101 (s1 := l1) (s2 := 3) (σ := σ) C K0 h) rfl
    · exact g_sub [] (tX0_settleCycle_L100 (s1 := l1) (σ := σ) C K0 h) rfl
noncomputable def fX0_settleCycle_L72 (l1 : Int32) (l2 : Int32) (l3 : Int32) (l4 : Int32) (σ : Mem) : Option (Mem) :=
  if l3 = 1 then
    (fX0_settleTurning l1 l4 σ).bind fun o4 =>
    fX0_settleCycle_L84 l1 l2 l3 o4
  else
    fX0_settleCycle_L84 l1 l2 l3 σ
set_option maxHeartbeats 4000000 in
set_option maxRecDepth 100000 in
theorem tX0_settleCycle_L72 {E : Gx} {cI : ClassId} {ad : Nat → Nat} (C : Cx E rmX0_settleCycle cI layX ad 6 RX0 cX0_settleCycle) {out : Mem} (K0 : KV E rmX0_settleCycle cI layX ad 6 cX0_settleCycle out) {l1 : Int32} {l2 : Int32} {l3 : Int32} {l4 : Int32} {σ : Mem} (h : fX0_settleCycle_L72 l1 l2 l3 l4 σ = some out) : G E rmX0_settleCycle cI layX ad 6 72 [(0, .ref (ad 0)), (1, .int l1), (2, .int l2), (3, .int l3), (4, .int l4)] [] σ := by
  unfold fX0_settleCycle_L72 at h
  refine g_iload_n 73 C dX0_settleCycle_72 rfl (j := 3) rfl rfl ?_
  refine g_iconst 74 (v := 1) C dX0_settleCycle_73 (by decide) rfl ?_
  refine g_icmp_ne 84 77 C dX0_settleCycle_74 (by decide) rfl h (fun h => ?_) (fun h => ?_)
  · refine g_aload_n 78 C dX0_settleCycle_77 rfl (j := 0) rfl rfl ?_
    refine g_iload_n 79 C dX0_settleCycle_78 rfl (j := 1) rfl rfl ?_
    refine g_iload 81 C dX0_settleCycle_79 (j := 4) rfl rfl ?_
    refine g_cvv 84 C (As := [.int l1, .int l4]) (fun _ h => mX0_settleTurning (a1 := l1) (a2 := l4) (σ := σ) h) wl_X0_68 wi_X0_settleTurning wz_X0_settleTurning wc_X0_settleTurning wn_X0 qX0_settleTurning rfl rfl ⟨Nat.le_of_ble_eq_true rfl, Nat.le_of_ble_eq_true rfl⟩ rfl rfl rfl rfl (Nat.le_of_ble_eq_true rfl) dX0_settleCycle_81 rfl h (fun o4 h => ?_)
    exact g_sub [0, 1, 2, 3] (tX0_settleCycle_L84 (l1 := l1) (l2 := l2) (l3 := l3) (σ := o4) C K0 h) rfl
  · exact g_sub [0, 1, 2, 3] (tX0_settleCycle_L84 (l1 := l1) (l2 := l2) (l3 := l3) (σ := σ) C K0 h) rfl
noncomputable def fX0_settleCycle (a1 : Int32) (σ : Mem) : Option (Mem) :=
  (loop (fun a => fX0_settleCycle_B10 a1 a.1 a.2.1 a.2.2.1 a.2.2.2.1 a.2.2.2.2) (0, 0, (-1), 0, σ)).bind fun b2 =>
  fX0_settleCycle_L72 a1 b2.1 b2.2.1 b2.2.2.1 b2.2.2.2
set_option maxHeartbeats 4000000 in
set_option maxRecDepth 100000 in
theorem mX0_settleCycle {l : Launch} {D : va_G} {cI : ClassId} {ad : Nat → Nat} {a1 : Int32} {σ : Mem} {out : Mem} (h : fX0_settleCycle a1 σ = some out) : MV l D cI layX ad yX0_settleCycle cX0_settleCycle 6 rmX0_settleCycle [.ref (ad 0), .int a1] σ out := by
  refine met_v (by decide) (Nat.le_of_ble_eq_true rfl) (fun E C K0 => ?_)
  show G E rmX0_settleCycle cI layX ad 6 0 [(0, .ref (ad 0)), (1, .int a1)] [] σ
  unfold fX0_settleCycle at h
  refine g_iconst 1 (v := 0) C dX0_settleCycle_0 (by decide) rfl ?_
  refine g_istore_n 2 [(2, .int 0), (0, .ref (ad 0)), (1, .int a1)] C dX0_settleCycle_1 rfl (by decide) rfl rfl ?_
  refine g_iconst 3 (v := 0) C dX0_settleCycle_2 (by decide) rfl ?_
  refine g_istore_n 4 [(3, .int 0), (2, .int 0), (0, .ref (ad 0)), (1, .int a1)] C dX0_settleCycle_3 rfl (by decide) rfl rfl ?_
  refine g_iconst 5 (v := (-1)) C dX0_settleCycle_4 (by decide) rfl ?_
  refine g_istore 7 [(4, .int (-1)), (3, .int 0), (2, .int 0), (0, .ref (ad 0)), (1, .int a1)] C dX0_settleCycle_5 (by decide) rfl rfl ?_
  refine g_iconst 8 (v := 0) C dX0_settleCycle_7 (by decide) rfl ?_
  refine g_istore 10 [(5, .int 0), (4, .int (-1)), (3, .int 0), (2, .int 0), (0, .ref (ad 0)), (1, .int a1)] C dX0_settleCycle_8 (by decide) rfl rfl ?_
  obtain ⟨b2, hb, h⟩ := bind_some h
  refine g_sub [4, 5, 3, 2, 1, 0] (g_loop (a := (0, 0, (-1), 0, σ)) (fun a => G E rmX0_settleCycle cI layX ad 6 10 [(0, .ref (ad 0)), (1, .int a1), (2, .int a.1), (3, .int a.2.1), (4, .int a.2.2.1), (5, .int a.2.2.2.1)] [] a.2.2.2.2) (fun b => G E rmX0_settleCycle cI layX ad 6 72 [(0, .ref (ad 0)), (1, .int a1), (2, .int b.1), (3, .int b.2.1), (4, .int b.2.2.1)] [] b.2.2.2) hb (fun a res h K => tX0_settleCycle_B10 (l1 := a1) (l2 := a.1) (l3 := a.2.1) (l4 := a.2.2.1) (l5 := a.2.2.2.1) (σ := a.2.2.2.2) (res := res) C K0 h K) ?_) rfl
  show G E rmX0_settleCycle cI layX ad 6 72 [(0, .ref (ad 0)), (1, .int a1), (2, .int b2.1), (3, .int b2.2.1), (4, .int b2.2.2.1)] [] b2.2.2.2
  exact tX0_settleCycle_L72 (l1 := a1) (l2 := b2.1) (l3 := b2.2.1) (l4 := b2.2.2.1) (σ := b2.2.2.2) C K0 h

/-! LoopReducer$Cycles.settleAlone(I)V -/
abbrev rmX0_settleAlone : Room := { frames := 4, cells := 0, slots := 0, locals := 105 }
theorem qX0_settleAlone : yX0_settleAlone.cls ≠ "java/lang/invoke/MethodHandle" ∧ yX0_settleAlone.cls ≠ "java/lang/invoke/VarHandle" ∧ (parseMethodDescriptor yX0_settleAlone.desc).map (fun d => d.parameters.length) = some 1 := by decide +kernel
theorem DX0_settleAlone : ∀ q ∈ ([(0, .aload_n 0, 1), (1, .getfield 28, 3), (4, .getfield 60, 3), (7, .iload_n 1, 1), (8, .iconst (-1), 1), (9, .iastore, 1), (10, .aload_n 0, 1), (11, .getfield 24, 3), (14, .getfield 65, 3), (17, .iload_n 1, 1), (18, .iaload, 1), (19, .lookupswitch 115 #[(0, 33), (1, 64), (5, 98)], 33), (52, .aload_n 0, 1), (53, .getfield 28, 3), (56, .iload_n 1, 1), (57, .iconst 0, 1), (58, .aload_n 0, 1), (59, .getfield 24, 3), (62, .getfield 82, 3), (65, .iload_n 1, 1), (66, .iaload, 1), (67, .invokevirtual 85, 3), (70, .aload_n 0, 1), (71, .getfield 28, 3), (74, .getfield 60, 3), (77, .iload_n 1, 1), (78, .iconst 0, 1), (79, .iastore, 1), (80, .goto 77, 3), (83, .aload_n 0, 1), (84, .getfield 28, 3), (87, .iload_n 1, 1), (88, .aload_n 0, 1), (89, .getfield 24, 3), (92, .getfield 82, 3), (95, .iload_n 1, 1), (96, .iaload, 1), (97, .invokestatic 89, 3), (100, .iconst 1, 1), (101, .invokevirtual 85, 3), (104, .aload_n 0, 1), (105, .getfield 28, 3), (108, .getfield 60, 3), (111, .iload_n 1, 1), (112, .iconst 0, 1), (113, .iastore, 1), (114, .goto 43, 3), (117, .aload_n 0, 1), (118, .iload_n 1, 1), (119, .aload_n 0, 1), (120, .getfield 24, 3), (123, .getfield 92, 3), (126, .iload_n 1, 1), (127, .iaload, 1), (128, .invokevirtual 95, 3), (131, .goto 26, 3), (134, .aload_n 0, 1), (135, .iload_n 1, 1), (136, .aload_n 0, 1), (137, .getfield 24, 3), (140, .getfield 82, 3), (143, .iload_n 1, 1), (144, .iaload, 1), (145, .aload_n 0, 1), (146, .getfield 24, 3), (149, .getfield 92, 3), (152, .iload_n 1, 1), (153, .iaload, 1), (154, .invokevirtual 98, 3), (157, .aload_n 0, 1), (158, .iconst 1, 1), (159, .iload_n 1, 1), (160, .ishl, 1), (161, .iconst 4, 1), (162, .invokevirtual 72, 3), (165, .return_, 1)] : List (Nat × Instr × Nat)), decode cX0_settleAlone q.1 = .ok q.2 := by decide +kernel
theorem dX0_settleAlone_0 : decode cX0_settleAlone 0 = .ok (.aload_n 0, 1) := DX0_settleAlone (0, .aload_n 0, 1) (List.mem_of_getElem? (i := 0) rfl)
theorem dX0_settleAlone_1 : decode cX0_settleAlone 1 = .ok (.getfield 28, 3) := DX0_settleAlone (1, .getfield 28, 3) (List.mem_of_getElem? (i := 1) rfl)
theorem dX0_settleAlone_4 : decode cX0_settleAlone 4 = .ok (.getfield 60, 3) := DX0_settleAlone (4, .getfield 60, 3) (List.mem_of_getElem? (i := 2) rfl)
theorem dX0_settleAlone_7 : decode cX0_settleAlone 7 = .ok (.iload_n 1, 1) := DX0_settleAlone (7, .iload_n 1, 1) (List.mem_of_getElem? (i := 3) rfl)
theorem dX0_settleAlone_8 : decode cX0_settleAlone 8 = .ok (.iconst (-1), 1) := DX0_settleAlone (8, .iconst (-1), 1) (List.mem_of_getElem? (i := 4) rfl)
theorem dX0_settleAlone_9 : decode cX0_settleAlone 9 = .ok (.iastore, 1) := DX0_settleAlone (9, .iastore, 1) (List.mem_of_getElem? (i := 5) rfl)
theorem dX0_settleAlone_10 : decode cX0_settleAlone 10 = .ok (.aload_n 0, 1) := DX0_settleAlone (10, .aload_n 0, 1) (List.mem_of_getElem? (i := 6) rfl)
theorem dX0_settleAlone_11 : decode cX0_settleAlone 11 = .ok (.getfield 24, 3) := DX0_settleAlone (11, .getfield 24, 3) (List.mem_of_getElem? (i := 7) rfl)
theorem dX0_settleAlone_14 : decode cX0_settleAlone 14 = .ok (.getfield 65, 3) := DX0_settleAlone (14, .getfield 65, 3) (List.mem_of_getElem? (i := 8) rfl)
theorem dX0_settleAlone_17 : decode cX0_settleAlone 17 = .ok (.iload_n 1, 1) := DX0_settleAlone (17, .iload_n 1, 1) (List.mem_of_getElem? (i := 9) rfl)
theorem dX0_settleAlone_18 : decode cX0_settleAlone 18 = .ok (.iaload, 1) := DX0_settleAlone (18, .iaload, 1) (List.mem_of_getElem? (i := 10) rfl)
theorem dX0_settleAlone_19 : decode cX0_settleAlone 19 = .ok (.lookupswitch 115 #[(0, 33), (1, 64), (5, 98)], 33) := DX0_settleAlone (19, .lookupswitch 115 #[(0, 33), (1, 64), (5, 98)], 33) (List.mem_of_getElem? (i := 11) rfl)
theorem dX0_settleAlone_52 : decode cX0_settleAlone 52 = .ok (.aload_n 0, 1) := DX0_settleAlone (52, .aload_n 0, 1) (List.mem_of_getElem? (i := 12) rfl)
theorem dX0_settleAlone_53 : decode cX0_settleAlone 53 = .ok (.getfield 28, 3) := DX0_settleAlone (53, .getfield 28, 3) (List.mem_of_getElem? (i := 13) rfl)
theorem dX0_settleAlone_56 : decode cX0_settleAlone 56 = .ok (.iload_n 1, 1) := DX0_settleAlone (56, .iload_n 1, 1) (List.mem_of_getElem? (i := 14) rfl)
theorem dX0_settleAlone_57 : decode cX0_settleAlone 57 = .ok (.iconst 0, 1) := DX0_settleAlone (57, .iconst 0, 1) (List.mem_of_getElem? (i := 15) rfl)
theorem dX0_settleAlone_58 : decode cX0_settleAlone 58 = .ok (.aload_n 0, 1) := DX0_settleAlone (58, .aload_n 0, 1) (List.mem_of_getElem? (i := 16) rfl)
theorem dX0_settleAlone_59 : decode cX0_settleAlone 59 = .ok (.getfield 24, 3) := DX0_settleAlone (59, .getfield 24, 3) (List.mem_of_getElem? (i := 17) rfl)
theorem dX0_settleAlone_62 : decode cX0_settleAlone 62 = .ok (.getfield 82, 3) := DX0_settleAlone (62, .getfield 82, 3) (List.mem_of_getElem? (i := 18) rfl)
theorem dX0_settleAlone_65 : decode cX0_settleAlone 65 = .ok (.iload_n 1, 1) := DX0_settleAlone (65, .iload_n 1, 1) (List.mem_of_getElem? (i := 19) rfl)
theorem dX0_settleAlone_66 : decode cX0_settleAlone 66 = .ok (.iaload, 1) := DX0_settleAlone (66, .iaload, 1) (List.mem_of_getElem? (i := 20) rfl)
theorem dX0_settleAlone_67 : decode cX0_settleAlone 67 = .ok (.invokevirtual 85, 3) := DX0_settleAlone (67, .invokevirtual 85, 3) (List.mem_of_getElem? (i := 21) rfl)
theorem dX0_settleAlone_70 : decode cX0_settleAlone 70 = .ok (.aload_n 0, 1) := DX0_settleAlone (70, .aload_n 0, 1) (List.mem_of_getElem? (i := 22) rfl)
theorem dX0_settleAlone_71 : decode cX0_settleAlone 71 = .ok (.getfield 28, 3) := DX0_settleAlone (71, .getfield 28, 3) (List.mem_of_getElem? (i := 23) rfl)
theorem dX0_settleAlone_74 : decode cX0_settleAlone 74 = .ok (.getfield 60, 3) := DX0_settleAlone (74, .getfield 60, 3) (List.mem_of_getElem? (i := 24) rfl)
theorem dX0_settleAlone_77 : decode cX0_settleAlone 77 = .ok (.iload_n 1, 1) := DX0_settleAlone (77, .iload_n 1, 1) (List.mem_of_getElem? (i := 25) rfl)
theorem dX0_settleAlone_78 : decode cX0_settleAlone 78 = .ok (.iconst 0, 1) := DX0_settleAlone (78, .iconst 0, 1) (List.mem_of_getElem? (i := 26) rfl)
theorem dX0_settleAlone_79 : decode cX0_settleAlone 79 = .ok (.iastore, 1) := DX0_settleAlone (79, .iastore, 1) (List.mem_of_getElem? (i := 27) rfl)
theorem dX0_settleAlone_80 : decode cX0_settleAlone 80 = .ok (.goto 77, 3) := DX0_settleAlone (80, .goto 77, 3) (List.mem_of_getElem? (i := 28) rfl)
theorem dX0_settleAlone_83 : decode cX0_settleAlone 83 = .ok (.aload_n 0, 1) := DX0_settleAlone (83, .aload_n 0, 1) (List.mem_of_getElem? (i := 29) rfl)
theorem dX0_settleAlone_84 : decode cX0_settleAlone 84 = .ok (.getfield 28, 3) := DX0_settleAlone (84, .getfield 28, 3) (List.mem_of_getElem? (i := 30) rfl)
theorem dX0_settleAlone_87 : decode cX0_settleAlone 87 = .ok (.iload_n 1, 1) := DX0_settleAlone (87, .iload_n 1, 1) (List.mem_of_getElem? (i := 31) rfl)
theorem dX0_settleAlone_88 : decode cX0_settleAlone 88 = .ok (.aload_n 0, 1) := DX0_settleAlone (88, .aload_n 0, 1) (List.mem_of_getElem? (i := 32) rfl)
theorem dX0_settleAlone_89 : decode cX0_settleAlone 89 = .ok (.getfield 24, 3) := DX0_settleAlone (89, .getfield 24, 3) (List.mem_of_getElem? (i := 33) rfl)
theorem dX0_settleAlone_92 : decode cX0_settleAlone 92 = .ok (.getfield 82, 3) := DX0_settleAlone (92, .getfield 82, 3) (List.mem_of_getElem? (i := 34) rfl)
theorem dX0_settleAlone_95 : decode cX0_settleAlone 95 = .ok (.iload_n 1, 1) := DX0_settleAlone (95, .iload_n 1, 1) (List.mem_of_getElem? (i := 35) rfl)
theorem dX0_settleAlone_96 : decode cX0_settleAlone 96 = .ok (.iaload, 1) := DX0_settleAlone (96, .iaload, 1) (List.mem_of_getElem? (i := 36) rfl)
theorem dX0_settleAlone_97 : decode cX0_settleAlone 97 = .ok (.invokestatic 89, 3) := DX0_settleAlone (97, .invokestatic 89, 3) (List.mem_of_getElem? (i := 37) rfl)
theorem dX0_settleAlone_100 : decode cX0_settleAlone 100 = .ok (.iconst 1, 1) := DX0_settleAlone (100, .iconst 1, 1) (List.mem_of_getElem? (i := 38) rfl)
theorem dX0_settleAlone_101 : decode cX0_settleAlone 101 = .ok (.invokevirtual 85, 3) := DX0_settleAlone (101, .invokevirtual 85, 3) (List.mem_of_getElem? (i := 39) rfl)
theorem dX0_settleAlone_104 : decode cX0_settleAlone 104 = .ok (.aload_n 0, 1) := DX0_settleAlone (104, .aload_n 0, 1) (List.mem_of_getElem? (i := 40) rfl)
theorem dX0_settleAlone_105 : decode cX0_settleAlone 105 = .ok (.getfield 28, 3) := DX0_settleAlone (105, .getfield 28, 3) (List.mem_of_getElem? (i := 41) rfl)
theorem dX0_settleAlone_108 : decode cX0_settleAlone 108 = .ok (.getfield 60, 3) := DX0_settleAlone (108, .getfield 60, 3) (List.mem_of_getElem? (i := 42) rfl)
theorem dX0_settleAlone_111 : decode cX0_settleAlone 111 = .ok (.iload_n 1, 1) := DX0_settleAlone (111, .iload_n 1, 1) (List.mem_of_getElem? (i := 43) rfl)
theorem dX0_settleAlone_112 : decode cX0_settleAlone 112 = .ok (.iconst 0, 1) := DX0_settleAlone (112, .iconst 0, 1) (List.mem_of_getElem? (i := 44) rfl)
theorem dX0_settleAlone_113 : decode cX0_settleAlone 113 = .ok (.iastore, 1) := DX0_settleAlone (113, .iastore, 1) (List.mem_of_getElem? (i := 45) rfl)
theorem dX0_settleAlone_114 : decode cX0_settleAlone 114 = .ok (.goto 43, 3) := DX0_settleAlone (114, .goto 43, 3) (List.mem_of_getElem? (i := 46) rfl)
theorem dX0_settleAlone_117 : decode cX0_settleAlone 117 = .ok (.aload_n 0, 1) := DX0_settleAlone (117, .aload_n 0, 1) (List.mem_of_getElem? (i := 47) rfl)
theorem dX0_settleAlone_118 : decode cX0_settleAlone 118 = .ok (.iload_n 1, 1) := DX0_settleAlone (118, .iload_n 1, 1) (List.mem_of_getElem? (i := 48) rfl)
theorem dX0_settleAlone_119 : decode cX0_settleAlone 119 = .ok (.aload_n 0, 1) := DX0_settleAlone (119, .aload_n 0, 1) (List.mem_of_getElem? (i := 49) rfl)
theorem dX0_settleAlone_120 : decode cX0_settleAlone 120 = .ok (.getfield 24, 3) := DX0_settleAlone (120, .getfield 24, 3) (List.mem_of_getElem? (i := 50) rfl)
theorem dX0_settleAlone_123 : decode cX0_settleAlone 123 = .ok (.getfield 92, 3) := DX0_settleAlone (123, .getfield 92, 3) (List.mem_of_getElem? (i := 51) rfl)
theorem dX0_settleAlone_126 : decode cX0_settleAlone 126 = .ok (.iload_n 1, 1) := DX0_settleAlone (126, .iload_n 1, 1) (List.mem_of_getElem? (i := 52) rfl)
theorem dX0_settleAlone_127 : decode cX0_settleAlone 127 = .ok (.iaload, 1) := DX0_settleAlone (127, .iaload, 1) (List.mem_of_getElem? (i := 53) rfl)
theorem dX0_settleAlone_128 : decode cX0_settleAlone 128 = .ok (.invokevirtual 95, 3) := DX0_settleAlone (128, .invokevirtual 95, 3) (List.mem_of_getElem? (i := 54) rfl)
theorem dX0_settleAlone_131 : decode cX0_settleAlone 131 = .ok (.goto 26, 3) := DX0_settleAlone (131, .goto 26, 3) (List.mem_of_getElem? (i := 55) rfl)
theorem dX0_settleAlone_134 : decode cX0_settleAlone 134 = .ok (.aload_n 0, 1) := DX0_settleAlone (134, .aload_n 0, 1) (List.mem_of_getElem? (i := 56) rfl)
theorem dX0_settleAlone_135 : decode cX0_settleAlone 135 = .ok (.iload_n 1, 1) := DX0_settleAlone (135, .iload_n 1, 1) (List.mem_of_getElem? (i := 57) rfl)
theorem dX0_settleAlone_136 : decode cX0_settleAlone 136 = .ok (.aload_n 0, 1) := DX0_settleAlone (136, .aload_n 0, 1) (List.mem_of_getElem? (i := 58) rfl)
theorem dX0_settleAlone_137 : decode cX0_settleAlone 137 = .ok (.getfield 24, 3) := DX0_settleAlone (137, .getfield 24, 3) (List.mem_of_getElem? (i := 59) rfl)
theorem dX0_settleAlone_140 : decode cX0_settleAlone 140 = .ok (.getfield 82, 3) := DX0_settleAlone (140, .getfield 82, 3) (List.mem_of_getElem? (i := 60) rfl)
theorem dX0_settleAlone_143 : decode cX0_settleAlone 143 = .ok (.iload_n 1, 1) := DX0_settleAlone (143, .iload_n 1, 1) (List.mem_of_getElem? (i := 61) rfl)
theorem dX0_settleAlone_144 : decode cX0_settleAlone 144 = .ok (.iaload, 1) := DX0_settleAlone (144, .iaload, 1) (List.mem_of_getElem? (i := 62) rfl)
theorem dX0_settleAlone_145 : decode cX0_settleAlone 145 = .ok (.aload_n 0, 1) := DX0_settleAlone (145, .aload_n 0, 1) (List.mem_of_getElem? (i := 63) rfl)
theorem dX0_settleAlone_146 : decode cX0_settleAlone 146 = .ok (.getfield 24, 3) := DX0_settleAlone (146, .getfield 24, 3) (List.mem_of_getElem? (i := 64) rfl)
theorem dX0_settleAlone_149 : decode cX0_settleAlone 149 = .ok (.getfield 92, 3) := DX0_settleAlone (149, .getfield 92, 3) (List.mem_of_getElem? (i := 65) rfl)
theorem dX0_settleAlone_152 : decode cX0_settleAlone 152 = .ok (.iload_n 1, 1) := DX0_settleAlone (152, .iload_n 1, 1) (List.mem_of_getElem? (i := 66) rfl)
theorem dX0_settleAlone_153 : decode cX0_settleAlone 153 = .ok (.iaload, 1) := DX0_settleAlone (153, .iaload, 1) (List.mem_of_getElem? (i := 67) rfl)
theorem dX0_settleAlone_154 : decode cX0_settleAlone 154 = .ok (.invokevirtual 98, 3) := DX0_settleAlone (154, .invokevirtual 98, 3) (List.mem_of_getElem? (i := 68) rfl)
theorem dX0_settleAlone_157 : decode cX0_settleAlone 157 = .ok (.aload_n 0, 1) := DX0_settleAlone (157, .aload_n 0, 1) (List.mem_of_getElem? (i := 69) rfl)
theorem dX0_settleAlone_158 : decode cX0_settleAlone 158 = .ok (.iconst 1, 1) := DX0_settleAlone (158, .iconst 1, 1) (List.mem_of_getElem? (i := 70) rfl)
theorem dX0_settleAlone_159 : decode cX0_settleAlone 159 = .ok (.iload_n 1, 1) := DX0_settleAlone (159, .iload_n 1, 1) (List.mem_of_getElem? (i := 71) rfl)
theorem dX0_settleAlone_160 : decode cX0_settleAlone 160 = .ok (.ishl, 1) := DX0_settleAlone (160, .ishl, 1) (List.mem_of_getElem? (i := 72) rfl)
theorem dX0_settleAlone_161 : decode cX0_settleAlone 161 = .ok (.iconst 4, 1) := DX0_settleAlone (161, .iconst 4, 1) (List.mem_of_getElem? (i := 73) rfl)
theorem dX0_settleAlone_162 : decode cX0_settleAlone 162 = .ok (.invokevirtual 72, 3) := DX0_settleAlone (162, .invokevirtual 72, 3) (List.mem_of_getElem? (i := 74) rfl)
theorem dX0_settleAlone_165 : decode cX0_settleAlone 165 = .ok (.return_, 1) := DX0_settleAlone (165, .return_, 1) (List.mem_of_getElem? (i := 75) rfl)
noncomputable def fX0_settleAlone_L157 (l1 : Int32) (σ : Mem) : Option (Mem) :=
  (fX0_setKinds (1 <<< (l1 &&& 31)) 4 σ).bind fun o2 =>
  some o2
set_option maxHeartbeats 4000000 in
set_option maxRecDepth 100000 in
theorem tX0_settleAlone_L157 {E : Gx} {cI : ClassId} {ad : Nat → Nat} (C : Cx E rmX0_settleAlone cI layX ad 2 RX0 cX0_settleAlone) {out : Mem} (K0 : KV E rmX0_settleAlone cI layX ad 2 cX0_settleAlone out) {l1 : Int32} {σ : Mem} (h : fX0_settleAlone_L157 l1 σ = some out) : G E rmX0_settleAlone cI layX ad 2 157 [(0, .ref (ad 0)), (1, .int l1)] [] σ := by
  unfold fX0_settleAlone_L157 at h
  refine g_aload_n 158 C dX0_settleAlone_157 rfl (j := 0) rfl rfl ?_
  refine g_iconst 159 (v := 1) C dX0_settleAlone_158 (by decide) rfl ?_
  refine g_iload_n 160 C dX0_settleAlone_159 rfl (j := 1) rfl rfl ?_
  refine g_ishl 161 C dX0_settleAlone_160 rfl ?_
  refine g_iconst 162 (v := 4) C dX0_settleAlone_161 (by decide) rfl ?_
  refine g_cvv 165 C (As := [.int (1 <<< (l1 &&& 31)), .int 4]) (fun _ h => mX0_setKinds (a1 := 1 <<< (l1 &&& 31)) (a2 := 4) (σ := σ) h) wl_X0_72 wi_X0_setKinds wz_X0_setKinds wc_X0_setKinds wn_X0 qX0_setKinds rfl rfl ⟨Nat.le_of_ble_eq_true rfl, Nat.le_of_ble_eq_true rfl⟩ rfl rfl rfl rfl (Nat.le_of_ble_eq_true rfl) dX0_settleAlone_162 rfl h (fun o2 h => ?_)
  cases h
  exact K0 _ _ dX0_settleAlone_165
noncomputable def fX0_settleAlone (a1 : Int32) (σ : Mem) : Option (Mem) :=
  chk (inb a1 31) <|
  chk (inb a1 30) <|
  if ((up2 σ 17 a1.toNatClampNeg (-1)) 8 a1.toNatClampNeg) = 0 then
    chk (inb a1 30) <|
    (fX1_putOne a1 0 ((up2 σ 17 a1.toNatClampNeg (-1)) 9 a1.toNatClampNeg) (up2 σ 17 a1.toNatClampNeg (-1))).bind fun o1 =>
    chk (inb a1 31) <|
    fX0_settleAlone_L157 a1 (up2 o1 17 a1.toNatClampNeg 0)
  else if ((up2 σ 17 a1.toNatClampNeg (-1)) 8 a1.toNatClampNeg) = 1 then
    chk (inb a1 30) <|
    (fX0_codeOfInput ((up2 σ 17 a1.toNatClampNeg (-1)) 9 a1.toNatClampNeg) (up2 σ 17 a1.toNatClampNeg (-1))).bind fun o3 =>
    (fX1_putOne a1 o3.1 1 o3.2).bind fun o4 =>
    chk (inb a1 31) <|
    fX0_settleAlone_L157 a1 (up2 o4 17 a1.toNatClampNeg 0)
  else if ((up2 σ 17 a1.toNatClampNeg (-1)) 8 a1.toNatClampNeg) = 5 then
    chk (inb a1 30) <|
    (fX0_settleLater a1 ((up2 σ 17 a1.toNatClampNeg (-1)) 10 a1.toNatClampNeg) (up2 σ 17 a1.toNatClampNeg (-1))).bind fun o5 =>
    fX0_settleAlone_L157 a1 o5
  else chk (inb a1 30) <|
  chk (inb a1 30) <|
  (fX0_settleMade a1 ((up2 σ 17 a1.toNatClampNeg (-1)) 9 a1.toNatClampNeg) ((up2 σ 17 a1.toNatClampNeg (-1)) 10 a1.toNatClampNeg) (up2 σ 17 a1.toNatClampNeg (-1))).bind fun o6 =>
  fX0_settleAlone_L157 a1 o6
set_option maxHeartbeats 4000000 in
set_option maxRecDepth 100000 in
theorem mX0_settleAlone {l : Launch} {D : va_G} {cI : ClassId} {ad : Nat → Nat} {a1 : Int32} {σ : Mem} {out : Mem} (h : fX0_settleAlone a1 σ = some out) : MV l D cI layX ad yX0_settleAlone cX0_settleAlone 2 rmX0_settleAlone [.ref (ad 0), .int a1] σ out := by
  refine met_v (by decide) (Nat.le_of_ble_eq_true rfl) (fun E C K0 => ?_)
  show G E rmX0_settleAlone cI layX ad 2 0 [(0, .ref (ad 0)), (1, .int a1)] [] σ
  unfold fX0_settleAlone at h
  refine g_aload_n 1 C dX0_settleAlone_0 rfl (j := 0) rfl rfl ?_
  refine g_getr 4 (j := 1) C rfl rfl wu_X0 (by decide) wf_X0_28 rfl dX0_settleAlone_1 rfl ?_
  refine g_getrN 7 (j := 2) C rfl rfl wu_X1 (by decide) (List.mem_of_getElem? (i := 34) rfl) rfl dX0_settleAlone_4 rfl ?_
  refine g_iload_n 8 C dX0_settleAlone_7 rfl (j := 1) rfl rfl ?_
  refine g_iconst 9 (v := (-1)) C dX0_settleAlone_8 (by decide) rfl ?_
  refine g_iast 10 C rfl dX0_settleAlone_9 rfl h (fun h => ?_)
  refine g_aload_n 11 C dX0_settleAlone_10 rfl (j := 0) rfl rfl ?_
  refine g_getr 14 (j := 0) C rfl rfl wu_X0 (by decide) wf_X0_24 rfl dX0_settleAlone_11 rfl ?_
  refine g_getrN 17 (j := 1) C rfl rfl wu_X3 (by decide) (List.mem_of_getElem? (i := 5) rfl) rfl dX0_settleAlone_14 rfl ?_
  refine g_iload_n 18 C dX0_settleAlone_17 rfl (j := 1) rfl rfl ?_
  refine g_iald 19 C rfl dX0_settleAlone_18 rfl h (fun h => ?_)
  by_cases c0 : ((up2 σ 17 a1.toNatClampNeg (-1)) 8 a1.toNatClampNeg) = 0
  · rw [if_pos c0] at h
    refine g_lswC 52 (off := 33) C dX0_settleAlone_19 c0 (by decide) (by decide) (by decide) ?_
    refine g_aload_n 53 C dX0_settleAlone_52 rfl (j := 0) rfl rfl ?_
    refine g_getr 56 (j := 1) C rfl rfl wu_X0 (by decide) wf_X0_28 rfl dX0_settleAlone_53 rfl ?_
    refine g_iload_n 57 C dX0_settleAlone_56 rfl (j := 1) rfl rfl ?_
    refine g_iconst 58 (v := 0) C dX0_settleAlone_57 (by decide) rfl ?_
    refine g_aload_n 59 C dX0_settleAlone_58 rfl (j := 0) rfl rfl ?_
    refine g_getr 62 (j := 0) C rfl rfl wu_X0 (by decide) wf_X0_24 rfl dX0_settleAlone_59 rfl ?_
    refine g_getrN 65 (j := 2) C rfl rfl wu_X3 (by decide) (List.mem_of_getElem? (i := 8) rfl) rfl dX0_settleAlone_62 rfl ?_
    refine g_iload_n 66 C dX0_settleAlone_65 rfl (j := 1) rfl rfl ?_
    refine g_iald 67 C rfl dX0_settleAlone_66 rfl h (fun h => ?_)
    refine g_cnv 70 C (As := [.int a1, .int 0, .int ((up2 σ 17 a1.toNatClampNeg (-1)) 9 a1.toNatClampNeg)]) (fun _ h => mX1_putOne (a1 := a1) (a2 := 0) (a3 := (up2 σ 17 a1.toNatClampNeg (-1)) 9 a1.toNatClampNeg) (σ := up2 σ 17 a1.toNatClampNeg (-1)) h) (List.mem_of_getElem? (i := 26) rfl) wi_X1_putOne wz_X1_putOne wc_X1_putOne wn_X1 qX1_putOne rfl rfl ⟨Nat.le_of_ble_eq_true rfl, Nat.le_of_ble_eq_true rfl⟩ rfl rfl rfl rfl (Nat.le_of_ble_eq_true rfl) dX0_settleAlone_67 rfl h (fun o1 h => ?_)
    refine g_aload_n 71 C dX0_settleAlone_70 rfl (j := 0) rfl rfl ?_
    refine g_getr 74 (j := 1) C rfl rfl wu_X0 (by decide) wf_X0_28 rfl dX0_settleAlone_71 rfl ?_
    refine g_getrN 77 (j := 2) C rfl rfl wu_X1 (by decide) (List.mem_of_getElem? (i := 34) rfl) rfl dX0_settleAlone_74 rfl ?_
    refine g_iload_n 78 C dX0_settleAlone_77 rfl (j := 1) rfl rfl ?_
    refine g_iconst 79 (v := 0) C dX0_settleAlone_78 (by decide) rfl ?_
    refine g_iast 80 C rfl dX0_settleAlone_79 rfl h (fun h => ?_)
    refine g_goto 157 C dX0_settleAlone_80 (by decide) ?_
    exact tX0_settleAlone_L157 (l1 := a1) (σ := up2 o1 17 a1.toNatClampNeg 0) C K0 h
  rw [if_neg c0] at h
  by_cases c1 : ((up2 σ 17 a1.toNatClampNeg (-1)) 8 a1.toNatClampNeg) = 1
  · rw [if_pos c1] at h
    refine g_lswC 83 (off := 64) C dX0_settleAlone_19 c1 (by decide) (by decide) (by decide) ?_
    refine g_aload_n 84 C dX0_settleAlone_83 rfl (j := 0) rfl rfl ?_
    refine g_getr 87 (j := 1) C rfl rfl wu_X0 (by decide) wf_X0_28 rfl dX0_settleAlone_84 rfl ?_
    refine g_iload_n 88 C dX0_settleAlone_87 rfl (j := 1) rfl rfl ?_
    refine g_aload_n 89 C dX0_settleAlone_88 rfl (j := 0) rfl rfl ?_
    refine g_getr 92 (j := 0) C rfl rfl wu_X0 (by decide) wf_X0_24 rfl dX0_settleAlone_89 rfl ?_
    refine g_getrN 95 (j := 2) C rfl rfl wu_X3 (by decide) (List.mem_of_getElem? (i := 8) rfl) rfl dX0_settleAlone_92 rfl ?_
    refine g_iload_n 96 C dX0_settleAlone_95 rfl (j := 1) rfl rfl ?_
    refine g_iald 97 C rfl dX0_settleAlone_96 rfl h (fun h => ?_)
    refine g_csi 100 C (As := [.int ((up2 σ 17 a1.toNatClampNeg (-1)) 9 a1.toNatClampNeg)]) (fun _ h => mX0_codeOfInput (a1 := (up2 σ 17 a1.toNatClampNeg (-1)) 9 a1.toNatClampNeg) (σ := up2 σ 17 a1.toNatClampNeg (-1)) h) wl_X0_89 ws_X0_codeOfInput wc_X0_codeOfInput wn_X0 qX0_codeOfInput rfl rfl ⟨Nat.le_of_ble_eq_true rfl, Nat.le_of_ble_eq_true rfl⟩ rfl rfl (Nat.le_of_ble_eq_true rfl) dX0_settleAlone_97 rfl h (fun o3 h => ?_)
    refine g_iconst 101 (v := 1) C dX0_settleAlone_100 (by decide) rfl ?_
    refine g_cnv 104 C (As := [.int a1, .int o3.1, .int 1]) (fun _ h => mX1_putOne (a1 := a1) (a2 := o3.1) (a3 := 1) (σ := o3.2) h) (List.mem_of_getElem? (i := 26) rfl) wi_X1_putOne wz_X1_putOne wc_X1_putOne wn_X1 qX1_putOne rfl rfl ⟨Nat.le_of_ble_eq_true rfl, Nat.le_of_ble_eq_true rfl⟩ rfl rfl rfl rfl (Nat.le_of_ble_eq_true rfl) dX0_settleAlone_101 rfl h (fun o4 h => ?_)
    refine g_aload_n 105 C dX0_settleAlone_104 rfl (j := 0) rfl rfl ?_
    refine g_getr 108 (j := 1) C rfl rfl wu_X0 (by decide) wf_X0_28 rfl dX0_settleAlone_105 rfl ?_
    refine g_getrN 111 (j := 2) C rfl rfl wu_X1 (by decide) (List.mem_of_getElem? (i := 34) rfl) rfl dX0_settleAlone_108 rfl ?_
    refine g_iload_n 112 C dX0_settleAlone_111 rfl (j := 1) rfl rfl ?_
    refine g_iconst 113 (v := 0) C dX0_settleAlone_112 (by decide) rfl ?_
    refine g_iast 114 C rfl dX0_settleAlone_113 rfl h (fun h => ?_)
    refine g_goto 157 C dX0_settleAlone_114 (by decide) ?_
    exact tX0_settleAlone_L157 (l1 := a1) (σ := up2 o4 17 a1.toNatClampNeg 0) C K0 h
  rw [if_neg c1] at h
  by_cases c5 : ((up2 σ 17 a1.toNatClampNeg (-1)) 8 a1.toNatClampNeg) = 5
  · rw [if_pos c5] at h
    refine g_lswC 117 (off := 98) C dX0_settleAlone_19 c5 (by decide) (by decide) (by decide) ?_
    refine g_aload_n 118 C dX0_settleAlone_117 rfl (j := 0) rfl rfl ?_
    refine g_iload_n 119 C dX0_settleAlone_118 rfl (j := 1) rfl rfl ?_
    refine g_aload_n 120 C dX0_settleAlone_119 rfl (j := 0) rfl rfl ?_
    refine g_getr 123 (j := 0) C rfl rfl wu_X0 (by decide) wf_X0_24 rfl dX0_settleAlone_120 rfl ?_
    refine g_getrN 126 (j := 3) C rfl rfl wu_X3 (by decide) (List.mem_of_getElem? (i := 11) rfl) rfl dX0_settleAlone_123 rfl ?_
    refine g_iload_n 127 C dX0_settleAlone_126 rfl (j := 1) rfl rfl ?_
    refine g_iald 128 C rfl dX0_settleAlone_127 rfl h (fun h => ?_)
    refine g_cvv 131 C (As := [.int a1, .int ((up2 σ 17 a1.toNatClampNeg (-1)) 10 a1.toNatClampNeg)]) (fun _ h => mX0_settleLater (a1 := a1) (a2 := (up2 σ 17 a1.toNatClampNeg (-1)) 10 a1.toNatClampNeg) (σ := up2 σ 17 a1.toNatClampNeg (-1)) h) wl_X0_95 wi_X0_settleLater wz_X0_settleLater wc_X0_settleLater wn_X0 qX0_settleLater rfl rfl ⟨Nat.le_of_ble_eq_true rfl, Nat.le_of_ble_eq_true rfl⟩ rfl rfl rfl rfl (Nat.le_of_ble_eq_true rfl) dX0_settleAlone_128 rfl h (fun o5 h => ?_)
    refine g_goto 157 C dX0_settleAlone_131 (by decide) ?_
    exact tX0_settleAlone_L157 (l1 := a1) (σ := o5) C K0 h
  rw [if_neg c5] at h
  have n0 : ¬ (0 : Int) = ((up2 σ 17 a1.toNatClampNeg (-1)) 8 a1.toNatClampNeg).toInt := fun e => ne_toInt c0 (e.symm.trans (by decide))
  have n1 : ¬ (1 : Int) = ((up2 σ 17 a1.toNatClampNeg (-1)) 8 a1.toNatClampNeg).toInt := fun e => ne_toInt c1 (e.symm.trans (by decide))
  have n5 : ¬ (5 : Int) = ((up2 σ 17 a1.toNatClampNeg (-1)) 8 a1.toNatClampNeg).toInt := fun e => ne_toInt c5 (e.symm.trans (by decide))
  refine g_lswD 134 C dX0_settleAlone_19 (by decide) (by simp only [Op.lookupswitch.offset]; rw [if_neg n0, if_neg n1, if_neg n5]) (by decide) ?_
  refine g_aload_n 135 C dX0_settleAlone_134 rfl (j := 0) rfl rfl ?_
  refine g_iload_n 136 C dX0_settleAlone_135 rfl (j := 1) rfl rfl ?_
  refine g_aload_n 137 C dX0_settleAlone_136 rfl (j := 0) rfl rfl ?_
  refine g_getr 140 (j := 0) C rfl rfl wu_X0 (by decide) wf_X0_24 rfl dX0_settleAlone_137 rfl ?_
  refine g_getrN 143 (j := 2) C rfl rfl wu_X3 (by decide) (List.mem_of_getElem? (i := 8) rfl) rfl dX0_settleAlone_140 rfl ?_
  refine g_iload_n 144 C dX0_settleAlone_143 rfl (j := 1) rfl rfl ?_
  refine g_iald 145 C rfl dX0_settleAlone_144 rfl h (fun h => ?_)
  refine g_aload_n 146 C dX0_settleAlone_145 rfl (j := 0) rfl rfl ?_
  refine g_getr 149 (j := 0) C rfl rfl wu_X0 (by decide) wf_X0_24 rfl dX0_settleAlone_146 rfl ?_
  refine g_getrN 152 (j := 3) C rfl rfl wu_X3 (by decide) (List.mem_of_getElem? (i := 11) rfl) rfl dX0_settleAlone_149 rfl ?_
  refine g_iload_n 153 C dX0_settleAlone_152 rfl (j := 1) rfl rfl ?_
  refine g_iald 154 C rfl dX0_settleAlone_153 rfl h (fun h => ?_)
  refine g_cvv 157 C (As := [.int a1, .int ((up2 σ 17 a1.toNatClampNeg (-1)) 9 a1.toNatClampNeg), .int ((up2 σ 17 a1.toNatClampNeg (-1)) 10 a1.toNatClampNeg)]) (fun _ h => mX0_settleMade (a1 := a1) (a2 := (up2 σ 17 a1.toNatClampNeg (-1)) 9 a1.toNatClampNeg) (a3 := (up2 σ 17 a1.toNatClampNeg (-1)) 10 a1.toNatClampNeg) (σ := up2 σ 17 a1.toNatClampNeg (-1)) h) wl_X0_98 wi_X0_settleMade wz_X0_settleMade wc_X0_settleMade wn_X0 qX0_settleMade rfl rfl ⟨Nat.le_of_ble_eq_true rfl, Nat.le_of_ble_eq_true rfl⟩ rfl rfl rfl rfl (Nat.le_of_ble_eq_true rfl) dX0_settleAlone_154 rfl h (fun o6 h => ?_)
  exact tX0_settleAlone_L157 (l1 := a1) (σ := o6) C K0 h

/-! LoopReducer$Cycles.refresh()V -/
abbrev rmX0_refresh : Room := { frames := 6, cells := 0, slots := 0, locals := 151 }
theorem qX0_refresh : yX0_refresh.cls ≠ "java/lang/invoke/MethodHandle" ∧ yX0_refresh.cls ≠ "java/lang/invoke/VarHandle" ∧ (parseMethodDescriptor yX0_refresh.desc).map (fun d => d.parameters.length) = some 0 := by decide +kernel
theorem DX0_refresh : ∀ q ∈ ([(0, .aload_n 0, 1), (1, .getfield 32, 3), (4, .aload_n 0, 1), (5, .getfield 24, 3), (8, .getfield 36, 3), (11, .if_icmp .ne 4, 3), (14, .return_, 1), (15, .aload_n 0, 1), (16, .aload_n 0, 1), (17, .getfield 24, 3), (20, .getfield 36, 3), (23, .putfield 32, 3), (26, .aload_n 0, 1), (27, .invokevirtual 39, 3), (30, .iconst 0, 1), (31, .istore_n 1, 1), (32, .iconst 0, 1), (33, .istore_n 2, 1), (34, .iload_n 2, 1), (35, .aload_n 0, 1), (36, .getfield 24, 3), (39, .getfield 42, 3), (42, .if_icmp .ge 117, 3), (45, .iload_n 1, 1), (46, .iconst 1, 1), (47, .aload_n 0, 1), (48, .getfield 24, 3), (51, .getfield 42, 3), (54, .ishl, 1), (55, .iconst 1, 1), (56, .isub, 1), (57, .if_icmp .eq 102, 3), (60, .iconst 0, 1), (61, .istore_n 3, 1), (62, .iload_n 3, 1), (63, .aload_n 0, 1), (64, .getfield 24, 3), (67, .getfield 42, 3), (70, .if_icmp .ge 83, 3), (73, .aload_n 0, 1), (74, .getfield 9, 3), (77, .iload_n 3, 1), (78, .iaload, 1), (79, .aload_n 0, 1), (80, .getfield 15, 3), (83, .iload_n 3, 1), (84, .iaload, 1), (85, .iconst (-1), 1), (86, .ixor, 1), (87, .iand, 1), (88, .istore 4, 2), (90, .iload_n 1, 1), (91, .iload_n 3, 1), (92, .invokestatic 45, 3), (95, .ifCond .ne 52, 3), (98, .iload 4, 2), (100, .iload_n 1, 1), (101, .iconst (-1), 1), (102, .ixor, 1), (103, .iand, 1), (104, .ifCond .ne 43, 3), (107, .aload_n 0, 1), (108, .getfield 9, 3), (111, .iload_n 3, 1), (112, .iaload, 1), (113, .iload_n 3, 1), (114, .invokestatic 45, 3), (117, .ifCond .eq 16, 3), (120, .aload_n 0, 1), (121, .aload_n 0, 1), (122, .getfield 15, 3), (125, .iload_n 3, 1), (126, .iaload, 1), (127, .invokevirtual 49, 3), (130, .goto 8, 3), (133, .aload_n 0, 1), (134, .iload_n 3, 1), (135, .invokevirtual 53, 3), (138, .iload_n 1, 1), (139, .aload_n 0, 1), (140, .getfield 15, 3), (143, .iload_n 3, 1), (144, .iaload, 1), (145, .ior, 1), (146, .istore_n 1, 1), (147, .iinc 3 1, 3), (150, .goto (-88), 3), (153, .iinc 2 1, 3), (156, .goto (-122), 3), (159, .return_, 1)] : List (Nat × Instr × Nat)), decode cX0_refresh q.1 = .ok q.2 := by decide +kernel
theorem dX0_refresh_0 : decode cX0_refresh 0 = .ok (.aload_n 0, 1) := DX0_refresh (0, .aload_n 0, 1) (List.mem_of_getElem? (i := 0) rfl)
theorem dX0_refresh_1 : decode cX0_refresh 1 = .ok (.getfield 32, 3) := DX0_refresh (1, .getfield 32, 3) (List.mem_of_getElem? (i := 1) rfl)
theorem dX0_refresh_4 : decode cX0_refresh 4 = .ok (.aload_n 0, 1) := DX0_refresh (4, .aload_n 0, 1) (List.mem_of_getElem? (i := 2) rfl)
theorem dX0_refresh_5 : decode cX0_refresh 5 = .ok (.getfield 24, 3) := DX0_refresh (5, .getfield 24, 3) (List.mem_of_getElem? (i := 3) rfl)
theorem dX0_refresh_8 : decode cX0_refresh 8 = .ok (.getfield 36, 3) := DX0_refresh (8, .getfield 36, 3) (List.mem_of_getElem? (i := 4) rfl)
theorem dX0_refresh_11 : decode cX0_refresh 11 = .ok (.if_icmp .ne 4, 3) := DX0_refresh (11, .if_icmp .ne 4, 3) (List.mem_of_getElem? (i := 5) rfl)
theorem dX0_refresh_14 : decode cX0_refresh 14 = .ok (.return_, 1) := DX0_refresh (14, .return_, 1) (List.mem_of_getElem? (i := 6) rfl)
theorem dX0_refresh_15 : decode cX0_refresh 15 = .ok (.aload_n 0, 1) := DX0_refresh (15, .aload_n 0, 1) (List.mem_of_getElem? (i := 7) rfl)
theorem dX0_refresh_16 : decode cX0_refresh 16 = .ok (.aload_n 0, 1) := DX0_refresh (16, .aload_n 0, 1) (List.mem_of_getElem? (i := 8) rfl)
theorem dX0_refresh_17 : decode cX0_refresh 17 = .ok (.getfield 24, 3) := DX0_refresh (17, .getfield 24, 3) (List.mem_of_getElem? (i := 9) rfl)
theorem dX0_refresh_20 : decode cX0_refresh 20 = .ok (.getfield 36, 3) := DX0_refresh (20, .getfield 36, 3) (List.mem_of_getElem? (i := 10) rfl)
theorem dX0_refresh_23 : decode cX0_refresh 23 = .ok (.putfield 32, 3) := DX0_refresh (23, .putfield 32, 3) (List.mem_of_getElem? (i := 11) rfl)
theorem dX0_refresh_26 : decode cX0_refresh 26 = .ok (.aload_n 0, 1) := DX0_refresh (26, .aload_n 0, 1) (List.mem_of_getElem? (i := 12) rfl)
theorem dX0_refresh_27 : decode cX0_refresh 27 = .ok (.invokevirtual 39, 3) := DX0_refresh (27, .invokevirtual 39, 3) (List.mem_of_getElem? (i := 13) rfl)
theorem dX0_refresh_30 : decode cX0_refresh 30 = .ok (.iconst 0, 1) := DX0_refresh (30, .iconst 0, 1) (List.mem_of_getElem? (i := 14) rfl)
theorem dX0_refresh_31 : decode cX0_refresh 31 = .ok (.istore_n 1, 1) := DX0_refresh (31, .istore_n 1, 1) (List.mem_of_getElem? (i := 15) rfl)
theorem dX0_refresh_32 : decode cX0_refresh 32 = .ok (.iconst 0, 1) := DX0_refresh (32, .iconst 0, 1) (List.mem_of_getElem? (i := 16) rfl)
theorem dX0_refresh_33 : decode cX0_refresh 33 = .ok (.istore_n 2, 1) := DX0_refresh (33, .istore_n 2, 1) (List.mem_of_getElem? (i := 17) rfl)
theorem dX0_refresh_34 : decode cX0_refresh 34 = .ok (.iload_n 2, 1) := DX0_refresh (34, .iload_n 2, 1) (List.mem_of_getElem? (i := 18) rfl)
theorem dX0_refresh_35 : decode cX0_refresh 35 = .ok (.aload_n 0, 1) := DX0_refresh (35, .aload_n 0, 1) (List.mem_of_getElem? (i := 19) rfl)
theorem dX0_refresh_36 : decode cX0_refresh 36 = .ok (.getfield 24, 3) := DX0_refresh (36, .getfield 24, 3) (List.mem_of_getElem? (i := 20) rfl)
theorem dX0_refresh_39 : decode cX0_refresh 39 = .ok (.getfield 42, 3) := DX0_refresh (39, .getfield 42, 3) (List.mem_of_getElem? (i := 21) rfl)
theorem dX0_refresh_42 : decode cX0_refresh 42 = .ok (.if_icmp .ge 117, 3) := DX0_refresh (42, .if_icmp .ge 117, 3) (List.mem_of_getElem? (i := 22) rfl)
theorem dX0_refresh_45 : decode cX0_refresh 45 = .ok (.iload_n 1, 1) := DX0_refresh (45, .iload_n 1, 1) (List.mem_of_getElem? (i := 23) rfl)
theorem dX0_refresh_46 : decode cX0_refresh 46 = .ok (.iconst 1, 1) := DX0_refresh (46, .iconst 1, 1) (List.mem_of_getElem? (i := 24) rfl)
theorem dX0_refresh_47 : decode cX0_refresh 47 = .ok (.aload_n 0, 1) := DX0_refresh (47, .aload_n 0, 1) (List.mem_of_getElem? (i := 25) rfl)
theorem dX0_refresh_48 : decode cX0_refresh 48 = .ok (.getfield 24, 3) := DX0_refresh (48, .getfield 24, 3) (List.mem_of_getElem? (i := 26) rfl)
theorem dX0_refresh_51 : decode cX0_refresh 51 = .ok (.getfield 42, 3) := DX0_refresh (51, .getfield 42, 3) (List.mem_of_getElem? (i := 27) rfl)
theorem dX0_refresh_54 : decode cX0_refresh 54 = .ok (.ishl, 1) := DX0_refresh (54, .ishl, 1) (List.mem_of_getElem? (i := 28) rfl)
theorem dX0_refresh_55 : decode cX0_refresh 55 = .ok (.iconst 1, 1) := DX0_refresh (55, .iconst 1, 1) (List.mem_of_getElem? (i := 29) rfl)
theorem dX0_refresh_56 : decode cX0_refresh 56 = .ok (.isub, 1) := DX0_refresh (56, .isub, 1) (List.mem_of_getElem? (i := 30) rfl)
theorem dX0_refresh_57 : decode cX0_refresh 57 = .ok (.if_icmp .eq 102, 3) := DX0_refresh (57, .if_icmp .eq 102, 3) (List.mem_of_getElem? (i := 31) rfl)
theorem dX0_refresh_60 : decode cX0_refresh 60 = .ok (.iconst 0, 1) := DX0_refresh (60, .iconst 0, 1) (List.mem_of_getElem? (i := 32) rfl)
theorem dX0_refresh_61 : decode cX0_refresh 61 = .ok (.istore_n 3, 1) := DX0_refresh (61, .istore_n 3, 1) (List.mem_of_getElem? (i := 33) rfl)
theorem dX0_refresh_62 : decode cX0_refresh 62 = .ok (.iload_n 3, 1) := DX0_refresh (62, .iload_n 3, 1) (List.mem_of_getElem? (i := 34) rfl)
theorem dX0_refresh_63 : decode cX0_refresh 63 = .ok (.aload_n 0, 1) := DX0_refresh (63, .aload_n 0, 1) (List.mem_of_getElem? (i := 35) rfl)
theorem dX0_refresh_64 : decode cX0_refresh 64 = .ok (.getfield 24, 3) := DX0_refresh (64, .getfield 24, 3) (List.mem_of_getElem? (i := 36) rfl)
theorem dX0_refresh_67 : decode cX0_refresh 67 = .ok (.getfield 42, 3) := DX0_refresh (67, .getfield 42, 3) (List.mem_of_getElem? (i := 37) rfl)
theorem dX0_refresh_70 : decode cX0_refresh 70 = .ok (.if_icmp .ge 83, 3) := DX0_refresh (70, .if_icmp .ge 83, 3) (List.mem_of_getElem? (i := 38) rfl)
theorem dX0_refresh_73 : decode cX0_refresh 73 = .ok (.aload_n 0, 1) := DX0_refresh (73, .aload_n 0, 1) (List.mem_of_getElem? (i := 39) rfl)
theorem dX0_refresh_74 : decode cX0_refresh 74 = .ok (.getfield 9, 3) := DX0_refresh (74, .getfield 9, 3) (List.mem_of_getElem? (i := 40) rfl)
theorem dX0_refresh_77 : decode cX0_refresh 77 = .ok (.iload_n 3, 1) := DX0_refresh (77, .iload_n 3, 1) (List.mem_of_getElem? (i := 41) rfl)
theorem dX0_refresh_78 : decode cX0_refresh 78 = .ok (.iaload, 1) := DX0_refresh (78, .iaload, 1) (List.mem_of_getElem? (i := 42) rfl)
theorem dX0_refresh_79 : decode cX0_refresh 79 = .ok (.aload_n 0, 1) := DX0_refresh (79, .aload_n 0, 1) (List.mem_of_getElem? (i := 43) rfl)
theorem dX0_refresh_80 : decode cX0_refresh 80 = .ok (.getfield 15, 3) := DX0_refresh (80, .getfield 15, 3) (List.mem_of_getElem? (i := 44) rfl)
theorem dX0_refresh_83 : decode cX0_refresh 83 = .ok (.iload_n 3, 1) := DX0_refresh (83, .iload_n 3, 1) (List.mem_of_getElem? (i := 45) rfl)
theorem dX0_refresh_84 : decode cX0_refresh 84 = .ok (.iaload, 1) := DX0_refresh (84, .iaload, 1) (List.mem_of_getElem? (i := 46) rfl)
theorem dX0_refresh_85 : decode cX0_refresh 85 = .ok (.iconst (-1), 1) := DX0_refresh (85, .iconst (-1), 1) (List.mem_of_getElem? (i := 47) rfl)
theorem dX0_refresh_86 : decode cX0_refresh 86 = .ok (.ixor, 1) := DX0_refresh (86, .ixor, 1) (List.mem_of_getElem? (i := 48) rfl)
theorem dX0_refresh_87 : decode cX0_refresh 87 = .ok (.iand, 1) := DX0_refresh (87, .iand, 1) (List.mem_of_getElem? (i := 49) rfl)
theorem dX0_refresh_88 : decode cX0_refresh 88 = .ok (.istore 4, 2) := DX0_refresh (88, .istore 4, 2) (List.mem_of_getElem? (i := 50) rfl)
theorem dX0_refresh_90 : decode cX0_refresh 90 = .ok (.iload_n 1, 1) := DX0_refresh (90, .iload_n 1, 1) (List.mem_of_getElem? (i := 51) rfl)
theorem dX0_refresh_91 : decode cX0_refresh 91 = .ok (.iload_n 3, 1) := DX0_refresh (91, .iload_n 3, 1) (List.mem_of_getElem? (i := 52) rfl)
theorem dX0_refresh_92 : decode cX0_refresh 92 = .ok (.invokestatic 45, 3) := DX0_refresh (92, .invokestatic 45, 3) (List.mem_of_getElem? (i := 53) rfl)
theorem dX0_refresh_95 : decode cX0_refresh 95 = .ok (.ifCond .ne 52, 3) := DX0_refresh (95, .ifCond .ne 52, 3) (List.mem_of_getElem? (i := 54) rfl)
theorem dX0_refresh_98 : decode cX0_refresh 98 = .ok (.iload 4, 2) := DX0_refresh (98, .iload 4, 2) (List.mem_of_getElem? (i := 55) rfl)
theorem dX0_refresh_100 : decode cX0_refresh 100 = .ok (.iload_n 1, 1) := DX0_refresh (100, .iload_n 1, 1) (List.mem_of_getElem? (i := 56) rfl)
theorem dX0_refresh_101 : decode cX0_refresh 101 = .ok (.iconst (-1), 1) := DX0_refresh (101, .iconst (-1), 1) (List.mem_of_getElem? (i := 57) rfl)
theorem dX0_refresh_102 : decode cX0_refresh 102 = .ok (.ixor, 1) := DX0_refresh (102, .ixor, 1) (List.mem_of_getElem? (i := 58) rfl)
theorem dX0_refresh_103 : decode cX0_refresh 103 = .ok (.iand, 1) := DX0_refresh (103, .iand, 1) (List.mem_of_getElem? (i := 59) rfl)
theorem dX0_refresh_104 : decode cX0_refresh 104 = .ok (.ifCond .ne 43, 3) := DX0_refresh (104, .ifCond .ne 43, 3) (List.mem_of_getElem? (i := 60) rfl)
theorem dX0_refresh_107 : decode cX0_refresh 107 = .ok (.aload_n 0, 1) := DX0_refresh (107, .aload_n 0, 1) (List.mem_of_getElem? (i := 61) rfl)
theorem dX0_refresh_108 : decode cX0_refresh 108 = .ok (.getfield 9, 3) := DX0_refresh (108, .getfield 9, 3) (List.mem_of_getElem? (i := 62) rfl)
theorem dX0_refresh_111 : decode cX0_refresh 111 = .ok (.iload_n 3, 1) := DX0_refresh (111, .iload_n 3, 1) (List.mem_of_getElem? (i := 63) rfl)
theorem dX0_refresh_112 : decode cX0_refresh 112 = .ok (.iaload, 1) := DX0_refresh (112, .iaload, 1) (List.mem_of_getElem? (i := 64) rfl)
theorem dX0_refresh_113 : decode cX0_refresh 113 = .ok (.iload_n 3, 1) := DX0_refresh (113, .iload_n 3, 1) (List.mem_of_getElem? (i := 65) rfl)
theorem dX0_refresh_114 : decode cX0_refresh 114 = .ok (.invokestatic 45, 3) := DX0_refresh (114, .invokestatic 45, 3) (List.mem_of_getElem? (i := 66) rfl)
theorem dX0_refresh_117 : decode cX0_refresh 117 = .ok (.ifCond .eq 16, 3) := DX0_refresh (117, .ifCond .eq 16, 3) (List.mem_of_getElem? (i := 67) rfl)
theorem dX0_refresh_120 : decode cX0_refresh 120 = .ok (.aload_n 0, 1) := DX0_refresh (120, .aload_n 0, 1) (List.mem_of_getElem? (i := 68) rfl)
theorem dX0_refresh_121 : decode cX0_refresh 121 = .ok (.aload_n 0, 1) := DX0_refresh (121, .aload_n 0, 1) (List.mem_of_getElem? (i := 69) rfl)
theorem dX0_refresh_122 : decode cX0_refresh 122 = .ok (.getfield 15, 3) := DX0_refresh (122, .getfield 15, 3) (List.mem_of_getElem? (i := 70) rfl)
theorem dX0_refresh_125 : decode cX0_refresh 125 = .ok (.iload_n 3, 1) := DX0_refresh (125, .iload_n 3, 1) (List.mem_of_getElem? (i := 71) rfl)
theorem dX0_refresh_126 : decode cX0_refresh 126 = .ok (.iaload, 1) := DX0_refresh (126, .iaload, 1) (List.mem_of_getElem? (i := 72) rfl)
theorem dX0_refresh_127 : decode cX0_refresh 127 = .ok (.invokevirtual 49, 3) := DX0_refresh (127, .invokevirtual 49, 3) (List.mem_of_getElem? (i := 73) rfl)
theorem dX0_refresh_130 : decode cX0_refresh 130 = .ok (.goto 8, 3) := DX0_refresh (130, .goto 8, 3) (List.mem_of_getElem? (i := 74) rfl)
theorem dX0_refresh_133 : decode cX0_refresh 133 = .ok (.aload_n 0, 1) := DX0_refresh (133, .aload_n 0, 1) (List.mem_of_getElem? (i := 75) rfl)
theorem dX0_refresh_134 : decode cX0_refresh 134 = .ok (.iload_n 3, 1) := DX0_refresh (134, .iload_n 3, 1) (List.mem_of_getElem? (i := 76) rfl)
theorem dX0_refresh_135 : decode cX0_refresh 135 = .ok (.invokevirtual 53, 3) := DX0_refresh (135, .invokevirtual 53, 3) (List.mem_of_getElem? (i := 77) rfl)
theorem dX0_refresh_138 : decode cX0_refresh 138 = .ok (.iload_n 1, 1) := DX0_refresh (138, .iload_n 1, 1) (List.mem_of_getElem? (i := 78) rfl)
theorem dX0_refresh_139 : decode cX0_refresh 139 = .ok (.aload_n 0, 1) := DX0_refresh (139, .aload_n 0, 1) (List.mem_of_getElem? (i := 79) rfl)
theorem dX0_refresh_140 : decode cX0_refresh 140 = .ok (.getfield 15, 3) := DX0_refresh (140, .getfield 15, 3) (List.mem_of_getElem? (i := 80) rfl)
theorem dX0_refresh_143 : decode cX0_refresh 143 = .ok (.iload_n 3, 1) := DX0_refresh (143, .iload_n 3, 1) (List.mem_of_getElem? (i := 81) rfl)
theorem dX0_refresh_144 : decode cX0_refresh 144 = .ok (.iaload, 1) := DX0_refresh (144, .iaload, 1) (List.mem_of_getElem? (i := 82) rfl)
theorem dX0_refresh_145 : decode cX0_refresh 145 = .ok (.ior, 1) := DX0_refresh (145, .ior, 1) (List.mem_of_getElem? (i := 83) rfl)
theorem dX0_refresh_146 : decode cX0_refresh 146 = .ok (.istore_n 1, 1) := DX0_refresh (146, .istore_n 1, 1) (List.mem_of_getElem? (i := 84) rfl)
theorem dX0_refresh_147 : decode cX0_refresh 147 = .ok (.iinc 3 1, 3) := DX0_refresh (147, .iinc 3 1, 3) (List.mem_of_getElem? (i := 85) rfl)
theorem dX0_refresh_150 : decode cX0_refresh 150 = .ok (.goto (-88), 3) := DX0_refresh (150, .goto (-88), 3) (List.mem_of_getElem? (i := 86) rfl)
theorem dX0_refresh_153 : decode cX0_refresh 153 = .ok (.iinc 2 1, 3) := DX0_refresh (153, .iinc 2 1, 3) (List.mem_of_getElem? (i := 87) rfl)
theorem dX0_refresh_156 : decode cX0_refresh 156 = .ok (.goto (-122), 3) := DX0_refresh (156, .goto (-122), 3) (List.mem_of_getElem? (i := 88) rfl)
theorem dX0_refresh_159 : decode cX0_refresh 159 = .ok (.return_, 1) := DX0_refresh (159, .return_, 1) (List.mem_of_getElem? (i := 89) rfl)
noncomputable def fX0_refresh_L147 (l1 : Int32) (l2 : Int32) (l3 : Int32) (σ : Mem) : Option ((Int32 × Int32 × Mem) ⊕ (Int32 × Mem)) :=
  some (.inl (l1, l3 + 1, σ))
set_option maxHeartbeats 4000000 in
set_option maxRecDepth 100000 in
theorem tX0_refresh_L147 {E : Gx} {cI : ClassId} {ad : Nat → Nat} (C : Cx E rmX0_refresh cI layX ad 5 RX0 cX0_refresh) {out : Mem} (K0 : KV E rmX0_refresh cI layX ad 5 cX0_refresh out) {l1 : Int32} {l2 : Int32} {l3 : Int32} {σ : Mem} {res : (Int32 × Int32 × Mem) ⊕ (Int32 × Mem)} (h : fX0_refresh_L147 l1 l2 l3 σ = some res) (K : Sum.elim (fun a => G E rmX0_refresh cI layX ad 5 62 [(0, .ref (ad 0)), (1, .int a.1), (2, .int l2), (3, .int a.2.1)] [] a.2.2) (fun b => G E rmX0_refresh cI layX ad 5 153 [(0, .ref (ad 0)), (1, .int b.1), (2, .int l2)] [] b.2) res) : G E rmX0_refresh cI layX ad 5 147 [(0, .ref (ad 0)), (1, .int l1), (2, .int l2), (3, .int l3)] [] σ := by
  unfold fX0_refresh_L147 at h
  refine g_iinc 150 [(3, .int (l3 + 1)), (0, .ref (ad 0)), (1, .int l1), (2, .int l2)] C dX0_refresh_147 (j := 3) rfl (by rfl) (by decide) rfl rfl ?_
  refine g_goto 62 C dX0_refresh_150 (by decide) ?_
  have hh := end_inl h K
  exact g_sub [1, 2, 3, 0] (hh) rfl
noncomputable def fX0_refresh_L138 (l1 : Int32) (l2 : Int32) (l3 : Int32) (σ : Mem) : Option ((Int32 × Int32 × Mem) ⊕ (Int32 × Mem)) :=
  chk (inb l3 30) <|
  fX0_refresh_L147 (l1 ||| (σ 19 l3.toNatClampNeg)) l2 l3 σ
set_option maxHeartbeats 4000000 in
set_option maxRecDepth 100000 in
theorem tX0_refresh_L138 {E : Gx} {cI : ClassId} {ad : Nat → Nat} (C : Cx E rmX0_refresh cI layX ad 5 RX0 cX0_refresh) {out : Mem} (K0 : KV E rmX0_refresh cI layX ad 5 cX0_refresh out) {l1 : Int32} {l2 : Int32} {l3 : Int32} {σ : Mem} {res : (Int32 × Int32 × Mem) ⊕ (Int32 × Mem)} (h : fX0_refresh_L138 l1 l2 l3 σ = some res) (K : Sum.elim (fun a => G E rmX0_refresh cI layX ad 5 62 [(0, .ref (ad 0)), (1, .int a.1), (2, .int l2), (3, .int a.2.1)] [] a.2.2) (fun b => G E rmX0_refresh cI layX ad 5 153 [(0, .ref (ad 0)), (1, .int b.1), (2, .int l2)] [] b.2) res) : G E rmX0_refresh cI layX ad 5 138 [(0, .ref (ad 0)), (1, .int l1), (2, .int l2), (3, .int l3)] [] σ := by
  unfold fX0_refresh_L138 at h
  refine g_iload_n 139 C dX0_refresh_138 rfl (j := 1) rfl rfl ?_
  refine g_aload_n 140 C dX0_refresh_139 rfl (j := 0) rfl rfl ?_
  refine g_getr 143 (j := 3) C rfl rfl wu_X0 (by decide) wf_X0_15 rfl dX0_refresh_140 rfl ?_
  refine g_iload_n 144 C dX0_refresh_143 rfl (j := 3) rfl rfl ?_
  refine g_iald 145 C rfl dX0_refresh_144 rfl h (fun h => ?_)
  refine g_ior 146 C dX0_refresh_145 rfl ?_
  refine g_istore_n 147 [(1, .int (l1 ||| (σ 19 l3.toNatClampNeg))), (0, .ref (ad 0)), (2, .int l2), (3, .int l3)] C dX0_refresh_146 rfl (by decide) rfl rfl ?_
  exact g_sub [1, 0, 2, 3] (tX0_refresh_L147 (l1 := (l1 ||| (σ 19 l3.toNatClampNeg))) (l2 := l2) (l3 := l3) (σ := σ) C K0 h K) rfl
noncomputable def fX0_refresh_B62 (l1 : Int32) (l2 : Int32) (l3 : Int32) (σ : Mem) : Option ((Int32 × Int32 × Mem) ⊕ (Int32 × Mem)) :=
  if (σ 3 4) ≤ l3 then
    some (.inr (l1, σ))
  else
    chk (inb l3 30) <|
    chk (inb l3 30) <|
    (fX7_isIn l1 l3 σ).bind fun o2 =>
    if o2.1 = 0 then
      if (((σ 18 l3.toNatClampNeg) &&& ((σ 19 l3.toNatClampNeg) ^^^ (-1))) &&& (l1 ^^^ (-1))) = 0 then
        chk (inb l3 30) <|
        (fX7_isIn (o2.2 18 l3.toNatClampNeg) l3 o2.2).bind fun o3 =>
        if o3.1 = 0 then
          (fX0_settleAlone l3 o3.2).bind fun o4 =>
          fX0_refresh_L138 l1 l2 l3 o4
        else
          chk (inb l3 30) <|
          (fX0_settleCycle (o3.2 19 l3.toNatClampNeg) o3.2).bind fun o5 =>
          fX0_refresh_L138 l1 l2 l3 o5
      else
        fX0_refresh_L147 l1 l2 l3 o2.2
    else
      fX0_refresh_L147 l1 l2 l3 o2.2
set_option maxHeartbeats 4000000 in
set_option maxRecDepth 100000 in
theorem tX0_refresh_B62 {E : Gx} {cI : ClassId} {ad : Nat → Nat} (C : Cx E rmX0_refresh cI layX ad 5 RX0 cX0_refresh) {out : Mem} (K0 : KV E rmX0_refresh cI layX ad 5 cX0_refresh out) {l1 : Int32} {l2 : Int32} {l3 : Int32} {σ : Mem} {res : (Int32 × Int32 × Mem) ⊕ (Int32 × Mem)} (h : fX0_refresh_B62 l1 l2 l3 σ = some res) (K : Sum.elim (fun a => G E rmX0_refresh cI layX ad 5 62 [(0, .ref (ad 0)), (1, .int a.1), (2, .int l2), (3, .int a.2.1)] [] a.2.2) (fun b => G E rmX0_refresh cI layX ad 5 153 [(0, .ref (ad 0)), (1, .int b.1), (2, .int l2)] [] b.2) res) : G E rmX0_refresh cI layX ad 5 62 [(0, .ref (ad 0)), (1, .int l1), (2, .int l2), (3, .int l3)] [] σ := by
  unfold fX0_refresh_B62 at h
  refine g_iload_n 63 C dX0_refresh_62 rfl (j := 3) rfl rfl ?_
  refine g_aload_n 64 C dX0_refresh_63 rfl (j := 0) rfl rfl ?_
  refine g_getr 67 (j := 0) C rfl rfl wu_X0 (by decide) wf_X0_24 rfl dX0_refresh_64 rfl ?_
  refine g_getiN 70 (j := 4) C rfl rfl wu_X3 (by decide) (List.mem_of_getElem? (i := 13) rfl) rfl dX0_refresh_67 rfl ?_
  refine g_icmp_ge 153 73 C dX0_refresh_70 (by decide) rfl h (fun h => ?_) (fun h => ?_)
  · have hh := end_inr h K
    exact g_sub [0, 1, 2] (hh) rfl
  · refine g_aload_n 74 C dX0_refresh_73 rfl (j := 0) rfl rfl ?_
    refine g_getr 77 (j := 2) C rfl rfl wu_X0 (by decide) wf_X0_9 rfl dX0_refresh_74 rfl ?_
    refine g_iload_n 78 C dX0_refresh_77 rfl (j := 3) rfl rfl ?_
    refine g_iald 79 C rfl dX0_refresh_78 rfl h (fun h => ?_)
    refine g_aload_n 80 C dX0_refresh_79 rfl (j := 0) rfl rfl ?_
    refine g_getr 83 (j := 3) C rfl rfl wu_X0 (by decide) wf_X0_15 rfl dX0_refresh_80 rfl ?_
    refine g_iload_n 84 C dX0_refresh_83 rfl (j := 3) rfl rfl ?_
    refine g_iald 85 C rfl dX0_refresh_84 rfl h (fun h => ?_)
    refine g_iconst 86 (v := (-1)) C dX0_refresh_85 (by decide) rfl ?_
    refine g_ixor 87 C dX0_refresh_86 rfl ?_
    refine g_iand 88 C dX0_refresh_87 rfl ?_
    refine g_istore 90 [(4, .int ((σ 18 l3.toNatClampNeg) &&& ((σ 19 l3.toNatClampNeg) ^^^ (-1)))), (0, .ref (ad 0)), (1, .int l1), (2, .int l2), (3, .int l3)] C dX0_refresh_88 (by decide) rfl rfl ?_
    refine g_iload_n 91 C dX0_refresh_90 rfl (j := 2) rfl rfl ?_
    refine g_iload_n 92 C dX0_refresh_91 rfl (j := 4) rfl rfl ?_
    refine g_cti 95 C (As := [.int l1, .int l3]) (fun _ h => mX7_isIn (a1 := l1) (a2 := l3) (σ := σ) h) (List.mem_of_getElem? (i := 14) rfl) ws_X7_isIn wc_X7_isIn wn_X7 qX7_isIn rfl rfl ⟨Nat.le_of_ble_eq_true rfl, Nat.le_of_ble_eq_true rfl⟩ rfl rfl (Nat.le_of_ble_eq_true rfl) dX0_refresh_92 rfl h (fun o2 h => ?_)
    refine g_if_ne 147 98 C dX0_refresh_95 (by decide) rfl h (fun h => ?_) (fun h => ?_)
    · refine g_iload 100 C dX0_refresh_98 (j := 0) rfl rfl ?_
      refine g_iload_n 101 C dX0_refresh_100 rfl (j := 2) rfl rfl ?_
      refine g_iconst 102 (v := (-1)) C dX0_refresh_101 (by decide) rfl ?_
      refine g_ixor 103 C dX0_refresh_102 rfl ?_
      refine g_iand 104 C dX0_refresh_103 rfl ?_
      refine g_if_ne 147 107 C dX0_refresh_104 (by decide) rfl h (fun h => ?_) (fun h => ?_)
      · refine g_aload_n 108 C dX0_refresh_107 rfl (j := 1) rfl rfl ?_
        refine g_getr 111 (j := 2) C rfl rfl wu_X0 (by decide) wf_X0_9 rfl dX0_refresh_108 rfl ?_
        refine g_iload_n 112 C dX0_refresh_111 rfl (j := 4) rfl rfl ?_
        refine g_iald 113 C rfl dX0_refresh_112 rfl h (fun h => ?_)
        refine g_iload_n 114 C dX0_refresh_113 rfl (j := 4) rfl rfl ?_
        refine g_cti 117 C (As := [.int (o2.2 18 l3.toNatClampNeg), .int l3]) (fun _ h => mX7_isIn (a1 := o2.2 18 l3.toNatClampNeg) (a2 := l3) (σ := o2.2) h) (List.mem_of_getElem? (i := 14) rfl) ws_X7_isIn wc_X7_isIn wn_X7 qX7_isIn rfl rfl ⟨Nat.le_of_ble_eq_true rfl, Nat.le_of_ble_eq_true rfl⟩ rfl rfl (Nat.le_of_ble_eq_true rfl) dX0_refresh_114 rfl h (fun o3 h => ?_)
        refine g_if_eq 133 120 C dX0_refresh_117 (by decide) rfl h (fun h => ?_) (fun h => ?_)
        · refine g_aload_n 134 C dX0_refresh_133 rfl (j := 1) rfl rfl ?_
          refine g_iload_n 135 C dX0_refresh_134 rfl (j := 4) rfl rfl ?_
          refine g_cvv 138 C (As := [.int l3]) (fun _ h => mX0_settleAlone (a1 := l3) (σ := o3.2) h) wl_X0_53 wi_X0_settleAlone wz_X0_settleAlone wc_X0_settleAlone wn_X0 qX0_settleAlone rfl rfl ⟨Nat.le_of_ble_eq_true rfl, Nat.le_of_ble_eq_true rfl⟩ rfl rfl rfl rfl (Nat.le_of_ble_eq_true rfl) dX0_refresh_135 rfl h (fun o4 h => ?_)
          exact g_sub [1, 2, 3, 4] (tX0_refresh_L138 (l1 := l1) (l2 := l2) (l3 := l3) (σ := o4) C K0 h K) rfl
        · refine g_aload_n 121 C dX0_refresh_120 rfl (j := 1) rfl rfl ?_
          refine g_aload_n 122 C dX0_refresh_121 rfl (j := 1) rfl rfl ?_
          refine g_getr 125 (j := 3) C rfl rfl wu_X0 (by decide) wf_X0_15 rfl dX0_refresh_122 rfl ?_
          refine g_iload_n 126 C dX0_refresh_125 rfl (j := 4) rfl rfl ?_
          refine g_iald 127 C rfl dX0_refresh_126 rfl h (fun h => ?_)
          refine g_cvv 130 C (As := [.int (o3.2 19 l3.toNatClampNeg)]) (fun _ h => mX0_settleCycle (a1 := o3.2 19 l3.toNatClampNeg) (σ := o3.2) h) wl_X0_49 wi_X0_settleCycle wz_X0_settleCycle wc_X0_settleCycle wn_X0 qX0_settleCycle rfl rfl ⟨Nat.le_of_ble_eq_true rfl, Nat.le_of_ble_eq_true rfl⟩ rfl rfl rfl rfl (Nat.le_of_ble_eq_true rfl) dX0_refresh_127 rfl h (fun o5 h => ?_)
          refine g_goto 138 C dX0_refresh_130 (by decide) ?_
          exact g_sub [1, 2, 3, 4] (tX0_refresh_L138 (l1 := l1) (l2 := l2) (l3 := l3) (σ := o5) C K0 h K) rfl
      · exact g_sub [1, 2, 3, 4] (tX0_refresh_L147 (l1 := l1) (l2 := l2) (l3 := l3) (σ := o2.2) C K0 h K) rfl
    · exact g_sub [1, 2, 3, 4] (tX0_refresh_L147 (l1 := l1) (l2 := l2) (l3 := l3) (σ := o2.2) C K0 h K) rfl
noncomputable def fX0_refresh_L153 (l1 : Int32) (l2 : Int32) (σ : Mem) : Option ((Int32 × Int32 × Mem) ⊕ (Mem)) :=
  some (.inl (l1, l2 + 1, σ))
set_option maxHeartbeats 4000000 in
set_option maxRecDepth 100000 in
theorem tX0_refresh_L153 {E : Gx} {cI : ClassId} {ad : Nat → Nat} (C : Cx E rmX0_refresh cI layX ad 5 RX0 cX0_refresh) {out : Mem} (K0 : KV E rmX0_refresh cI layX ad 5 cX0_refresh out) {l1 : Int32} {l2 : Int32} {σ : Mem} {res : (Int32 × Int32 × Mem) ⊕ (Mem)} (h : fX0_refresh_L153 l1 l2 σ = some res) (K : Sum.elim (fun a => G E rmX0_refresh cI layX ad 5 34 [(0, .ref (ad 0)), (1, .int a.1), (2, .int a.2.1)] [] a.2.2) (fun b => G E rmX0_refresh cI layX ad 5 159 [] [] b) res) : G E rmX0_refresh cI layX ad 5 153 [(0, .ref (ad 0)), (1, .int l1), (2, .int l2)] [] σ := by
  unfold fX0_refresh_L153 at h
  refine g_iinc 156 [(2, .int (l2 + 1)), (0, .ref (ad 0)), (1, .int l1)] C dX0_refresh_153 (j := 2) rfl (by rfl) (by decide) rfl rfl ?_
  refine g_goto 34 C dX0_refresh_156 (by decide) ?_
  have hh := end_inl h K
  exact g_sub [1, 2, 0] (hh) rfl
noncomputable def fX0_refresh_B34 (l1 : Int32) (l2 : Int32) (σ : Mem) : Option ((Int32 × Int32 × Mem) ⊕ (Mem)) :=
  if (σ 3 4) ≤ l2 then
    some (.inr σ)
  else
    if l1 = ((1 <<< ((σ 3 4) &&& 31)) - 1) then
      some (.inr σ)
    else
      (loop (fun a => fX0_refresh_B62 a.1 l2 a.2.1 a.2.2) (l1, 0, σ)).bind fun b6 =>
      fX0_refresh_L153 b6.1 l2 b6.2
set_option maxHeartbeats 4000000 in
set_option maxRecDepth 100000 in
theorem tX0_refresh_B34 {E : Gx} {cI : ClassId} {ad : Nat → Nat} (C : Cx E rmX0_refresh cI layX ad 5 RX0 cX0_refresh) {out : Mem} (K0 : KV E rmX0_refresh cI layX ad 5 cX0_refresh out) {l1 : Int32} {l2 : Int32} {σ : Mem} {res : (Int32 × Int32 × Mem) ⊕ (Mem)} (h : fX0_refresh_B34 l1 l2 σ = some res) (K : Sum.elim (fun a => G E rmX0_refresh cI layX ad 5 34 [(0, .ref (ad 0)), (1, .int a.1), (2, .int a.2.1)] [] a.2.2) (fun b => G E rmX0_refresh cI layX ad 5 159 [] [] b) res) : G E rmX0_refresh cI layX ad 5 34 [(0, .ref (ad 0)), (1, .int l1), (2, .int l2)] [] σ := by
  unfold fX0_refresh_B34 at h
  refine g_iload_n 35 C dX0_refresh_34 rfl (j := 2) rfl rfl ?_
  refine g_aload_n 36 C dX0_refresh_35 rfl (j := 0) rfl rfl ?_
  refine g_getr 39 (j := 0) C rfl rfl wu_X0 (by decide) wf_X0_24 rfl dX0_refresh_36 rfl ?_
  refine g_getiN 42 (j := 4) C rfl rfl wu_X3 (by decide) (List.mem_of_getElem? (i := 13) rfl) rfl dX0_refresh_39 rfl ?_
  refine g_icmp_ge 159 45 C dX0_refresh_42 (by decide) rfl h (fun h => ?_) (fun h => ?_)
  · have hh := end_inr h K
    exact g_sub [] (hh) rfl
  · refine g_iload_n 46 C dX0_refresh_45 rfl (j := 1) rfl rfl ?_
    refine g_iconst 47 (v := 1) C dX0_refresh_46 (by decide) rfl ?_
    refine g_aload_n 48 C dX0_refresh_47 rfl (j := 0) rfl rfl ?_
    refine g_getr 51 (j := 0) C rfl rfl wu_X0 (by decide) wf_X0_24 rfl dX0_refresh_48 rfl ?_
    refine g_getiN 54 (j := 4) C rfl rfl wu_X3 (by decide) (List.mem_of_getElem? (i := 13) rfl) rfl dX0_refresh_51 rfl ?_
    refine g_ishl 55 C dX0_refresh_54 rfl ?_
    refine g_iconst 56 (v := 1) C dX0_refresh_55 (by decide) rfl ?_
    refine g_isub 57 C dX0_refresh_56 rfl ?_
    refine g_icmp_eq 159 60 C dX0_refresh_57 (by decide) rfl h (fun h => ?_) (fun h => ?_)
    · have hh := end_inr h K
      exact g_sub [] (hh) rfl
    · refine g_iconst 61 (v := 0) C dX0_refresh_60 (by decide) rfl ?_
      refine g_istore_n 62 [(3, .int 0), (0, .ref (ad 0)), (1, .int l1), (2, .int l2)] C dX0_refresh_61 rfl (by decide) rfl rfl ?_
      obtain ⟨b6, hb, h⟩ := bind_some h
      refine g_sub [1, 2, 3, 0] (g_loop (a := (l1, 0, σ)) (fun a => G E rmX0_refresh cI layX ad 5 62 [(0, .ref (ad 0)), (1, .int a.1), (2, .int l2), (3, .int a.2.1)] [] a.2.2) (fun b => G E rmX0_refresh cI layX ad 5 153 [(0, .ref (ad 0)), (1, .int b.1), (2, .int l2)] [] b.2) hb (fun a res h K => tX0_refresh_B62 (l1 := a.1) (l2 := l2) (l3 := a.2.1) (σ := a.2.2) (res := res) C K0 h K) ?_) rfl
      show G E rmX0_refresh cI layX ad 5 153 [(0, .ref (ad 0)), (1, .int b6.1), (2, .int l2)] [] b6.2
      exact tX0_refresh_L153 (l1 := b6.1) (l2 := l2) (σ := b6.2) C K0 h K
noncomputable def fX0_refresh_L159 (σ : Mem) : Option (Mem) :=
  some σ
set_option maxHeartbeats 4000000 in
set_option maxRecDepth 100000 in
theorem tX0_refresh_L159 {E : Gx} {cI : ClassId} {ad : Nat → Nat} (C : Cx E rmX0_refresh cI layX ad 5 RX0 cX0_refresh) {out : Mem} (K0 : KV E rmX0_refresh cI layX ad 5 cX0_refresh out) {σ : Mem} (h : fX0_refresh_L159 σ = some out) : G E rmX0_refresh cI layX ad 5 159 [] [] σ := by
  unfold fX0_refresh_L159 at h
  cases h
  exact K0 _ _ dX0_refresh_159
noncomputable def fX0_refresh (σ : Mem) : Option (Mem) :=
  if (σ 0 6) = (σ 3 11) then
    some σ
  else
    (fX0_findMembers (up2 σ 0 6 (σ 3 11))).bind fun o1 =>
    (loop (fun a => fX0_refresh_B34 a.1 a.2.1 a.2.2) (0, 0, o1)).bind fun b7 =>
    fX0_refresh_L159 b7
set_option maxHeartbeats 4000000 in
set_option maxRecDepth 100000 in
theorem mX0_refresh {l : Launch} {D : va_G} {cI : ClassId} {ad : Nat → Nat} {σ : Mem} {out : Mem} (h : fX0_refresh σ = some out) : MV l D cI layX ad yX0_refresh cX0_refresh 5 rmX0_refresh [.ref (ad 0)] σ out := by
  refine met_v (by decide) (Nat.le_of_ble_eq_true rfl) (fun E C K0 => ?_)
  show G E rmX0_refresh cI layX ad 5 0 [(0, .ref (ad 0))] [] σ
  unfold fX0_refresh at h
  refine g_aload_n 1 C dX0_refresh_0 rfl (j := 0) rfl rfl ?_
  refine g_geti 4 (j := 6) C rfl rfl wu_X0 (by decide) wf_X0_32 rfl dX0_refresh_1 rfl ?_
  refine g_aload_n 5 C dX0_refresh_4 rfl (j := 0) rfl rfl ?_
  refine g_getr 8 (j := 0) C rfl rfl wu_X0 (by decide) wf_X0_24 rfl dX0_refresh_5 rfl ?_
  refine g_getiN 11 (j := 11) C rfl rfl wu_X3 (by decide) (List.mem_of_getElem? (i := 27) rfl) rfl dX0_refresh_8 rfl ?_
  refine g_icmp_ne 15 14 C dX0_refresh_11 (by decide) rfl h (fun h => ?_) (fun h => ?_)
  · cases h
    exact K0 _ _ dX0_refresh_14
  · refine g_aload_n 16 C dX0_refresh_15 rfl (j := 0) rfl rfl ?_
    refine g_aload_n 17 C dX0_refresh_16 rfl (j := 0) rfl rfl ?_
    refine g_getr 20 (j := 0) C rfl rfl wu_X0 (by decide) wf_X0_24 rfl dX0_refresh_17 rfl ?_
    refine g_getiN 23 (j := 11) C rfl rfl wu_X3 (by decide) (List.mem_of_getElem? (i := 27) rfl) rfl dX0_refresh_20 rfl ?_
    refine g_puti 26 (j := 6) C rfl rfl wu_X0 (by decide) wf_X0_32 tyX0 tyX0_ok nmX0 rfl rfl rfl rfl dX0_refresh_23 rfl ?_
    refine g_aload_n 27 C dX0_refresh_26 rfl (j := 0) rfl rfl ?_
    refine g_cvv 30 C (As := []) (fun _ h => mX0_findMembers (σ := up2 σ 0 6 (σ 3 11)) h) wl_X0_39 wi_X0_findMembers wz_X0_findMembers wc_X0_findMembers wn_X0 qX0_findMembers rfl rfl ⟨Nat.le_of_ble_eq_true rfl, Nat.le_of_ble_eq_true rfl⟩ rfl rfl rfl rfl (Nat.le_of_ble_eq_true rfl) dX0_refresh_27 rfl h (fun o1 h => ?_)
    refine g_iconst 31 (v := 0) C dX0_refresh_30 (by decide) rfl ?_
    refine g_istore_n 32 [(1, .int 0), (0, .ref (ad 0))] C dX0_refresh_31 rfl (by decide) rfl rfl ?_
    refine g_iconst 33 (v := 0) C dX0_refresh_32 (by decide) rfl ?_
    refine g_istore_n 34 [(2, .int 0), (1, .int 0), (0, .ref (ad 0))] C dX0_refresh_33 rfl (by decide) rfl rfl ?_
    obtain ⟨b7, hb, h⟩ := bind_some h
    refine g_sub [2, 1, 0] (g_loop (a := (0, 0, o1)) (fun a => G E rmX0_refresh cI layX ad 5 34 [(0, .ref (ad 0)), (1, .int a.1), (2, .int a.2.1)] [] a.2.2) (fun b => G E rmX0_refresh cI layX ad 5 159 [] [] b) hb (fun a res h K => tX0_refresh_B34 (l1 := a.1) (l2 := a.2.1) (σ := a.2.2) (res := res) C K0 h K) ?_) rfl
    show G E rmX0_refresh cI layX ad 5 159 [] [] b7
    exact tX0_refresh_L159 (σ := b7) C K0 h
