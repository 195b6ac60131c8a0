/-! LoopReducerModel.laysLater(II)V -/
abbrev rmX8_laysLater : Room := { frames := 1, cells := 0, slots := 0, locals := 22 }
theorem qX8_laysLater : yX8_laysLater.cls ≠ "java/lang/invoke/MethodHandle" ∧ yX8_laysLater.cls ≠ "java/lang/invoke/VarHandle" ∧ (parseMethodDescriptor yX8_laysLater.desc).map (fun d => d.parameters.length) = some 2 := by decide +kernel
theorem DX8_laysLater : ∀ q ∈ ([(0, .iconst 0, 1), (1, .istore_n 3, 1), (2, .iload_n 3, 1), (3, .iconst 4, 1), (4, .if_icmp .ge 129, 3), (7, .iconst 0, 1), (8, .istore 4, 2), (10, .iload 4, 2), (12, .sipush 343, 3), (15, .if_icmp .ge 112, 3), (18, .lconst 0, 1), (19, .lstore 5, 2), (21, .iload_n 3, 1), (22, .istore 7, 2), (24, .iload 7, 2), (26, .iconst 4, 1), (27, .if_icmp .ge 69, 3), (30, .lload 5, 2), (32, .iload 7, 2), (34, .iload_n 3, 1), (35, .isub, 1), (36, .iconst 2, 1), (37, .irem, 1), (38, .ifCond .ne 27, 3), (41, .aload_n 0, 1), (42, .getfield 8, 3), (45, .sipush 1372, 3), (48, .iload_n 2, 1), (49, .imul, 1), (50, .sipush 343, 3), (53, .iload 7, 2), (55, .imul, 1), (56, .iadd, 1), (57, .iload 4, 2), (59, .iadd, 1), (60, .iaload, 1), (61, .i2l, 1), (62, .goto 25, 3), (65, .aload_n 0, 1), (66, .getfield 8, 3), (69, .sipush 1372, 3), (72, .iload_n 2, 1), (73, .imul, 1), (74, .sipush 343, 3), (77, .iload 7, 2), (79, .imul, 1), (80, .iadd, 1), (81, .iload 4, 2), (83, .iadd, 1), (84, .iaload, 1), (85, .ineg, 1), (86, .i2l, 1), (87, .ladd, 1), (88, .lstore 5, 2), (90, .iinc 7 1, 3), (93, .goto (-69), 3), (96, .aload_n 0, 1), (97, .getfield 8, 3), (100, .sipush 1372, 3), (103, .iload_n 1, 1), (104, .imul, 1), (105, .sipush 343, 3), (108, .iload_n 3, 1), (109, .imul, 1), (110, .iadd, 1), (111, .iload 4, 2), (113, .iadd, 1), (114, .aload_n 0, 1), (115, .lload 5, 2), (117, .invokevirtual 83, 3), (120, .iastore, 1), (121, .iinc 4 1, 3), (124, .goto (-114), 3), (127, .iinc 3 1, 3), (130, .goto (-128), 3), (133, .return_, 1)] : List (Nat × Instr × Nat)), decode cX8_laysLater q.1 = .ok q.2 := by decide +kernel
theorem dX8_laysLater_0 : decode cX8_laysLater 0 = .ok (.iconst 0, 1) := DX8_laysLater (0, .iconst 0, 1) (List.mem_of_getElem? (i := 0) rfl)
theorem dX8_laysLater_1 : decode cX8_laysLater 1 = .ok (.istore_n 3, 1) := DX8_laysLater (1, .istore_n 3, 1) (List.mem_of_getElem? (i := 1) rfl)
theorem dX8_laysLater_2 : decode cX8_laysLater 2 = .ok (.iload_n 3, 1) := DX8_laysLater (2, .iload_n 3, 1) (List.mem_of_getElem? (i := 2) rfl)
theorem dX8_laysLater_3 : decode cX8_laysLater 3 = .ok (.iconst 4, 1) := DX8_laysLater (3, .iconst 4, 1) (List.mem_of_getElem? (i := 3) rfl)
theorem dX8_laysLater_4 : decode cX8_laysLater 4 = .ok (.if_icmp .ge 129, 3) := DX8_laysLater (4, .if_icmp .ge 129, 3) (List.mem_of_getElem? (i := 4) rfl)
theorem dX8_laysLater_7 : decode cX8_laysLater 7 = .ok (.iconst 0, 1) := DX8_laysLater (7, .iconst 0, 1) (List.mem_of_getElem? (i := 5) rfl)
theorem dX8_laysLater_8 : decode cX8_laysLater 8 = .ok (.istore 4, 2) := DX8_laysLater (8, .istore 4, 2) (List.mem_of_getElem? (i := 6) rfl)
theorem dX8_laysLater_10 : decode cX8_laysLater 10 = .ok (.iload 4, 2) := DX8_laysLater (10, .iload 4, 2) (List.mem_of_getElem? (i := 7) rfl)
theorem dX8_laysLater_12 : decode cX8_laysLater 12 = .ok (.sipush 343, 3) := DX8_laysLater (12, .sipush 343, 3) (List.mem_of_getElem? (i := 8) rfl)
theorem dX8_laysLater_15 : decode cX8_laysLater 15 = .ok (.if_icmp .ge 112, 3) := DX8_laysLater (15, .if_icmp .ge 112, 3) (List.mem_of_getElem? (i := 9) rfl)
theorem dX8_laysLater_18 : decode cX8_laysLater 18 = .ok (.lconst 0, 1) := DX8_laysLater (18, .lconst 0, 1) (List.mem_of_getElem? (i := 10) rfl)
theorem dX8_laysLater_19 : decode cX8_laysLater 19 = .ok (.lstore 5, 2) := DX8_laysLater (19, .lstore 5, 2) (List.mem_of_getElem? (i := 11) rfl)
theorem dX8_laysLater_21 : decode cX8_laysLater 21 = .ok (.iload_n 3, 1) := DX8_laysLater (21, .iload_n 3, 1) (List.mem_of_getElem? (i := 12) rfl)
theorem dX8_laysLater_22 : decode cX8_laysLater 22 = .ok (.istore 7, 2) := DX8_laysLater (22, .istore 7, 2) (List.mem_of_getElem? (i := 13) rfl)
theorem dX8_laysLater_24 : decode cX8_laysLater 24 = .ok (.iload 7, 2) := DX8_laysLater (24, .iload 7, 2) (List.mem_of_getElem? (i := 14) rfl)
theorem dX8_laysLater_26 : decode cX8_laysLater 26 = .ok (.iconst 4, 1) := DX8_laysLater (26, .iconst 4, 1) (List.mem_of_getElem? (i := 15) rfl)
theorem dX8_laysLater_27 : decode cX8_laysLater 27 = .ok (.if_icmp .ge 69, 3) := DX8_laysLater (27, .if_icmp .ge 69, 3) (List.mem_of_getElem? (i := 16) rfl)
theorem dX8_laysLater_30 : decode cX8_laysLater 30 = .ok (.lload 5, 2) := DX8_laysLater (30, .lload 5, 2) (List.mem_of_getElem? (i := 17) rfl)
theorem dX8_laysLater_32 : decode cX8_laysLater 32 = .ok (.iload 7, 2) := DX8_laysLater (32, .iload 7, 2) (List.mem_of_getElem? (i := 18) rfl)
theorem dX8_laysLater_34 : decode cX8_laysLater 34 = .ok (.iload_n 3, 1) := DX8_laysLater (34, .iload_n 3, 1) (List.mem_of_getElem? (i := 19) rfl)
theorem dX8_laysLater_35 : decode cX8_laysLater 35 = .ok (.isub, 1) := DX8_laysLater (35, .isub, 1) (List.mem_of_getElem? (i := 20) rfl)
theorem dX8_laysLater_36 : decode cX8_laysLater 36 = .ok (.iconst 2, 1) := DX8_laysLater (36, .iconst 2, 1) (List.mem_of_getElem? (i := 21) rfl)
theorem dX8_laysLater_37 : decode cX8_laysLater 37 = .ok (.irem, 1) := DX8_laysLater (37, .irem, 1) (List.mem_of_getElem? (i := 22) rfl)
theorem dX8_laysLater_38 : decode cX8_laysLater 38 = .ok (.ifCond .ne 27, 3) := DX8_laysLater (38, .ifCond .ne 27, 3) (List.mem_of_getElem? (i := 23) rfl)
theorem dX8_laysLater_41 : decode cX8_laysLater 41 = .ok (.aload_n 0, 1) := DX8_laysLater (41, .aload_n 0, 1) (List.mem_of_getElem? (i := 24) rfl)
theorem dX8_laysLater_42 : decode cX8_laysLater 42 = .ok (.getfield 8, 3) := DX8_laysLater (42, .getfield 8, 3) (List.mem_of_getElem? (i := 25) rfl)
theorem dX8_laysLater_45 : decode cX8_laysLater 45 = .ok (.sipush 1372, 3) := DX8_laysLater (45, .sipush 1372, 3) (List.mem_of_getElem? (i := 26) rfl)
theorem dX8_laysLater_48 : decode cX8_laysLater 48 = .ok (.iload_n 2, 1) := DX8_laysLater (48, .iload_n 2, 1) (List.mem_of_getElem? (i := 27) rfl)
theorem dX8_laysLater_49 : decode cX8_laysLater 49 = .ok (.imul, 1) := DX8_laysLater (49, .imul, 1) (List.mem_of_getElem? (i := 28) rfl)
theorem dX8_laysLater_50 : decode cX8_laysLater 50 = .ok (.sipush 343, 3) := DX8_laysLater (50, .sipush 343, 3) (List.mem_of_getElem? (i := 29) rfl)
theorem dX8_laysLater_53 : decode cX8_laysLater 53 = .ok (.iload 7, 2) := DX8_laysLater (53, .iload 7, 2) (List.mem_of_getElem? (i := 30) rfl)
theorem dX8_laysLater_55 : decode cX8_laysLater 55 = .ok (.imul, 1) := DX8_laysLater (55, .imul, 1) (List.mem_of_getElem? (i := 31) rfl)
theorem dX8_laysLater_56 : decode cX8_laysLater 56 = .ok (.iadd, 1) := DX8_laysLater (56, .iadd, 1) (List.mem_of_getElem? (i := 32) rfl)
theorem dX8_laysLater_57 : decode cX8_laysLater 57 = .ok (.iload 4, 2) := DX8_laysLater (57, .iload 4, 2) (List.mem_of_getElem? (i := 33) rfl)
theorem dX8_laysLater_59 : decode cX8_laysLater 59 = .ok (.iadd, 1) := DX8_laysLater (59, .iadd, 1) (List.mem_of_getElem? (i := 34) rfl)
theorem dX8_laysLater_60 : decode cX8_laysLater 60 = .ok (.iaload, 1) := DX8_laysLater (60, .iaload, 1) (List.mem_of_getElem? (i := 35) rfl)
theorem dX8_laysLater_61 : decode cX8_laysLater 61 = .ok (.i2l, 1) := DX8_laysLater (61, .i2l, 1) (List.mem_of_getElem? (i := 36) rfl)
theorem dX8_laysLater_62 : decode cX8_laysLater 62 = .ok (.goto 25, 3) := DX8_laysLater (62, .goto 25, 3) (List.mem_of_getElem? (i := 37) rfl)
theorem dX8_laysLater_65 : decode cX8_laysLater 65 = .ok (.aload_n 0, 1) := DX8_laysLater (65, .aload_n 0, 1) (List.mem_of_getElem? (i := 38) rfl)
theorem dX8_laysLater_66 : decode cX8_laysLater 66 = .ok (.getfield 8, 3) := DX8_laysLater (66, .getfield 8, 3) (List.mem_of_getElem? (i := 39) rfl)
theorem dX8_laysLater_69 : decode cX8_laysLater 69 = .ok (.sipush 1372, 3) := DX8_laysLater (69, .sipush 1372, 3) (List.mem_of_getElem? (i := 40) rfl)
theorem dX8_laysLater_72 : decode cX8_laysLater 72 = .ok (.iload_n 2, 1) := DX8_laysLater (72, .iload_n 2, 1) (List.mem_of_getElem? (i := 41) rfl)
theorem dX8_laysLater_73 : decode cX8_laysLater 73 = .ok (.imul, 1) := DX8_laysLater (73, .imul, 1) (List.mem_of_getElem? (i := 42) rfl)
theorem dX8_laysLater_74 : decode cX8_laysLater 74 = .ok (.sipush 343, 3) := DX8_laysLater (74, .sipush 343, 3) (List.mem_of_getElem? (i := 43) rfl)
theorem dX8_laysLater_77 : decode cX8_laysLater 77 = .ok (.iload 7, 2) := DX8_laysLater (77, .iload 7, 2) (List.mem_of_getElem? (i := 44) rfl)
theorem dX8_laysLater_79 : decode cX8_laysLater 79 = .ok (.imul, 1) := DX8_laysLater (79, .imul, 1) (List.mem_of_getElem? (i := 45) rfl)
theorem dX8_laysLater_80 : decode cX8_laysLater 80 = .ok (.iadd, 1) := DX8_laysLater (80, .iadd, 1) (List.mem_of_getElem? (i := 46) rfl)
theorem dX8_laysLater_81 : decode cX8_laysLater 81 = .ok (.iload 4, 2) := DX8_laysLater (81, .iload 4, 2) (List.mem_of_getElem? (i := 47) rfl)
theorem dX8_laysLater_83 : decode cX8_laysLater 83 = .ok (.iadd, 1) := DX8_laysLater (83, .iadd, 1) (List.mem_of_getElem? (i := 48) rfl)
theorem dX8_laysLater_84 : decode cX8_laysLater 84 = .ok (.iaload, 1) := DX8_laysLater (84, .iaload, 1) (List.mem_of_getElem? (i := 49) rfl)
theorem dX8_laysLater_85 : decode cX8_laysLater 85 = .ok (.ineg, 1) := DX8_laysLater (85, .ineg, 1) (List.mem_of_getElem? (i := 50) rfl)
theorem dX8_laysLater_86 : decode cX8_laysLater 86 = .ok (.i2l, 1) := DX8_laysLater (86, .i2l, 1) (List.mem_of_getElem? (i := 51) rfl)
theorem dX8_laysLater_87 : decode cX8_laysLater 87 = .ok (.ladd, 1) := DX8_laysLater (87, .ladd, 1) (List.mem_of_getElem? (i := 52) rfl)
theorem dX8_laysLater_88 : decode cX8_laysLater 88 = .ok (.lstore 5, 2) := DX8_laysLater (88, .lstore 5, 2) (List.mem_of_getElem? (i := 53) rfl)
theorem dX8_laysLater_90 : decode cX8_laysLater 90 = .ok (.iinc 7 1, 3) := DX8_laysLater (90, .iinc 7 1, 3) (List.mem_of_getElem? (i := 54) rfl)
theorem dX8_laysLater_93 : decode cX8_laysLater 93 = .ok (.goto (-69), 3) := DX8_laysLater (93, .goto (-69), 3) (List.mem_of_getElem? (i := 55) rfl)
theorem dX8_laysLater_96 : decode cX8_laysLater 96 = .ok (.aload_n 0, 1) := DX8_laysLater (96, .aload_n 0, 1) (List.mem_of_getElem? (i := 56) rfl)
theorem dX8_laysLater_97 : decode cX8_laysLater 97 = .ok (.getfield 8, 3) := DX8_laysLater (97, .getfield 8, 3) (List.mem_of_getElem? (i := 57) rfl)
theorem dX8_laysLater_100 : decode cX8_laysLater 100 = .ok (.sipush 1372, 3) := DX8_laysLater (100, .sipush 1372, 3) (List.mem_of_getElem? (i := 58) rfl)
theorem dX8_laysLater_103 : decode cX8_laysLater 103 = .ok (.iload_n 1, 1) := DX8_laysLater (103, .iload_n 1, 1) (List.mem_of_getElem? (i := 59) rfl)
theorem dX8_laysLater_104 : decode cX8_laysLater 104 = .ok (.imul, 1) := DX8_laysLater (104, .imul, 1) (List.mem_of_getElem? (i := 60) rfl)
theorem dX8_laysLater_105 : decode cX8_laysLater 105 = .ok (.sipush 343, 3) := DX8_laysLater (105, .sipush 343, 3) (List.mem_of_getElem? (i := 61) rfl)
theorem dX8_laysLater_108 : decode cX8_laysLater 108 = .ok (.iload_n 3, 1) := DX8_laysLater (108, .iload_n 3, 1) (List.mem_of_getElem? (i := 62) rfl)
theorem dX8_laysLater_109 : decode cX8_laysLater 109 = .ok (.imul, 1) := DX8_laysLater (109, .imul, 1) (List.mem_of_getElem? (i := 63) rfl)
theorem dX8_laysLater_110 : decode cX8_laysLater 110 = .ok (.iadd, 1) := DX8_laysLater (110, .iadd, 1) (List.mem_of_getElem? (i := 64) rfl)
theorem dX8_laysLater_111 : decode cX8_laysLater 111 = .ok (.iload 4, 2) := DX8_laysLater (111, .iload 4, 2) (List.mem_of_getElem? (i := 65) rfl)
theorem dX8_laysLater_113 : decode cX8_laysLater 113 = .ok (.iadd, 1) := DX8_laysLater (113, .iadd, 1) (List.mem_of_getElem? (i := 66) rfl)
theorem dX8_laysLater_114 : decode cX8_laysLater 114 = .ok (.aload_n 0, 1) := DX8_laysLater (114, .aload_n 0, 1) (List.mem_of_getElem? (i := 67) rfl)
theorem dX8_laysLater_115 : decode cX8_laysLater 115 = .ok (.lload 5, 2) := DX8_laysLater (115, .lload 5, 2) (List.mem_of_getElem? (i := 68) rfl)
theorem dX8_laysLater_117 : decode cX8_laysLater 117 = .ok (.invokevirtual 83, 3) := DX8_laysLater (117, .invokevirtual 83, 3) (List.mem_of_getElem? (i := 69) rfl)
theorem dX8_laysLater_120 : decode cX8_laysLater 120 = .ok (.iastore, 1) := DX8_laysLater (120, .iastore, 1) (List.mem_of_getElem? (i := 70) rfl)
theorem dX8_laysLater_121 : decode cX8_laysLater 121 = .ok (.iinc 4 1, 3) := DX8_laysLater (121, .iinc 4 1, 3) (List.mem_of_getElem? (i := 71) rfl)
theorem dX8_laysLater_124 : decode cX8_laysLater 124 = .ok (.goto (-114), 3) := DX8_laysLater (124, .goto (-114), 3) (List.mem_of_getElem? (i := 72) rfl)
theorem dX8_laysLater_127 : decode cX8_laysLater 127 = .ok (.iinc 3 1, 3) := DX8_laysLater (127, .iinc 3 1, 3) (List.mem_of_getElem? (i := 73) rfl)
theorem dX8_laysLater_130 : decode cX8_laysLater 130 = .ok (.goto (-128), 3) := DX8_laysLater (130, .goto (-128), 3) (List.mem_of_getElem? (i := 74) rfl)
theorem dX8_laysLater_133 : decode cX8_laysLater 133 = .ok (.return_, 1) := DX8_laysLater (133, .return_, 1) (List.mem_of_getElem? (i := 75) rfl)
noncomputable def fX8_laysLater_L87 (l1 : Int32) (l2 : Int32) (l3 : Int32) (l4 : Int32) (l7 : Int32) (s0 : Int64) (s1 : Int64) (σ : Mem) : Option ((Int64 × Int32 × Mem) ⊕ (Int64 × Mem)) :=
  some (.inl (s0 + s1, l7 + 1, σ))
set_option maxHeartbeats 4000000 in
set_option maxRecDepth 100000 in
theorem tX8_laysLater_L87 {E : Gx} {cI : ClassId} {ad : Nat → Nat} (C : Cx E rmX8_laysLater cI layM ad 8 RX8 cX8_laysLater) {out : Mem} (K0 : KV E rmX8_laysLater cI layM ad 8 cX8_laysLater out) {l1 : Int32} {l2 : Int32} {l3 : Int32} {l4 : Int32} {l7 : Int32} {s0 : Int64} {s1 : Int64} {σ : Mem} {res : (Int64 × Int32 × Mem) ⊕ (Int64 × Mem)} (h : fX8_laysLater_L87 l1 l2 l3 l4 l7 s0 s1 σ = some res) (K : Sum.elim (fun a => G E rmX8_laysLater cI layM ad 8 24 [(0, .ref (ad 0)), (1, .int l1), (2, .int l2), (3, .int l3), (4, .int l4), (5, .long a.1), (7, .int a.2.1)] [] a.2.2) (fun b => G E rmX8_laysLater cI layM ad 8 96 [(0, .ref (ad 0)), (1, .int l1), (2, .int l2), (3, .int l3), (4, .int l4), (5, .long b.1)] [] b.2) res) : G E rmX8_laysLater cI layM ad 8 87 [(0, .ref (ad 0)), (1, .int l1), (2, .int l2), (3, .int l3), (4, .int l4), (7, .int l7)] [.long s1, .long s0] σ := by
  unfold fX8_laysLater_L87 at h
  refine g_ladd 88 C dX8_laysLater_87 rfl ?_
  refine g_lstore 90 [(5, .long (s0 + s1)), (0, .ref (ad 0)), (1, .int l1), (2, .int l2), (3, .int l3), (4, .int l4), (7, .int l7)] C dX8_laysLater_88 (by decide) rfl rfl ?_
  refine g_iinc 93 [(7, .int (l7 + 1)), (5, .long (s0 + s1)), (0, .ref (ad 0)), (1, .int l1), (2, .int l2), (3, .int l3), (4, .int l4)] C dX8_laysLater_90 (j := 6) rfl (by rfl) (by decide) rfl rfl ?_
  refine g_goto 24 C dX8_laysLater_93 (by decide) ?_
  have hh := end_inl h K
  exact g_sub [2, 3, 4, 5, 6, 1, 0] (hh) rfl
noncomputable def fX8_laysLater_B24 (l1 : Int32) (l2 : Int32) (l3 : Int32) (l4 : Int32) (l5 : Int64) (l7 : Int32) (σ : Mem) : Option ((Int64 × Int32 × Mem) ⊕ (Int64 × Mem)) :=
  if 4 ≤ l7 then
    some (.inr (l5, σ))
  else
    if ((l7 - l3) - (l7 - l3) / 2 * 2) = 0 then
      chk (inb (((1372 * l2) + (343 * l7)) + l4) 170128) <|
      fX8_laysLater_L87 l1 l2 l3 l4 l7 l5 ((σ 1 (((1372 * l2) + (343 * l7)) + l4).toNatClampNeg).toInt64) σ
    else
      chk (inb (((1372 * l2) + (343 * l7)) + l4) 170128) <|
      fX8_laysLater_L87 l1 l2 l3 l4 l7 l5 ((-(σ 1 (((1372 * l2) + (343 * l7)) + l4).toNatClampNeg)).toInt64) σ
set_option maxHeartbeats 4000000 in
set_option maxRecDepth 100000 in
theorem tX8_laysLater_B24 {E : Gx} {cI : ClassId} {ad : Nat → Nat} (C : Cx E rmX8_laysLater cI layM ad 8 RX8 cX8_laysLater) {out : Mem} (K0 : KV E rmX8_laysLater cI layM ad 8 cX8_laysLater out) {l1 : Int32} {l2 : Int32} {l3 : Int32} {l4 : Int32} {l5 : Int64} {l7 : Int32} {σ : Mem} {res : (Int64 × Int32 × Mem) ⊕ (Int64 × Mem)} (h : fX8_laysLater_B24 l1 l2 l3 l4 l5 l7 σ = some res) (K : Sum.elim (fun a => G E rmX8_laysLater cI layM ad 8 24 [(0, .ref (ad 0)), (1, .int l1), (2, .int l2), (3, .int l3), (4, .int l4), (5, .long a.1), (7, .int a.2.1)] [] a.2.2) (fun b => G E rmX8_laysLater cI layM ad 8 96 [(0, .ref (ad 0)), (1, .int l1), (2, .int l2), (3, .int l3), (4, .int l4), (5, .long b.1)] [] b.2) res) : G E rmX8_laysLater cI layM ad 8 24 [(0, .ref (ad 0)), (1, .int l1), (2, .int l2), (3, .int l3), (4, .int l4), (5, .long l5), (7, .int l7)] [] σ := by
  unfold fX8_laysLater_B24 at h
  refine g_iload 26 C dX8_laysLater_24 (j := 6) rfl rfl ?_
  refine g_iconst 27 (v := 4) C dX8_laysLater_26 (by decide) rfl ?_
  refine g_icmp_ge 96 30 C dX8_laysLater_27 (by decide) rfl h (fun h => ?_) (fun h => ?_)
  · have hh := end_inr h K
    exact g_sub [0, 1, 2, 3, 4, 5] (hh) rfl
  · refine g_lload 32 C dX8_laysLater_30 (j := 5) rfl rfl ?_
    refine g_iload 34 C dX8_laysLater_32 (j := 6) rfl rfl ?_
    refine g_iload_n 35 C dX8_laysLater_34 rfl (j := 3) rfl rfl ?_
    refine g_isub 36 C dX8_laysLater_35 rfl ?_
    refine g_iconst 37 (v := 2) C dX8_laysLater_36 (by decide) rfl ?_
    refine g_irem 38 C dX8_laysLater_37 (by decide) rfl ?_
    refine g_if_ne 65 41 C dX8_laysLater_38 (by decide) rfl h (fun h => ?_) (fun h => ?_)
    · refine g_aload_n 42 C dX8_laysLater_41 rfl (j := 0) rfl rfl ?_
      refine g_getr 45 (j := 0) C rfl rfl wu_X8 (by decide) wf_X8_8 rfl dX8_laysLater_42 rfl ?_
      refine g_sipush 48 (v := 1372) C dX8_laysLater_45 (by decide) rfl ?_
      refine g_iload_n 49 C dX8_laysLater_48 rfl (j := 2) rfl rfl ?_
      refine g_imul 50 C dX8_laysLater_49 rfl ?_
      refine g_sipush 53 (v := 343) C dX8_laysLater_50 (by decide) rfl ?_
      refine g_iload 55 C dX8_laysLater_53 (j := 6) rfl rfl ?_
      refine g_imul 56 C dX8_laysLater_55 rfl ?_
      refine g_iadd 57 C dX8_laysLater_56 rfl ?_
      refine g_iload 59 C dX8_laysLater_57 (j := 4) rfl rfl ?_
      refine g_iadd 60 C dX8_laysLater_59 rfl ?_
      refine g_iald 61 C rfl dX8_laysLater_60 rfl h (fun h => ?_)
      refine g_i2l 62 C dX8_laysLater_61 rfl ?_
      refine g_goto 87 C dX8_laysLater_62 (by decide) ?_
      exact g_sub [0, 1, 2, 3, 4, 6] (tX8_laysLater_L87 (l1 := l1) (l2 := l2) (l3 := l3) (l4 := l4) (l7 := l7) (s0 := l5) (s1 := ((σ 1 (((1372 * l2) + (343 * l7)) + l4).toNatClampNeg).toInt64)) (σ := σ) C K0 h K) rfl
    · refine g_aload_n 66 C dX8_laysLater_65 rfl (j := 0) rfl rfl ?_
      refine g_getr 69 (j := 0) C rfl rfl wu_X8 (by decide) wf_X8_8 rfl dX8_laysLater_66 rfl ?_
      refine g_sipush 72 (v := 1372) C dX8_laysLater_69 (by decide) rfl ?_
      refine g_iload_n 73 C dX8_laysLater_72 rfl (j := 2) rfl rfl ?_
      refine g_imul 74 C dX8_laysLater_73 rfl ?_
      refine g_sipush 77 (v := 343) C dX8_laysLater_74 (by decide) rfl ?_
      refine g_iload 79 C dX8_laysLater_77 (j := 6) rfl rfl ?_
      refine g_imul 80 C dX8_laysLater_79 rfl ?_
      refine g_iadd 81 C dX8_laysLater_80 rfl ?_
      refine g_iload 83 C dX8_laysLater_81 (j := 4) rfl rfl ?_
      refine g_iadd 84 C dX8_laysLater_83 rfl ?_
      refine g_iald 85 C rfl dX8_laysLater_84 rfl h (fun h => ?_)
      refine g_ineg 86 C dX8_laysLater_85 rfl ?_
      refine g_i2l 87 C dX8_laysLater_86 rfl ?_
      exact g_sub [0, 1, 2, 3, 4, 6] (tX8_laysLater_L87 (l1 := l1) (l2 := l2) (l3 := l3) (l4 := l4) (l7 := l7) (s0 := l5) (s1 := ((-(σ 1 (((1372 * l2) + (343 * l7)) + l4).toNatClampNeg)).toInt64)) (σ := σ) C K0 h K) rfl
noncomputable def fX8_laysLater_L96 (l1 : Int32) (l2 : Int32) (l3 : Int32) (l4 : Int32) (l5 : Int64) (σ : Mem) : Option ((Int32 × Mem) ⊕ (Mem)) :=
  (fX8_cut l5 σ).bind fun o2 =>
  chk (inb (((1372 * l1) + (343 * l3)) + l4) 170128) <|
  some (.inl (l4 + 1, up2 o2.2 1 (((1372 * l1) + (343 * l3)) + l4).toNatClampNeg o2.1))
set_option maxHeartbeats 4000000 in
set_option maxRecDepth 100000 in
theorem tX8_laysLater_L96 {E : Gx} {cI : ClassId} {ad : Nat → Nat} (C : Cx E rmX8_laysLater cI layM ad 8 RX8 cX8_laysLater) {out : Mem} (K0 : KV E rmX8_laysLater cI layM ad 8 cX8_laysLater out) {l1 : Int32} {l2 : Int32} {l3 : Int32} {l4 : Int32} {l5 : Int64} {σ : Mem} {res : (Int32 × Mem) ⊕ (Mem)} (h : fX8_laysLater_L96 l1 l2 l3 l4 l5 σ = some res) (K : Sum.elim (fun a => G E rmX8_laysLater cI layM ad 8 10 [(0, .ref (ad 0)), (1, .int l1), (2, .int l2), (3, .int l3), (4, .int a.1)] [] a.2) (fun b => G E rmX8_laysLater cI layM ad 8 127 [(0, .ref (ad 0)), (1, .int l1), (2, .int l2), (3, .int l3)] [] b) res) : G E rmX8_laysLater cI layM ad 8 96 [(0, .ref (ad 0)), (1, .int l1), (2, .int l2), (3, .int l3), (4, .int l4), (5, .long l5)] [] σ := by
  unfold fX8_laysLater_L96 at h
  refine g_aload_n 97 C dX8_laysLater_96 rfl (j := 0) rfl rfl ?_
  refine g_getr 100 (j := 0) C rfl rfl wu_X8 (by decide) wf_X8_8 rfl dX8_laysLater_97 rfl ?_
  refine g_sipush 103 (v := 1372) C dX8_laysLater_100 (by decide) rfl ?_
  refine g_iload_n 104 C dX8_laysLater_103 rfl (j := 1) rfl rfl ?_
  refine g_imul 105 C dX8_laysLater_104 rfl ?_
  refine g_sipush 108 (v := 343) C dX8_laysLater_105 (by decide) rfl ?_
  refine g_iload_n 109 C dX8_laysLater_108 rfl (j := 3) rfl rfl ?_
  refine g_imul 110 C dX8_laysLater_109 rfl ?_
  refine g_iadd 111 C dX8_laysLater_110 rfl ?_
  refine g_iload 113 C dX8_laysLater_111 (j := 4) rfl rfl ?_
  refine g_iadd 114 C dX8_laysLater_113 rfl ?_
  refine g_aload_n 115 C dX8_laysLater_114 rfl (j := 0) rfl rfl ?_
  refine g_lload 117 C dX8_laysLater_115 (j := 5) rfl rfl ?_
  refine g_cvi 120 C (As := [.long l5]) (fun _ h => mX8_cut (a1 := l5) (σ := σ) h) wl_X8_83 wi_X8_cut wz_X8_cut wc_X8_cut wn_X8 qX8_cut rfl rfl ⟨Nat.le_of_ble_eq_true rfl, Nat.le_of_ble_eq_true rfl⟩ rfl rfl rfl rfl (Nat.le_of_ble_eq_true rfl) dX8_laysLater_117 rfl h (fun o2 h => ?_)
  refine g_iast 121 C rfl dX8_laysLater_120 rfl h (fun h => ?_)
  refine g_iinc 124 [(4, .int (l4 + 1)), (0, .ref (ad 0)), (1, .int l1), (2, .int l2), (3, .int l3), (5, .long l5)] C dX8_laysLater_121 (j := 4) rfl (by rfl) (by decide) rfl rfl ?_
  refine g_goto 10 C dX8_laysLater_124 (by decide) ?_
  have hh := end_inl h K
  exact g_sub [1, 2, 3, 4, 0] (hh) rfl
noncomputable def fX8_laysLater_B10 (l1 : Int32) (l2 : Int32) (l3 : Int32) (l4 : Int32) (σ : Mem) : Option ((Int32 × Mem) ⊕ (Mem)) :=
  if 343 ≤ l4 then
    some (.inr σ)
  else
    (loop (fun a => fX8_laysLater_B24 l1 l2 l3 l4 a.1 a.2.1 a.2.2) (0, l3, σ)).bind fun b1 =>
    fX8_laysLater_L96 l1 l2 l3 l4 b1.1 b1.2
set_option maxHeartbeats 4000000 in
set_option maxRecDepth 100000 in
theorem tX8_laysLater_B10 {E : Gx} {cI : ClassId} {ad : Nat → Nat} (C : Cx E rmX8_laysLater cI layM ad 8 RX8 cX8_laysLater) {out : Mem} (K0 : KV E rmX8_laysLater cI layM ad 8 cX8_laysLater out) {l1 : Int32} {l2 : Int32} {l3 : Int32} {l4 : Int32} {σ : Mem} {res : (Int32 × Mem) ⊕ (Mem)} (h : fX8_laysLater_B10 l1 l2 l3 l4 σ = some res) (K : Sum.elim (fun a => G E rmX8_laysLater cI layM ad 8 10 [(0, .ref (ad 0)), (1, .int l1), (2, .int l2), (3, .int l3), (4, .int a.1)] [] a.2) (fun b => G E rmX8_laysLater cI layM ad 8 127 [(0, .ref (ad 0)), (1, .int l1), (2, .int l2), (3, .int l3)] [] b) res) : G E rmX8_laysLater cI layM ad 8 10 [(0, .ref (ad 0)), (1, .int l1), (2, .int l2), (3, .int l3), (4, .int l4)] [] σ := by
  unfold fX8_laysLater_B10 at h
  refine g_iload 12 C dX8_laysLater_10 (j := 4) rfl rfl ?_
  refine g_sipush 15 (v := 343) C dX8_laysLater_12 (by decide) rfl ?_
  refine g_icmp_ge 127 18 C dX8_laysLater_15 (by decide) rfl h (fun h => ?_) (fun h => ?_)
  · have hh := end_inr h K
    exact g_sub [0, 1, 2, 3] (hh) rfl
  · refine g_lconst 19 (v := 0) C dX8_laysLater_18 (by decide) rfl ?_
    refine g_lstore 21 [(5, .long 0), (0, .ref (ad 0)), (1, .int l1), (2, .int l2), (3, .int l3), (4, .int l4)] C dX8_laysLater_19 (by decide) rfl rfl ?_
    refine g_iload_n 22 C dX8_laysLater_21 rfl (j := 4) rfl rfl ?_
    refine g_istore 24 [(7, .int l3), (5, .long 0), (0, .ref (ad 0)), (1, .int l1), (2, .int l2), (3, .int l3), (4, .int l4)] C dX8_laysLater_22 (by decide) rfl rfl ?_
    obtain ⟨b1, hb, h⟩ := bind_some h
    refine g_sub [2, 3, 4, 5, 6, 1, 0] (g_loop (a := (0, l3, σ)) (fun a => G E rmX8_laysLater cI layM ad 8 24 [(0, .ref (ad 0)), (1, .int l1), (2, .int l2), (3, .int l3), (4, .int l4), (5, .long a.1), (7, .int a.2.1)] [] a.2.2) (fun b => G E rmX8_laysLater cI layM ad 8 96 [(0, .ref (ad 0)), (1, .int l1), (2, .int l2), (3, .int l3), (4, .int l4), (5, .long b.1)] [] b.2) hb (fun a res h K => tX8_laysLater_B24 (l1 := l1) (l2 := l2) (l3 := l3) (l4 := l4) (l5 := a.1) (l7 := a.2.1) (σ := a.2.2) (res := res) C K0 h K) ?_) rfl
    show G E rmX8_laysLater cI layM ad 8 96 [(0, .ref (ad 0)), (1, .int l1), (2, .int l2), (3, .int l3), (4, .int l4), (5, .long b1.1)] [] b1.2
    exact tX8_laysLater_L96 (l1 := l1) (l2 := l2) (l3 := l3) (l4 := l4) (l5 := b1.1) (σ := b1.2) C K0 h K
noncomputable def fX8_laysLater_L127 (l1 : Int32) (l2 : Int32) (l3 : Int32) (σ : Mem) : Option ((Int32 × Mem) ⊕ (Mem)) :=
  some (.inl (l3 + 1, σ))
set_option maxHeartbeats 4000000 in
set_option maxRecDepth 100000 in
theorem tX8_laysLater_L127 {E : Gx} {cI : ClassId} {ad : Nat → Nat} (C : Cx E rmX8_laysLater cI layM ad 8 RX8 cX8_laysLater) {out : Mem} (K0 : KV E rmX8_laysLater cI layM ad 8 cX8_laysLater out) {l1 : Int32} {l2 : Int32} {l3 : Int32} {σ : Mem} {res : (Int32 × Mem) ⊕ (Mem)} (h : fX8_laysLater_L127 l1 l2 l3 σ = some res) (K : Sum.elim (fun a => G E rmX8_laysLater cI layM ad 8 2 [(0, .ref (ad 0)), (1, .int l1), (2, .int l2), (3, .int a.1)] [] a.2) (fun b => G E rmX8_laysLater cI layM ad 8 133 [] [] b) res) : G E rmX8_laysLater cI layM ad 8 127 [(0, .ref (ad 0)), (1, .int l1), (2, .int l2), (3, .int l3)] [] σ := by
  unfold fX8_laysLater_L127 at h
  refine g_iinc 130 [(3, .int (l3 + 1)), (0, .ref (ad 0)), (1, .int l1), (2, .int l2)] C dX8_laysLater_127 (j := 3) rfl (by rfl) (by decide) rfl rfl ?_
  refine g_goto 2 C dX8_laysLater_130 (by decide) ?_
  have hh := end_inl h K
  exact g_sub [1, 2, 3, 0] (hh) rfl
noncomputable def fX8_laysLater_B2 (l1 : Int32) (l2 : Int32) (l3 : Int32) (σ : Mem) : Option ((Int32 × Mem) ⊕ (Mem)) :=
  if 4 ≤ l3 then
    some (.inr σ)
  else
    (loop (fun a => fX8_laysLater_B10 l1 l2 l3 a.1 a.2) (0, σ)).bind fun b3 =>
    fX8_laysLater_L127 l1 l2 l3 b3
set_option maxHeartbeats 4000000 in
set_option maxRecDepth 100000 in
theorem tX8_laysLater_B2 {E : Gx} {cI : ClassId} {ad : Nat → Nat} (C : Cx E rmX8_laysLater cI layM ad 8 RX8 cX8_laysLater) {out : Mem} (K0 : KV E rmX8_laysLater cI layM ad 8 cX8_laysLater out) {l1 : Int32} {l2 : Int32} {l3 : Int32} {σ : Mem} {res : (Int32 × Mem) ⊕ (Mem)} (h : fX8_laysLater_B2 l1 l2 l3 σ = some res) (K : Sum.elim (fun a => G E rmX8_laysLater cI layM ad 8 2 [(0, .ref (ad 0)), (1, .int l1), (2, .int l2), (3, .int a.1)] [] a.2) (fun b => G E rmX8_laysLater cI layM ad 8 133 [] [] b) res) : G E rmX8_laysLater cI layM ad 8 2 [(0, .ref (ad 0)), (1, .int l1), (2, .int l2), (3, .int l3)] [] σ := by
  unfold fX8_laysLater_B2 at h
  refine g_iload_n 3 C dX8_laysLater_2 rfl (j := 3) rfl rfl ?_
  refine g_iconst 4 (v := 4) C dX8_laysLater_3 (by decide) rfl ?_
  refine g_icmp_ge 133 7 C dX8_laysLater_4 (by decide) rfl h (fun h => ?_) (fun h => ?_)
  · have hh := end_inr h K
    exact g_sub [] (hh) rfl
  · refine g_iconst 8 (v := 0) C dX8_laysLater_7 (by decide) rfl ?_
    refine g_istore 10 [(4, .int 0), (0, .ref (ad 0)), (1, .int l1), (2, .int l2), (3, .int l3)] C dX8_laysLater_8 (by decide) rfl rfl ?_
    obtain ⟨b3, hb, h⟩ := bind_some h
    refine g_sub [1, 2, 3, 4, 0] (g_loop (a := (0, σ)) (fun a => G E rmX8_laysLater cI layM ad 8 10 [(0, .ref (ad 0)), (1, .int l1), (2, .int l2), (3, .int l3), (4, .int a.1)] [] a.2) (fun b => G E rmX8_laysLater cI layM ad 8 127 [(0, .ref (ad 0)), (1, .int l1), (2, .int l2), (3, .int l3)] [] b) hb (fun a res h K => tX8_laysLater_B10 (l1 := l1) (l2 := l2) (l3 := l3) (l4 := a.1) (σ := a.2) (res := res) C K0 h K) ?_) rfl
    show G E rmX8_laysLater cI layM ad 8 127 [(0, .ref (ad 0)), (1, .int l1), (2, .int l2), (3, .int l3)] [] b3
    exact tX8_laysLater_L127 (l1 := l1) (l2 := l2) (l3 := l3) (σ := b3) C K0 h K
noncomputable def fX8_laysLater_L133 (σ : Mem) : Option (Mem) :=
  some σ
set_option maxHeartbeats 4000000 in
set_option maxRecDepth 100000 in
theorem tX8_laysLater_L133 {E : Gx} {cI : ClassId} {ad : Nat → Nat} (C : Cx E rmX8_laysLater cI layM ad 8 RX8 cX8_laysLater) {out : Mem} (K0 : KV E rmX8_laysLater cI layM ad 8 cX8_laysLater out) {σ : Mem} (h : fX8_laysLater_L133 σ = some out) : G E rmX8_laysLater cI layM ad 8 133 [] [] σ := by
  unfold fX8_laysLater_L133 at h
  cases h
  exact K0 _ _ dX8_laysLater_133
noncomputable def fX8_laysLater (a1 : Int32) (a2 : Int32) (σ : Mem) : Option (Mem) :=
  (loop (fun a => fX8_laysLater_B2 a1 a2 a.1 a.2) (0, σ)).bind fun b4 =>
  fX8_laysLater_L133 b4
set_option maxHeartbeats 4000000 in
set_option maxRecDepth 100000 in
theorem mX8_laysLater {l : Launch} {D : va_G} {cI : ClassId} {ad : Nat → Nat} {a1 : Int32} {a2 : Int32} {σ : Mem} {out : Mem} (h : fX8_laysLater a1 a2 σ = some out) : MV l D cI layM ad yX8_laysLater cX8_laysLater 8 rmX8_laysLater [.ref (ad 0), .int a1, .int a2] σ out := by
  refine met_v (by decide) (Nat.le_of_ble_eq_true rfl) (fun E C K0 => ?_)
  show G E rmX8_laysLater cI layM ad 8 0 [(0, .ref (ad 0)), (1, .int a1), (2, .int a2)] [] σ
  unfold fX8_laysLater at h
  refine g_iconst 1 (v := 0) C dX8_laysLater_0 (by decide) rfl ?_
  refine g_istore_n 2 [(3, .int 0), (0, .ref (ad 0)), (1, .int a1), (2, .int a2)] C dX8_laysLater_1 rfl (by decide) rfl rfl ?_
  obtain ⟨b4, hb, h⟩ := bind_some h
  refine g_sub [1, 2, 3, 0] (g_loop (a := (0, σ)) (fun a => G E rmX8_laysLater cI layM ad 8 2 [(0, .ref (ad 0)), (1, .int a1), (2, .int a2), (3, .int a.1)] [] a.2) (fun b => G E rmX8_laysLater cI layM ad 8 133 [] [] b) hb (fun a res h K => tX8_laysLater_B2 (l1 := a1) (l2 := a2) (l3 := a.1) (σ := a.2) (res := res) C K0 h K) ?_) rfl
  show G E rmX8_laysLater cI layM ad 8 133 [] [] b4
  exact tX8_laysLater_L133 (σ := b4) C K0 h

/-! LoopReducerModel.hasForm(I)Z -/
abbrev rmX8_hasForm : Room := { frames := 0, cells := 0, slots := 0, locals := 0 }
theorem qX8_hasForm : yX8_hasForm.cls ≠ "java/lang/invoke/MethodHandle" ∧ yX8_hasForm.cls ≠ "java/lang/invoke/VarHandle" ∧ (parseMethodDescriptor yX8_hasForm.desc).map (fun d => d.parameters.length) = some 1 := by decide +kernel
theorem DX8_hasForm : ∀ q ∈ ([(0, .aload_n 0, 1), (1, .getfield 36, 3), (4, .iload_n 1, 1), (5, .iaload, 1), (6, .bipush 9, 2), (8, .if_icmp .eq 7, 3), (11, .iconst 1, 1), (12, .goto 4, 3), (15, .iconst 0, 1), (16, .ireturn, 1)] : List (Nat × Instr × Nat)), decode cX8_hasForm q.1 = .ok q.2 := by decide +kernel
theorem dX8_hasForm_0 : decode cX8_hasForm 0 = .ok (.aload_n 0, 1) := DX8_hasForm (0, .aload_n 0, 1) (List.mem_of_getElem? (i := 0) rfl)
theorem dX8_hasForm_1 : decode cX8_hasForm 1 = .ok (.getfield 36, 3) := DX8_hasForm (1, .getfield 36, 3) (List.mem_of_getElem? (i := 1) rfl)
theorem dX8_hasForm_4 : decode cX8_hasForm 4 = .ok (.iload_n 1, 1) := DX8_hasForm (4, .iload_n 1, 1) (List.mem_of_getElem? (i := 2) rfl)
theorem dX8_hasForm_5 : decode cX8_hasForm 5 = .ok (.iaload, 1) := DX8_hasForm (5, .iaload, 1) (List.mem_of_getElem? (i := 3) rfl)
theorem dX8_hasForm_6 : decode cX8_hasForm 6 = .ok (.bipush 9, 2) := DX8_hasForm (6, .bipush 9, 2) (List.mem_of_getElem? (i := 4) rfl)
theorem dX8_hasForm_8 : decode cX8_hasForm 8 = .ok (.if_icmp .eq 7, 3) := DX8_hasForm (8, .if_icmp .eq 7, 3) (List.mem_of_getElem? (i := 5) rfl)
theorem dX8_hasForm_11 : decode cX8_hasForm 11 = .ok (.iconst 1, 1) := DX8_hasForm (11, .iconst 1, 1) (List.mem_of_getElem? (i := 6) rfl)
theorem dX8_hasForm_12 : decode cX8_hasForm 12 = .ok (.goto 4, 3) := DX8_hasForm (12, .goto 4, 3) (List.mem_of_getElem? (i := 7) rfl)
theorem dX8_hasForm_15 : decode cX8_hasForm 15 = .ok (.iconst 0, 1) := DX8_hasForm (15, .iconst 0, 1) (List.mem_of_getElem? (i := 8) rfl)
theorem dX8_hasForm_16 : decode cX8_hasForm 16 = .ok (.ireturn, 1) := DX8_hasForm (16, .ireturn, 1) (List.mem_of_getElem? (i := 9) rfl)
noncomputable def fX8_hasForm_L16 (s0 : Int32) (σ : Mem) : Option (Int32 × Mem) :=
  chk (s0 == 0 || s0 == 1) <|
  some (s0, σ)
set_option maxHeartbeats 4000000 in
set_option maxRecDepth 100000 in
theorem tX8_hasForm_L16 {E : Gx} {cI : ClassId} {ad : Nat → Nat} (C : Cx E rmX8_hasForm cI layM ad 2 RX8 cX8_hasForm) {out : Int32 × Mem} (K0 : KI E rmX8_hasForm cI layM ad 2 cX8_hasForm .boolean out) {s0 : Int32} {σ : Mem} (h : fX8_hasForm_L16 s0 σ = some out) : G E rmX8_hasForm cI layM ad 2 16 [] [.int s0] σ := by
  unfold fX8_hasForm_L16 at h
  obtain ⟨hz, h⟩ := chk_some h
  cases h
  exact K0 _ _ dX8_hasForm_16 (zb_nar hz)
noncomputable def fX8_hasForm (a1 : Int32) (σ : Mem) : Option (Int32 × Mem) :=
  chk (inb a1 30) <|
  if (σ 6 a1.toNatClampNeg) = 9 then
    fX8_hasForm_L16 0 σ
  else
    fX8_hasForm_L16 1 σ
set_option maxHeartbeats 4000000 in
set_option maxRecDepth 100000 in
theorem mX8_hasForm {l : Launch} {D : va_G} {cI : ClassId} {ad : Nat → Nat} {a1 : Int32} {σ : Mem} {out : Int32 × Mem} (h : fX8_hasForm a1 σ = some out) : MI l D cI layM ad yX8_hasForm cX8_hasForm 2 .boolean rmX8_hasForm [.ref (ad 0), .int a1] σ out := by
  refine met_i (by decide) (Nat.le_of_ble_eq_true rfl) (fun E C K0 => ?_)
  show G E rmX8_hasForm cI layM ad 2 0 [(0, .ref (ad 0)), (1, .int a1)] [] σ
  unfold fX8_hasForm at h
  refine g_aload_n 1 C dX8_hasForm_0 rfl (j := 0) rfl rfl ?_
  refine g_getr 4 (j := 13) C rfl rfl wu_X8 (by decide) wf_X8_36 rfl dX8_hasForm_1 rfl ?_
  refine g_iload_n 5 C dX8_hasForm_4 rfl (j := 1) rfl rfl ?_
  refine g_iald 6 C rfl dX8_hasForm_5 rfl h (fun h => ?_)
  refine g_bipush 8 (v := 9) C dX8_hasForm_6 (by decide) rfl ?_
  refine g_icmp_eq 15 11 C dX8_hasForm_8 (by decide) rfl h (fun h => ?_) (fun h => ?_)
  · refine g_iconst 16 (v := 0) C dX8_hasForm_15 (by decide) rfl ?_
    exact g_sub [] (tX8_hasForm_L16 (s0 := 0) (σ := σ) C K0 h) rfl
  · refine g_iconst 12 (v := 1) C dX8_hasForm_11 (by decide) rfl ?_
    refine g_goto 16 C dX8_hasForm_12 (by decide) ?_
    exact g_sub [] (tX8_hasForm_L16 (s0 := 1) (σ := σ) C K0 h) rfl

/-! LoopReducerModel.laysGiven(II)V -/
abbrev rmX8_laysGiven : Room := { frames := 1, cells := 0, slots := 0, locals := 22 }
theorem qX8_laysGiven : yX8_laysGiven.cls ≠ "java/lang/invoke/MethodHandle" ∧ yX8_laysGiven.cls ≠ "java/lang/invoke/VarHandle" ∧ (parseMethodDescriptor yX8_laysGiven.desc).map (fun d => d.parameters.length) = some 2 := by decide +kernel
theorem DX8_laysGiven : ∀ q ∈ ([(0, .aload_n 0, 1), (1, .iload_n 1, 1), (2, .invokevirtual 127, 3), (5, .sipush 1372, 3), (8, .iload_n 1, 1), (9, .imul, 1), (10, .aload_n 0, 1), (11, .getfield 14, 3), (14, .iload_n 2, 1), (15, .iaload, 1), (16, .ifCond .ne 7, 3), (19, .iconst 0, 1), (20, .goto 33, 3), (23, .aload_n 0, 1), (24, .getfield 17, 3), (27, .iload_n 2, 1), (28, .iaload, 1), (29, .ifCond .ne 7, 3), (32, .iconst 1, 1), (33, .goto 20, 3), (36, .aload_n 0, 1), (37, .getfield 17, 3), (40, .iload_n 2, 1), (41, .iaload, 1), (42, .iconst 1, 1), (43, .if_icmp .ne 8, 3), (46, .bipush 7, 2), (48, .goto 5, 3), (51, .bipush 49, 2), (53, .iadd, 1), (54, .istore_n 3, 1), (55, .aload_n 0, 1), (56, .getfield 8, 3), (59, .iload_n 3, 1), (60, .aload_n 0, 1), (61, .getfield 14, 3), (64, .iload_n 2, 1), (65, .iaload, 1), (66, .ifCond .ne 12, 3), (69, .aload_n 0, 1), (70, .getfield 17, 3), (73, .iload_n 2, 1), (74, .iaload, 1), (75, .goto 4, 3), (78, .iconst 1, 1), (79, .iastore, 1), (80, .return_, 1)] : List (Nat × Instr × Nat)), decode cX8_laysGiven q.1 = .ok q.2 := by decide +kernel
theorem dX8_laysGiven_0 : decode cX8_laysGiven 0 = .ok (.aload_n 0, 1) := DX8_laysGiven (0, .aload_n 0, 1) (List.mem_of_getElem? (i := 0) rfl)
theorem dX8_laysGiven_1 : decode cX8_laysGiven 1 = .ok (.iload_n 1, 1) := DX8_laysGiven (1, .iload_n 1, 1) (List.mem_of_getElem? (i := 1) rfl)
theorem dX8_laysGiven_2 : decode cX8_laysGiven 2 = .ok (.invokevirtual 127, 3) := DX8_laysGiven (2, .invokevirtual 127, 3) (List.mem_of_getElem? (i := 2) rfl)
theorem dX8_laysGiven_5 : decode cX8_laysGiven 5 = .ok (.sipush 1372, 3) := DX8_laysGiven (5, .sipush 1372, 3) (List.mem_of_getElem? (i := 3) rfl)
theorem dX8_laysGiven_8 : decode cX8_laysGiven 8 = .ok (.iload_n 1, 1) := DX8_laysGiven (8, .iload_n 1, 1) (List.mem_of_getElem? (i := 4) rfl)
theorem dX8_laysGiven_9 : decode cX8_laysGiven 9 = .ok (.imul, 1) := DX8_laysGiven (9, .imul, 1) (List.mem_of_getElem? (i := 5) rfl)
theorem dX8_laysGiven_10 : decode cX8_laysGiven 10 = .ok (.aload_n 0, 1) := DX8_laysGiven (10, .aload_n 0, 1) (List.mem_of_getElem? (i := 6) rfl)
theorem dX8_laysGiven_11 : decode cX8_laysGiven 11 = .ok (.getfield 14, 3) := DX8_laysGiven (11, .getfield 14, 3) (List.mem_of_getElem? (i := 7) rfl)
theorem dX8_laysGiven_14 : decode cX8_laysGiven 14 = .ok (.iload_n 2, 1) := DX8_laysGiven (14, .iload_n 2, 1) (List.mem_of_getElem? (i := 8) rfl)
theorem dX8_laysGiven_15 : decode cX8_laysGiven 15 = .ok (.iaload, 1) := DX8_laysGiven (15, .iaload, 1) (List.mem_of_getElem? (i := 9) rfl)
theorem dX8_laysGiven_16 : decode cX8_laysGiven 16 = .ok (.ifCond .ne 7, 3) := DX8_laysGiven (16, .ifCond .ne 7, 3) (List.mem_of_getElem? (i := 10) rfl)
theorem dX8_laysGiven_19 : decode cX8_laysGiven 19 = .ok (.iconst 0, 1) := DX8_laysGiven (19, .iconst 0, 1) (List.mem_of_getElem? (i := 11) rfl)
theorem dX8_laysGiven_20 : decode cX8_laysGiven 20 = .ok (.goto 33, 3) := DX8_laysGiven (20, .goto 33, 3) (List.mem_of_getElem? (i := 12) rfl)
theorem dX8_laysGiven_23 : decode cX8_laysGiven 23 = .ok (.aload_n 0, 1) := DX8_laysGiven (23, .aload_n 0, 1) (List.mem_of_getElem? (i := 13) rfl)
theorem dX8_laysGiven_24 : decode cX8_laysGiven 24 = .ok (.getfield 17, 3) := DX8_laysGiven (24, .getfield 17, 3) (List.mem_of_getElem? (i := 14) rfl)
theorem dX8_laysGiven_27 : decode cX8_laysGiven 27 = .ok (.iload_n 2, 1) := DX8_laysGiven (27, .iload_n 2, 1) (List.mem_of_getElem? (i := 15) rfl)
theorem dX8_laysGiven_28 : decode cX8_laysGiven 28 = .ok (.iaload, 1) := DX8_laysGiven (28, .iaload, 1) (List.mem_of_getElem? (i := 16) rfl)
theorem dX8_laysGiven_29 : decode cX8_laysGiven 29 = .ok (.ifCond .ne 7, 3) := DX8_laysGiven (29, .ifCond .ne 7, 3) (List.mem_of_getElem? (i := 17) rfl)
theorem dX8_laysGiven_32 : decode cX8_laysGiven 32 = .ok (.iconst 1, 1) := DX8_laysGiven (32, .iconst 1, 1) (List.mem_of_getElem? (i := 18) rfl)
theorem dX8_laysGiven_33 : decode cX8_laysGiven 33 = .ok (.goto 20, 3) := DX8_laysGiven (33, .goto 20, 3) (List.mem_of_getElem? (i := 19) rfl)
theorem dX8_laysGiven_36 : decode cX8_laysGiven 36 = .ok (.aload_n 0, 1) := DX8_laysGiven (36, .aload_n 0, 1) (List.mem_of_getElem? (i := 20) rfl)
theorem dX8_laysGiven_37 : decode cX8_laysGiven 37 = .ok (.getfield 17, 3) := DX8_laysGiven (37, .getfield 17, 3) (List.mem_of_getElem? (i := 21) rfl)
theorem dX8_laysGiven_40 : decode cX8_laysGiven 40 = .ok (.iload_n 2, 1) := DX8_laysGiven (40, .iload_n 2, 1) (List.mem_of_getElem? (i := 22) rfl)
theorem dX8_laysGiven_41 : decode cX8_laysGiven 41 = .ok (.iaload, 1) := DX8_laysGiven (41, .iaload, 1) (List.mem_of_getElem? (i := 23) rfl)
theorem dX8_laysGiven_42 : decode cX8_laysGiven 42 = .ok (.iconst 1, 1) := DX8_laysGiven (42, .iconst 1, 1) (List.mem_of_getElem? (i := 24) rfl)
theorem dX8_laysGiven_43 : decode cX8_laysGiven 43 = .ok (.if_icmp .ne 8, 3) := DX8_laysGiven (43, .if_icmp .ne 8, 3) (List.mem_of_getElem? (i := 25) rfl)
theorem dX8_laysGiven_46 : decode cX8_laysGiven 46 = .ok (.bipush 7, 2) := DX8_laysGiven (46, .bipush 7, 2) (List.mem_of_getElem? (i := 26) rfl)
theorem dX8_laysGiven_48 : decode cX8_laysGiven 48 = .ok (.goto 5, 3) := DX8_laysGiven (48, .goto 5, 3) (List.mem_of_getElem? (i := 27) rfl)
theorem dX8_laysGiven_51 : decode cX8_laysGiven 51 = .ok (.bipush 49, 2) := DX8_laysGiven (51, .bipush 49, 2) (List.mem_of_getElem? (i := 28) rfl)
theorem dX8_laysGiven_53 : decode cX8_laysGiven 53 = .ok (.iadd, 1) := DX8_laysGiven (53, .iadd, 1) (List.mem_of_getElem? (i := 29) rfl)
theorem dX8_laysGiven_54 : decode cX8_laysGiven 54 = .ok (.istore_n 3, 1) := DX8_laysGiven (54, .istore_n 3, 1) (List.mem_of_getElem? (i := 30) rfl)
theorem dX8_laysGiven_55 : decode cX8_laysGiven 55 = .ok (.aload_n 0, 1) := DX8_laysGiven (55, .aload_n 0, 1) (List.mem_of_getElem? (i := 31) rfl)
theorem dX8_laysGiven_56 : decode cX8_laysGiven 56 = .ok (.getfield 8, 3) := DX8_laysGiven (56, .getfield 8, 3) (List.mem_of_getElem? (i := 32) rfl)
theorem dX8_laysGiven_59 : decode cX8_laysGiven 59 = .ok (.iload_n 3, 1) := DX8_laysGiven (59, .iload_n 3, 1) (List.mem_of_getElem? (i := 33) rfl)
theorem dX8_laysGiven_60 : decode cX8_laysGiven 60 = .ok (.aload_n 0, 1) := DX8_laysGiven (60, .aload_n 0, 1) (List.mem_of_getElem? (i := 34) rfl)
theorem dX8_laysGiven_61 : decode cX8_laysGiven 61 = .ok (.getfield 14, 3) := DX8_laysGiven (61, .getfield 14, 3) (List.mem_of_getElem? (i := 35) rfl)
theorem dX8_laysGiven_64 : decode cX8_laysGiven 64 = .ok (.iload_n 2, 1) := DX8_laysGiven (64, .iload_n 2, 1) (List.mem_of_getElem? (i := 36) rfl)
theorem dX8_laysGiven_65 : decode cX8_laysGiven 65 = .ok (.iaload, 1) := DX8_laysGiven (65, .iaload, 1) (List.mem_of_getElem? (i := 37) rfl)
theorem dX8_laysGiven_66 : decode cX8_laysGiven 66 = .ok (.ifCond .ne 12, 3) := DX8_laysGiven (66, .ifCond .ne 12, 3) (List.mem_of_getElem? (i := 38) rfl)
theorem dX8_laysGiven_69 : decode cX8_laysGiven 69 = .ok (.aload_n 0, 1) := DX8_laysGiven (69, .aload_n 0, 1) (List.mem_of_getElem? (i := 39) rfl)
theorem dX8_laysGiven_70 : decode cX8_laysGiven 70 = .ok (.getfield 17, 3) := DX8_laysGiven (70, .getfield 17, 3) (List.mem_of_getElem? (i := 40) rfl)
theorem dX8_laysGiven_73 : decode cX8_laysGiven 73 = .ok (.iload_n 2, 1) := DX8_laysGiven (73, .iload_n 2, 1) (List.mem_of_getElem? (i := 41) rfl)
theorem dX8_laysGiven_74 : decode cX8_laysGiven 74 = .ok (.iaload, 1) := DX8_laysGiven (74, .iaload, 1) (List.mem_of_getElem? (i := 42) rfl)
theorem dX8_laysGiven_75 : decode cX8_laysGiven 75 = .ok (.goto 4, 3) := DX8_laysGiven (75, .goto 4, 3) (List.mem_of_getElem? (i := 43) rfl)
theorem dX8_laysGiven_78 : decode cX8_laysGiven 78 = .ok (.iconst 1, 1) := DX8_laysGiven (78, .iconst 1, 1) (List.mem_of_getElem? (i := 44) rfl)
theorem dX8_laysGiven_79 : decode cX8_laysGiven 79 = .ok (.iastore, 1) := DX8_laysGiven (79, .iastore, 1) (List.mem_of_getElem? (i := 45) rfl)
theorem dX8_laysGiven_80 : decode cX8_laysGiven 80 = .ok (.return_, 1) := DX8_laysGiven (80, .return_, 1) (List.mem_of_getElem? (i := 46) rfl)
noncomputable def fX8_laysGiven_L79 (s1 : Int32) (s2 : Int32) (σ : Mem) : Option (Mem) :=
  chk (inb s1 170128) <|
  some (up2 σ 1 s1.toNatClampNeg s2)
set_option maxHeartbeats 4000000 in
set_option maxRecDepth 100000 in
theorem tX8_laysGiven_L79 {E : Gx} {cI : ClassId} {ad : Nat → Nat} (C : Cx E rmX8_laysGiven cI layM ad 4 RX8 cX8_laysGiven) {out : Mem} (K0 : KV E rmX8_laysGiven cI layM ad 4 cX8_laysGiven out) {s1 : Int32} {s2 : Int32} {σ : Mem} (h : fX8_laysGiven_L79 s1 s2 σ = some out) : G E rmX8_laysGiven cI layM ad 4 79 [] [.int s2, .int s1, .ref (ad 1)] σ := by
  unfold fX8_laysGiven_L79 at h
  refine g_iast 80 C rfl dX8_laysGiven_79 rfl h (fun h => ?_)
  cases h
  exact K0 _ _ dX8_laysGiven_80
noncomputable def fX8_laysGiven_L53 (l2 : Int32) (s0 : Int32) (s1 : Int32) (σ : Mem) : Option (Mem) :=
  chk (inb l2 30) <|
  if (σ 2 l2.toNatClampNeg) = 0 then
    chk (inb l2 30) <|
    fX8_laysGiven_L79 (s0 + s1) (σ 3 l2.toNatClampNeg) σ
  else
    fX8_laysGiven_L79 (s0 + s1) 1 σ
set_option maxHeartbeats 4000000 in
set_option maxRecDepth 100000 in
theorem tX8_laysGiven_L53 {E : Gx} {cI : ClassId} {ad : Nat → Nat} (C : Cx E rmX8_laysGiven cI layM ad 4 RX8 cX8_laysGiven) {out : Mem} (K0 : KV E rmX8_laysGiven cI layM ad 4 cX8_laysGiven out) {l2 : Int32} {s0 : Int32} {s1 : Int32} {σ : Mem} (h : fX8_laysGiven_L53 l2 s0 s1 σ = some out) : G E rmX8_laysGiven cI layM ad 4 53 [(0, .ref (ad 0)), (2, .int l2)] [.int s1, .int s0] σ := by
  unfold fX8_laysGiven_L53 at h
  refine g_iadd 54 C dX8_laysGiven_53 rfl ?_
  refine g_istore_n 55 [(3, .int (s0 + s1)), (0, .ref (ad 0)), (2, .int l2)] C dX8_laysGiven_54 rfl (by decide) rfl rfl ?_
  refine g_aload_n 56 C dX8_laysGiven_55 rfl (j := 1) rfl rfl ?_
  refine g_getr 59 (j := 0) C rfl rfl wu_X8 (by decide) wf_X8_8 rfl dX8_laysGiven_56 rfl ?_
  refine g_iload_n 60 C dX8_laysGiven_59 rfl (j := 0) rfl rfl ?_
  refine g_aload_n 61 C dX8_laysGiven_60 rfl (j := 1) rfl rfl ?_
  refine g_getr 64 (j := 3) C rfl rfl wu_X8 (by decide) wf_X8_14 rfl dX8_laysGiven_61 rfl ?_
  refine g_iload_n 65 C dX8_laysGiven_64 rfl (j := 2) rfl rfl ?_
  refine g_iald 66 C rfl dX8_laysGiven_65 rfl h (fun h => ?_)
  refine g_if_ne 78 69 C dX8_laysGiven_66 (by decide) rfl h (fun h => ?_) (fun h => ?_)
  · refine g_aload_n 70 C dX8_laysGiven_69 rfl (j := 1) rfl rfl ?_
    refine g_getr 73 (j := 4) C rfl rfl wu_X8 (by decide) wf_X8_17 rfl dX8_laysGiven_70 rfl ?_
    refine g_iload_n 74 C dX8_laysGiven_73 rfl (j := 2) rfl rfl ?_
    refine g_iald 75 C rfl dX8_laysGiven_74 rfl h (fun h => ?_)
    refine g_goto 79 C dX8_laysGiven_75 (by decide) ?_
    exact g_sub [] (tX8_laysGiven_L79 (s1 := (s0 + s1)) (s2 := (σ 3 l2.toNatClampNeg)) (σ := σ) C K0 h) rfl
  · refine g_iconst 79 (v := 1) C dX8_laysGiven_78 (by decide) rfl ?_
    exact g_sub [] (tX8_laysGiven_L79 (s1 := (s0 + s1)) (s2 := 1) (σ := σ) C K0 h) rfl
noncomputable def fX8_laysGiven (a1 : Int32) (a2 : Int32) (σ : Mem) : Option (Mem) :=
  (fX8_empties a1 σ).bind fun o1 =>
  chk (inb a2 30) <|
  if (o1 2 a2.toNatClampNeg) = 0 then
    fX8_laysGiven_L53 a2 (1372 * a1) 0 o1
  else
    chk (inb a2 30) <|
    if (o1 3 a2.toNatClampNeg) = 0 then
      fX8_laysGiven_L53 a2 (1372 * a1) 1 o1
    else
      chk (inb a2 30) <|
      if (o1 3 a2.toNatClampNeg) = 1 then
        fX8_laysGiven_L53 a2 (1372 * a1) 7 o1
      else
        fX8_laysGiven_L53 a2 (1372 * a1) 49 o1
set_option maxHeartbeats 4000000 in
set_option maxRecDepth 100000 in
theorem mX8_laysGiven {l : Launch} {D : va_G} {cI : ClassId} {ad : Nat → Nat} {a1 : Int32} {a2 : Int32} {σ : Mem} {out : Mem} (h : fX8_laysGiven a1 a2 σ = some out) : MV l D cI layM ad yX8_laysGiven cX8_laysGiven 4 rmX8_laysGiven [.ref (ad 0), .int a1, .int a2] σ out := by
  refine met_v (by decide) (Nat.le_of_ble_eq_true rfl) (fun E C K0 => ?_)
  show G E rmX8_laysGiven cI layM ad 4 0 [(0, .ref (ad 0)), (1, .int a1), (2, .int a2)] [] σ
  unfold fX8_laysGiven at h
  refine g_aload_n 1 C dX8_laysGiven_0 rfl (j := 0) rfl rfl ?_
  refine g_iload_n 2 C dX8_laysGiven_1 rfl (j := 1) rfl rfl ?_
  refine g_cvv 5 C (As := [.int a1]) (fun _ h => mX8_empties (a1 := a1) (σ := σ) h) wl_X8_127 wi_X8_empties wz_X8_empties wc_X8_empties wn_X8 qX8_empties rfl rfl ⟨Nat.le_of_ble_eq_true rfl, Nat.le_of_ble_eq_true rfl⟩ rfl rfl rfl rfl (Nat.le_of_ble_eq_true rfl) dX8_laysGiven_2 rfl h (fun o1 h => ?_)
  refine g_sipush 8 (v := 1372) C dX8_laysGiven_5 (by decide) rfl ?_
  refine g_iload_n 9 C dX8_laysGiven_8 rfl (j := 1) rfl rfl ?_
  refine g_imul 10 C dX8_laysGiven_9 rfl ?_
  refine g_aload_n 11 C dX8_laysGiven_10 rfl (j := 0) rfl rfl ?_
  refine g_getr 14 (j := 3) C rfl rfl wu_X8 (by decide) wf_X8_14 rfl dX8_laysGiven_11 rfl ?_
  refine g_iload_n 15 C dX8_laysGiven_14 rfl (j := 2) rfl rfl ?_
  refine g_iald 16 C rfl dX8_laysGiven_15 rfl h (fun h => ?_)
  refine g_if_ne 23 19 C dX8_laysGiven_16 (by decide) rfl h (fun h => ?_) (fun h => ?_)
  · refine g_iconst 20 (v := 0) C dX8_laysGiven_19 (by decide) rfl ?_
    refine g_goto 53 C dX8_laysGiven_20 (by decide) ?_
    exact g_sub [0, 2] (tX8_laysGiven_L53 (l2 := a2) (s0 := (1372 * a1)) (s1 := 0) (σ := o1) C K0 h) rfl
  · refine g_aload_n 24 C dX8_laysGiven_23 rfl (j := 0) rfl rfl ?_
    refine g_getr 27 (j := 4) C rfl rfl wu_X8 (by decide) wf_X8_17 rfl dX8_laysGiven_24 rfl ?_
    refine g_iload_n 28 C dX8_laysGiven_27 rfl (j := 2) rfl rfl ?_
    refine g_iald 29 C rfl dX8_laysGiven_28 rfl h (fun h => ?_)
    refine g_if_ne 36 32 C dX8_laysGiven_29 (by decide) rfl h (fun h => ?_) (fun h => ?_)
    · refine g_iconst 33 (v := 1) C dX8_laysGiven_32 (by decide) rfl ?_
      refine g_goto 53 C dX8_laysGiven_33 (by decide) ?_
      exact g_sub [0, 2] (tX8_laysGiven_L53 (l2 := a2) (s0 := (1372 * a1)) (s1 := 1) (σ := o1) C K0 h) rfl
    · refine g_aload_n 37 C dX8_laysGiven_36 rfl (j := 0) rfl rfl ?_
      refine g_getr 40 (j := 4) C rfl rfl wu_X8 (by decide) wf_X8_17 rfl dX8_laysGiven_37 rfl ?_
      refine g_iload_n 41 C dX8_laysGiven_40 rfl (j := 2) rfl rfl ?_
      refine g_iald 42 C rfl dX8_laysGiven_41 rfl h (fun h => ?_)
      refine g_iconst 43 (v := 1) C dX8_laysGiven_42 (by decide) rfl ?_
      refine g_icmp_ne 51 46 C dX8_laysGiven_43 (by decide) rfl h (fun h => ?_) (fun h => ?_)
      · refine g_bipush 48 (v := 7) C dX8_laysGiven_46 (by decide) rfl ?_
        refine g_goto 53 C dX8_laysGiven_48 (by decide) ?_
        exact g_sub [0, 2] (tX8_laysGiven_L53 (l2 := a2) (s0 := (1372 * a1)) (s1 := 7) (σ := o1) C K0 h) rfl
      · refine g_bipush 53 (v := 49) C dX8_laysGiven_51 (by decide) rfl ?_
        exact g_sub [0, 2] (tX8_laysGiven_L53 (l2 := a2) (s0 := (1372 * a1)) (s1 := 49) (σ := o1) C K0 h) rfl

/-! LoopReducerModel.carries(III)V -/
abbrev rmX8_carries : Room := { frames := 2, cells := 0, slots := 0, locals := 49 }
theorem qX8_carries : yX8_carries.cls ≠ "java/lang/invoke/MethodHandle" ∧ yX8_carries.cls ≠ "java/lang/invoke/VarHandle" ∧ (parseMethodDescriptor yX8_carries.desc).map (fun d => d.parameters.length) = some 3 := by decide +kernel
theorem DX8_carries : ∀ q ∈ ([(0, .aload_n 0, 1), (1, .getfield 36, 3), (4, .iload_n 1, 1), (5, .bipush 9, 2), (7, .iastore, 1), (8, .iload_n 3, 1), (9, .bipush 9, 2), (11, .if_icmp .eq 8, 3), (14, .iload_n 3, 1), (15, .iconst 3, 1), (16, .if_icmp .ne 4, 3), (19, .return_, 1), (20, .aload_n 0, 1), (21, .bipush 30, 2), (23, .iload_n 2, 1), (24, .invokevirtual 147, 3), (27, .aload_n 0, 1), (28, .bipush 31, 2), (30, .aload_n 0, 1), (31, .getfield 17, 3), (34, .iload_n 1, 1), (35, .iaload, 1), (36, .invokevirtual 151, 3), (39, .iload_n 3, 1), (40, .ifCond .ne 7, 3), (43, .iconst 1, 1), (44, .goto 4, 3), (47, .iconst 0, 1), (48, .istore 4, 2), (50, .iconst 0, 1), (51, .istore 5, 2), (53, .iload 5, 2), (55, .sipush 343, 3), (58, .if_icmp .ge 44, 3), (61, .iload 4, 2), (63, .ifCond .eq 39, 3), (66, .aload_n 0, 1), (67, .getfield 8, 3), (70, .ldc 154, 2), (72, .iload 5, 2), (74, .iadd, 1), (75, .iaload, 1), (76, .aload_n 0, 1), (77, .getfield 8, 3), (80, .ldc 155, 2), (82, .iload 5, 2), (84, .iadd, 1), (85, .iaload, 1), (86, .if_icmp .ne 7, 3), (89, .iconst 1, 1), (90, .goto 4, 3), (93, .iconst 0, 1), (94, .istore 4, 2), (96, .iinc 5 1, 3), (99, .goto (-46), 3), (102, .aload_n 0, 1), (103, .bipush 30, 2), (105, .iload_n 1, 1), (106, .invokevirtual 156, 3), (109, .aload_n 0, 1), (110, .getfield 36, 3), (113, .iload_n 1, 1), (114, .iload 4, 2), (116, .ifCond .eq 7, 3), (119, .iconst 0, 1), (120, .goto 6, 3), (123, .iload_n 3, 1), (124, .iconst 1, 1), (125, .iadd, 1), (126, .iastore, 1), (127, .return_, 1)] : List (Nat × Instr × Nat)), decode cX8_carries q.1 = .ok q.2 := by decide +kernel
theorem dX8_carries_0 : decode cX8_carries 0 = .ok (.aload_n 0, 1) := DX8_carries (0, .aload_n 0, 1) (List.mem_of_getElem? (i := 0) rfl)
theorem dX8_carries_1 : decode cX8_carries 1 = .ok (.getfield 36, 3) := DX8_carries (1, .getfield 36, 3) (List.mem_of_getElem? (i := 1) rfl)
theorem dX8_carries_4 : decode cX8_carries 4 = .ok (.iload_n 1, 1) := DX8_carries (4, .iload_n 1, 1) (List.mem_of_getElem? (i := 2) rfl)
theorem dX8_carries_5 : decode cX8_carries 5 = .ok (.bipush 9, 2) := DX8_carries (5, .bipush 9, 2) (List.mem_of_getElem? (i := 3) rfl)
theorem dX8_carries_7 : decode cX8_carries 7 = .ok (.iastore, 1) := DX8_carries (7, .iastore, 1) (List.mem_of_getElem? (i := 4) rfl)
theorem dX8_carries_8 : decode cX8_carries 8 = .ok (.iload_n 3, 1) := DX8_carries (8, .iload_n 3, 1) (List.mem_of_getElem? (i := 5) rfl)
theorem dX8_carries_9 : decode cX8_carries 9 = .ok (.bipush 9, 2) := DX8_carries (9, .bipush 9, 2) (List.mem_of_getElem? (i := 6) rfl)
theorem dX8_carries_11 : decode cX8_carries 11 = .ok (.if_icmp .eq 8, 3) := DX8_carries (11, .if_icmp .eq 8, 3) (List.mem_of_getElem? (i := 7) rfl)
theorem dX8_carries_14 : decode cX8_carries 14 = .ok (.iload_n 3, 1) := DX8_carries (14, .iload_n 3, 1) (List.mem_of_getElem? (i := 8) rfl)
theorem dX8_carries_15 : decode cX8_carries 15 = .ok (.iconst 3, 1) := DX8_carries (15, .iconst 3, 1) (List.mem_of_getElem? (i := 9) rfl)
theorem dX8_carries_16 : decode cX8_carries 16 = .ok (.if_icmp .ne 4, 3) := DX8_carries (16, .if_icmp .ne 4, 3) (List.mem_of_getElem? (i := 10) rfl)
theorem dX8_carries_19 : decode cX8_carries 19 = .ok (.return_, 1) := DX8_carries (19, .return_, 1) (List.mem_of_getElem? (i := 11) rfl)
theorem dX8_carries_20 : decode cX8_carries 20 = .ok (.aload_n 0, 1) := DX8_carries (20, .aload_n 0, 1) (List.mem_of_getElem? (i := 12) rfl)
theorem dX8_carries_21 : decode cX8_carries 21 = .ok (.bipush 30, 2) := DX8_carries (21, .bipush 30, 2) (List.mem_of_getElem? (i := 13) rfl)
theorem dX8_carries_23 : decode cX8_carries 23 = .ok (.iload_n 2, 1) := DX8_carries (23, .iload_n 2, 1) (List.mem_of_getElem? (i := 14) rfl)
theorem dX8_carries_24 : decode cX8_carries 24 = .ok (.invokevirtual 147, 3) := DX8_carries (24, .invokevirtual 147, 3) (List.mem_of_getElem? (i := 15) rfl)
theorem dX8_carries_27 : decode cX8_carries 27 = .ok (.aload_n 0, 1) := DX8_carries (27, .aload_n 0, 1) (List.mem_of_getElem? (i := 16) rfl)
theorem dX8_carries_28 : decode cX8_carries 28 = .ok (.bipush 31, 2) := DX8_carries (28, .bipush 31, 2) (List.mem_of_getElem? (i := 17) rfl)
theorem dX8_carries_30 : decode cX8_carries 30 = .ok (.aload_n 0, 1) := DX8_carries (30, .aload_n 0, 1) (List.mem_of_getElem? (i := 18) rfl)
theorem dX8_carries_31 : decode cX8_carries 31 = .ok (.getfield 17, 3) := DX8_carries (31, .getfield 17, 3) (List.mem_of_getElem? (i := 19) rfl)
theorem dX8_carries_34 : decode cX8_carries 34 = .ok (.iload_n 1, 1) := DX8_carries (34, .iload_n 1, 1) (List.mem_of_getElem? (i := 20) rfl)
theorem dX8_carries_35 : decode cX8_carries 35 = .ok (.iaload, 1) := DX8_carries (35, .iaload, 1) (List.mem_of_getElem? (i := 21) rfl)
theorem dX8_carries_36 : decode cX8_carries 36 = .ok (.invokevirtual 151, 3) := DX8_carries (36, .invokevirtual 151, 3) (List.mem_of_getElem? (i := 22) rfl)
theorem dX8_carries_39 : decode cX8_carries 39 = .ok (.iload_n 3, 1) := DX8_carries (39, .iload_n 3, 1) (List.mem_of_getElem? (i := 23) rfl)
theorem dX8_carries_40 : decode cX8_carries 40 = .ok (.ifCond .ne 7, 3) := DX8_carries (40, .ifCond .ne 7, 3) (List.mem_of_getElem? (i := 24) rfl)
theorem dX8_carries_43 : decode cX8_carries 43 = .ok (.iconst 1, 1) := DX8_carries (43, .iconst 1, 1) (List.mem_of_getElem? (i := 25) rfl)
theorem dX8_carries_44 : decode cX8_carries 44 = .ok (.goto 4, 3) := DX8_carries (44, .goto 4, 3) (List.mem_of_getElem? (i := 26) rfl)
theorem dX8_carries_47 : decode cX8_carries 47 = .ok (.iconst 0, 1) := DX8_carries (47, .iconst 0, 1) (List.mem_of_getElem? (i := 27) rfl)
theorem dX8_carries_48 : decode cX8_carries 48 = .ok (.istore 4, 2) := DX8_carries (48, .istore 4, 2) (List.mem_of_getElem? (i := 28) rfl)
theorem dX8_carries_50 : decode cX8_carries 50 = .ok (.iconst 0, 1) := DX8_carries (50, .iconst 0, 1) (List.mem_of_getElem? (i := 29) rfl)
theorem dX8_carries_51 : decode cX8_carries 51 = .ok (.istore 5, 2) := DX8_carries (51, .istore 5, 2) (List.mem_of_getElem? (i := 30) rfl)
theorem dX8_carries_53 : decode cX8_carries 53 = .ok (.iload 5, 2) := DX8_carries (53, .iload 5, 2) (List.mem_of_getElem? (i := 31) rfl)
theorem dX8_carries_55 : decode cX8_carries 55 = .ok (.sipush 343, 3) := DX8_carries (55, .sipush 343, 3) (List.mem_of_getElem? (i := 32) rfl)
theorem dX8_carries_58 : decode cX8_carries 58 = .ok (.if_icmp .ge 44, 3) := DX8_carries (58, .if_icmp .ge 44, 3) (List.mem_of_getElem? (i := 33) rfl)
theorem dX8_carries_61 : decode cX8_carries 61 = .ok (.iload 4, 2) := DX8_carries (61, .iload 4, 2) (List.mem_of_getElem? (i := 34) rfl)
theorem dX8_carries_63 : decode cX8_carries 63 = .ok (.ifCond .eq 39, 3) := DX8_carries (63, .ifCond .eq 39, 3) (List.mem_of_getElem? (i := 35) rfl)
theorem dX8_carries_66 : decode cX8_carries 66 = .ok (.aload_n 0, 1) := DX8_carries (66, .aload_n 0, 1) (List.mem_of_getElem? (i := 36) rfl)
theorem dX8_carries_67 : decode cX8_carries 67 = .ok (.getfield 8, 3) := DX8_carries (67, .getfield 8, 3) (List.mem_of_getElem? (i := 37) rfl)
theorem dX8_carries_70 : decode cX8_carries 70 = .ok (.ldc 154, 2) := DX8_carries (70, .ldc 154, 2) (List.mem_of_getElem? (i := 38) rfl)
theorem dX8_carries_72 : decode cX8_carries 72 = .ok (.iload 5, 2) := DX8_carries (72, .iload 5, 2) (List.mem_of_getElem? (i := 39) rfl)
theorem dX8_carries_74 : decode cX8_carries 74 = .ok (.iadd, 1) := DX8_carries (74, .iadd, 1) (List.mem_of_getElem? (i := 40) rfl)
theorem dX8_carries_75 : decode cX8_carries 75 = .ok (.iaload, 1) := DX8_carries (75, .iaload, 1) (List.mem_of_getElem? (i := 41) rfl)
theorem dX8_carries_76 : decode cX8_carries 76 = .ok (.aload_n 0, 1) := DX8_carries (76, .aload_n 0, 1) (List.mem_of_getElem? (i := 42) rfl)
theorem dX8_carries_77 : decode cX8_carries 77 = .ok (.getfield 8, 3) := DX8_carries (77, .getfield 8, 3) (List.mem_of_getElem? (i := 43) rfl)
theorem dX8_carries_80 : decode cX8_carries 80 = .ok (.ldc 155, 2) := DX8_carries (80, .ldc 155, 2) (List.mem_of_getElem? (i := 44) rfl)
theorem dX8_carries_82 : decode cX8_carries 82 = .ok (.iload 5, 2) := DX8_carries (82, .iload 5, 2) (List.mem_of_getElem? (i := 45) rfl)
theorem dX8_carries_84 : decode cX8_carries 84 = .ok (.iadd, 1) := DX8_carries (84, .iadd, 1) (List.mem_of_getElem? (i := 46) rfl)
theorem dX8_carries_85 : decode cX8_carries 85 = .ok (.iaload, 1) := DX8_carries (85, .iaload, 1) (List.mem_of_getElem? (i := 47) rfl)
theorem dX8_carries_86 : decode cX8_carries 86 = .ok (.if_icmp .ne 7, 3) := DX8_carries (86, .if_icmp .ne 7, 3) (List.mem_of_getElem? (i := 48) rfl)
theorem dX8_carries_89 : decode cX8_carries 89 = .ok (.iconst 1, 1) := DX8_carries (89, .iconst 1, 1) (List.mem_of_getElem? (i := 49) rfl)
theorem dX8_carries_90 : decode cX8_carries 90 = .ok (.goto 4, 3) := DX8_carries (90, .goto 4, 3) (List.mem_of_getElem? (i := 50) rfl)
theorem dX8_carries_93 : decode cX8_carries 93 = .ok (.iconst 0, 1) := DX8_carries (93, .iconst 0, 1) (List.mem_of_getElem? (i := 51) rfl)
theorem dX8_carries_94 : decode cX8_carries 94 = .ok (.istore 4, 2) := DX8_carries (94, .istore 4, 2) (List.mem_of_getElem? (i := 52) rfl)
theorem dX8_carries_96 : decode cX8_carries 96 = .ok (.iinc 5 1, 3) := DX8_carries (96, .iinc 5 1, 3) (List.mem_of_getElem? (i := 53) rfl)
theorem dX8_carries_99 : decode cX8_carries 99 = .ok (.goto (-46), 3) := DX8_carries (99, .goto (-46), 3) (List.mem_of_getElem? (i := 54) rfl)
theorem dX8_carries_102 : decode cX8_carries 102 = .ok (.aload_n 0, 1) := DX8_carries (102, .aload_n 0, 1) (List.mem_of_getElem? (i := 55) rfl)
theorem dX8_carries_103 : decode cX8_carries 103 = .ok (.bipush 30, 2) := DX8_carries (103, .bipush 30, 2) (List.mem_of_getElem? (i := 56) rfl)
theorem dX8_carries_105 : decode cX8_carries 105 = .ok (.iload_n 1, 1) := DX8_carries (105, .iload_n 1, 1) (List.mem_of_getElem? (i := 57) rfl)
theorem dX8_carries_106 : decode cX8_carries 106 = .ok (.invokevirtual 156, 3) := DX8_carries (106, .invokevirtual 156, 3) (List.mem_of_getElem? (i := 58) rfl)
theorem dX8_carries_109 : decode cX8_carries 109 = .ok (.aload_n 0, 1) := DX8_carries (109, .aload_n 0, 1) (List.mem_of_getElem? (i := 59) rfl)
theorem dX8_carries_110 : decode cX8_carries 110 = .ok (.getfield 36, 3) := DX8_carries (110, .getfield 36, 3) (List.mem_of_getElem? (i := 60) rfl)
theorem dX8_carries_113 : decode cX8_carries 113 = .ok (.iload_n 1, 1) := DX8_carries (113, .iload_n 1, 1) (List.mem_of_getElem? (i := 61) rfl)
theorem dX8_carries_114 : decode cX8_carries 114 = .ok (.iload 4, 2) := DX8_carries (114, .iload 4, 2) (List.mem_of_getElem? (i := 62) rfl)
theorem dX8_carries_116 : decode cX8_carries 116 = .ok (.ifCond .eq 7, 3) := DX8_carries (116, .ifCond .eq 7, 3) (List.mem_of_getElem? (i := 63) rfl)
theorem dX8_carries_119 : decode cX8_carries 119 = .ok (.iconst 0, 1) := DX8_carries (119, .iconst 0, 1) (List.mem_of_getElem? (i := 64) rfl)
theorem dX8_carries_120 : decode cX8_carries 120 = .ok (.goto 6, 3) := DX8_carries (120, .goto 6, 3) (List.mem_of_getElem? (i := 65) rfl)
theorem dX8_carries_123 : decode cX8_carries 123 = .ok (.iload_n 3, 1) := DX8_carries (123, .iload_n 3, 1) (List.mem_of_getElem? (i := 66) rfl)
theorem dX8_carries_124 : decode cX8_carries 124 = .ok (.iconst 1, 1) := DX8_carries (124, .iconst 1, 1) (List.mem_of_getElem? (i := 67) rfl)
theorem dX8_carries_125 : decode cX8_carries 125 = .ok (.iadd, 1) := DX8_carries (125, .iadd, 1) (List.mem_of_getElem? (i := 68) rfl)
theorem dX8_carries_126 : decode cX8_carries 126 = .ok (.iastore, 1) := DX8_carries (126, .iastore, 1) (List.mem_of_getElem? (i := 69) rfl)
theorem dX8_carries_127 : decode cX8_carries 127 = .ok (.return_, 1) := DX8_carries (127, .return_, 1) (List.mem_of_getElem? (i := 70) rfl)
noncomputable def fX8_carries_L19 (σ : Mem) : Option (Mem) :=
  some σ
set_option maxHeartbeats 4000000 in
set_option maxRecDepth 100000 in
theorem tX8_carries_L19 {E : Gx} {cI : ClassId} {ad : Nat → Nat} (C : Cx E rmX8_carries cI layM ad 6 RX8 cX8_carries) {out : Mem} (K0 : KV E rmX8_carries cI layM ad 6 cX8_carries out) {σ : Mem} (h : fX8_carries_L19 σ = some out) : G E rmX8_carries cI layM ad 6 19 [] [] σ := by
  unfold fX8_carries_L19 at h
  cases h
  exact K0 _ _ dX8_carries_19
noncomputable def fX8_carries_L94 (l1 : Int32) (l3 : Int32) (l5 : Int32) (s0 : Int32) (σ : Mem) : Option ((Int32 × Int32 × Mem) ⊕ (Int32 × Mem)) :=
  some (.inl (s0, l5 + 1, σ))
set_option maxHeartbeats 4000000 in
set_option maxRecDepth 100000 in
theorem tX8_carries_L94 {E : Gx} {cI : ClassId} {ad : Nat → Nat} (C : Cx E rmX8_carries cI layM ad 6 RX8 cX8_carries) {out : Mem} (K0 : KV E rmX8_carries cI layM ad 6 cX8_carries out) {l1 : Int32} {l3 : Int32} {l5 : Int32} {s0 : Int32} {σ : Mem} {res : (Int32 × Int32 × Mem) ⊕ (Int32 × Mem)} (h : fX8_carries_L94 l1 l3 l5 s0 σ = some res) (K : Sum.elim (fun a => G E rmX8_carries cI layM ad 6 53 [(0, .ref (ad 0)), (1, .int l1), (3, .int l3), (4, .int a.1), (5, .int a.2.1)] [] a.2.2) (fun b => G E rmX8_carries cI layM ad 6 102 [(0, .ref (ad 0)), (1, .int l1), (3, .int l3), (4, .int b.1)] [] b.2) res) : G E rmX8_carries cI layM ad 6 94 [(0, .ref (ad 0)), (1, .int l1), (3, .int l3), (5, .int l5)] [.int s0] σ := by
  unfold fX8_carries_L94 at h
  refine g_istore 96 [(4, .int s0), (0, .ref (ad 0)), (1, .int l1), (3, .int l3), (5, .int l5)] C dX8_carries_94 (by decide) rfl rfl ?_
  refine g_iinc 99 [(5, .int (l5 + 1)), (4, .int s0), (0, .ref (ad 0)), (1, .int l1), (3, .int l3)] C dX8_carries_96 (j := 4) rfl (by rfl) (by decide) rfl rfl ?_
  refine g_goto 53 C dX8_carries_99 (by decide) ?_
  have hh := end_inl h K
  exact g_sub [2, 3, 4, 1, 0] (hh) rfl
noncomputable def fX8_carries_B53 (l1 : Int32) (l3 : Int32) (l4 : Int32) (l5 : Int32) (σ : Mem) : Option ((Int32 × Int32 × Mem) ⊕ (Int32 × Mem)) :=
  if 343 ≤ l5 then
    some (.inr (l4, σ))
  else
    if l4 = 0 then
      some (.inr (l4, σ))
    else
      chk (inb (41160 + l5) 170128) <|
      chk (inb (42532 + l5) 170128) <|
      if (σ 1 (41160 + l5).toNatClampNeg) = (σ 1 (42532 + l5).toNatClampNeg) then
        fX8_carries_L94 l1 l3 l5 1 σ
      else
        fX8_carries_L94 l1 l3 l5 0 σ
set_option maxHeartbeats 4000000 in
set_option maxRecDepth 100000 in
theorem tX8_carries_B53 {E : Gx} {cI : ClassId} {ad : Nat → Nat} (C : Cx E rmX8_carries cI layM ad 6 RX8 cX8_carries) {out : Mem} (K0 : KV E rmX8_carries cI layM ad 6 cX8_carries out) {l1 : Int32} {l3 : Int32} {l4 : Int32} {l5 : Int32} {σ : Mem} {res : (Int32 × Int32 × Mem) ⊕ (Int32 × Mem)} (h : fX8_carries_B53 l1 l3 l4 l5 σ = some res) (K : Sum.elim (fun a => G E rmX8_carries cI layM ad 6 53 [(0, .ref (ad 0)), (1, .int l1), (3, .int l3), (4, .int a.1), (5, .int a.2.1)] [] a.2.2) (fun b => G E rmX8_carries cI layM ad 6 102 [(0, .ref (ad 0)), (1, .int l1), (3, .int l3), (4, .int b.1)] [] b.2) res) : G E rmX8_carries cI layM ad 6 53 [(0, .ref (ad 0)), (1, .int l1), (3, .int l3), (4, .int l4), (5, .int l5)] [] σ := by
  unfold fX8_carries_B53 at h
  refine g_iload 55 C dX8_carries_53 (j := 4) rfl rfl ?_
  refine g_sipush 58 (v := 343) C dX8_carries_55 (by decide) rfl ?_
  refine g_icmp_ge 102 61 C dX8_carries_58 (by decide) rfl h (fun h => ?_) (fun h => ?_)
  · have hh := end_inr h K
    exact g_sub [0, 1, 2, 3] (hh) rfl
  · refine g_iload 63 C dX8_carries_61 (j := 3) rfl rfl ?_
    refine g_if_eq 102 66 C dX8_carries_63 (by decide) rfl h (fun h => ?_) (fun h => ?_)
    · have hh := end_inr h K
      exact g_sub [0, 1, 2, 3] (hh) rfl
    · refine g_aload_n 67 C dX8_carries_66 rfl (j := 0) rfl rfl ?_
      refine g_getr 70 (j := 0) C rfl rfl wu_X8 (by decide) wf_X8_8 rfl dX8_carries_67 rfl ?_
      refine g_ldc 72 (v := 41160) C dX8_carries_70 wk_X8_154 rfl ?_
      refine g_iload 74 C dX8_carries_72 (j := 4) rfl rfl ?_
      refine g_iadd 75 C dX8_carries_74 rfl ?_
      refine g_iald 76 C rfl dX8_carries_75 rfl h (fun h => ?_)
      refine g_aload_n 77 C dX8_carries_76 rfl (j := 0) rfl rfl ?_
      refine g_getr 80 (j := 0) C rfl rfl wu_X8 (by decide) wf_X8_8 rfl dX8_carries_77 rfl ?_
      refine g_ldc 82 (v := 42532) C dX8_carries_80 wk_X8_155 rfl ?_
      refine g_iload 84 C dX8_carries_82 (j := 4) rfl rfl ?_
      refine g_iadd 85 C dX8_carries_84 rfl ?_
      refine g_iald 86 C rfl dX8_carries_85 rfl h (fun h => ?_)
      refine g_icmp_ne 93 89 C dX8_carries_86 (by decide) rfl h (fun h => ?_) (fun h => ?_)
      · refine g_iconst 90 (v := 1) C dX8_carries_89 (by decide) rfl ?_
        refine g_goto 94 C dX8_carries_90 (by decide) ?_
        exact g_sub [0, 1, 2, 4] (tX8_carries_L94 (l1 := l1) (l3 := l3) (l5 := l5) (s0 := 1) (σ := σ) C K0 h K) rfl
      · refine g_iconst 94 (v := 0) C dX8_carries_93 (by decide) rfl ?_
        exact g_sub [0, 1, 2, 4] (tX8_carries_L94 (l1 := l1) (l3 := l3) (l5 := l5) (s0 := 0) (σ := σ) C K0 h K) rfl
noncomputable def fX8_carries_L126 (s1 : Int32) (s2 : Int32) (σ : Mem) : Option (Mem) :=
  chk (inb s1 30) <|
  some (up2 σ 6 s1.toNatClampNeg s2)
set_option maxHeartbeats 4000000 in
set_option maxRecDepth 100000 in
theorem tX8_carries_L126 {E : Gx} {cI : ClassId} {ad : Nat → Nat} (C : Cx E rmX8_carries cI layM ad 6 RX8 cX8_carries) {out : Mem} (K0 : KV E rmX8_carries cI layM ad 6 cX8_carries out) {s1 : Int32} {s2 : Int32} {σ : Mem} (h : fX8_carries_L126 s1 s2 σ = some out) : G E rmX8_carries cI layM ad 6 126 [] [.int s2, .int s1, .ref (ad 6)] σ := by
  unfold fX8_carries_L126 at h
  refine g_iast 127 C rfl dX8_carries_126 rfl h (fun h => ?_)
  cases h
  exact K0 _ _ dX8_carries_127
noncomputable def fX8_carries_L102 (l1 : Int32) (l3 : Int32) (l4 : Int32) (σ : Mem) : Option (Mem) :=
  (fX8_copies 30 l1 σ).bind fun o4 =>
  if l4 = 0 then
    fX8_carries_L126 l1 (l3 + 1) o4
  else
    fX8_carries_L126 l1 0 o4
set_option maxHeartbeats 4000000 in
set_option maxRecDepth 100000 in
theorem tX8_carries_L102 {E : Gx} {cI : ClassId} {ad : Nat → Nat} (C : Cx E rmX8_carries cI layM ad 6 RX8 cX8_carries) {out : Mem} (K0 : KV E rmX8_carries cI layM ad 6 cX8_carries out) {l1 : Int32} {l3 : Int32} {l4 : Int32} {σ : Mem} (h : fX8_carries_L102 l1 l3 l4 σ = some out) : G E rmX8_carries cI layM ad 6 102 [(0, .ref (ad 0)), (1, .int l1), (3, .int l3), (4, .int l4)] [] σ := by
  unfold fX8_carries_L102 at h
  refine g_aload_n 103 C dX8_carries_102 rfl (j := 0) rfl rfl ?_
  refine g_bipush 105 (v := 30) C dX8_carries_103 (by decide) rfl ?_
  refine g_iload_n 106 C dX8_carries_105 rfl (j := 1) rfl rfl ?_
  refine g_cvv 109 C (As := [.int 30, .int l1]) (fun _ h => mX8_copies (a1 := 30) (a2 := l1) (σ := σ) h) wl_X8_156 wi_X8_copies wz_X8_copies wc_X8_copies wn_X8 qX8_copies rfl rfl ⟨Nat.le_of_ble_eq_true rfl, Nat.le_of_ble_eq_true rfl⟩ rfl rfl rfl rfl (Nat.le_of_ble_eq_true rfl) dX8_carries_106 rfl h (fun o4 h => ?_)
  refine g_aload_n 110 C dX8_carries_109 rfl (j := 0) rfl rfl ?_
  refine g_getr 113 (j := 13) C rfl rfl wu_X8 (by decide) wf_X8_36 rfl dX8_carries_110 rfl ?_
  refine g_iload_n 114 C dX8_carries_113 rfl (j := 1) rfl rfl ?_
  refine g_iload 116 C dX8_carries_114 (j := 3) rfl rfl ?_
  refine g_if_eq 123 119 C dX8_carries_116 (by decide) rfl h (fun h => ?_) (fun h => ?_)
  · refine g_iload_n 124 C dX8_carries_123 rfl (j := 2) rfl rfl ?_
    refine g_iconst 125 (v := 1) C dX8_carries_124 (by decide) rfl ?_
    refine g_iadd 126 C dX8_carries_125 rfl ?_
    exact g_sub [] (tX8_carries_L126 (s1 := l1) (s2 := (l3 + 1)) (σ := o4) C K0 h) rfl
  · refine g_iconst 120 (v := 0) C dX8_carries_119 (by decide) rfl ?_
    refine g_goto 126 C dX8_carries_120 (by decide) ?_
    exact g_sub [] (tX8_carries_L126 (s1 := l1) (s2 := 0) (σ := o4) C K0 h) rfl
noncomputable def fX8_carries_L48 (l1 : Int32) (l3 : Int32) (s0 : Int32) (σ : Mem) : Option (Mem) :=
  (loop (fun a => fX8_carries_B53 l1 l3 a.1 a.2.1 a.2.2) (s0, 0, σ)).bind fun b3 =>
  fX8_carries_L102 l1 l3 b3.1 b3.2
set_option maxHeartbeats 4000000 in
set_option maxRecDepth 100000 in
theorem tX8_carries_L48 {E : Gx} {cI : ClassId} {ad : Nat → Nat} (C : Cx E rmX8_carries cI layM ad 6 RX8 cX8_carries) {out : Mem} (K0 : KV E rmX8_carries cI layM ad 6 cX8_carries out) {l1 : Int32} {l3 : Int32} {s0 : Int32} {σ : Mem} (h : fX8_carries_L48 l1 l3 s0 σ = some out) : G E rmX8_carries cI layM ad 6 48 [(0, .ref (ad 0)), (1, .int l1), (3, .int l3)] [.int s0] σ := by
  unfold fX8_carries_L48 at h
  refine g_istore 50 [(4, .int s0), (0, .ref (ad 0)), (1, .int l1), (3, .int l3)] C dX8_carries_48 (by decide) rfl rfl ?_
  refine g_iconst 51 (v := 0) C dX8_carries_50 (by decide) rfl ?_
  refine g_istore 53 [(5, .int 0), (4, .int s0), (0, .ref (ad 0)), (1, .int l1), (3, .int l3)] C dX8_carries_51 (by decide) rfl rfl ?_
  obtain ⟨b3, hb, h⟩ := bind_some h
  refine g_sub [2, 3, 4, 1, 0] (g_loop (a := (s0, 0, σ)) (fun a => G E rmX8_carries cI layM ad 6 53 [(0, .ref (ad 0)), (1, .int l1), (3, .int l3), (4, .int a.1), (5, .int a.2.1)] [] a.2.2) (fun b => G E rmX8_carries cI layM ad 6 102 [(0, .ref (ad 0)), (1, .int l1), (3, .int l3), (4, .int b.1)] [] b.2) hb (fun a res h K => tX8_carries_B53 (l1 := l1) (l3 := l3) (l4 := a.1) (l5 := a.2.1) (σ := a.2.2) (res := res) C K0 h K) ?_) rfl
  show G E rmX8_carries cI layM ad 6 102 [(0, .ref (ad 0)), (1, .int l1), (3, .int l3), (4, .int b3.1)] [] b3.2
  exact tX8_carries_L102 (l1 := l1) (l3 := l3) (l4 := b3.1) (σ := b3.2) C K0 h
noncomputable def fX8_carries (a1 : Int32) (a2 : Int32) (a3 : Int32) (σ : Mem) : Option (Mem) :=
  chk (inb a1 30) <|
  if a3 = 9 then
    fX8_carries_L19 (up2 σ 6 a1.toNatClampNeg 9)
  else
    if a3 = 3 then
      fX8_carries_L19 (up2 σ 6 a1.toNatClampNeg 9)
    else
      (fX8_laysLater 30 a2 (up2 σ 6 a1.toNatClampNeg 9)).bind fun o1 =>
      chk (inb a1 30) <|
      (fX8_laysGiven 31 (o1 3 a1.toNatClampNeg) o1).bind fun o2 =>
      if a3 = 0 then
        fX8_carries_L48 a1 a3 1 o2
      else
        fX8_carries_L48 a1 a3 0 o2
set_option maxHeartbeats 4000000 in
set_option maxRecDepth 100000 in
theorem mX8_carries {l : Launch} {D : va_G} {cI : ClassId} {ad : Nat → Nat} {a1 : Int32} {a2 : Int32} {a3 : Int32} {σ : Mem} {out : Mem} (h : fX8_carries a1 a2 a3 σ = some out) : MV l D cI layM ad yX8_carries cX8_carries 6 rmX8_carries [.ref (ad 0), .int a1, .int a2, .int a3] σ out := by
  refine met_v (by decide) (Nat.le_of_ble_eq_true rfl) (fun E C K0 => ?_)
  show G E rmX8_carries cI layM ad 6 0 [(0, .ref (ad 0)), (1, .int a1), (2, .int a2), (3, .int a3)] [] σ
  unfold fX8_carries at h
  refine g_aload_n 1 C dX8_carries_0 rfl (j := 0) rfl rfl ?_
  refine g_getr 4 (j := 13) C rfl rfl wu_X8 (by decide) wf_X8_36 rfl dX8_carries_1 rfl ?_
  refine g_iload_n 5 C dX8_carries_4 rfl (j := 1) rfl rfl ?_
  refine g_bipush 7 (v := 9) C dX8_carries_5 (by decide) rfl ?_
  refine g_iast 8 C rfl dX8_carries_7 rfl h (fun h => ?_)
  refine g_iload_n 9 C dX8_carries_8 rfl (j := 3) rfl rfl ?_
  refine g_bipush 11 (v := 9) C dX8_carries_9 (by decide) rfl ?_
  refine g_icmp_eq 19 14 C dX8_carries_11 (by decide) rfl h (fun h => ?_) (fun h => ?_)
  · exact g_sub [] (tX8_carries_L19 (σ := up2 σ 6 a1.toNatClampNeg 9) C K0 h) rfl
  · refine g_iload_n 15 C dX8_carries_14 rfl (j := 3) rfl rfl ?_
    refine g_iconst 16 (v := 3) C dX8_carries_15 (by decide) rfl ?_
    refine g_icmp_ne 20 19 C dX8_carries_16 (by decide) rfl h (fun h => ?_) (fun h => ?_)
    · exact g_sub [] (tX8_carries_L19 (σ := up2 σ 6 a1.toNatClampNeg 9) C K0 h) rfl
    · refine g_aload_n 21 C dX8_carries_20 rfl (j := 0) rfl rfl ?_
      refine g_bipush 23 (v := 30) C dX8_carries_21 (by decide) rfl ?_
      refine g_iload_n 24 C dX8_carries_23 rfl (j := 2) rfl rfl ?_
      refine g_cvv 27 C (As := [.int 30, .int a2]) (fun _ h => mX8_laysLater (a1 := 30) (a2 := a2) (σ := up2 σ 6 a1.toNatClampNeg 9) h) wl_X8_147 wi_X8_laysLater wz_X8_laysLater wc_X8_laysLater wn_X8 qX8_laysLater rfl rfl ⟨Nat.le_of_ble_eq_true rfl, Nat.le_of_ble_eq_true rfl⟩ rfl rfl rfl rfl (Nat.le_of_ble_eq_true rfl) dX8_carries_24 rfl h (fun o1 h => ?_)
      refine g_aload_n 28 C dX8_carries_27 rfl (j := 0) rfl rfl ?_
      refine g_bipush 30 (v := 31) C dX8_carries_28 (by decide) rfl ?_
      refine g_aload_n 31 C dX8_carries_30 rfl (j := 0) rfl rfl ?_
      refine g_getr 34 (j := 4) C rfl rfl wu_X8 (by decide) wf_X8_17 rfl dX8_carries_31 rfl ?_
      refine g_iload_n 35 C dX8_carries_34 rfl (j := 1) rfl rfl ?_
      refine g_iald 36 C rfl dX8_carries_35 rfl h (fun h => ?_)
      refine g_cvv 39 C (As := [.int 31, .int (o1 3 a1.toNatClampNeg)]) (fun _ h => mX8_laysGiven (a1 := 31) (a2 := o1 3 a1.toNatClampNeg) (σ := o1) h) wl_X8_151 wi_X8_laysGiven wz_X8_laysGiven wc_X8_laysGiven wn_X8 qX8_laysGiven rfl rfl ⟨Nat.le_of_ble_eq_true rfl, Nat.le_of_ble_eq_true rfl⟩ rfl rfl rfl rfl (Nat.le_of_ble_eq_true rfl) dX8_carries_36 rfl h (fun o2 h => ?_)
      refine g_iload_n 40 C dX8_carries_39 rfl (j := 3) rfl rfl ?_
      refine g_if_ne 47 43 C dX8_carries_40 (by decide) rfl h (fun h => ?_) (fun h => ?_)
      · refine g_iconst 44 (v := 1) C dX8_carries_43 (by decide) rfl ?_
        refine g_goto 48 C dX8_carries_44 (by decide) ?_
        exact g_sub [0, 1, 3] (tX8_carries_L48 (l1 := a1) (l3 := a3) (s0 := 1) (σ := o2) C K0 h) rfl
      · refine g_iconst 48 (v := 0) C dX8_carries_47 (by decide) rfl ?_
        exact g_sub [0, 1, 3] (tX8_carries_L48 (l1 := a1) (l3 := a3) (s0 := 0) (σ := o2) C K0 h) rfl

/-! LoopReducerModel.partOf(II)I -/
abbrev rmX8_partOf : Room := { frames := 1, cells := 0, slots := 0, locals := 21 }
theorem qX8_partOf : yX8_partOf.cls ≠ "java/lang/invoke/MethodHandle" ∧ yX8_partOf.cls ≠ "java/lang/invoke/VarHandle" ∧ (parseMethodDescriptor yX8_partOf.desc).map (fun d => d.parameters.length) = some 2 := by decide +kernel
theorem DX8_partOf : ∀ q ∈ ([(0, .iload_n 1, 1), (1, .iload_n 2, 1), (2, .invokestatic 102, 3), (5, .ifCond .eq 5, 3), (8, .iload_n 2, 1), (9, .ireturn, 1), (10, .aload_n 0, 1), (11, .getfield 42, 3), (14, .iload_n 2, 1), (15, .iconst 0, 1), (16, .iastore, 1), (17, .aload_n 0, 1), (18, .getfield 36, 3), (21, .iload_n 2, 1), (22, .iaload, 1), (23, .ifCond .ne 7, 3), (26, .iload_n 2, 1), (27, .goto 4, 3), (30, .iconst (-1), 1), (31, .ireturn, 1)] : List (Nat × Instr × Nat)), decode cX8_partOf q.1 = .ok q.2 := by decide +kernel
theorem dX8_partOf_0 : decode cX8_partOf 0 = .ok (.iload_n 1, 1) := DX8_partOf (0, .iload_n 1, 1) (List.mem_of_getElem? (i := 0) rfl)
theorem dX8_partOf_1 : decode cX8_partOf 1 = .ok (.iload_n 2, 1) := DX8_partOf (1, .iload_n 2, 1) (List.mem_of_getElem? (i := 1) rfl)
theorem dX8_partOf_2 : decode cX8_partOf 2 = .ok (.invokestatic 102, 3) := DX8_partOf (2, .invokestatic 102, 3) (List.mem_of_getElem? (i := 2) rfl)
theorem dX8_partOf_5 : decode cX8_partOf 5 = .ok (.ifCond .eq 5, 3) := DX8_partOf (5, .ifCond .eq 5, 3) (List.mem_of_getElem? (i := 3) rfl)
theorem dX8_partOf_8 : decode cX8_partOf 8 = .ok (.iload_n 2, 1) := DX8_partOf (8, .iload_n 2, 1) (List.mem_of_getElem? (i := 4) rfl)
theorem dX8_partOf_9 : decode cX8_partOf 9 = .ok (.ireturn, 1) := DX8_partOf (9, .ireturn, 1) (List.mem_of_getElem? (i := 5) rfl)
theorem dX8_partOf_10 : decode cX8_partOf 10 = .ok (.aload_n 0, 1) := DX8_partOf (10, .aload_n 0, 1) (List.mem_of_getElem? (i := 6) rfl)
theorem dX8_partOf_11 : decode cX8_partOf 11 = .ok (.getfield 42, 3) := DX8_partOf (11, .getfield 42, 3) (List.mem_of_getElem? (i := 7) rfl)
theorem dX8_partOf_14 : decode cX8_partOf 14 = .ok (.iload_n 2, 1) := DX8_partOf (14, .iload_n 2, 1) (List.mem_of_getElem? (i := 8) rfl)
theorem dX8_partOf_15 : decode cX8_partOf 15 = .ok (.iconst 0, 1) := DX8_partOf (15, .iconst 0, 1) (List.mem_of_getElem? (i := 9) rfl)
theorem dX8_partOf_16 : decode cX8_partOf 16 = .ok (.iastore, 1) := DX8_partOf (16, .iastore, 1) (List.mem_of_getElem? (i := 10) rfl)
theorem dX8_partOf_17 : decode cX8_partOf 17 = .ok (.aload_n 0, 1) := DX8_partOf (17, .aload_n 0, 1) (List.mem_of_getElem? (i := 11) rfl)
theorem dX8_partOf_18 : decode cX8_partOf 18 = .ok (.getfield 36, 3) := DX8_partOf (18, .getfield 36, 3) (List.mem_of_getElem? (i := 12) rfl)
theorem dX8_partOf_21 : decode cX8_partOf 21 = .ok (.iload_n 2, 1) := DX8_partOf (21, .iload_n 2, 1) (List.mem_of_getElem? (i := 13) rfl)
theorem dX8_partOf_22 : decode cX8_partOf 22 = .ok (.iaload, 1) := DX8_partOf (22, .iaload, 1) (List.mem_of_getElem? (i := 14) rfl)
theorem dX8_partOf_23 : decode cX8_partOf 23 = .ok (.ifCond .ne 7, 3) := DX8_partOf (23, .ifCond .ne 7, 3) (List.mem_of_getElem? (i := 15) rfl)
theorem dX8_partOf_26 : decode cX8_partOf 26 = .ok (.iload_n 2, 1) := DX8_partOf (26, .iload_n 2, 1) (List.mem_of_getElem? (i := 16) rfl)
theorem dX8_partOf_27 : decode cX8_partOf 27 = .ok (.goto 4, 3) := DX8_partOf (27, .goto 4, 3) (List.mem_of_getElem? (i := 17) rfl)
theorem dX8_partOf_30 : decode cX8_partOf 30 = .ok (.iconst (-1), 1) := DX8_partOf (30, .iconst (-1), 1) (List.mem_of_getElem? (i := 18) rfl)
theorem dX8_partOf_31 : decode cX8_partOf 31 = .ok (.ireturn, 1) := DX8_partOf (31, .ireturn, 1) (List.mem_of_getElem? (i := 19) rfl)
noncomputable def fX8_partOf_L31 (s0 : Int32) (σ : Mem) : Option (Int32 × Mem) :=
  some (s0, σ)
set_option maxHeartbeats 4000000 in
set_option maxRecDepth 100000 in
theorem tX8_partOf_L31 {E : Gx} {cI : ClassId} {ad : Nat → Nat} (C : Cx E rmX8_partOf cI layM ad 3 RX8 cX8_partOf) {out : Int32 × Mem} (K0 : KI E rmX8_partOf cI layM ad 3 cX8_partOf .int out) {s0 : Int32} {σ : Mem} (h : fX8_partOf_L31 s0 σ = some out) : G E rmX8_partOf cI layM ad 3 31 [] [.int s0] σ := by
  unfold fX8_partOf_L31 at h
  cases h
  exact K0 _ _ dX8_partOf_31 rfl
noncomputable def fX8_partOf (a1 : Int32) (a2 : Int32) (σ : Mem) : Option (Int32 × Mem) :=
  (fX8_has a1 a2 σ).bind fun o1 =>
  if o1.1 = 0 then
    chk (inb a2 30) <|
    chk (inb a2 30) <|
    if ((up2 o1.2 8 a2.toNatClampNeg 0) 6 a2.toNatClampNeg) = 0 then
      fX8_partOf_L31 a2 (up2 o1.2 8 a2.toNatClampNeg 0)
    else
      fX8_partOf_L31 (-1) (up2 o1.2 8 a2.toNatClampNeg 0)
  else
    some (a2, o1.2)
set_option maxHeartbeats 4000000 in
set_option maxRecDepth 100000 in
theorem mX8_partOf {l : Launch} {D : va_G} {cI : ClassId} {ad : Nat → Nat} {a1 : Int32} {a2 : Int32} {σ : Mem} {out : Int32 × Mem} (h : fX8_partOf a1 a2 σ = some out) : MI l D cI layM ad yX8_partOf cX8_partOf 3 .int rmX8_partOf [.ref (ad 0), .int a1, .int a2] σ out := by
  refine met_i (by decide) (Nat.le_of_ble_eq_true rfl) (fun E C K0 => ?_)
  show G E rmX8_partOf cI layM ad 3 0 [(0, .ref (ad 0)), (1, .int a1), (2, .int a2)] [] σ
  unfold fX8_partOf at h
  refine g_iload_n 1 C dX8_partOf_0 rfl (j := 1) rfl rfl ?_
  refine g_iload_n 2 C dX8_partOf_1 rfl (j := 2) rfl rfl ?_
  refine g_csi 5 C (As := [.int a1, .int a2]) (fun _ h => mX8_has (a1 := a1) (a2 := a2) (σ := σ) h) wl_X8_102 ws_X8_has wc_X8_has wn_X8 qX8_has rfl rfl ⟨Nat.le_of_ble_eq_true rfl, Nat.le_of_ble_eq_true rfl⟩ rfl rfl (Nat.le_of_ble_eq_true rfl) dX8_partOf_2 rfl h (fun o1 h => ?_)
  refine g_if_eq 10 8 C dX8_partOf_5 (by decide) rfl h (fun h => ?_) (fun h => ?_)
  · refine g_aload_n 11 C dX8_partOf_10 rfl (j := 0) rfl rfl ?_
    refine g_getr 14 (j := 15) C rfl rfl wu_X8 (by decide) wf_X8_42 rfl dX8_partOf_11 rfl ?_
    refine g_iload_n 15 C dX8_partOf_14 rfl (j := 2) rfl rfl ?_
    refine g_iconst 16 (v := 0) C dX8_partOf_15 (by decide) rfl ?_
    refine g_iast 17 C rfl dX8_partOf_16 rfl h (fun h => ?_)
    refine g_aload_n 18 C dX8_partOf_17 rfl (j := 0) rfl rfl ?_
    refine g_getr 21 (j := 13) C rfl rfl wu_X8 (by decide) wf_X8_36 rfl dX8_partOf_18 rfl ?_
    refine g_iload_n 22 C dX8_partOf_21 rfl (j := 2) rfl rfl ?_
    refine g_iald 23 C rfl dX8_partOf_22 rfl h (fun h => ?_)
    refine g_if_ne 30 26 C dX8_partOf_23 (by decide) rfl h (fun h => ?_) (fun h => ?_)
    · refine g_iload_n 27 C dX8_partOf_26 rfl (j := 2) rfl rfl ?_
      refine g_goto 31 C dX8_partOf_27 (by decide) ?_
      exact g_sub [] (tX8_partOf_L31 (s0 := a2) (σ := up2 o1.2 8 a2.toNatClampNeg 0) C K0 h) rfl
    · refine g_iconst 31 (v := (-1)) C dX8_partOf_30 (by decide) rfl ?_
      exact g_sub [] (tX8_partOf_L31 (s0 := (-1)) (σ := up2 o1.2 8 a2.toNatClampNeg 0) C K0 h) rfl
  · refine g_iload_n 9 C dX8_partOf_8 rfl (j := 2) rfl rfl ?_
    cases h
    exact K0 _ _ dX8_partOf_9 rfl

/-! LoopReducerModel.laysPart(II)Z -/
abbrev rmX8_laysPart : Room := { frames := 2, cells := 0, slots := 0, locals := 48 }
theorem qX8_laysPart : yX8_laysPart.cls ≠ "java/lang/invoke/MethodHandle" ∧ yX8_laysPart.cls ≠ "java/lang/invoke/VarHandle" ∧ (parseMethodDescriptor yX8_laysPart.desc).map (fun d => d.parameters.length) = some 2 := by decide +kernel
theorem DX8_laysPart : ∀ q ∈ ([(0, .aload_n 0, 1), (1, .iload_n 1, 1), (2, .aload_n 0, 1), (3, .getfield 17, 3), (6, .iload_n 2, 1), (7, .iaload, 1), (8, .invokevirtual 168, 3), (11, .istore_n 3, 1), (12, .aload_n 0, 1), (13, .iload_n 1, 1), (14, .aload_n 0, 1), (15, .getfield 20, 3), (18, .iload_n 2, 1), (19, .iaload, 1), (20, .invokevirtual 168, 3), (23, .istore 4, 2), (25, .iload_n 3, 1), (26, .iconst (-1), 1), (27, .if_icmp .eq 9, 3), (30, .iload 4, 2), (32, .iconst (-1), 1), (33, .if_icmp .ne 5, 3), (36, .iconst 0, 1), (37, .ireturn, 1), (38, .aload_n 0, 1), (39, .getfield 14, 3), (42, .iload_n 2, 1), (43, .iaload, 1), (44, .iconst 4, 1), (45, .if_icmp .eq 63, 3), (48, .aload_n 0, 1), (49, .getfield 14, 3), (52, .iload_n 2, 1), (53, .iaload, 1), (54, .iconst 2, 1), (55, .if_icmp .ne 7, 3), (58, .iconst 1, 1), (59, .goto 4, 3), (62, .iconst (-1), 1), (63, .istore 5, 2), (65, .aload_n 0, 1), (66, .getfield 42, 3), (69, .iload_n 2, 1), (70, .aload_n 0, 1), (71, .aload_n 0, 1), (72, .getfield 42, 3), (75, .iload_n 3, 1), (76, .iaload, 1), (77, .i2l, 1), (78, .iload 5, 2), (80, .i2l, 1), (81, .aload_n 0, 1), (82, .getfield 42, 3), (85, .iload 4, 2), (87, .iaload, 1), (88, .i2l, 1), (89, .lmul, 1), (90, .ladd, 1), (91, .invokevirtual 83, 3), (94, .iastore, 1), (95, .aload_n 0, 1), (96, .iload_n 2, 1), (97, .iload_n 3, 1), (98, .iconst 1, 1), (99, .iload 4, 2), (101, .iload 5, 2), (103, .invokevirtual 162, 3), (106, .iconst 1, 1), (107, .ireturn, 1), (108, .aload_n 0, 1), (109, .getfield 14, 3), (112, .iload_n 3, 1), (113, .iaload, 1), (114, .ifCond .ne 16, 3), (117, .iload_n 1, 1), (118, .iload 4, 2), (120, .invokestatic 102, 3), (123, .ifCond .eq 7, 3), (126, .iconst 1, 1), (127, .goto 4, 3), (130, .iconst 0, 1), (131, .istore 5, 2), (133, .aload_n 0, 1), (134, .getfield 14, 3), (137, .iload 4, 2), (139, .iaload, 1), (140, .ifCond .ne 15, 3), (143, .iload_n 1, 1), (144, .iload_n 3, 1), (145, .invokestatic 102, 3), (148, .ifCond .eq 7, 3), (151, .iconst 1, 1), (152, .goto 4, 3), (155, .iconst 0, 1), (156, .istore 6, 2), (158, .iload 5, 2), (160, .ifCond .ne 10, 3), (163, .iload 6, 2), (165, .ifCond .ne 5, 3), (168, .iconst 0, 1), (169, .ireturn, 1), (170, .iload 5, 2), (172, .ifCond .eq 12, 3), (175, .aload_n 0, 1), (176, .getfield 17, 3), (179, .iload_n 3, 1), (180, .iaload, 1), (181, .goto 10, 3), (184, .aload_n 0, 1), (185, .getfield 17, 3), (188, .iload 4, 2), (190, .iaload, 1), (191, .istore 7, 2), (193, .iload 5, 2), (195, .ifCond .eq 8, 3), (198, .iload 4, 2), (200, .goto 4, 3), (203, .iload_n 3, 1), (204, .istore 8, 2), (206, .aload_n 0, 1), (207, .getfield 42, 3), (210, .iload_n 2, 1), (211, .aload_n 0, 1), (212, .iload 7, 2), (214, .i2l, 1), (215, .aload_n 0, 1), (216, .getfield 42, 3), (219, .iload 8, 2), (221, .iaload, 1), (222, .i2l, 1), (223, .lmul, 1), (224, .invokevirtual 83, 3), (227, .iastore, 1), (228, .aload_n 0, 1), (229, .iload_n 2, 1), (230, .iload 8, 2), (232, .iload 7, 2), (234, .iload 8, 2), (236, .iconst 0, 1), (237, .invokevirtual 162, 3), (240, .iconst 1, 1), (241, .ireturn, 1)] : List (Nat × Instr × Nat)), decode cX8_laysPart q.1 = .ok q.2 := by decide +kernel
theorem dX8_laysPart_0 : decode cX8_laysPart 0 = .ok (.aload_n 0, 1) := DX8_laysPart (0, .aload_n 0, 1) (List.mem_of_getElem? (i := 0) rfl)
theorem dX8_laysPart_1 : decode cX8_laysPart 1 = .ok (.iload_n 1, 1) := DX8_laysPart (1, .iload_n 1, 1) (List.mem_of_getElem? (i := 1) rfl)
theorem dX8_laysPart_2 : decode cX8_laysPart 2 = .ok (.aload_n 0, 1) := DX8_laysPart (2, .aload_n 0, 1) (List.mem_of_getElem? (i := 2) rfl)
theorem dX8_laysPart_3 : decode cX8_laysPart 3 = .ok (.getfield 17, 3) := DX8_laysPart (3, .getfield 17, 3) (List.mem_of_getElem? (i := 3) rfl)
theorem dX8_laysPart_6 : decode cX8_laysPart 6 = .ok (.iload_n 2, 1) := DX8_laysPart (6, .iload_n 2, 1) (List.mem_of_getElem? (i := 4) rfl)
theorem dX8_laysPart_7 : decode cX8_laysPart 7 = .ok (.iaload, 1) := DX8_laysPart (7, .iaload, 1) (List.mem_of_getElem? (i := 5) rfl)
theorem dX8_laysPart_8 : decode cX8_laysPart 8 = .ok (.invokevirtual 168, 3) := DX8_laysPart (8, .invokevirtual 168, 3) (List.mem_of_getElem? (i := 6) rfl)
theorem dX8_laysPart_11 : decode cX8_laysPart 11 = .ok (.istore_n 3, 1) := DX8_laysPart (11, .istore_n 3, 1) (List.mem_of_getElem? (i := 7) rfl)
theorem dX8_laysPart_12 : decode cX8_laysPart 12 = .ok (.aload_n 0, 1) := DX8_laysPart (12, .aload_n 0, 1) (List.mem_of_getElem? (i := 8) rfl)
theorem dX8_laysPart_13 : decode cX8_laysPart 13 = .ok (.iload_n 1, 1) := DX8_laysPart (13, .iload_n 1, 1) (List.mem_of_getElem? (i := 9) rfl)
theorem dX8_laysPart_14 : decode cX8_laysPart 14 = .ok (.aload_n 0, 1) := DX8_laysPart (14, .aload_n 0, 1) (List.mem_of_getElem? (i := 10) rfl)
theorem dX8_laysPart_15 : decode cX8_laysPart 15 = .ok (.getfield 20, 3) := DX8_laysPart (15, .getfield 20, 3) (List.mem_of_getElem? (i := 11) rfl)
theorem dX8_laysPart_18 : decode cX8_laysPart 18 = .ok (.iload_n 2, 1) := DX8_laysPart (18, .iload_n 2, 1) (List.mem_of_getElem? (i := 12) rfl)
theorem dX8_laysPart_19 : decode cX8_laysPart 19 = .ok (.iaload, 1) := DX8_laysPart (19, .iaload, 1) (List.mem_of_getElem? (i := 13) rfl)
theorem dX8_laysPart_20 : decode cX8_laysPart 20 = .ok (.invokevirtual 168, 3) := DX8_laysPart (20, .invokevirtual 168, 3) (List.mem_of_getElem? (i := 14) rfl)
theorem dX8_laysPart_23 : decode cX8_laysPart 23 = .ok (.istore 4, 2) := DX8_laysPart (23, .istore 4, 2) (List.mem_of_getElem? (i := 15) rfl)
theorem dX8_laysPart_25 : decode cX8_laysPart 25 = .ok (.iload_n 3, 1) := DX8_laysPart (25, .iload_n 3, 1) (List.mem_of_getElem? (i := 16) rfl)
theorem dX8_laysPart_26 : decode cX8_laysPart 26 = .ok (.iconst (-1), 1) := DX8_laysPart (26, .iconst (-1), 1) (List.mem_of_getElem? (i := 17) rfl)
theorem dX8_laysPart_27 : decode cX8_laysPart 27 = .ok (.if_icmp .eq 9, 3) := DX8_laysPart (27, .if_icmp .eq 9, 3) (List.mem_of_getElem? (i := 18) rfl)
theorem dX8_laysPart_30 : decode cX8_laysPart 30 = .ok (.iload 4, 2) := DX8_laysPart (30, .iload 4, 2) (List.mem_of_getElem? (i := 19) rfl)
theorem dX8_laysPart_32 : decode cX8_laysPart 32 = .ok (.iconst (-1), 1) := DX8_laysPart (32, .iconst (-1), 1) (List.mem_of_getElem? (i := 20) rfl)
theorem dX8_laysPart_33 : decode cX8_laysPart 33 = .ok (.if_icmp .ne 5, 3) := DX8_laysPart (33, .if_icmp .ne 5, 3) (List.mem_of_getElem? (i := 21) rfl)
theorem dX8_laysPart_36 : decode cX8_laysPart 36 = .ok (.iconst 0, 1) := DX8_laysPart (36, .iconst 0, 1) (List.mem_of_getElem? (i := 22) rfl)
theorem dX8_laysPart_37 : decode cX8_laysPart 37 = .ok (.ireturn, 1) := DX8_laysPart (37, .ireturn, 1) (List.mem_of_getElem? (i := 23) rfl)
theorem dX8_laysPart_38 : decode cX8_laysPart 38 = .ok (.aload_n 0, 1) := DX8_laysPart (38, .aload_n 0, 1) (List.mem_of_getElem? (i := 24) rfl)
theorem dX8_laysPart_39 : decode cX8_laysPart 39 = .ok (.getfield 14, 3) := DX8_laysPart (39, .getfield 14, 3) (List.mem_of_getElem? (i := 25) rfl)
theorem dX8_laysPart_42 : decode cX8_laysPart 42 = .ok (.iload_n 2, 1) := DX8_laysPart (42, .iload_n 2, 1) (List.mem_of_getElem? (i := 26) rfl)
theorem dX8_laysPart_43 : decode cX8_laysPart 43 = .ok (.iaload, 1) := DX8_laysPart (43, .iaload, 1) (List.mem_of_getElem? (i := 27) rfl)
theorem dX8_laysPart_44 : decode cX8_laysPart 44 = .ok (.iconst 4, 1) := DX8_laysPart (44, .iconst 4, 1) (List.mem_of_getElem? (i := 28) rfl)
theorem dX8_laysPart_45 : decode cX8_laysPart 45 = .ok (.if_icmp .eq 63, 3) := DX8_laysPart (45, .if_icmp .eq 63, 3) (List.mem_of_getElem? (i := 29) rfl)
theorem dX8_laysPart_48 : decode cX8_laysPart 48 = .ok (.aload_n 0, 1) := DX8_laysPart (48, .aload_n 0, 1) (List.mem_of_getElem? (i := 30) rfl)
theorem dX8_laysPart_49 : decode cX8_laysPart 49 = .ok (.getfield 14, 3) := DX8_laysPart (49, .getfield 14, 3) (List.mem_of_getElem? (i := 31) rfl)
theorem dX8_laysPart_52 : decode cX8_laysPart 52 = .ok (.iload_n 2, 1) := DX8_laysPart (52, .iload_n 2, 1) (List.mem_of_getElem? (i := 32) rfl)
theorem dX8_laysPart_53 : decode cX8_laysPart 53 = .ok (.iaload, 1) := DX8_laysPart (53, .iaload, 1) (List.mem_of_getElem? (i := 33) rfl)
theorem dX8_laysPart_54 : decode cX8_laysPart 54 = .ok (.iconst 2, 1) := DX8_laysPart (54, .iconst 2, 1) (List.mem_of_getElem? (i := 34) rfl)
theorem dX8_laysPart_55 : decode cX8_laysPart 55 = .ok (.if_icmp .ne 7, 3) := DX8_laysPart (55, .if_icmp .ne 7, 3) (List.mem_of_getElem? (i := 35) rfl)
theorem dX8_laysPart_58 : decode cX8_laysPart 58 = .ok (.iconst 1, 1) := DX8_laysPart (58, .iconst 1, 1) (List.mem_of_getElem? (i := 36) rfl)
theorem dX8_laysPart_59 : decode cX8_laysPart 59 = .ok (.goto 4, 3) := DX8_laysPart (59, .goto 4, 3) (List.mem_of_getElem? (i := 37) rfl)
theorem dX8_laysPart_62 : decode cX8_laysPart 62 = .ok (.iconst (-1), 1) := DX8_laysPart (62, .iconst (-1), 1) (List.mem_of_getElem? (i := 38) rfl)
theorem dX8_laysPart_63 : decode cX8_laysPart 63 = .ok (.istore 5, 2) := DX8_laysPart (63, .istore 5, 2) (List.mem_of_getElem? (i := 39) rfl)
theorem dX8_laysPart_65 : decode cX8_laysPart 65 = .ok (.aload_n 0, 1) := DX8_laysPart (65, .aload_n 0, 1) (List.mem_of_getElem? (i := 40) rfl)
theorem dX8_laysPart_66 : decode cX8_laysPart 66 = .ok (.getfield 42, 3) := DX8_laysPart (66, .getfield 42, 3) (List.mem_of_getElem? (i := 41) rfl)
theorem dX8_laysPart_69 : decode cX8_laysPart 69 = .ok (.iload_n 2, 1) := DX8_laysPart (69, .iload_n 2, 1) (List.mem_of_getElem? (i := 42) rfl)
theorem dX8_laysPart_70 : decode cX8_laysPart 70 = .ok (.aload_n 0, 1) := DX8_laysPart (70, .aload_n 0, 1) (List.mem_of_getElem? (i := 43) rfl)
theorem dX8_laysPart_71 : decode cX8_laysPart 71 = .ok (.aload_n 0, 1) := DX8_laysPart (71, .aload_n 0, 1) (List.mem_of_getElem? (i := 44) rfl)
theorem dX8_laysPart_72 : decode cX8_laysPart 72 = .ok (.getfield 42, 3) := DX8_laysPart (72, .getfield 42, 3) (List.mem_of_getElem? (i := 45) rfl)
theorem dX8_laysPart_75 : decode cX8_laysPart 75 = .ok (.iload_n 3, 1) := DX8_laysPart (75, .iload_n 3, 1) (List.mem_of_getElem? (i := 46) rfl)
theorem dX8_laysPart_76 : decode cX8_laysPart 76 = .ok (.iaload, 1) := DX8_laysPart (76, .iaload, 1) (List.mem_of_getElem? (i := 47) rfl)
theorem dX8_laysPart_77 : decode cX8_laysPart 77 = .ok (.i2l, 1) := DX8_laysPart (77, .i2l, 1) (List.mem_of_getElem? (i := 48) rfl)
theorem dX8_laysPart_78 : decode cX8_laysPart 78 = .ok (.iload 5, 2) := DX8_laysPart (78, .iload 5, 2) (List.mem_of_getElem? (i := 49) rfl)
theorem dX8_laysPart_80 : decode cX8_laysPart 80 = .ok (.i2l, 1) := DX8_laysPart (80, .i2l, 1) (List.mem_of_getElem? (i := 50) rfl)
theorem dX8_laysPart_81 : decode cX8_laysPart 81 = .ok (.aload_n 0, 1) := DX8_laysPart (81, .aload_n 0, 1) (List.mem_of_getElem? (i := 51) rfl)
theorem dX8_laysPart_82 : decode cX8_laysPart 82 = .ok (.getfield 42, 3) := DX8_laysPart (82, .getfield 42, 3) (List.mem_of_getElem? (i := 52) rfl)
theorem dX8_laysPart_85 : decode cX8_laysPart 85 = .ok (.iload 4, 2) := DX8_laysPart (85, .iload 4, 2) (List.mem_of_getElem? (i := 53) rfl)
theorem dX8_laysPart_87 : decode cX8_laysPart 87 = .ok (.iaload, 1) := DX8_laysPart (87, .iaload, 1) (List.mem_of_getElem? (i := 54) rfl)
theorem dX8_laysPart_88 : decode cX8_laysPart 88 = .ok (.i2l, 1) := DX8_laysPart (88, .i2l, 1) (List.mem_of_getElem? (i := 55) rfl)
theorem dX8_laysPart_89 : decode cX8_laysPart 89 = .ok (.lmul, 1) := DX8_laysPart (89, .lmul, 1) (List.mem_of_getElem? (i := 56) rfl)
theorem dX8_laysPart_90 : decode cX8_laysPart 90 = .ok (.ladd, 1) := DX8_laysPart (90, .ladd, 1) (List.mem_of_getElem? (i := 57) rfl)
theorem dX8_laysPart_91 : decode cX8_laysPart 91 = .ok (.invokevirtual 83, 3) := DX8_laysPart (91, .invokevirtual 83, 3) (List.mem_of_getElem? (i := 58) rfl)
theorem dX8_laysPart_94 : decode cX8_laysPart 94 = .ok (.iastore, 1) := DX8_laysPart (94, .iastore, 1) (List.mem_of_getElem? (i := 59) rfl)
theorem dX8_laysPart_95 : decode cX8_laysPart 95 = .ok (.aload_n 0, 1) := DX8_laysPart (95, .aload_n 0, 1) (List.mem_of_getElem? (i := 60) rfl)
theorem dX8_laysPart_96 : decode cX8_laysPart 96 = .ok (.iload_n 2, 1) := DX8_laysPart (96, .iload_n 2, 1) (List.mem_of_getElem? (i := 61) rfl)
theorem dX8_laysPart_97 : decode cX8_laysPart 97 = .ok (.iload_n 3, 1) := DX8_laysPart (97, .iload_n 3, 1) (List.mem_of_getElem? (i := 62) rfl)
theorem dX8_laysPart_98 : decode cX8_laysPart 98 = .ok (.iconst 1, 1) := DX8_laysPart (98, .iconst 1, 1) (List.mem_of_getElem? (i := 63) rfl)
theorem dX8_laysPart_99 : decode cX8_laysPart 99 = .ok (.iload 4, 2) := DX8_laysPart (99, .iload 4, 2) (List.mem_of_getElem? (i := 64) rfl)
theorem dX8_laysPart_101 : decode cX8_laysPart 101 = .ok (.iload 5, 2) := DX8_laysPart (101, .iload 5, 2) (List.mem_of_getElem? (i := 65) rfl)
theorem dX8_laysPart_103 : decode cX8_laysPart 103 = .ok (.invokevirtual 162, 3) := DX8_laysPart (103, .invokevirtual 162, 3) (List.mem_of_getElem? (i := 66) rfl)
theorem dX8_laysPart_106 : decode cX8_laysPart 106 = .ok (.iconst 1, 1) := DX8_laysPart (106, .iconst 1, 1) (List.mem_of_getElem? (i := 67) rfl)
theorem dX8_laysPart_107 : decode cX8_laysPart 107 = .ok (.ireturn, 1) := DX8_laysPart (107, .ireturn, 1) (List.mem_of_getElem? (i := 68) rfl)
theorem dX8_laysPart_108 : decode cX8_laysPart 108 = .ok (.aload_n 0, 1) := DX8_laysPart (108, .aload_n 0, 1) (List.mem_of_getElem? (i := 69) rfl)
theorem dX8_laysPart_109 : decode cX8_laysPart 109 = .ok (.getfield 14, 3) := DX8_laysPart (109, .getfield 14, 3) (List.mem_of_getElem? (i := 70) rfl)
theorem dX8_laysPart_112 : decode cX8_laysPart 112 = .ok (.iload_n 3, 1) := DX8_laysPart (112, .iload_n 3, 1) (List.mem_of_getElem? (i := 71) rfl)
theorem dX8_laysPart_113 : decode cX8_laysPart 113 = .ok (.iaload, 1) := DX8_laysPart (113, .iaload, 1) (List.mem_of_getElem? (i := 72) rfl)
theorem dX8_laysPart_114 : decode cX8_laysPart 114 = .ok (.ifCond .ne 16, 3) := DX8_laysPart (114, .ifCond .ne 16, 3) (List.mem_of_getElem? (i := 73) rfl)
theorem dX8_laysPart_117 : decode cX8_laysPart 117 = .ok (.iload_n 1, 1) := DX8_laysPart (117, .iload_n 1, 1) (List.mem_of_getElem? (i := 74) rfl)
theorem dX8_laysPart_118 : decode cX8_laysPart 118 = .ok (.iload 4, 2) := DX8_laysPart (118, .iload 4, 2) (List.mem_of_getElem? (i := 75) rfl)
theorem dX8_laysPart_120 : decode cX8_laysPart 120 = .ok (.invokestatic 102, 3) := DX8_laysPart (120, .invokestatic 102, 3) (List.mem_of_getElem? (i := 76) rfl)
theorem dX8_laysPart_123 : decode cX8_laysPart 123 = .ok (.ifCond .eq 7, 3) := DX8_laysPart (123, .ifCond .eq 7, 3) (List.mem_of_getElem? (i := 77) rfl)
theorem dX8_laysPart_126 : decode cX8_laysPart 126 = .ok (.iconst 1, 1) := DX8_laysPart (126, .iconst 1, 1) (List.mem_of_getElem? (i := 78) rfl)
theorem dX8_laysPart_127 : decode cX8_laysPart 127 = .ok (.goto 4, 3) := DX8_laysPart (127, .goto 4, 3) (List.mem_of_getElem? (i := 79) rfl)
theorem dX8_laysPart_130 : decode cX8_laysPart 130 = .ok (.iconst 0, 1) := DX8_laysPart (130, .iconst 0, 1) (List.mem_of_getElem? (i := 80) rfl)
theorem dX8_laysPart_131 : decode cX8_laysPart 131 = .ok (.istore 5, 2) := DX8_laysPart (131, .istore 5, 2) (List.mem_of_getElem? (i := 81) rfl)
theorem dX8_laysPart_133 : decode cX8_laysPart 133 = .ok (.aload_n 0, 1) := DX8_laysPart (133, .aload_n 0, 1) (List.mem_of_getElem? (i := 82) rfl)
theorem dX8_laysPart_134 : decode cX8_laysPart 134 = .ok (.getfield 14, 3) := DX8_laysPart (134, .getfield 14, 3) (List.mem_of_getElem? (i := 83) rfl)
theorem dX8_laysPart_137 : decode cX8_laysPart 137 = .ok (.iload 4, 2) := DX8_laysPart (137, .iload 4, 2) (List.mem_of_getElem? (i := 84) rfl)
theorem dX8_laysPart_139 : decode cX8_laysPart 139 = .ok (.iaload, 1) := DX8_laysPart (139, .iaload, 1) (List.mem_of_getElem? (i := 85) rfl)
theorem dX8_laysPart_140 : decode cX8_laysPart 140 = .ok (.ifCond .ne 15, 3) := DX8_laysPart (140, .ifCond .ne 15, 3) (List.mem_of_getElem? (i := 86) rfl)
theorem dX8_laysPart_143 : decode cX8_laysPart 143 = .ok (.iload_n 1, 1) := DX8_laysPart (143, .iload_n 1, 1) (List.mem_of_getElem? (i := 87) rfl)
theorem dX8_laysPart_144 : decode cX8_laysPart 144 = .ok (.iload_n 3, 1) := DX8_laysPart (144, .iload_n 3, 1) (List.mem_of_getElem? (i := 88) rfl)
theorem dX8_laysPart_145 : decode cX8_laysPart 145 = .ok (.invokestatic 102, 3) := DX8_laysPart (145, .invokestatic 102, 3) (List.mem_of_getElem? (i := 89) rfl)
theorem dX8_laysPart_148 : decode cX8_laysPart 148 = .ok (.ifCond .eq 7, 3) := DX8_laysPart (148, .ifCond .eq 7, 3) (List.mem_of_getElem? (i := 90) rfl)
theorem dX8_laysPart_151 : decode cX8_laysPart 151 = .ok (.iconst 1, 1) := DX8_laysPart (151, .iconst 1, 1) (List.mem_of_getElem? (i := 91) rfl)
theorem dX8_laysPart_152 : decode cX8_laysPart 152 = .ok (.goto 4, 3) := DX8_laysPart (152, .goto 4, 3) (List.mem_of_getElem? (i := 92) rfl)
theorem dX8_laysPart_155 : decode cX8_laysPart 155 = .ok (.iconst 0, 1) := DX8_laysPart (155, .iconst 0, 1) (List.mem_of_getElem? (i := 93) rfl)
theorem dX8_laysPart_156 : decode cX8_laysPart 156 = .ok (.istore 6, 2) := DX8_laysPart (156, .istore 6, 2) (List.mem_of_getElem? (i := 94) rfl)
theorem dX8_laysPart_158 : decode cX8_laysPart 158 = .ok (.iload 5, 2) := DX8_laysPart (158, .iload 5, 2) (List.mem_of_getElem? (i := 95) rfl)
theorem dX8_laysPart_160 : decode cX8_laysPart 160 = .ok (.ifCond .ne 10, 3) := DX8_laysPart (160, .ifCond .ne 10, 3) (List.mem_of_getElem? (i := 96) rfl)
theorem dX8_laysPart_163 : decode cX8_laysPart 163 = .ok (.iload 6, 2) := DX8_laysPart (163, .iload 6, 2) (List.mem_of_getElem? (i := 97) rfl)
theorem dX8_laysPart_165 : decode cX8_laysPart 165 = .ok (.ifCond .ne 5, 3) := DX8_laysPart (165, .ifCond .ne 5, 3) (List.mem_of_getElem? (i := 98) rfl)
theorem dX8_laysPart_168 : decode cX8_laysPart 168 = .ok (.iconst 0, 1) := DX8_laysPart (168, .iconst 0, 1) (List.mem_of_getElem? (i := 99) rfl)
theorem dX8_laysPart_169 : decode cX8_laysPart 169 = .ok (.ireturn, 1) := DX8_laysPart (169, .ireturn, 1) (List.mem_of_getElem? (i := 100) rfl)
theorem dX8_laysPart_170 : decode cX8_laysPart 170 = .ok (.iload 5, 2) := DX8_laysPart (170, .iload 5, 2) (List.mem_of_getElem? (i := 101) rfl)
theorem dX8_laysPart_172 : decode cX8_laysPart 172 = .ok (.ifCond .eq 12, 3) := DX8_laysPart (172, .ifCond .eq 12, 3) (List.mem_of_getElem? (i := 102) rfl)
theorem dX8_laysPart_175 : decode cX8_laysPart 175 = .ok (.aload_n 0, 1) := DX8_laysPart (175, .aload_n 0, 1) (List.mem_of_getElem? (i := 103) rfl)
theorem dX8_laysPart_176 : decode cX8_laysPart 176 = .ok (.getfield 17, 3) := DX8_laysPart (176, .getfield 17, 3) (List.mem_of_getElem? (i := 104) rfl)
theorem dX8_laysPart_179 : decode cX8_laysPart 179 = .ok (.iload_n 3, 1) := DX8_laysPart (179, .iload_n 3, 1) (List.mem_of_getElem? (i := 105) rfl)
theorem dX8_laysPart_180 : decode cX8_laysPart 180 = .ok (.iaload, 1) := DX8_laysPart (180, .iaload, 1) (List.mem_of_getElem? (i := 106) rfl)
theorem dX8_laysPart_181 : decode cX8_laysPart 181 = .ok (.goto 10, 3) := DX8_laysPart (181, .goto 10, 3) (List.mem_of_getElem? (i := 107) rfl)
theorem dX8_laysPart_184 : decode cX8_laysPart 184 = .ok (.aload_n 0, 1) := DX8_laysPart (184, .aload_n 0, 1) (List.mem_of_getElem? (i := 108) rfl)
theorem dX8_laysPart_185 : decode cX8_laysPart 185 = .ok (.getfield 17, 3) := DX8_laysPart (185, .getfield 17, 3) (List.mem_of_getElem? (i := 109) rfl)
theorem dX8_laysPart_188 : decode cX8_laysPart 188 = .ok (.iload 4, 2) := DX8_laysPart (188, .iload 4, 2) (List.mem_of_getElem? (i := 110) rfl)
theorem dX8_laysPart_190 : decode cX8_laysPart 190 = .ok (.iaload, 1) := DX8_laysPart (190, .iaload, 1) (List.mem_of_getElem? (i := 111) rfl)
theorem dX8_laysPart_191 : decode cX8_laysPart 191 = .ok (.istore 7, 2) := DX8_laysPart (191, .istore 7, 2) (List.mem_of_getElem? (i := 112) rfl)
theorem dX8_laysPart_193 : decode cX8_laysPart 193 = .ok (.iload 5, 2) := DX8_laysPart (193, .iload 5, 2) (List.mem_of_getElem? (i := 113) rfl)
theorem dX8_laysPart_195 : decode cX8_laysPart 195 = .ok (.ifCond .eq 8, 3) := DX8_laysPart (195, .ifCond .eq 8, 3) (List.mem_of_getElem? (i := 114) rfl)
theorem dX8_laysPart_198 : decode cX8_laysPart 198 = .ok (.iload 4, 2) := DX8_laysPart (198, .iload 4, 2) (List.mem_of_getElem? (i := 115) rfl)
theorem dX8_laysPart_200 : decode cX8_laysPart 200 = .ok (.goto 4, 3) := DX8_laysPart (200, .goto 4, 3) (List.mem_of_getElem? (i := 116) rfl)
theorem dX8_laysPart_203 : decode cX8_laysPart 203 = .ok (.iload_n 3, 1) := DX8_laysPart (203, .iload_n 3, 1) (List.mem_of_getElem? (i := 117) rfl)
theorem dX8_laysPart_204 : decode cX8_laysPart 204 = .ok (.istore 8, 2) := DX8_laysPart (204, .istore 8, 2) (List.mem_of_getElem? (i := 118) rfl)
theorem dX8_laysPart_206 : decode cX8_laysPart 206 = .ok (.aload_n 0, 1) := DX8_laysPart (206, .aload_n 0, 1) (List.mem_of_getElem? (i := 119) rfl)
theorem dX8_laysPart_207 : decode cX8_laysPart 207 = .ok (.getfield 42, 3) := DX8_laysPart (207, .getfield 42, 3) (List.mem_of_getElem? (i := 120) rfl)
theorem dX8_laysPart_210 : decode cX8_laysPart 210 = .ok (.iload_n 2, 1) := DX8_laysPart (210, .iload_n 2, 1) (List.mem_of_getElem? (i := 121) rfl)
theorem dX8_laysPart_211 : decode cX8_laysPart 211 = .ok (.aload_n 0, 1) := DX8_laysPart (211, .aload_n 0, 1) (List.mem_of_getElem? (i := 122) rfl)
theorem dX8_laysPart_212 : decode cX8_laysPart 212 = .ok (.iload 7, 2) := DX8_laysPart (212, .iload 7, 2) (List.mem_of_getElem? (i := 123) rfl)
theorem dX8_laysPart_214 : decode cX8_laysPart 214 = .ok (.i2l, 1) := DX8_laysPart (214, .i2l, 1) (List.mem_of_getElem? (i := 124) rfl)
theorem dX8_laysPart_215 : decode cX8_laysPart 215 = .ok (.aload_n 0, 1) := DX8_laysPart (215, .aload_n 0, 1) (List.mem_of_getElem? (i := 125) rfl)
theorem dX8_laysPart_216 : decode cX8_laysPart 216 = .ok (.getfield 42, 3) := DX8_laysPart (216, .getfield 42, 3) (List.mem_of_getElem? (i := 126) rfl)
theorem dX8_laysPart_219 : decode cX8_laysPart 219 = .ok (.iload 8, 2) := DX8_laysPart (219, .iload 8, 2) (List.mem_of_getElem? (i := 127) rfl)
theorem dX8_laysPart_221 : decode cX8_laysPart 221 = .ok (.iaload, 1) := DX8_laysPart (221, .iaload, 1) (List.mem_of_getElem? (i := 128) rfl)
theorem dX8_laysPart_222 : decode cX8_laysPart 222 = .ok (.i2l, 1) := DX8_laysPart (222, .i2l, 1) (List.mem_of_getElem? (i := 129) rfl)
theorem dX8_laysPart_223 : decode cX8_laysPart 223 = .ok (.lmul, 1) := DX8_laysPart (223, .lmul, 1) (List.mem_of_getElem? (i := 130) rfl)
theorem dX8_laysPart_224 : decode cX8_laysPart 224 = .ok (.invokevirtual 83, 3) := DX8_laysPart (224, .invokevirtual 83, 3) (List.mem_of_getElem? (i := 131) rfl)
theorem dX8_laysPart_227 : decode cX8_laysPart 227 = .ok (.iastore, 1) := DX8_laysPart (227, .iastore, 1) (List.mem_of_getElem? (i := 132) rfl)
theorem dX8_laysPart_228 : decode cX8_laysPart 228 = .ok (.aload_n 0, 1) := DX8_laysPart (228, .aload_n 0, 1) (List.mem_of_getElem? (i := 133) rfl)
theorem dX8_laysPart_229 : decode cX8_laysPart 229 = .ok (.iload_n 2, 1) := DX8_laysPart (229, .iload_n 2, 1) (List.mem_of_getElem? (i := 134) rfl)
theorem dX8_laysPart_230 : decode cX8_laysPart 230 = .ok (.iload 8, 2) := DX8_laysPart (230, .iload 8, 2) (List.mem_of_getElem? (i := 135) rfl)
theorem dX8_laysPart_232 : decode cX8_laysPart 232 = .ok (.iload 7, 2) := DX8_laysPart (232, .iload 7, 2) (List.mem_of_getElem? (i := 136) rfl)
theorem dX8_laysPart_234 : decode cX8_laysPart 234 = .ok (.iload 8, 2) := DX8_laysPart (234, .iload 8, 2) (List.mem_of_getElem? (i := 137) rfl)
theorem dX8_laysPart_236 : decode cX8_laysPart 236 = .ok (.iconst 0, 1) := DX8_laysPart (236, .iconst 0, 1) (List.mem_of_getElem? (i := 138) rfl)
theorem dX8_laysPart_237 : decode cX8_laysPart 237 = .ok (.invokevirtual 162, 3) := DX8_laysPart (237, .invokevirtual 162, 3) (List.mem_of_getElem? (i := 139) rfl)
theorem dX8_laysPart_240 : decode cX8_laysPart 240 = .ok (.iconst 1, 1) := DX8_laysPart (240, .iconst 1, 1) (List.mem_of_getElem? (i := 140) rfl)
theorem dX8_laysPart_241 : decode cX8_laysPart 241 = .ok (.ireturn, 1) := DX8_laysPart (241, .ireturn, 1) (List.mem_of_getElem? (i := 141) rfl)
noncomputable def fX8_laysPart_L36 (σ : Mem) : Option (Int32 × Mem) :=
  some (0, σ)
set_option maxHeartbeats 4000000 in
set_option maxRecDepth 100000 in
theorem tX8_laysPart_L36 {E : Gx} {cI : ClassId} {ad : Nat → Nat} (C : Cx E rmX8_laysPart cI layM ad 9 RX8 cX8_laysPart) {out : Int32 × Mem} (K0 : KI E rmX8_laysPart cI layM ad 9 cX8_laysPart .boolean out) {σ : Mem} (h : fX8_laysPart_L36 σ = some out) : G E rmX8_laysPart cI layM ad 9 36 [] [] σ := by
  unfold fX8_laysPart_L36 at h
  refine g_iconst 37 (v := 0) C dX8_laysPart_36 (by decide) rfl ?_
  cases h
  exact K0 _ _ dX8_laysPart_37 (zb_nar (x := 0) (by decide))
noncomputable def fX8_laysPart_L204 (l2 : Int32) (l7 : Int32) (s0 : Int32) (σ : Mem) : Option (Int32 × Mem) :=
  chk (inb s0 30) <|
  (fX8_cut (l7.toInt64 * ((σ 8 s0.toNatClampNeg).toInt64)) σ).bind fun o3 =>
  chk (inb l2 30) <|
  (fX8_joins l2 s0 l7 s0 0 (up2 o3.2 8 l2.toNatClampNeg o3.1)).bind fun o4 =>
  some (1, o4)
set_option maxHeartbeats 4000000 in
set_option maxRecDepth 100000 in
theorem tX8_laysPart_L204 {E : Gx} {cI : ClassId} {ad : Nat → Nat} (C : Cx E rmX8_laysPart cI layM ad 9 RX8 cX8_laysPart) {out : Int32 × Mem} (K0 : KI E rmX8_laysPart cI layM ad 9 cX8_laysPart .boolean out) {l2 : Int32} {l7 : Int32} {s0 : Int32} {σ : Mem} (h : fX8_laysPart_L204 l2 l7 s0 σ = some out) : G E rmX8_laysPart cI layM ad 9 204 [(0, .ref (ad 0)), (2, .int l2), (7, .int l7)] [.int s0] σ := by
  unfold fX8_laysPart_L204 at h
  refine g_istore 206 [(8, .int s0), (0, .ref (ad 0)), (2, .int l2), (7, .int l7)] C dX8_laysPart_204 (by decide) rfl rfl ?_
  refine g_aload_n 207 C dX8_laysPart_206 rfl (j := 1) rfl rfl ?_
  refine g_getr 210 (j := 15) C rfl rfl wu_X8 (by decide) wf_X8_42 rfl dX8_laysPart_207 rfl ?_
  refine g_iload_n 211 C dX8_laysPart_210 rfl (j := 2) rfl rfl ?_
  refine g_aload_n 212 C dX8_laysPart_211 rfl (j := 1) rfl rfl ?_
  refine g_iload 214 C dX8_laysPart_212 (j := 3) rfl rfl ?_
  refine g_i2l 215 C dX8_laysPart_214 rfl ?_
  refine g_aload_n 216 C dX8_laysPart_215 rfl (j := 1) rfl rfl ?_
  refine g_getr 219 (j := 15) C rfl rfl wu_X8 (by decide) wf_X8_42 rfl dX8_laysPart_216 rfl ?_
  refine g_iload 221 C dX8_laysPart_219 (j := 0) rfl rfl ?_
  refine g_iald 222 C rfl dX8_laysPart_221 rfl h (fun h => ?_)
  refine g_i2l 223 C dX8_laysPart_222 rfl ?_
  refine g_lmul 224 C dX8_laysPart_223 rfl ?_
  refine g_cvi 227 C (As := [.long (l7.toInt64 * ((σ 8 s0.toNatClampNeg).toInt64))]) (fun _ h => mX8_cut (a1 := l7.toInt64 * ((σ 8 s0.toNatClampNeg).toInt64)) (σ := σ) h) wl_X8_83 wi_X8_cut wz_X8_cut wc_X8_cut wn_X8 qX8_cut rfl rfl ⟨Nat.le_of_ble_eq_true rfl, Nat.le_of_ble_eq_true rfl⟩ rfl rfl rfl rfl (Nat.le_of_ble_eq_true rfl) dX8_laysPart_224 rfl h (fun o3 h => ?_)
  refine g_iast 228 C rfl dX8_laysPart_227 rfl h (fun h => ?_)
  refine g_aload_n 229 C dX8_laysPart_228 rfl (j := 1) rfl rfl ?_
  refine g_iload_n 230 C dX8_laysPart_229 rfl (j := 2) rfl rfl ?_
  refine g_iload 232 C dX8_laysPart_230 (j := 0) rfl rfl ?_
  refine g_iload 234 C dX8_laysPart_232 (j := 3) rfl rfl ?_
  refine g_iload 236 C dX8_laysPart_234 (j := 0) rfl rfl ?_
  refine g_iconst 237 (v := 0) C dX8_laysPart_236 (by decide) rfl ?_
  refine g_cvv 240 C (As := [.int l2, .int s0, .int l7, .int s0, .int 0]) (fun _ h => mX8_joins (a1 := l2) (a2 := s0) (a3 := l7) (a4 := s0) (a5 := 0) (σ := up2 o3.2 8 l2.toNatClampNeg o3.1) h) wl_X8_162 wi_X8_joins wz_X8_joins wc_X8_joins wn_X8 qX8_joins rfl rfl ⟨Nat.le_of_ble_eq_true rfl, Nat.le_of_ble_eq_true rfl⟩ rfl rfl rfl rfl (Nat.le_of_ble_eq_true rfl) dX8_laysPart_237 rfl h (fun o4 h => ?_)
  refine g_iconst 241 (v := 1) C dX8_laysPart_240 (by decide) rfl ?_
  cases h
  exact K0 _ _ dX8_laysPart_241 (zb_nar (x := 1) (by decide))
noncomputable def fX8_laysPart_L191 (l2 : Int32) (l3 : Int32) (l4 : Int32) (l5 : Int32) (s0 : Int32) (σ : Mem) : Option (Int32 × Mem) :=
  if l5 = 0 then
    fX8_laysPart_L204 l2 s0 l3 σ
  else
    fX8_laysPart_L204 l2 s0 l4 σ
set_option maxHeartbeats 4000000 in
set_option maxRecDepth 100000 in
theorem tX8_laysPart_L191 {E : Gx} {cI : ClassId} {ad : Nat → Nat} (C : Cx E rmX8_laysPart cI layM ad 9 RX8 cX8_laysPart) {out : Int32 × Mem} (K0 : KI E rmX8_laysPart cI layM ad 9 cX8_laysPart .boolean out) {l2 : Int32} {l3 : Int32} {l4 : Int32} {l5 : Int32} {s0 : Int32} {σ : Mem} (h : fX8_laysPart_L191 l2 l3 l4 l5 s0 σ = some out) : G E rmX8_laysPart cI layM ad 9 191 [(0, .ref (ad 0)), (2, .int l2), (3, .int l3), (4, .int l4), (5, .int l5)] [.int s0] σ := by
  unfold fX8_laysPart_L191 at h
  refine g_istore 193 [(7, .int s0), (0, .ref (ad 0)), (2, .int l2), (3, .int l3), (4, .int l4), (5, .int l5)] C dX8_laysPart_191 (by decide) rfl rfl ?_
  refine g_iload 195 C dX8_laysPart_193 (j := 5) rfl rfl ?_
  refine g_if_eq 203 198 C dX8_laysPart_195 (by decide) rfl h (fun h => ?_) (fun h => ?_)
  · refine g_iload_n 204 C dX8_laysPart_203 rfl (j := 3) rfl rfl ?_
    exact g_sub [1, 2, 0] (tX8_laysPart_L204 (l2 := l2) (l7 := s0) (s0 := l3) (σ := σ) C K0 h) rfl
  · refine g_iload 200 C dX8_laysPart_198 (j := 4) rfl rfl ?_
    refine g_goto 204 C dX8_laysPart_200 (by decide) ?_
    exact g_sub [1, 2, 0] (tX8_laysPart_L204 (l2 := l2) (l7 := s0) (s0 := l4) (σ := σ) C K0 h) rfl
noncomputable def fX8_laysPart_L170 (l2 : Int32) (l3 : Int32) (l4 : Int32) (l5 : Int32) (σ : Mem) : Option (Int32 × Mem) :=
  if l5 = 0 then
    chk (inb l4 30) <|
    fX8_laysPart_L191 l2 l3 l4 l5 (σ 3 l4.toNatClampNeg) σ
  else
    chk (inb l3 30) <|
    fX8_laysPart_L191 l2 l3 l4 l5 (σ 3 l3.toNatClampNeg) σ
set_option maxHeartbeats 4000000 in
set_option maxRecDepth 100000 in
theorem tX8_laysPart_L170 {E : Gx} {cI : ClassId} {ad : Nat → Nat} (C : Cx E rmX8_laysPart cI layM ad 9 RX8 cX8_laysPart) {out : Int32 × Mem} (K0 : KI E rmX8_laysPart cI layM ad 9 cX8_laysPart .boolean out) {l2 : Int32} {l3 : Int32} {l4 : Int32} {l5 : Int32} {σ : Mem} (h : fX8_laysPart_L170 l2 l3 l4 l5 σ = some out) : G E rmX8_laysPart cI layM ad 9 170 [(0, .ref (ad 0)), (2, .int l2), (3, .int l3), (4, .int l4), (5, .int l5)] [] σ := by
  unfold fX8_laysPart_L170 at h
  refine g_iload 172 C dX8_laysPart_170 (j := 4) rfl rfl ?_
  refine g_if_eq 184 175 C dX8_laysPart_172 (by decide) rfl h (fun h => ?_) (fun h => ?_)
  · refine g_aload_n 185 C dX8_laysPart_184 rfl (j := 0) rfl rfl ?_
    refine g_getr 188 (j := 4) C rfl rfl wu_X8 (by decide) wf_X8_17 rfl dX8_laysPart_185 rfl ?_
    refine g_iload 190 C dX8_laysPart_188 (j := 3) rfl rfl ?_
    refine g_iald 191 C rfl dX8_laysPart_190 rfl h (fun h => ?_)
    exact tX8_laysPart_L191 (l2 := l2) (l3 := l3) (l4 := l4) (l5 := l5) (s0 := (σ 3 l4.toNatClampNeg)) (σ := σ) C K0 h
  · refine g_aload_n 176 C dX8_laysPart_175 rfl (j := 0) rfl rfl ?_
    refine g_getr 179 (j := 4) C rfl rfl wu_X8 (by decide) wf_X8_17 rfl dX8_laysPart_176 rfl ?_
    refine g_iload_n 180 C dX8_laysPart_179 rfl (j := 2) rfl rfl ?_
    refine g_iald 181 C rfl dX8_laysPart_180 rfl h (fun h => ?_)
    refine g_goto 191 C dX8_laysPart_181 (by decide) ?_
    exact tX8_laysPart_L191 (l2 := l2) (l3 := l3) (l4 := l4) (l5 := l5) (s0 := (σ 3 l3.toNatClampNeg)) (σ := σ) C K0 h
noncomputable def fX8_laysPart_L156 (l2 : Int32) (l3 : Int32) (l4 : Int32) (l5 : Int32) (s0 : Int32) (σ : Mem) : Option (Int32 × Mem) :=
  if l5 = 0 then
    if s0 = 0 then
      some (0, σ)
    else
      fX8_laysPart_L170 l2 l3 l4 l5 σ
  else
    fX8_laysPart_L170 l2 l3 l4 l5 σ
set_option maxHeartbeats 4000000 in
set_option maxRecDepth 100000 in
theorem tX8_laysPart_L156 {E : Gx} {cI : ClassId} {ad : Nat → Nat} (C : Cx E rmX8_laysPart cI layM ad 9 RX8 cX8_laysPart) {out : Int32 × Mem} (K0 : KI E rmX8_laysPart cI layM ad 9 cX8_laysPart .boolean out) {l2 : Int32} {l3 : Int32} {l4 : Int32} {l5 : Int32} {s0 : Int32} {σ : Mem} (h : fX8_laysPart_L156 l2 l3 l4 l5 s0 σ = some out) : G E rmX8_laysPart cI layM ad 9 156 [(0, .ref (ad 0)), (2, .int l2), (3, .int l3), (4, .int l4), (5, .int l5)] [.int s0] σ := by
  unfold fX8_laysPart_L156 at h
  refine g_istore 158 [(6, .int s0), (0, .ref (ad 0)), (2, .int l2), (3, .int l3), (4, .int l4), (5, .int l5)] C dX8_laysPart_156 (by decide) rfl rfl ?_
  refine g_iload 160 C dX8_laysPart_158 (j := 5) rfl rfl ?_
  refine g_if_ne 170 163 C dX8_laysPart_160 (by decide) rfl h (fun h => ?_) (fun h => ?_)
  · refine g_iload 165 C dX8_laysPart_163 (j := 0) rfl rfl ?_
    refine g_if_ne 170 168 C dX8_laysPart_165 (by decide) rfl h (fun h => ?_) (fun h => ?_)
    · refine g_iconst 169 (v := 0) C dX8_laysPart_168 (by decide) rfl ?_
      cases h
      exact K0 _ _ dX8_laysPart_169 (zb_nar (x := 0) (by decide))
    · exact g_sub [1, 2, 3, 4, 5] (tX8_laysPart_L170 (l2 := l2) (l3 := l3) (l4 := l4) (l5 := l5) (σ := σ) C K0 h) rfl
  · exact g_sub [1, 2, 3, 4, 5] (tX8_laysPart_L170 (l2 := l2) (l3 := l3) (l4 := l4) (l5 := l5) (σ := σ) C K0 h) rfl
noncomputable def fX8_laysPart_L155 (l2 : Int32) (l3 : Int32) (l4 : Int32) (l5 : Int32) (σ : Mem) : Option (Int32 × Mem) :=
  fX8_laysPart_L156 l2 l3 l4 l5 0 σ
set_option maxHeartbeats 4000000 in
set_option maxRecDepth 100000 in
theorem tX8_laysPart_L155 {E : Gx} {cI : ClassId} {ad : Nat → Nat} (C : Cx E rmX8_laysPart cI layM ad 9 RX8 cX8_laysPart) {out : Int32 × Mem} (K0 : KI E rmX8_laysPart cI layM ad 9 cX8_laysPart .boolean out) {l2 : Int32} {l3 : Int32} {l4 : Int32} {l5 : Int32} {σ : Mem} (h : fX8_laysPart_L155 l2 l3 l4 l5 σ = some out) : G E rmX8_laysPart cI layM ad 9 155 [(0, .ref (ad 0)), (2, .int l2), (3, .int l3), (4, .int l4), (5, .int l5)] [] σ := by
  unfold fX8_laysPart_L155 at h
  refine g_iconst 156 (v := 0) C dX8_laysPart_155 (by decide) rfl ?_
  exact tX8_laysPart_L156 (l2 := l2) (l3 := l3) (l4 := l4) (l5 := l5) (s0 := 0) (σ := σ) C K0 h
noncomputable def fX8_laysPart_L131 (l1 : Int32) (l2 : Int32) (l3 : Int32) (l4 : Int32) (s0 : Int32) (σ : Mem) : Option (Int32 × Mem) :=
  chk (inb l4 30) <|
  if (σ 2 l4.toNatClampNeg) = 0 then
    (fX8_has l1 l3 σ).bind fun o5 =>
    if o5.1 = 0 then
      fX8_laysPart_L155 l2 l3 l4 s0 o5.2
    else
      fX8_laysPart_L156 l2 l3 l4 s0 1 o5.2
  else
    fX8_laysPart_L155 l2 l3 l4 s0 σ
set_option maxHeartbeats 4000000 in
set_option maxRecDepth 100000 in
theorem tX8_laysPart_L131 {E : Gx} {cI : ClassId} {ad : Nat → Nat} (C : Cx E rmX8_laysPart cI layM ad 9 RX8 cX8_laysPart) {out : Int32 × Mem} (K0 : KI E rmX8_laysPart cI layM ad 9 cX8_laysPart .boolean out) {l1 : Int32} {l2 : Int32} {l3 : Int32} {l4 : Int32} {s0 : Int32} {σ : Mem} (h : fX8_laysPart_L131 l1 l2 l3 l4 s0 σ = some out) : G E rmX8_laysPart cI layM ad 9 131 [(0, .ref (ad 0)), (1, .int l1), (2, .int l2), (3, .int l3), (4, .int l4)] [.int s0] σ := by
  unfold fX8_laysPart_L131 at h
  refine g_istore 133 [(5, .int s0), (0, .ref (ad 0)), (1, .int l1), (2, .int l2), (3, .int l3), (4, .int l4)] C dX8_laysPart_131 (by decide) rfl rfl ?_
  refine g_aload_n 134 C dX8_laysPart_133 rfl (j := 1) rfl rfl ?_
  refine g_getr 137 (j := 3) C rfl rfl wu_X8 (by decide) wf_X8_14 rfl dX8_laysPart_134 rfl ?_
  refine g_iload 139 C dX8_laysPart_137 (j := 5) rfl rfl ?_
  refine g_iald 140 C rfl dX8_laysPart_139 rfl h (fun h => ?_)
  refine g_if_ne 155 143 C dX8_laysPart_140 (by decide) rfl h (fun h => ?_) (fun h => ?_)
  · refine g_iload_n 144 C dX8_laysPart_143 rfl (j := 2) rfl rfl ?_
    refine g_iload_n 145 C dX8_laysPart_144 rfl (j := 4) rfl rfl ?_
    refine g_csi 148 C (As := [.int l1, .int l3]) (fun _ h => mX8_has (a1 := l1) (a2 := l3) (σ := σ) h) wl_X8_102 ws_X8_has wc_X8_has wn_X8 qX8_has rfl rfl ⟨Nat.le_of_ble_eq_true rfl, Nat.le_of_ble_eq_true rfl⟩ rfl rfl (Nat.le_of_ble_eq_true rfl) dX8_laysPart_145 rfl h (fun o5 h => ?_)
    refine g_if_eq 155 151 C dX8_laysPart_148 (by decide) rfl h (fun h => ?_) (fun h => ?_)
    · exact g_sub [1, 3, 4, 5, 0] (tX8_laysPart_L155 (l2 := l2) (l3 := l3) (l4 := l4) (l5 := s0) (σ := o5.2) C K0 h) rfl
    · refine g_iconst 152 (v := 1) C dX8_laysPart_151 (by decide) rfl ?_
      refine g_goto 156 C dX8_laysPart_152 (by decide) ?_
      exact g_sub [1, 3, 4, 5, 0] (tX8_laysPart_L156 (l2 := l2) (l3 := l3) (l4 := l4) (l5 := s0) (s0 := 1) (σ := o5.2) C K0 h) rfl
  · exact g_sub [1, 3, 4, 5, 0] (tX8_laysPart_L155 (l2 := l2) (l3 := l3) (l4 := l4) (l5 := s0) (σ := σ) C K0 h) rfl
noncomputable def fX8_laysPart_L130 (l1 : Int32) (l2 : Int32) (l3 : Int32) (l4 : Int32) (σ : Mem) : Option (Int32 × Mem) :=
  fX8_laysPart_L131 l1 l2 l3 l4 0 σ
set_option maxHeartbeats 4000000 in
set_option maxRecDepth 100000 in
theorem tX8_laysPart_L130 {E : Gx} {cI : ClassId} {ad : Nat → Nat} (C : Cx E rmX8_laysPart cI layM ad 9 RX8 cX8_laysPart) {out : Int32 × Mem} (K0 : KI E rmX8_laysPart cI layM ad 9 cX8_laysPart .boolean out) {l1 : Int32} {l2 : Int32} {l3 : Int32} {l4 : Int32} {σ : Mem} (h : fX8_laysPart_L130 l1 l2 l3 l4 σ = some out) : G E rmX8_laysPart cI layM ad 9 130 [(0, .ref (ad 0)), (1, .int l1), (2, .int l2), (3, .int l3), (4, .int l4)] [] σ := by
  unfold fX8_laysPart_L130 at h
  refine g_iconst 131 (v := 0) C dX8_laysPart_130 (by decide) rfl ?_
  exact tX8_laysPart_L131 (l1 := l1) (l2 := l2) (l3 := l3) (l4 := l4) (s0 := 0) (σ := σ) C K0 h
noncomputable def fX8_laysPart_L63 (l2 : Int32) (l3 : Int32) (l4 : Int32) (s0 : Int32) (σ : Mem) : Option (Int32 × Mem) :=
  chk (inb l3 30) <|
  chk (inb l4 30) <|
  (fX8_cut (((σ 8 l3.toNatClampNeg).toInt64) + (s0.toInt64 * ((σ 8 l4.toNatClampNeg).toInt64))) σ).bind fun o7 =>
  chk (inb l2 30) <|
  (fX8_joins l2 l3 1 l4 s0 (up2 o7.2 8 l2.toNatClampNeg o7.1)).bind fun o8 =>
  some (1, o8)
set_option maxHeartbeats 4000000 in
set_option maxRecDepth 100000 in
theorem tX8_laysPart_L63 {E : Gx} {cI : ClassId} {ad : Nat → Nat} (C : Cx E rmX8_laysPart cI layM ad 9 RX8 cX8_laysPart) {out : Int32 × Mem} (K0 : KI E rmX8_laysPart cI layM ad 9 cX8_laysPart .boolean out) {l2 : Int32} {l3 : Int32} {l4 : Int32} {s0 : Int32} {σ : Mem} (h : fX8_laysPart_L63 l2 l3 l4 s0 σ = some out) : G E rmX8_laysPart cI layM ad 9 63 [(0, .ref (ad 0)), (2, .int l2), (3, .int l3), (4, .int l4)] [.int s0] σ := by
  unfold fX8_laysPart_L63 at h
  refine g_istore 65 [(5, .int s0), (0, .ref (ad 0)), (2, .int l2), (3, .int l3), (4, .int l4)] C dX8_laysPart_63 (by decide) rfl rfl ?_
  refine g_aload_n 66 C dX8_laysPart_65 rfl (j := 1) rfl rfl ?_
  refine g_getr 69 (j := 15) C rfl rfl wu_X8 (by decide) wf_X8_42 rfl dX8_laysPart_66 rfl ?_
  refine g_iload_n 70 C dX8_laysPart_69 rfl (j := 2) rfl rfl ?_
  refine g_aload_n 71 C dX8_laysPart_70 rfl (j := 1) rfl rfl ?_
  refine g_aload_n 72 C dX8_laysPart_71 rfl (j := 1) rfl rfl ?_
  refine g_getr 75 (j := 15) C rfl rfl wu_X8 (by decide) wf_X8_42 rfl dX8_laysPart_72 rfl ?_
  refine g_iload_n 76 C dX8_laysPart_75 rfl (j := 3) rfl rfl ?_
  refine g_iald 77 C rfl dX8_laysPart_76 rfl h (fun h => ?_)
  refine g_i2l 78 C dX8_laysPart_77 rfl ?_
  refine g_iload 80 C dX8_laysPart_78 (j := 0) rfl rfl ?_
  refine g_i2l 81 C dX8_laysPart_80 rfl ?_
  refine g_aload_n 82 C dX8_laysPart_81 rfl (j := 1) rfl rfl ?_
  refine g_getr 85 (j := 15) C rfl rfl wu_X8 (by decide) wf_X8_42 rfl dX8_laysPart_82 rfl ?_
  refine g_iload 87 C dX8_laysPart_85 (j := 4) rfl rfl ?_
  refine g_iald 88 C rfl dX8_laysPart_87 rfl h (fun h => ?_)
  refine g_i2l 89 C dX8_laysPart_88 rfl ?_
  refine g_lmul 90 C dX8_laysPart_89 rfl ?_
  refine g_ladd 91 C dX8_laysPart_90 rfl ?_
  refine g_cvi 94 C (As := [.long (((σ 8 l3.toNatClampNeg).toInt64) + (s0.toInt64 * ((σ 8 l4.toNatClampNeg).toInt64)))]) (fun _ h => mX8_cut (a1 := ((σ 8 l3.toNatClampNeg).toInt64) + (s0.toInt64 * ((σ 8 l4.toNatClampNeg).toInt64))) (σ := σ) h) wl_X8_83 wi_X8_cut wz_X8_cut wc_X8_cut wn_X8 qX8_cut rfl rfl ⟨Nat.le_of_ble_eq_true rfl, Nat.le_of_ble_eq_true rfl⟩ rfl rfl rfl rfl (Nat.le_of_ble_eq_true rfl) dX8_laysPart_91 rfl h (fun o7 h => ?_)
  refine g_iast 95 C rfl dX8_laysPart_94 rfl h (fun h => ?_)
  refine g_aload_n 96 C dX8_laysPart_95 rfl (j := 1) rfl rfl ?_
  refine g_iload_n 97 C dX8_laysPart_96 rfl (j := 2) rfl rfl ?_
  refine g_iload_n 98 C dX8_laysPart_97 rfl (j := 3) rfl rfl ?_
  refine g_iconst 99 (v := 1) C dX8_laysPart_98 (by decide) rfl ?_
  refine g_iload 101 C dX8_laysPart_99 (j := 4) rfl rfl ?_
  refine g_iload 103 C dX8_laysPart_101 (j := 0) rfl rfl ?_
  refine g_cvv 106 C (As := [.int l2, .int l3, .int 1, .int l4, .int s0]) (fun _ h => mX8_joins (a1 := l2) (a2 := l3) (a3 := 1) (a4 := l4) (a5 := s0) (σ := up2 o7.2 8 l2.toNatClampNeg o7.1) h) wl_X8_162 wi_X8_joins wz_X8_joins wc_X8_joins wn_X8 qX8_joins rfl rfl ⟨Nat.le_of_ble_eq_true rfl, Nat.le_of_ble_eq_true rfl⟩ rfl rfl rfl rfl (Nat.le_of_ble_eq_true rfl) dX8_laysPart_103 rfl h (fun o8 h => ?_)
  refine g_iconst 107 (v := 1) C dX8_laysPart_106 (by decide) rfl ?_
  cases h
  exact K0 _ _ dX8_laysPart_107 (zb_nar (x := 1) (by decide))
noncomputable def fX8_laysPart (a1 : Int32) (a2 : Int32) (σ : Mem) : Option (Int32 × Mem) :=
  chk (inb a2 30) <|
  (fX8_partOf a1 (σ 3 a2.toNatClampNeg) σ).bind fun o1 =>
  chk (inb a2 30) <|
  (fX8_partOf a1 (o1.2 4 a2.toNatClampNeg) o1.2).bind fun o2 =>
  if o1.1 = (-1) then
    fX8_laysPart_L36 o2.2
  else
    if o2.1 = (-1) then
      fX8_laysPart_L36 o2.2
    else
      chk (inb a2 30) <|
      if (o2.2 2 a2.toNatClampNeg) = 4 then
        chk (inb o1.1 30) <|
        if (o2.2 2 o1.1.toNatClampNeg) = 0 then
          (fX8_has a1 o2.1 o2.2).bind fun o6 =>
          if o6.1 = 0 then
            fX8_laysPart_L130 a1 a2 o1.1 o2.1 o6.2
          else
            fX8_laysPart_L131 a1 a2 o1.1 o2.1 1 o6.2
        else
          fX8_laysPart_L130 a1 a2 o1.1 o2.1 o2.2
      else
        chk (inb a2 30) <|
        if (o2.2 2 a2.toNatClampNeg) = 2 then
          fX8_laysPart_L63 a2 o1.1 o2.1 1 o2.2
        else
          fX8_laysPart_L63 a2 o1.1 o2.1 (-1) o2.2
set_option maxHeartbeats 4000000 in
set_option maxRecDepth 100000 in
theorem mX8_laysPart {l : Launch} {D : va_G} {cI : ClassId} {ad : Nat → Nat} {a1 : Int32} {a2 : Int32} {σ : Mem} {out : Int32 × Mem} (h : fX8_laysPart a1 a2 σ = some out) : MI l D cI layM ad yX8_laysPart cX8_laysPart 9 .boolean rmX8_laysPart [.ref (ad 0), .int a1, .int a2] σ out := by
  refine met_i (by decide) (Nat.le_of_ble_eq_true rfl) (fun E C K0 => ?_)
  show G E rmX8_laysPart cI layM ad 9 0 [(0, .ref (ad 0)), (1, .int a1), (2, .int a2)] [] σ
  unfold fX8_laysPart at h
  refine g_aload_n 1 C dX8_laysPart_0 rfl (j := 0) rfl rfl ?_
  refine g_iload_n 2 C dX8_laysPart_1 rfl (j := 1) rfl rfl ?_
  refine g_aload_n 3 C dX8_laysPart_2 rfl (j := 0) rfl rfl ?_
  refine g_getr 6 (j := 4) C rfl rfl wu_X8 (by decide) wf_X8_17 rfl dX8_laysPart_3 rfl ?_
  refine g_iload_n 7 C dX8_laysPart_6 rfl (j := 2) rfl rfl ?_
  refine g_iald 8 C rfl dX8_laysPart_7 rfl h (fun h => ?_)
  refine g_cvi 11 C (As := [.int a1, .int (σ 3 a2.toNatClampNeg)]) (fun _ h => mX8_partOf (a1 := a1) (a2 := σ 3 a2.toNatClampNeg) (σ := σ) h) wl_X8_168 wi_X8_partOf wz_X8_partOf wc_X8_partOf wn_X8 qX8_partOf rfl rfl ⟨Nat.le_of_ble_eq_true rfl, Nat.le_of_ble_eq_true rfl⟩ rfl rfl rfl rfl (Nat.le_of_ble_eq_true rfl) dX8_laysPart_8 rfl h (fun o1 h => ?_)
  refine g_istore_n 12 [(3, .int o1.1), (0, .ref (ad 0)), (1, .int a1), (2, .int a2)] C dX8_laysPart_11 rfl (by decide) rfl rfl ?_
  refine g_aload_n 13 C dX8_laysPart_12 rfl (j := 1) rfl rfl ?_
  refine g_iload_n 14 C dX8_laysPart_13 rfl (j := 2) rfl rfl ?_
  refine g_aload_n 15 C dX8_laysPart_14 rfl (j := 1) rfl rfl ?_
  refine g_getr 18 (j := 5) C rfl rfl wu_X8 (by decide) wf_X8_20 rfl dX8_laysPart_15 rfl ?_
  refine g_iload_n 19 C dX8_laysPart_18 rfl (j := 3) rfl rfl ?_
  refine g_iald 20 C rfl dX8_laysPart_19 rfl h (fun h => ?_)
  refine g_cvi 23 C (As := [.int a1, .int (o1.2 4 a2.toNatClampNeg)]) (fun _ h => mX8_partOf (a1 := a1) (a2 := o1.2 4 a2.toNatClampNeg) (σ := o1.2) h) wl_X8_168 wi_X8_partOf wz_X8_partOf wc_X8_partOf wn_X8 qX8_partOf rfl rfl ⟨Nat.le_of_ble_eq_true rfl, Nat.le_of_ble_eq_true rfl⟩ rfl rfl rfl rfl (Nat.le_of_ble_eq_true rfl) dX8_laysPart_20 rfl h (fun o2 h => ?_)
  refine g_istore 25 [(4, .int o2.1), (3, .int o1.1), (0, .ref (ad 0)), (1, .int a1), (2, .int a2)] C dX8_laysPart_23 (by decide) rfl rfl ?_
  refine g_iload_n 26 C dX8_laysPart_25 rfl (j := 1) rfl rfl ?_
  refine g_iconst 27 (v := (-1)) C dX8_laysPart_26 (by decide) rfl ?_
  refine g_icmp_eq 36 30 C dX8_laysPart_27 (by decide) rfl h (fun h => ?_) (fun h => ?_)
  · exact g_sub [] (tX8_laysPart_L36 (σ := o2.2) C K0 h) rfl
  · refine g_iload 32 C dX8_laysPart_30 (j := 0) rfl rfl ?_
    refine g_iconst 33 (v := (-1)) C dX8_laysPart_32 (by decide) rfl ?_
    refine g_icmp_ne 38 36 C dX8_laysPart_33 (by decide) rfl h (fun h => ?_) (fun h => ?_)
    · exact g_sub [] (tX8_laysPart_L36 (σ := o2.2) C K0 h) rfl
    · refine g_aload_n 39 C dX8_laysPart_38 rfl (j := 2) rfl rfl ?_
      refine g_getr 42 (j := 3) C rfl rfl wu_X8 (by decide) wf_X8_14 rfl dX8_laysPart_39 rfl ?_
      refine g_iload_n 43 C dX8_laysPart_42 rfl (j := 4) rfl rfl ?_
      refine g_iald 44 C rfl dX8_laysPart_43 rfl h (fun h => ?_)
      refine g_iconst 45 (v := 4) C dX8_laysPart_44 (by decide) rfl ?_
      refine g_icmp_eq 108 48 C dX8_laysPart_45 (by decide) rfl h (fun h => ?_) (fun h => ?_)
      · refine g_aload_n 109 C dX8_laysPart_108 rfl (j := 2) rfl rfl ?_
        refine g_getr 112 (j := 3) C rfl rfl wu_X8 (by decide) wf_X8_14 rfl dX8_laysPart_109 rfl ?_
        refine g_iload_n 113 C dX8_laysPart_112 rfl (j := 1) rfl rfl ?_
        refine g_iald 114 C rfl dX8_laysPart_113 rfl h (fun h => ?_)
        refine g_if_ne 130 117 C dX8_laysPart_114 (by decide) rfl h (fun h => ?_) (fun h => ?_)
        · refine g_iload_n 118 C dX8_laysPart_117 rfl (j := 3) rfl rfl ?_
          refine g_iload 120 C dX8_laysPart_118 (j := 0) rfl rfl ?_
          refine g_csi 123 C (As := [.int a1, .int o2.1]) (fun _ h => mX8_has (a1 := a1) (a2 := o2.1) (σ := o2.2) h) wl_X8_102 ws_X8_has wc_X8_has wn_X8 qX8_has rfl rfl ⟨Nat.le_of_ble_eq_true rfl, Nat.le_of_ble_eq_true rfl⟩ rfl rfl (Nat.le_of_ble_eq_true rfl) dX8_laysPart_120 rfl h (fun o6 h => ?_)
          refine g_if_eq 130 126 C dX8_laysPart_123 (by decide) rfl h (fun h => ?_) (fun h => ?_)
          · exact g_sub [2, 3, 4, 1, 0] (tX8_laysPart_L130 (l1 := a1) (l2 := a2) (l3 := o1.1) (l4 := o2.1) (σ := o6.2) C K0 h) rfl
          · refine g_iconst 127 (v := 1) C dX8_laysPart_126 (by decide) rfl ?_
            refine g_goto 131 C dX8_laysPart_127 (by decide) ?_
            exact g_sub [2, 3, 4, 1, 0] (tX8_laysPart_L131 (l1 := a1) (l2 := a2) (l3 := o1.1) (l4 := o2.1) (s0 := 1) (σ := o6.2) C K0 h) rfl
        · exact g_sub [2, 3, 4, 1, 0] (tX8_laysPart_L130 (l1 := a1) (l2 := a2) (l3 := o1.1) (l4 := o2.1) (σ := o2.2) C K0 h) rfl
      · refine g_aload_n 49 C dX8_laysPart_48 rfl (j := 2) rfl rfl ?_
        refine g_getr 52 (j := 3) C rfl rfl wu_X8 (by decide) wf_X8_14 rfl dX8_laysPart_49 rfl ?_
        refine g_iload_n 53 C dX8_laysPart_52 rfl (j := 4) rfl rfl ?_
        refine g_iald 54 C rfl dX8_laysPart_53 rfl h (fun h => ?_)
        refine g_iconst 55 (v := 2) C dX8_laysPart_54 (by decide) rfl ?_
        refine g_icmp_ne 62 58 C dX8_laysPart_55 (by decide) rfl h (fun h => ?_) (fun h => ?_)
        · refine g_iconst 59 (v := 1) C dX8_laysPart_58 (by decide) rfl ?_
          refine g_goto 63 C dX8_laysPart_59 (by decide) ?_
          exact g_sub [2, 4, 1, 0] (tX8_laysPart_L63 (l2 := a2) (l3 := o1.1) (l4 := o2.1) (s0 := 1) (σ := o2.2) C K0 h) rfl
        · refine g_iconst 63 (v := (-1)) C dX8_laysPart_62 (by decide) rfl ?_
          exact g_sub [2, 4, 1, 0] (tX8_laysPart_L63 (l2 := a2) (l3 := o1.1) (l4 := o2.1) (s0 := (-1)) (σ := o2.2) C K0 h) rfl

/-! LoopReducerModel.laysNone(II)V -/
abbrev rmX8_laysNone : Room := { frames := 1, cells := 0, slots := 0, locals := 21 }
theorem qX8_laysNone : yX8_laysNone.cls ≠ "java/lang/invoke/MethodHandle" ∧ yX8_laysNone.cls ≠ "java/lang/invoke/VarHandle" ∧ (parseMethodDescriptor yX8_laysNone.desc).map (fun d => d.parameters.length) = some 2 := by decide +kernel
theorem DX8_laysNone : ∀ q ∈ ([(0, .iconst 0, 1), (1, .istore_n 3, 1), (2, .iload_n 3, 1), (3, .aload_n 0, 1), (4, .getfield 72, 3), (7, .if_icmp .ge 35, 3), (10, .iload_n 1, 1), (11, .iload_n 3, 1), (12, .invokestatic 102, 3), (15, .ifCond .ne 6, 3), (18, .goto 18, 3), (21, .aload_n 0, 1), (22, .getfield 36, 3), (25, .iload_n 3, 1), (26, .bipush 9, 2), (28, .iastore, 1), (29, .aload_n 0, 1), (30, .getfield 39, 3), (33, .iload_n 3, 1), (34, .iload_n 2, 1), (35, .iastore, 1), (36, .iinc 3 1, 3), (39, .goto (-37), 3), (42, .return_, 1)] : List (Nat × Instr × Nat)), decode cX8_laysNone q.1 = .ok q.2 := by decide +kernel
theorem dX8_laysNone_0 : decode cX8_laysNone 0 = .ok (.iconst 0, 1) := DX8_laysNone (0, .iconst 0, 1) (List.mem_of_getElem? (i := 0) rfl)
theorem dX8_laysNone_1 : decode cX8_laysNone 1 = .ok (.istore_n 3, 1) := DX8_laysNone (1, .istore_n 3, 1) (List.mem_of_getElem? (i := 1) rfl)
theorem dX8_laysNone_2 : decode cX8_laysNone 2 = .ok (.iload_n 3, 1) := DX8_laysNone (2, .iload_n 3, 1) (List.mem_of_getElem? (i := 2) rfl)
theorem dX8_laysNone_3 : decode cX8_laysNone 3 = .ok (.aload_n 0, 1) := DX8_laysNone (3, .aload_n 0, 1) (List.mem_of_getElem? (i := 3) rfl)
theorem dX8_laysNone_4 : decode cX8_laysNone 4 = .ok (.getfield 72, 3) := DX8_laysNone (4, .getfield 72, 3) (List.mem_of_getElem? (i := 4) rfl)
theorem dX8_laysNone_7 : decode cX8_laysNone 7 = .ok (.if_icmp .ge 35, 3) := DX8_laysNone (7, .if_icmp .ge 35, 3) (List.mem_of_getElem? (i := 5) rfl)
theorem dX8_laysNone_10 : decode cX8_laysNone 10 = .ok (.iload_n 1, 1) := DX8_laysNone (10, .iload_n 1, 1) (List.mem_of_getElem? (i := 6) rfl)
theorem dX8_laysNone_11 : decode cX8_laysNone 11 = .ok (.iload_n 3, 1) := DX8_laysNone (11, .iload_n 3, 1) (List.mem_of_getElem? (i := 7) rfl)
theorem dX8_laysNone_12 : decode cX8_laysNone 12 = .ok (.invokestatic 102, 3) := DX8_laysNone (12, .invokestatic 102, 3) (List.mem_of_getElem? (i := 8) rfl)
theorem dX8_laysNone_15 : decode cX8_laysNone 15 = .ok (.ifCond .ne 6, 3) := DX8_laysNone (15, .ifCond .ne 6, 3) (List.mem_of_getElem? (i := 9) rfl)
theorem dX8_laysNone_18 : decode cX8_laysNone 18 = .ok (.goto 18, 3) := DX8_laysNone (18, .goto 18, 3) (List.mem_of_getElem? (i := 10) rfl)
theorem dX8_laysNone_21 : decode cX8_laysNone 21 = .ok (.aload_n 0, 1) := DX8_laysNone (21, .aload_n 0, 1) (List.mem_of_getElem? (i := 11) rfl)
theorem dX8_laysNone_22 : decode cX8_laysNone 22 = .ok (.getfield 36, 3) := DX8_laysNone (22, .getfield 36, 3) (List.mem_of_getElem? (i := 12) rfl)
theorem dX8_laysNone_25 : decode cX8_laysNone 25 = .ok (.iload_n 3, 1) := DX8_laysNone (25, .iload_n 3, 1) (List.mem_of_getElem? (i := 13) rfl)
theorem dX8_laysNone_26 : decode cX8_laysNone 26 = .ok (.bipush 9, 2) := DX8_laysNone (26, .bipush 9, 2) (List.mem_of_getElem? (i := 14) rfl)
theorem dX8_laysNone_28 : decode cX8_laysNone 28 = .ok (.iastore, 1) := DX8_laysNone (28, .iastore, 1) (List.mem_of_getElem? (i := 15) rfl)
theorem dX8_laysNone_29 : decode cX8_laysNone 29 = .ok (.aload_n 0, 1) := DX8_laysNone (29, .aload_n 0, 1) (List.mem_of_getElem? (i := 16) rfl)
theorem dX8_laysNone_30 : decode cX8_laysNone 30 = .ok (.getfield 39, 3) := DX8_laysNone (30, .getfield 39, 3) (List.mem_of_getElem? (i := 17) rfl)
theorem dX8_laysNone_33 : decode cX8_laysNone 33 = .ok (.iload_n 3, 1) := DX8_laysNone (33, .iload_n 3, 1) (List.mem_of_getElem? (i := 18) rfl)
theorem dX8_laysNone_34 : decode cX8_laysNone 34 = .ok (.iload_n 2, 1) := DX8_laysNone (34, .iload_n 2, 1) (List.mem_of_getElem? (i := 19) rfl)
theorem dX8_laysNone_35 : decode cX8_laysNone 35 = .ok (.iastore, 1) := DX8_laysNone (35, .iastore, 1) (List.mem_of_getElem? (i := 20) rfl)
theorem dX8_laysNone_36 : decode cX8_laysNone 36 = .ok (.iinc 3 1, 3) := DX8_laysNone (36, .iinc 3 1, 3) (List.mem_of_getElem? (i := 21) rfl)
theorem dX8_laysNone_39 : decode cX8_laysNone 39 = .ok (.goto (-37), 3) := DX8_laysNone (39, .goto (-37), 3) (List.mem_of_getElem? (i := 22) rfl)
theorem dX8_laysNone_42 : decode cX8_laysNone 42 = .ok (.return_, 1) := DX8_laysNone (42, .return_, 1) (List.mem_of_getElem? (i := 23) rfl)
noncomputable def fX8_laysNone_L36 (l1 : Int32) (l2 : Int32) (l3 : Int32) (σ : Mem) : Option ((Int32 × Mem) ⊕ (Mem)) :=
  some (.inl (l3 + 1, σ))
set_option maxHeartbeats 4000000 in
set_option maxRecDepth 100000 in
theorem tX8_laysNone_L36 {E : Gx} {cI : ClassId} {ad : Nat → Nat} (C : Cx E rmX8_laysNone cI layM ad 4 RX8 cX8_laysNone) {out : Mem} (K0 : KV E rmX8_laysNone cI layM ad 4 cX8_laysNone out) {l1 : Int32} {l2 : Int32} {l3 : Int32} {σ : Mem} {res : (Int32 × Mem) ⊕ (Mem)} (h : fX8_laysNone_L36 l1 l2 l3 σ = some res) (K : Sum.elim (fun a => G E rmX8_laysNone cI layM ad 4 2 [(0, .ref (ad 0)), (1, .int l1), (2, .int l2), (3, .int a.1)] [] a.2) (fun b => G E rmX8_laysNone cI layM ad 4 42 [] [] b) res) : G E rmX8_laysNone cI layM ad 4 36 [(0, .ref (ad 0)), (1, .int l1), (2, .int l2), (3, .int l3)] [] σ := by
  unfold fX8_laysNone_L36 at h
  refine g_iinc 39 [(3, .int (l3 + 1)), (0, .ref (ad 0)), (1, .int l1), (2, .int l2)] C dX8_laysNone_36 (j := 3) rfl (by rfl) (by decide) rfl rfl ?_
  refine g_goto 2 C dX8_laysNone_39 (by decide) ?_
  have hh := end_inl h K
  exact g_sub [1, 2, 3, 0] (hh) rfl
noncomputable def fX8_laysNone_B2 (l1 : Int32) (l2 : Int32) (l3 : Int32) (σ : Mem) : Option ((Int32 × Mem) ⊕ (Mem)) :=
  if (σ 0 6) ≤ l3 then
    some (.inr σ)
  else
    (fX8_has l1 l3 σ).bind fun o1 =>
    if o1.1 = 0 then
      fX8_laysNone_L36 l1 l2 l3 o1.2
    else
      chk (inb l3 30) <|
      chk (inb l3 30) <|
      fX8_laysNone_L36 l1 l2 l3 (up2 (up2 o1.2 6 l3.toNatClampNeg 9) 7 l3.toNatClampNeg l2)
set_option maxHeartbeats 4000000 in
set_option maxRecDepth 100000 in
theorem tX8_laysNone_B2 {E : Gx} {cI : ClassId} {ad : Nat → Nat} (C : Cx E rmX8_laysNone cI layM ad 4 RX8 cX8_laysNone) {out : Mem} (K0 : KV E rmX8_laysNone cI layM ad 4 cX8_laysNone out) {l1 : Int32} {l2 : Int32} {l3 : Int32} {σ : Mem} {res : (Int32 × Mem) ⊕ (Mem)} (h : fX8_laysNone_B2 l1 l2 l3 σ = some res) (K : Sum.elim (fun a => G E rmX8_laysNone cI layM ad 4 2 [(0, .ref (ad 0)), (1, .int l1), (2, .int l2), (3, .int a.1)] [] a.2) (fun b => G E rmX8_laysNone cI layM ad 4 42 [] [] b) res) : G E rmX8_laysNone cI layM ad 4 2 [(0, .ref (ad 0)), (1, .int l1), (2, .int l2), (3, .int l3)] [] σ := by
  unfold fX8_laysNone_B2 at h
  refine g_iload_n 3 C dX8_laysNone_2 rfl (j := 3) rfl rfl ?_
  refine g_aload_n 4 C dX8_laysNone_3 rfl (j := 0) rfl rfl ?_
  refine g_geti 7 (j := 6) C rfl rfl wu_X8 (by decide) wf_X8_72 rfl dX8_laysNone_4 rfl ?_
  refine g_icmp_ge 42 10 C dX8_laysNone_7 (by decide) rfl h (fun h => ?_) (fun h => ?_)
  · have hh := end_inr h K
    exact g_sub [] (hh) rfl
  · refine g_iload_n 11 C dX8_laysNone_10 rfl (j := 1) rfl rfl ?_
    refine g_iload_n 12 C dX8_laysNone_11 rfl (j := 3) rfl rfl ?_
    refine g_csi 15 C (As := [.int l1, .int l3]) (fun _ h => mX8_has (a1 := l1) (a2 := l3) (σ := σ) h) wl_X8_102 ws_X8_has wc_X8_has wn_X8 qX8_has rfl rfl ⟨Nat.le_of_ble_eq_true rfl, Nat.le_of_ble_eq_true rfl⟩ rfl rfl (Nat.le_of_ble_eq_true rfl) dX8_laysNone_12 rfl h (fun o1 h => ?_)
    refine g_if_ne 21 18 C dX8_laysNone_15 (by decide) rfl h (fun h => ?_) (fun h => ?_)
    · refine g_goto 36 C dX8_laysNone_18 (by decide) ?_
      exact tX8_laysNone_L36 (l1 := l1) (l2 := l2) (l3 := l3) (σ := o1.2) C K0 h K
    · refine g_aload_n 22 C dX8_laysNone_21 rfl (j := 0) rfl rfl ?_
      refine g_getr 25 (j := 13) C rfl rfl wu_X8 (by decide) wf_X8_36 rfl dX8_laysNone_22 rfl ?_
      refine g_iload_n 26 C dX8_laysNone_25 rfl (j := 3) rfl rfl ?_
      refine g_bipush 28 (v := 9) C dX8_laysNone_26 (by decide) rfl ?_
      refine g_iast 29 C rfl dX8_laysNone_28 rfl h (fun h => ?_)
      refine g_aload_n 30 C dX8_laysNone_29 rfl (j := 0) rfl rfl ?_
      refine g_getr 33 (j := 14) C rfl rfl wu_X8 (by decide) wf_X8_39 rfl dX8_laysNone_30 rfl ?_
      refine g_iload_n 34 C dX8_laysNone_33 rfl (j := 3) rfl rfl ?_
      refine g_iload_n 35 C dX8_laysNone_34 rfl (j := 2) rfl rfl ?_
      refine g_iast 36 C rfl dX8_laysNone_35 rfl h (fun h => ?_)
      exact tX8_laysNone_L36 (l1 := l1) (l2 := l2) (l3 := l3) (σ := up2 (up2 o1.2 6 l3.toNatClampNeg 9) 7 l3.toNatClampNeg l2) C K0 h K
noncomputable def fX8_laysNone_L42 (σ : Mem) : Option (Mem) :=
  some σ
set_option maxHeartbeats 4000000 in
set_option maxRecDepth 100000 in
theorem tX8_laysNone_L42 {E : Gx} {cI : ClassId} {ad : Nat → Nat} (C : Cx E rmX8_laysNone cI layM ad 4 RX8 cX8_laysNone) {out : Mem} (K0 : KV E rmX8_laysNone cI layM ad 4 cX8_laysNone out) {σ : Mem} (h : fX8_laysNone_L42 σ = some out) : G E rmX8_laysNone cI layM ad 4 42 [] [] σ := by
  unfold fX8_laysNone_L42 at h
  cases h
  exact K0 _ _ dX8_laysNone_42
noncomputable def fX8_laysNone (a1 : Int32) (a2 : Int32) (σ : Mem) : Option (Mem) :=
  (loop (fun a => fX8_laysNone_B2 a1 a2 a.1 a.2) (0, σ)).bind fun b2 =>
  fX8_laysNone_L42 b2
set_option maxHeartbeats 4000000 in
set_option maxRecDepth 100000 in
theorem mX8_laysNone {l : Launch} {D : va_G} {cI : ClassId} {ad : Nat → Nat} {a1 : Int32} {a2 : Int32} {σ : Mem} {out : Mem} (h : fX8_laysNone a1 a2 σ = some out) : MV l D cI layM ad yX8_laysNone cX8_laysNone 4 rmX8_laysNone [.ref (ad 0), .int a1, .int a2] σ out := by
  refine met_v (by decide) (Nat.le_of_ble_eq_true rfl) (fun E C K0 => ?_)
  show G E rmX8_laysNone cI layM ad 4 0 [(0, .ref (ad 0)), (1, .int a1), (2, .int a2)] [] σ
  unfold fX8_laysNone at h
  refine g_iconst 1 (v := 0) C dX8_laysNone_0 (by decide) rfl ?_
  refine g_istore_n 2 [(3, .int 0), (0, .ref (ad 0)), (1, .int a1), (2, .int a2)] C dX8_laysNone_1 rfl (by decide) rfl rfl ?_
  obtain ⟨b2, hb, h⟩ := bind_some h
  refine g_sub [1, 2, 3, 0] (g_loop (a := (0, σ)) (fun a => G E rmX8_laysNone cI layM ad 4 2 [(0, .ref (ad 0)), (1, .int a1), (2, .int a2), (3, .int a.1)] [] a.2) (fun b => G E rmX8_laysNone cI layM ad 4 42 [] [] b) hb (fun a res h K => tX8_laysNone_B2 (l1 := a1) (l2 := a2) (l3 := a.1) (σ := a.2) (res := res) C K0 h K) ?_) rfl
  show G E rmX8_laysNone cI layM ad 4 42 [] [] b2
  exact tX8_laysNone_L42 (σ := b2) C K0 h

/-! LoopReducerModel.laysCarried(II)Z -/
abbrev rmX8_laysCarried : Room := { frames := 3, cells := 0, slots := 0, locals := 76 }
theorem qX8_laysCarried : yX8_laysCarried.cls ≠ "java/lang/invoke/MethodHandle" ∧ yX8_laysCarried.cls ≠ "java/lang/invoke/VarHandle" ∧ (parseMethodDescriptor yX8_laysCarried.desc).map (fun d => d.parameters.length) = some 2 := by decide +kernel
theorem DX8_laysCarried : ∀ q ∈ ([(0, .aload_n 0, 1), (1, .iload_n 2, 1), (2, .invokevirtual 127, 3), (5, .aload_n 0, 1), (6, .getfield 42, 3), (9, .iload_n 2, 1), (10, .iconst 1, 1), (11, .iastore, 1), (12, .iconst 0, 1), (13, .istore_n 3, 1), (14, .iload_n 3, 1), (15, .aload_n 0, 1), (16, .getfield 72, 3), (19, .if_icmp .ge 33, 3), (22, .iload_n 1, 1), (23, .iload_n 3, 1), (24, .invokestatic 102, 3), (27, .ifCond .eq 19, 3), (30, .iload_n 3, 1), (31, .iload_n 2, 1), (32, .if_icmp .eq 14, 3), (35, .aload_n 0, 1), (36, .iload_n 1, 1), (37, .iload_n 3, 1), (38, .invokevirtual 171, 3), (41, .ifCond .ne 5, 3), (44, .iconst 0, 1), (45, .ireturn, 1), (46, .iinc 3 1, 3), (49, .goto (-35), 3), (52, .aload_n 0, 1), (53, .getfield 20, 3), (56, .iload_n 2, 1), (57, .iaload, 1), (58, .istore_n 3, 1), (59, .aload_n 0, 1), (60, .getfield 42, 3), (63, .iload_n 3, 1), (64, .iaload, 1), (65, .istore 4, 2), (67, .iload 4, 2), (69, .ifCond .eq 9, 3), (72, .iload 4, 2), (74, .iconst 1, 1), (75, .if_icmp .ne 18, 3), (78, .iload 4, 2), (80, .iconst 1, 1), (81, .if_icmp .ne 14, 3), (84, .aload_n 0, 1), (85, .iload_n 3, 1), (86, .invokevirtual 124, 3), (89, .iconst 2, 1), (90, .if_icmp .le 5, 3), (93, .iconst 0, 1), (94, .ireturn, 1), (95, .iload 4, 2), (97, .ifCond .ne 13, 3), (100, .aload_n 0, 1), (101, .iload_n 2, 1), (102, .iload_n 3, 1), (103, .iconst 0, 1), (104, .invokevirtual 174, 3), (107, .goto 100, 3), (110, .aload_n 0, 1), (111, .bipush 30, 2), (113, .aload_n 0, 1), (114, .getfield 17, 3), (117, .iload_n 2, 1), (118, .iaload, 1), (119, .invokevirtual 151, 3), (122, .iconst 0, 1), (123, .istore 5, 2), (125, .iload 5, 2), (127, .iconst 3, 1), (128, .if_icmp .ge 65, 3), (131, .iconst 0, 1), (132, .istore 6, 2), (134, .iload 6, 2), (136, .sipush 343, 3), (139, .if_icmp .ge 48, 3), (142, .aload_n 0, 1), (143, .getfield 8, 3), (146, .ldc 154, 2), (148, .sipush 343, 3), (151, .iload 5, 2), (153, .iconst 1, 1), (154, .iadd, 1), (155, .imul, 1), (156, .iadd, 1), (157, .iload 6, 2), (159, .iadd, 1), (160, .aload_n 0, 1), (161, .getfield 8, 3), (164, .sipush 1372, 3), (167, .iload_n 3, 1), (168, .imul, 1), (169, .sipush 343, 3), (172, .iload 5, 2), (174, .imul, 1), (175, .iadd, 1), (176, .iload 6, 2), (178, .iadd, 1), (179, .iaload, 1), (180, .iastore, 1), (181, .iinc 6 1, 3), (184, .goto (-50), 3), (187, .iinc 5 1, 3), (190, .goto (-65), 3), (193, .aload_n 0, 1), (194, .bipush 30, 2), (196, .iload_n 2, 1), (197, .invokevirtual 156, 3), (200, .aload_n 0, 1), (201, .getfield 36, 3), (204, .iload_n 2, 1), (205, .iconst 0, 1), (206, .iastore, 1), (207, .iconst 0, 1), (208, .istore 5, 2), (210, .iload 5, 2), (212, .aload_n 0, 1), (213, .getfield 72, 3), (216, .if_icmp .ge 57, 3), (219, .iload_n 1, 1), (220, .iload 5, 2), (222, .invokestatic 102, 3), (225, .ifCond .eq 42, 3), (228, .iload 5, 2), (230, .iload_n 2, 1), (231, .if_icmp .ne 6, 3), (234, .goto 33, 3), (237, .aload_n 0, 1), (238, .iload 5, 2), (240, .iload 5, 2), (242, .iconst 1, 1), (243, .iload_n 2, 1), (244, .aload_n 0, 1), (245, .getfield 42, 3), (248, .iload 5, 2), (250, .iaload, 1), (251, .invokevirtual 162, 3), (254, .aload_n 0, 1), (255, .getfield 36, 3), (258, .iload 5, 2), (260, .aload_n 0, 1), (261, .getfield 36, 3), (264, .iload_n 2, 1), (265, .iaload, 1), (266, .iastore, 1), (267, .iinc 5 1, 3), (270, .goto (-60), 3), (273, .iconst 1, 1), (274, .ireturn, 1)] : List (Nat × Instr × Nat)), decode cX8_laysCarried q.1 = .ok q.2 := by decide +kernel
theorem dX8_laysCarried_0 : decode cX8_laysCarried 0 = .ok (.aload_n 0, 1) := DX8_laysCarried (0, .aload_n 0, 1) (List.mem_of_getElem? (i := 0) rfl)
theorem dX8_laysCarried_1 : decode cX8_laysCarried 1 = .ok (.iload_n 2, 1) := DX8_laysCarried (1, .iload_n 2, 1) (List.mem_of_getElem? (i := 1) rfl)
theorem dX8_laysCarried_2 : decode cX8_laysCarried 2 = .ok (.invokevirtual 127, 3) := DX8_laysCarried (2, .invokevirtual 127, 3) (List.mem_of_getElem? (i := 2) rfl)
theorem dX8_laysCarried_5 : decode cX8_laysCarried 5 = .ok (.aload_n 0, 1) := DX8_laysCarried (5, .aload_n 0, 1) (List.mem_of_getElem? (i := 3) rfl)
theorem dX8_laysCarried_6 : decode cX8_laysCarried 6 = .ok (.getfield 42, 3) := DX8_laysCarried (6, .getfield 42, 3) (List.mem_of_getElem? (i := 4) rfl)
theorem dX8_laysCarried_9 : decode cX8_laysCarried 9 = .ok (.iload_n 2, 1) := DX8_laysCarried (9, .iload_n 2, 1) (List.mem_of_getElem? (i := 5) rfl)
theorem dX8_laysCarried_10 : decode cX8_laysCarried 10 = .ok (.iconst 1, 1) := DX8_laysCarried (10, .iconst 1, 1) (List.mem_of_getElem? (i := 6) rfl)
theorem dX8_laysCarried_11 : decode cX8_laysCarried 11 = .ok (.iastore, 1) := DX8_laysCarried (11, .iastore, 1) (List.mem_of_getElem? (i := 7) rfl)
theorem dX8_laysCarried_12 : decode cX8_laysCarried 12 = .ok (.iconst 0, 1) := DX8_laysCarried (12, .iconst 0, 1) (List.mem_of_getElem? (i := 8) rfl)
theorem dX8_laysCarried_13 : decode cX8_laysCarried 13 = .ok (.istore_n 3, 1) := DX8_laysCarried (13, .istore_n 3, 1) (List.mem_of_getElem? (i := 9) rfl)
theorem dX8_laysCarried_14 : decode cX8_laysCarried 14 = .ok (.iload_n 3, 1) := DX8_laysCarried (14, .iload_n 3, 1) (List.mem_of_getElem? (i := 10) rfl)
theorem dX8_laysCarried_15 : decode cX8_laysCarried 15 = .ok (.aload_n 0, 1) := DX8_laysCarried (15, .aload_n 0, 1) (List.mem_of_getElem? (i := 11) rfl)
theorem dX8_laysCarried_16 : decode cX8_laysCarried 16 = .ok (.getfield 72, 3) := DX8_laysCarried (16, .getfield 72, 3) (List.mem_of_getElem? (i := 12) rfl)
theorem dX8_laysCarried_19 : decode cX8_laysCarried 19 = .ok (.if_icmp .ge 33, 3) := DX8_laysCarried (19, .if_icmp .ge 33, 3) (List.mem_of_getElem? (i := 13) rfl)
theorem dX8_laysCarried_22 : decode cX8_laysCarried 22 = .ok (.iload_n 1, 1) := DX8_laysCarried (22, .iload_n 1, 1) (List.mem_of_getElem? (i := 14) rfl)
theorem dX8_laysCarried_23 : decode cX8_laysCarried 23 = .ok (.iload_n 3, 1) := DX8_laysCarried (23, .iload_n 3, 1) (List.mem_of_getElem? (i := 15) rfl)
theorem dX8_laysCarried_24 : decode cX8_laysCarried 24 = .ok (.invokestatic 102, 3) := DX8_laysCarried (24, .invokestatic 102, 3) (List.mem_of_getElem? (i := 16) rfl)
theorem dX8_laysCarried_27 : decode cX8_laysCarried 27 = .ok (.ifCond .eq 19, 3) := DX8_laysCarried (27, .ifCond .eq 19, 3) (List.mem_of_getElem? (i := 17) rfl)
theorem dX8_laysCarried_30 : decode cX8_laysCarried 30 = .ok (.iload_n 3, 1) := DX8_laysCarried (30, .iload_n 3, 1) (List.mem_of_getElem? (i := 18) rfl)
theorem dX8_laysCarried_31 : decode cX8_laysCarried 31 = .ok (.iload_n 2, 1) := DX8_laysCarried (31, .iload_n 2, 1) (List.mem_of_getElem? (i := 19) rfl)
theorem dX8_laysCarried_32 : decode cX8_laysCarried 32 = .ok (.if_icmp .eq 14, 3) := DX8_laysCarried (32, .if_icmp .eq 14, 3) (List.mem_of_getElem? (i := 20) rfl)
theorem dX8_laysCarried_35 : decode cX8_laysCarried 35 = .ok (.aload_n 0, 1) := DX8_laysCarried (35, .aload_n 0, 1) (List.mem_of_getElem? (i := 21) rfl)
theorem dX8_laysCarried_36 : decode cX8_laysCarried 36 = .ok (.iload_n 1, 1) := DX8_laysCarried (36, .iload_n 1, 1) (List.mem_of_getElem? (i := 22) rfl)
theorem dX8_laysCarried_37 : decode cX8_laysCarried 37 = .ok (.iload_n 3, 1) := DX8_laysCarried (37, .iload_n 3, 1) (List.mem_of_getElem? (i := 23) rfl)
theorem dX8_laysCarried_38 : decode cX8_laysCarried 38 = .ok (.invokevirtual 171, 3) := DX8_laysCarried (38, .invokevirtual 171, 3) (List.mem_of_getElem? (i := 24) rfl)
theorem dX8_laysCarried_41 : decode cX8_laysCarried 41 = .ok (.ifCond .ne 5, 3) := DX8_laysCarried (41, .ifCond .ne 5, 3) (List.mem_of_getElem? (i := 25) rfl)
theorem dX8_laysCarried_44 : decode cX8_laysCarried 44 = .ok (.iconst 0, 1) := DX8_laysCarried (44, .iconst 0, 1) (List.mem_of_getElem? (i := 26) rfl)
theorem dX8_laysCarried_45 : decode cX8_laysCarried 45 = .ok (.ireturn, 1) := DX8_laysCarried (45, .ireturn, 1) (List.mem_of_getElem? (i := 27) rfl)
theorem dX8_laysCarried_46 : decode cX8_laysCarried 46 = .ok (.iinc 3 1, 3) := DX8_laysCarried (46, .iinc 3 1, 3) (List.mem_of_getElem? (i := 28) rfl)
theorem dX8_laysCarried_49 : decode cX8_laysCarried 49 = .ok (.goto (-35), 3) := DX8_laysCarried (49, .goto (-35), 3) (List.mem_of_getElem? (i := 29) rfl)
theorem dX8_laysCarried_52 : decode cX8_laysCarried 52 = .ok (.aload_n 0, 1) := DX8_laysCarried (52, .aload_n 0, 1) (List.mem_of_getElem? (i := 30) rfl)
theorem dX8_laysCarried_53 : decode cX8_laysCarried 53 = .ok (.getfield 20, 3) := DX8_laysCarried (53, .getfield 20, 3) (List.mem_of_getElem? (i := 31) rfl)
theorem dX8_laysCarried_56 : decode cX8_laysCarried 56 = .ok (.iload_n 2, 1) := DX8_laysCarried (56, .iload_n 2, 1) (List.mem_of_getElem? (i := 32) rfl)
theorem dX8_laysCarried_57 : decode cX8_laysCarried 57 = .ok (.iaload, 1) := DX8_laysCarried (57, .iaload, 1) (List.mem_of_getElem? (i := 33) rfl)
theorem dX8_laysCarried_58 : decode cX8_laysCarried 58 = .ok (.istore_n 3, 1) := DX8_laysCarried (58, .istore_n 3, 1) (List.mem_of_getElem? (i := 34) rfl)
theorem dX8_laysCarried_59 : decode cX8_laysCarried 59 = .ok (.aload_n 0, 1) := DX8_laysCarried (59, .aload_n 0, 1) (List.mem_of_getElem? (i := 35) rfl)
theorem dX8_laysCarried_60 : decode cX8_laysCarried 60 = .ok (.getfield 42, 3) := DX8_laysCarried (60, .getfield 42, 3) (List.mem_of_getElem? (i := 36) rfl)
theorem dX8_laysCarried_63 : decode cX8_laysCarried 63 = .ok (.iload_n 3, 1) := DX8_laysCarried (63, .iload_n 3, 1) (List.mem_of_getElem? (i := 37) rfl)
theorem dX8_laysCarried_64 : decode cX8_laysCarried 64 = .ok (.iaload, 1) := DX8_laysCarried (64, .iaload, 1) (List.mem_of_getElem? (i := 38) rfl)
theorem dX8_laysCarried_65 : decode cX8_laysCarried 65 = .ok (.istore 4, 2) := DX8_laysCarried (65, .istore 4, 2) (List.mem_of_getElem? (i := 39) rfl)
theorem dX8_laysCarried_67 : decode cX8_laysCarried 67 = .ok (.iload 4, 2) := DX8_laysCarried (67, .iload 4, 2) (List.mem_of_getElem? (i := 40) rfl)
theorem dX8_laysCarried_69 : decode cX8_laysCarried 69 = .ok (.ifCond .eq 9, 3) := DX8_laysCarried (69, .ifCond .eq 9, 3) (List.mem_of_getElem? (i := 41) rfl)
theorem dX8_laysCarried_72 : decode cX8_laysCarried 72 = .ok (.iload 4, 2) := DX8_laysCarried (72, .iload 4, 2) (List.mem_of_getElem? (i := 42) rfl)
theorem dX8_laysCarried_74 : decode cX8_laysCarried 74 = .ok (.iconst 1, 1) := DX8_laysCarried (74, .iconst 1, 1) (List.mem_of_getElem? (i := 43) rfl)
theorem dX8_laysCarried_75 : decode cX8_laysCarried 75 = .ok (.if_icmp .ne 18, 3) := DX8_laysCarried (75, .if_icmp .ne 18, 3) (List.mem_of_getElem? (i := 44) rfl)
theorem dX8_laysCarried_78 : decode cX8_laysCarried 78 = .ok (.iload 4, 2) := DX8_laysCarried (78, .iload 4, 2) (List.mem_of_getElem? (i := 45) rfl)
theorem dX8_laysCarried_80 : decode cX8_laysCarried 80 = .ok (.iconst 1, 1) := DX8_laysCarried (80, .iconst 1, 1) (List.mem_of_getElem? (i := 46) rfl)
theorem dX8_laysCarried_81 : decode cX8_laysCarried 81 = .ok (.if_icmp .ne 14, 3) := DX8_laysCarried (81, .if_icmp .ne 14, 3) (List.mem_of_getElem? (i := 47) rfl)
theorem dX8_laysCarried_84 : decode cX8_laysCarried 84 = .ok (.aload_n 0, 1) := DX8_laysCarried (84, .aload_n 0, 1) (List.mem_of_getElem? (i := 48) rfl)
theorem dX8_laysCarried_85 : decode cX8_laysCarried 85 = .ok (.iload_n 3, 1) := DX8_laysCarried (85, .iload_n 3, 1) (List.mem_of_getElem? (i := 49) rfl)
theorem dX8_laysCarried_86 : decode cX8_laysCarried 86 = .ok (.invokevirtual 124, 3) := DX8_laysCarried (86, .invokevirtual 124, 3) (List.mem_of_getElem? (i := 50) rfl)
theorem dX8_laysCarried_89 : decode cX8_laysCarried 89 = .ok (.iconst 2, 1) := DX8_laysCarried (89, .iconst 2, 1) (List.mem_of_getElem? (i := 51) rfl)
theorem dX8_laysCarried_90 : decode cX8_laysCarried 90 = .ok (.if_icmp .le 5, 3) := DX8_laysCarried (90, .if_icmp .le 5, 3) (List.mem_of_getElem? (i := 52) rfl)
theorem dX8_laysCarried_93 : decode cX8_laysCarried 93 = .ok (.iconst 0, 1) := DX8_laysCarried (93, .iconst 0, 1) (List.mem_of_getElem? (i := 53) rfl)
theorem dX8_laysCarried_94 : decode cX8_laysCarried 94 = .ok (.ireturn, 1) := DX8_laysCarried (94, .ireturn, 1) (List.mem_of_getElem? (i := 54) rfl)
theorem dX8_laysCarried_95 : decode cX8_laysCarried 95 = .ok (.iload 4, 2) := DX8_laysCarried (95, .iload 4, 2) (List.mem_of_getElem? (i := 55) rfl)
theorem dX8_laysCarried_97 : decode cX8_laysCarried 97 = .ok (.ifCond .ne 13, 3) := DX8_laysCarried (97, .ifCond .ne 13, 3) (List.mem_of_getElem? (i := 56) rfl)
theorem dX8_laysCarried_100 : decode cX8_laysCarried 100 = .ok (.aload_n 0, 1) := DX8_laysCarried (100, .aload_n 0, 1) (List.mem_of_getElem? (i := 57) rfl)
theorem dX8_laysCarried_101 : decode cX8_laysCarried 101 = .ok (.iload_n 2, 1) := DX8_laysCarried (101, .iload_n 2, 1) (List.mem_of_getElem? (i := 58) rfl)
theorem dX8_laysCarried_102 : decode cX8_laysCarried 102 = .ok (.iload_n 3, 1) := DX8_laysCarried (102, .iload_n 3, 1) (List.mem_of_getElem? (i := 59) rfl)
theorem dX8_laysCarried_103 : decode cX8_laysCarried 103 = .ok (.iconst 0, 1) := DX8_laysCarried (103, .iconst 0, 1) (List.mem_of_getElem? (i := 60) rfl)
theorem dX8_laysCarried_104 : decode cX8_laysCarried 104 = .ok (.invokevirtual 174, 3) := DX8_laysCarried (104, .invokevirtual 174, 3) (List.mem_of_getElem? (i := 61) rfl)
theorem dX8_laysCarried_107 : decode cX8_laysCarried 107 = .ok (.goto 100, 3) := DX8_laysCarried (107, .goto 100, 3) (List.mem_of_getElem? (i := 62) rfl)
theorem dX8_laysCarried_110 : decode cX8_laysCarried 110 = .ok (.aload_n 0, 1) := DX8_laysCarried (110, .aload_n 0, 1) (List.mem_of_getElem? (i := 63) rfl)
theorem dX8_laysCarried_111 : decode cX8_laysCarried 111 = .ok (.bipush 30, 2) := DX8_laysCarried (111, .bipush 30, 2) (List.mem_of_getElem? (i := 64) rfl)
theorem dX8_laysCarried_113 : decode cX8_laysCarried 113 = .ok (.aload_n 0, 1) := DX8_laysCarried (113, .aload_n 0, 1) (List.mem_of_getElem? (i := 65) rfl)
theorem dX8_laysCarried_114 : decode cX8_laysCarried 114 = .ok (.getfield 17, 3) := DX8_laysCarried (114, .getfield 17, 3) (List.mem_of_getElem? (i := 66) rfl)
theorem dX8_laysCarried_117 : decode cX8_laysCarried 117 = .ok (.iload_n 2, 1) := DX8_laysCarried (117, .iload_n 2, 1) (List.mem_of_getElem? (i := 67) rfl)
theorem dX8_laysCarried_118 : decode cX8_laysCarried 118 = .ok (.iaload, 1) := DX8_laysCarried (118, .iaload, 1) (List.mem_of_getElem? (i := 68) rfl)
theorem dX8_laysCarried_119 : decode cX8_laysCarried 119 = .ok (.invokevirtual 151, 3) := DX8_laysCarried (119, .invokevirtual 151, 3) (List.mem_of_getElem? (i := 69) rfl)
theorem dX8_laysCarried_122 : decode cX8_laysCarried 122 = .ok (.iconst 0, 1) := DX8_laysCarried (122, .iconst 0, 1) (List.mem_of_getElem? (i := 70) rfl)
theorem dX8_laysCarried_123 : decode cX8_laysCarried 123 = .ok (.istore 5, 2) := DX8_laysCarried (123, .istore 5, 2) (List.mem_of_getElem? (i := 71) rfl)
theorem dX8_laysCarried_125 : decode cX8_laysCarried 125 = .ok (.iload 5, 2) := DX8_laysCarried (125, .iload 5, 2) (List.mem_of_getElem? (i := 72) rfl)
theorem dX8_laysCarried_127 : decode cX8_laysCarried 127 = .ok (.iconst 3, 1) := DX8_laysCarried (127, .iconst 3, 1) (List.mem_of_getElem? (i := 73) rfl)
theorem dX8_laysCarried_128 : decode cX8_laysCarried 128 = .ok (.if_icmp .ge 65, 3) := DX8_laysCarried (128, .if_icmp .ge 65, 3) (List.mem_of_getElem? (i := 74) rfl)
theorem dX8_laysCarried_131 : decode cX8_laysCarried 131 = .ok (.iconst 0, 1) := DX8_laysCarried (131, .iconst 0, 1) (List.mem_of_getElem? (i := 75) rfl)
theorem dX8_laysCarried_132 : decode cX8_laysCarried 132 = .ok (.istore 6, 2) := DX8_laysCarried (132, .istore 6, 2) (List.mem_of_getElem? (i := 76) rfl)
theorem dX8_laysCarried_134 : decode cX8_laysCarried 134 = .ok (.iload 6, 2) := DX8_laysCarried (134, .iload 6, 2) (List.mem_of_getElem? (i := 77) rfl)
theorem dX8_laysCarried_136 : decode cX8_laysCarried 136 = .ok (.sipush 343, 3) := DX8_laysCarried (136, .sipush 343, 3) (List.mem_of_getElem? (i := 78) rfl)
theorem dX8_laysCarried_139 : decode cX8_laysCarried 139 = .ok (.if_icmp .ge 48, 3) := DX8_laysCarried (139, .if_icmp .ge 48, 3) (List.mem_of_getElem? (i := 79) rfl)
theorem dX8_laysCarried_142 : decode cX8_laysCarried 142 = .ok (.aload_n 0, 1) := DX8_laysCarried (142, .aload_n 0, 1) (List.mem_of_getElem? (i := 80) rfl)
theorem dX8_laysCarried_143 : decode cX8_laysCarried 143 = .ok (.getfield 8, 3) := DX8_laysCarried (143, .getfield 8, 3) (List.mem_of_getElem? (i := 81) rfl)
theorem dX8_laysCarried_146 : decode cX8_laysCarried 146 = .ok (.ldc 154, 2) := DX8_laysCarried (146, .ldc 154, 2) (List.mem_of_getElem? (i := 82) rfl)
theorem dX8_laysCarried_148 : decode cX8_laysCarried 148 = .ok (.sipush 343, 3) := DX8_laysCarried (148, .sipush 343, 3) (List.mem_of_getElem? (i := 83) rfl)
theorem dX8_laysCarried_151 : decode cX8_laysCarried 151 = .ok (.iload 5, 2) := DX8_laysCarried (151, .iload 5, 2) (List.mem_of_getElem? (i := 84) rfl)
theorem dX8_laysCarried_153 : decode cX8_laysCarried 153 = .ok (.iconst 1, 1) := DX8_laysCarried (153, .iconst 1, 1) (List.mem_of_getElem? (i := 85) rfl)
theorem dX8_laysCarried_154 : decode cX8_laysCarried 154 = .ok (.iadd, 1) := DX8_laysCarried (154, .iadd, 1) (List.mem_of_getElem? (i := 86) rfl)
theorem dX8_laysCarried_155 : decode cX8_laysCarried 155 = .ok (.imul, 1) := DX8_laysCarried (155, .imul, 1) (List.mem_of_getElem? (i := 87) rfl)
theorem dX8_laysCarried_156 : decode cX8_laysCarried 156 = .ok (.iadd, 1) := DX8_laysCarried (156, .iadd, 1) (List.mem_of_getElem? (i := 88) rfl)
theorem dX8_laysCarried_157 : decode cX8_laysCarried 157 = .ok (.iload 6, 2) := DX8_laysCarried (157, .iload 6, 2) (List.mem_of_getElem? (i := 89) rfl)
theorem dX8_laysCarried_159 : decode cX8_laysCarried 159 = .ok (.iadd, 1) := DX8_laysCarried (159, .iadd, 1) (List.mem_of_getElem? (i := 90) rfl)
theorem dX8_laysCarried_160 : decode cX8_laysCarried 160 = .ok (.aload_n 0, 1) := DX8_laysCarried (160, .aload_n 0, 1) (List.mem_of_getElem? (i := 91) rfl)
theorem dX8_laysCarried_161 : decode cX8_laysCarried 161 = .ok (.getfield 8, 3) := DX8_laysCarried (161, .getfield 8, 3) (List.mem_of_getElem? (i := 92) rfl)
theorem dX8_laysCarried_164 : decode cX8_laysCarried 164 = .ok (.sipush 1372, 3) := DX8_laysCarried (164, .sipush 1372, 3) (List.mem_of_getElem? (i := 93) rfl)
theorem dX8_laysCarried_167 : decode cX8_laysCarried 167 = .ok (.iload_n 3, 1) := DX8_laysCarried (167, .iload_n 3, 1) (List.mem_of_getElem? (i := 94) rfl)
theorem dX8_laysCarried_168 : decode cX8_laysCarried 168 = .ok (.imul, 1) := DX8_laysCarried (168, .imul, 1) (List.mem_of_getElem? (i := 95) rfl)
theorem dX8_laysCarried_169 : decode cX8_laysCarried 169 = .ok (.sipush 343, 3) := DX8_laysCarried (169, .sipush 343, 3) (List.mem_of_getElem? (i := 96) rfl)
theorem dX8_laysCarried_172 : decode cX8_laysCarried 172 = .ok (.iload 5, 2) := DX8_laysCarried (172, .iload 5, 2) (List.mem_of_getElem? (i := 97) rfl)
theorem dX8_laysCarried_174 : decode cX8_laysCarried 174 = .ok (.imul, 1) := DX8_laysCarried (174, .imul, 1) (List.mem_of_getElem? (i := 98) rfl)
theorem dX8_laysCarried_175 : decode cX8_laysCarried 175 = .ok (.iadd, 1) := DX8_laysCarried (175, .iadd, 1) (List.mem_of_getElem? (i := 99) rfl)
theorem dX8_laysCarried_176 : decode cX8_laysCarried 176 = .ok (.iload 6, 2) := DX8_laysCarried (176, .iload 6, 2) (List.mem_of_getElem? (i := 100) rfl)
theorem dX8_laysCarried_178 : decode cX8_laysCarried 178 = .ok (.iadd, 1) := DX8_laysCarried (178, .iadd, 1) (List.mem_of_getElem? (i := 101) rfl)
theorem dX8_laysCarried_179 : decode cX8_laysCarried 179 = .ok (.iaload, 1) := DX8_laysCarried (179, .iaload, 1) (List.mem_of_getElem? (i := 102) rfl)
theorem dX8_laysCarried_180 : decode cX8_laysCarried 180 = .ok (.iastore, 1) := DX8_laysCarried (180, .iastore, 1) (List.mem_of_getElem? (i := 103) rfl)
theorem dX8_laysCarried_181 : decode cX8_laysCarried 181 = .ok (.iinc 6 1, 3) := DX8_laysCarried (181, .iinc 6 1, 3) (List.mem_of_getElem? (i := 104) rfl)
theorem dX8_laysCarried_184 : decode cX8_laysCarried 184 = .ok (.goto (-50), 3) := DX8_laysCarried (184, .goto (-50), 3) (List.mem_of_getElem? (i := 105) rfl)
theorem dX8_laysCarried_187 : decode cX8_laysCarried 187 = .ok (.iinc 5 1, 3) := DX8_laysCarried (187, .iinc 5 1, 3) (List.mem_of_getElem? (i := 106) rfl)
theorem dX8_laysCarried_190 : decode cX8_laysCarried 190 = .ok (.goto (-65), 3) := DX8_laysCarried (190, .goto (-65), 3) (List.mem_of_getElem? (i := 107) rfl)
theorem dX8_laysCarried_193 : decode cX8_laysCarried 193 = .ok (.aload_n 0, 1) := DX8_laysCarried (193, .aload_n 0, 1) (List.mem_of_getElem? (i := 108) rfl)
theorem dX8_laysCarried_194 : decode cX8_laysCarried 194 = .ok (.bipush 30, 2) := DX8_laysCarried (194, .bipush 30, 2) (List.mem_of_getElem? (i := 109) rfl)
theorem dX8_laysCarried_196 : decode cX8_laysCarried 196 = .ok (.iload_n 2, 1) := DX8_laysCarried (196, .iload_n 2, 1) (List.mem_of_getElem? (i := 110) rfl)
theorem dX8_laysCarried_197 : decode cX8_laysCarried 197 = .ok (.invokevirtual 156, 3) := DX8_laysCarried (197, .invokevirtual 156, 3) (List.mem_of_getElem? (i := 111) rfl)
theorem dX8_laysCarried_200 : decode cX8_laysCarried 200 = .ok (.aload_n 0, 1) := DX8_laysCarried (200, .aload_n 0, 1) (List.mem_of_getElem? (i := 112) rfl)
theorem dX8_laysCarried_201 : decode cX8_laysCarried 201 = .ok (.getfield 36, 3) := DX8_laysCarried (201, .getfield 36, 3) (List.mem_of_getElem? (i := 113) rfl)
theorem dX8_laysCarried_204 : decode cX8_laysCarried 204 = .ok (.iload_n 2, 1) := DX8_laysCarried (204, .iload_n 2, 1) (List.mem_of_getElem? (i := 114) rfl)
theorem dX8_laysCarried_205 : decode cX8_laysCarried 205 = .ok (.iconst 0, 1) := DX8_laysCarried (205, .iconst 0, 1) (List.mem_of_getElem? (i := 115) rfl)
theorem dX8_laysCarried_206 : decode cX8_laysCarried 206 = .ok (.iastore, 1) := DX8_laysCarried (206, .iastore, 1) (List.mem_of_getElem? (i := 116) rfl)
theorem dX8_laysCarried_207 : decode cX8_laysCarried 207 = .ok (.iconst 0, 1) := DX8_laysCarried (207, .iconst 0, 1) (List.mem_of_getElem? (i := 117) rfl)
theorem dX8_laysCarried_208 : decode cX8_laysCarried 208 = .ok (.istore 5, 2) := DX8_laysCarried (208, .istore 5, 2) (List.mem_of_getElem? (i := 118) rfl)
theorem dX8_laysCarried_210 : decode cX8_laysCarried 210 = .ok (.iload 5, 2) := DX8_laysCarried (210, .iload 5, 2) (List.mem_of_getElem? (i := 119) rfl)
theorem dX8_laysCarried_212 : decode cX8_laysCarried 212 = .ok (.aload_n 0, 1) := DX8_laysCarried (212, .aload_n 0, 1) (List.mem_of_getElem? (i := 120) rfl)
theorem dX8_laysCarried_213 : decode cX8_laysCarried 213 = .ok (.getfield 72, 3) := DX8_laysCarried (213, .getfield 72, 3) (List.mem_of_getElem? (i := 121) rfl)
theorem dX8_laysCarried_216 : decode cX8_laysCarried 216 = .ok (.if_icmp .ge 57, 3) := DX8_laysCarried (216, .if_icmp .ge 57, 3) (List.mem_of_getElem? (i := 122) rfl)
theorem dX8_laysCarried_219 : decode cX8_laysCarried 219 = .ok (.iload_n 1, 1) := DX8_laysCarried (219, .iload_n 1, 1) (List.mem_of_getElem? (i := 123) rfl)
theorem dX8_laysCarried_220 : decode cX8_laysCarried 220 = .ok (.iload 5, 2) := DX8_laysCarried (220, .iload 5, 2) (List.mem_of_getElem? (i := 124) rfl)
theorem dX8_laysCarried_222 : decode cX8_laysCarried 222 = .ok (.invokestatic 102, 3) := DX8_laysCarried (222, .invokestatic 102, 3) (List.mem_of_getElem? (i := 125) rfl)
theorem dX8_laysCarried_225 : decode cX8_laysCarried 225 = .ok (.ifCond .eq 42, 3) := DX8_laysCarried (225, .ifCond .eq 42, 3) (List.mem_of_getElem? (i := 126) rfl)
theorem dX8_laysCarried_228 : decode cX8_laysCarried 228 = .ok (.iload 5, 2) := DX8_laysCarried (228, .iload 5, 2) (List.mem_of_getElem? (i := 127) rfl)
theorem dX8_laysCarried_230 : decode cX8_laysCarried 230 = .ok (.iload_n 2, 1) := DX8_laysCarried (230, .iload_n 2, 1) (List.mem_of_getElem? (i := 128) rfl)
theorem dX8_laysCarried_231 : decode cX8_laysCarried 231 = .ok (.if_icmp .ne 6, 3) := DX8_laysCarried (231, .if_icmp .ne 6, 3) (List.mem_of_getElem? (i := 129) rfl)
theorem dX8_laysCarried_234 : decode cX8_laysCarried 234 = .ok (.goto 33, 3) := DX8_laysCarried (234, .goto 33, 3) (List.mem_of_getElem? (i := 130) rfl)
theorem dX8_laysCarried_237 : decode cX8_laysCarried 237 = .ok (.aload_n 0, 1) := DX8_laysCarried (237, .aload_n 0, 1) (List.mem_of_getElem? (i := 131) rfl)
theorem dX8_laysCarried_238 : decode cX8_laysCarried 238 = .ok (.iload 5, 2) := DX8_laysCarried (238, .iload 5, 2) (List.mem_of_getElem? (i := 132) rfl)
theorem dX8_laysCarried_240 : decode cX8_laysCarried 240 = .ok (.iload 5, 2) := DX8_laysCarried (240, .iload 5, 2) (List.mem_of_getElem? (i := 133) rfl)
theorem dX8_laysCarried_242 : decode cX8_laysCarried 242 = .ok (.iconst 1, 1) := DX8_laysCarried (242, .iconst 1, 1) (List.mem_of_getElem? (i := 134) rfl)
theorem dX8_laysCarried_243 : decode cX8_laysCarried 243 = .ok (.iload_n 2, 1) := DX8_laysCarried (243, .iload_n 2, 1) (List.mem_of_getElem? (i := 135) rfl)
theorem dX8_laysCarried_244 : decode cX8_laysCarried 244 = .ok (.aload_n 0, 1) := DX8_laysCarried (244, .aload_n 0, 1) (List.mem_of_getElem? (i := 136) rfl)
theorem dX8_laysCarried_245 : decode cX8_laysCarried 245 = .ok (.getfield 42, 3) := DX8_laysCarried (245, .getfield 42, 3) (List.mem_of_getElem? (i := 137) rfl)
theorem dX8_laysCarried_248 : decode cX8_laysCarried 248 = .ok (.iload 5, 2) := DX8_laysCarried (248, .iload 5, 2) (List.mem_of_getElem? (i := 138) rfl)
theorem dX8_laysCarried_250 : decode cX8_laysCarried 250 = .ok (.iaload, 1) := DX8_laysCarried (250, .iaload, 1) (List.mem_of_getElem? (i := 139) rfl)
theorem dX8_laysCarried_251 : decode cX8_laysCarried 251 = .ok (.invokevirtual 162, 3) := DX8_laysCarried (251, .invokevirtual 162, 3) (List.mem_of_getElem? (i := 140) rfl)
theorem dX8_laysCarried_254 : decode cX8_laysCarried 254 = .ok (.aload_n 0, 1) := DX8_laysCarried (254, .aload_n 0, 1) (List.mem_of_getElem? (i := 141) rfl)
theorem dX8_laysCarried_255 : decode cX8_laysCarried 255 = .ok (.getfield 36, 3) := DX8_laysCarried (255, .getfield 36, 3) (List.mem_of_getElem? (i := 142) rfl)
theorem dX8_laysCarried_258 : decode cX8_laysCarried 258 = .ok (.iload 5, 2) := DX8_laysCarried (258, .iload 5, 2) (List.mem_of_getElem? (i := 143) rfl)
theorem dX8_laysCarried_260 : decode cX8_laysCarried 260 = .ok (.aload_n 0, 1) := DX8_laysCarried (260, .aload_n 0, 1) (List.mem_of_getElem? (i := 144) rfl)
theorem dX8_laysCarried_261 : decode cX8_laysCarried 261 = .ok (.getfield 36, 3) := DX8_laysCarried (261, .getfield 36, 3) (List.mem_of_getElem? (i := 145) rfl)
theorem dX8_laysCarried_264 : decode cX8_laysCarried 264 = .ok (.iload_n 2, 1) := DX8_laysCarried (264, .iload_n 2, 1) (List.mem_of_getElem? (i := 146) rfl)
theorem dX8_laysCarried_265 : decode cX8_laysCarried 265 = .ok (.iaload, 1) := DX8_laysCarried (265, .iaload, 1) (List.mem_of_getElem? (i := 147) rfl)
theorem dX8_laysCarried_266 : decode cX8_laysCarried 266 = .ok (.iastore, 1) := DX8_laysCarried (266, .iastore, 1) (List.mem_of_getElem? (i := 148) rfl)
theorem dX8_laysCarried_267 : decode cX8_laysCarried 267 = .ok (.iinc 5 1, 3) := DX8_laysCarried (267, .iinc 5 1, 3) (List.mem_of_getElem? (i := 149) rfl)
theorem dX8_laysCarried_270 : decode cX8_laysCarried 270 = .ok (.goto (-60), 3) := DX8_laysCarried (270, .goto (-60), 3) (List.mem_of_getElem? (i := 150) rfl)
theorem dX8_laysCarried_273 : decode cX8_laysCarried 273 = .ok (.iconst 1, 1) := DX8_laysCarried (273, .iconst 1, 1) (List.mem_of_getElem? (i := 151) rfl)
theorem dX8_laysCarried_274 : decode cX8_laysCarried 274 = .ok (.ireturn, 1) := DX8_laysCarried (274, .ireturn, 1) (List.mem_of_getElem? (i := 152) rfl)
noncomputable def fX8_laysCarried_L46 (l1 : Int32) (l2 : Int32) (l3 : Int32) (σ : Mem) : Option ((Int32 × Mem) ⊕ ((Mem) ⊕ (Int32 × Mem))) :=
  some (.inl (l3 + 1, σ))
set_option maxHeartbeats 4000000 in
set_option maxRecDepth 100000 in
theorem tX8_laysCarried_L46 {E : Gx} {cI : ClassId} {ad : Nat → Nat} (C : Cx E rmX8_laysCarried cI layM ad 7 RX8 cX8_laysCarried) {out : Int32 × Mem} (K0 : KI E rmX8_laysCarried cI layM ad 7 cX8_laysCarried .boolean out) {l1 : Int32} {l2 : Int32} {l3 : Int32} {σ : Mem} {res : (Int32 × Mem) ⊕ ((Mem) ⊕ (Int32 × Mem))} (h : fX8_laysCarried_L46 l1 l2 l3 σ = some res) (K : Sum.elim (fun a => G E rmX8_laysCarried cI layM ad 7 14 [(0, .ref (ad 0)), (1, .int l1), (2, .int l2), (3, .int a.1)] [] a.2) (Sum.elim (fun b => G E rmX8_laysCarried cI layM ad 7 52 [(0, .ref (ad 0)), (1, .int l1), (2, .int l2)] [] b) (fun b => b = out)) res) : G E rmX8_laysCarried cI layM ad 7 46 [(0, .ref (ad 0)), (1, .int l1), (2, .int l2), (3, .int l3)] [] σ := by
  unfold fX8_laysCarried_L46 at h
  refine g_iinc 49 [(3, .int (l3 + 1)), (0, .ref (ad 0)), (1, .int l1), (2, .int l2)] C dX8_laysCarried_46 (j := 3) rfl (by rfl) (by decide) rfl rfl ?_
  refine g_goto 14 C dX8_laysCarried_49 (by decide) ?_
  have hh := end_inl h K
  exact g_sub [1, 2, 3, 0] (hh) rfl
noncomputable def fX8_laysCarried_B14 (l1 : Int32) (l2 : Int32) (l3 : Int32) (σ : Mem) : Option ((Int32 × Mem) ⊕ ((Mem) ⊕ (Int32 × Mem))) :=
  if (σ 0 6) ≤ l3 then
    some (.inr (.inl σ))
  else
    (fX8_has l1 l3 σ).bind fun o2 =>
    if o2.1 = 0 then
      fX8_laysCarried_L46 l1 l2 l3 o2.2
    else
      if l3 = l2 then
        fX8_laysCarried_L46 l1 l2 l3 o2.2
      else
        (fX8_laysPart l1 l3 o2.2).bind fun o3 =>
        if o3.1 = 0 then
          some (.inr (.inr (0, o3.2)))
        else
          fX8_laysCarried_L46 l1 l2 l3 o3.2
set_option maxHeartbeats 4000000 in
set_option maxRecDepth 100000 in
theorem tX8_laysCarried_B14 {E : Gx} {cI : ClassId} {ad : Nat → Nat} (C : Cx E rmX8_laysCarried cI layM ad 7 RX8 cX8_laysCarried) {out : Int32 × Mem} (K0 : KI E rmX8_laysCarried cI layM ad 7 cX8_laysCarried .boolean out) {l1 : Int32} {l2 : Int32} {l3 : Int32} {σ : Mem} {res : (Int32 × Mem) ⊕ ((Mem) ⊕ (Int32 × Mem))} (h : fX8_laysCarried_B14 l1 l2 l3 σ = some res) (K : Sum.elim (fun a => G E rmX8_laysCarried cI layM ad 7 14 [(0, .ref (ad 0)), (1, .int l1), (2, .int l2), (3, .int a.1)] [] a.2) (Sum.elim (fun b => G E rmX8_laysCarried cI layM ad 7 52 [(0, .ref (ad 0)), (1, .int l1), (2, .int l2)] [] b) (fun b => b = out)) res) : G E rmX8_laysCarried cI layM ad 7 14 [(0, .ref (ad 0)), (1, .int l1), (2, .int l2), (3, .int l3)] [] σ := by
  unfold fX8_laysCarried_B14 at h
  refine g_iload_n 15 C dX8_laysCarried_14 rfl (j := 3) rfl rfl ?_
  refine g_aload_n 16 C dX8_laysCarried_15 rfl (j := 0) rfl rfl ?_
  refine g_geti 19 (j := 6) C rfl rfl wu_X8 (by decide) wf_X8_72 rfl dX8_laysCarried_16 rfl ?_
  refine g_icmp_ge 52 22 C dX8_laysCarried_19 (by decide) rfl h (fun h => ?_) (fun h => ?_)
  · have hh := end_alt0_2 h K
    exact g_sub [0, 1, 2] (hh) rfl
  · refine g_iload_n 23 C dX8_laysCarried_22 rfl (j := 1) rfl rfl ?_
    refine g_iload_n 24 C dX8_laysCarried_23 rfl (j := 3) rfl rfl ?_
    refine g_csi 27 C (As := [.int l1, .int l3]) (fun _ h => mX8_has (a1 := l1) (a2 := l3) (σ := σ) h) wl_X8_102 ws_X8_has wc_X8_has wn_X8 qX8_has rfl rfl ⟨Nat.le_of_ble_eq_true rfl, Nat.le_of_ble_eq_true rfl⟩ rfl rfl (Nat.le_of_ble_eq_true rfl) dX8_laysCarried_24 rfl h (fun o2 h => ?_)
    refine g_if_eq 46 30 C dX8_laysCarried_27 (by decide) rfl h (fun h => ?_) (fun h => ?_)
    · exact tX8_laysCarried_L46 (l1 := l1) (l2 := l2) (l3 := l3) (σ := o2.2) C K0 h K
    · refine g_iload_n 31 C dX8_laysCarried_30 rfl (j := 3) rfl rfl ?_
      refine g_iload_n 32 C dX8_laysCarried_31 rfl (j := 2) rfl rfl ?_
      refine g_icmp_eq 46 35 C dX8_laysCarried_32 (by decide) rfl h (fun h => ?_) (fun h => ?_)
      · exact tX8_laysCarried_L46 (l1 := l1) (l2 := l2) (l3 := l3) (σ := o2.2) C K0 h K
      · refine g_aload_n 36 C dX8_laysCarried_35 rfl (j := 0) rfl rfl ?_
        refine g_iload_n 37 C dX8_laysCarried_36 rfl (j := 1) rfl rfl ?_
        refine g_iload_n 38 C dX8_laysCarried_37 rfl (j := 3) rfl rfl ?_
        refine g_cvi 41 C (As := [.int l1, .int l3]) (fun _ h => mX8_laysPart (a1 := l1) (a2 := l3) (σ := o2.2) h) wl_X8_171 wi_X8_laysPart wz_X8_laysPart wc_X8_laysPart wn_X8 qX8_laysPart rfl rfl ⟨Nat.le_of_ble_eq_true rfl, Nat.le_of_ble_eq_true rfl⟩ rfl rfl rfl rfl (Nat.le_of_ble_eq_true rfl) dX8_laysCarried_38 rfl h (fun o3 h => ?_)
        refine g_if_ne 46 44 C dX8_laysCarried_41 (by decide) rfl h (fun h => ?_) (fun h => ?_)
        · refine g_iconst 45 (v := 0) C dX8_laysCarried_44 (by decide) rfl ?_
          have ho := end_alt1_2 h K
          replace ho : (0, o3.2) = out := ho
          subst ho
          exact K0 _ _ dX8_laysCarried_45 (zb_nar (x := 0) (by decide))
        · exact tX8_laysCarried_L46 (l1 := l1) (l2 := l2) (l3 := l3) (σ := o3.2) C K0 h K
noncomputable def fX8_laysCarried_B134 (l1 : Int32) (l2 : Int32) (l3 : Int32) (l5 : Int32) (l6 : Int32) (σ : Mem) : Option ((Int32 × Mem) ⊕ (Mem)) :=
  if 343 ≤ l6 then
    some (.inr σ)
  else
    chk (inb (((1372 * l3) + (343 * l5)) + l6) 170128) <|
    chk (inb ((41160 + (343 * (l5 + 1))) + l6) 170128) <|
    some (.inl (l6 + 1, up2 σ 1 ((41160 + (343 * (l5 + 1))) + l6).toNatClampNeg (σ 1 (((1372 * l3) + (343 * l5)) + l6).toNatClampNeg)))
set_option maxHeartbeats 4000000 in
set_option maxRecDepth 100000 in
theorem tX8_laysCarried_B134 {E : Gx} {cI : ClassId} {ad : Nat → Nat} (C : Cx E rmX8_laysCarried cI layM ad 7 RX8 cX8_laysCarried) {out : Int32 × Mem} (K0 : KI E rmX8_laysCarried cI layM ad 7 cX8_laysCarried .boolean out) {l1 : Int32} {l2 : Int32} {l3 : Int32} {l5 : Int32} {l6 : Int32} {σ : Mem} {res : (Int32 × Mem) ⊕ (Mem)} (h : fX8_laysCarried_B134 l1 l2 l3 l5 l6 σ = some res) (K : Sum.elim (fun a => G E rmX8_laysCarried cI layM ad 7 134 [(0, .ref (ad 0)), (1, .int l1), (2, .int l2), (3, .int l3), (5, .int l5), (6, .int a.1)] [] a.2) (fun b => G E rmX8_laysCarried cI layM ad 7 187 [(0, .ref (ad 0)), (1, .int l1), (2, .int l2), (3, .int l3), (5, .int l5)] [] b) res) : G E rmX8_laysCarried cI layM ad 7 134 [(0, .ref (ad 0)), (1, .int l1), (2, .int l2), (3, .int l3), (5, .int l5), (6, .int l6)] [] σ := by
  unfold fX8_laysCarried_B134 at h
  refine g_iload 136 C dX8_laysCarried_134 (j := 5) rfl rfl ?_
  refine g_sipush 139 (v := 343) C dX8_laysCarried_136 (by decide) rfl ?_
  refine g_icmp_ge 187 142 C dX8_laysCarried_139 (by decide) rfl h (fun h => ?_) (fun h => ?_)
  · have hh := end_inr h K
    exact g_sub [0, 1, 2, 3, 4] (hh) rfl
  · refine g_aload_n 143 C dX8_laysCarried_142 rfl (j := 0) rfl rfl ?_
    refine g_getr 146 (j := 0) C rfl rfl wu_X8 (by decide) wf_X8_8 rfl dX8_laysCarried_143 rfl ?_
    refine g_ldc 148 (v := 41160) C dX8_laysCarried_146 wk_X8_154 rfl ?_
    refine g_sipush 151 (v := 343) C dX8_laysCarried_148 (by decide) rfl ?_
    refine g_iload 153 C dX8_laysCarried_151 (j := 4) rfl rfl ?_
    refine g_iconst 154 (v := 1) C dX8_laysCarried_153 (by decide) rfl ?_
    refine g_iadd 155 C dX8_laysCarried_154 rfl ?_
    refine g_imul 156 C dX8_laysCarried_155 rfl ?_
    refine g_iadd 157 C dX8_laysCarried_156 rfl ?_
    refine g_iload 159 C dX8_laysCarried_157 (j := 5) rfl rfl ?_
    refine g_iadd 160 C dX8_laysCarried_159 rfl ?_
    refine g_aload_n 161 C dX8_laysCarried_160 rfl (j := 0) rfl rfl ?_
    refine g_getr 164 (j := 0) C rfl rfl wu_X8 (by decide) wf_X8_8 rfl dX8_laysCarried_161 rfl ?_
    refine g_sipush 167 (v := 1372) C dX8_laysCarried_164 (by decide) rfl ?_
    refine g_iload_n 168 C dX8_laysCarried_167 rfl (j := 3) rfl rfl ?_
    refine g_imul 169 C dX8_laysCarried_168 rfl ?_
    refine g_sipush 172 (v := 343) C dX8_laysCarried_169 (by decide) rfl ?_
    refine g_iload 174 C dX8_laysCarried_172 (j := 4) rfl rfl ?_
    refine g_imul 175 C dX8_laysCarried_174 rfl ?_
    refine g_iadd 176 C dX8_laysCarried_175 rfl ?_
    refine g_iload 178 C dX8_laysCarried_176 (j := 5) rfl rfl ?_
    refine g_iadd 179 C dX8_laysCarried_178 rfl ?_
    refine g_iald 180 C rfl dX8_laysCarried_179 rfl h (fun h => ?_)
    refine g_iast 181 C rfl dX8_laysCarried_180 rfl h (fun h => ?_)
    refine g_iinc 184 [(6, .int (l6 + 1)), (0, .ref (ad 0)), (1, .int l1), (2, .int l2), (3, .int l3), (5, .int l5)] C dX8_laysCarried_181 (j := 5) rfl (by rfl) (by decide) rfl rfl ?_
    refine g_goto 134 C dX8_laysCarried_184 (by decide) ?_
    have hh := end_inl h K
    exact g_sub [1, 2, 3, 4, 5, 0] (hh) rfl
noncomputable def fX8_laysCarried_L187 (l1 : Int32) (l2 : Int32) (l3 : Int32) (l5 : Int32) (σ : Mem) : Option ((Int32 × Mem) ⊕ (Mem)) :=
  some (.inl (l5 + 1, σ))
set_option maxHeartbeats 4000000 in
set_option maxRecDepth 100000 in
theorem tX8_laysCarried_L187 {E : Gx} {cI : ClassId} {ad : Nat → Nat} (C : Cx E rmX8_laysCarried cI layM ad 7 RX8 cX8_laysCarried) {out : Int32 × Mem} (K0 : KI E rmX8_laysCarried cI layM ad 7 cX8_laysCarried .boolean out) {l1 : Int32} {l2 : Int32} {l3 : Int32} {l5 : Int32} {σ : Mem} {res : (Int32 × Mem) ⊕ (Mem)} (h : fX8_laysCarried_L187 l1 l2 l3 l5 σ = some res) (K : Sum.elim (fun a => G E rmX8_laysCarried cI layM ad 7 125 [(0, .ref (ad 0)), (1, .int l1), (2, .int l2), (3, .int l3), (5, .int a.1)] [] a.2) (fun b => G E rmX8_laysCarried cI layM ad 7 193 [(0, .ref (ad 0)), (1, .int l1), (2, .int l2)] [] b) res) : G E rmX8_laysCarried cI layM ad 7 187 [(0, .ref (ad 0)), (1, .int l1), (2, .int l2), (3, .int l3), (5, .int l5)] [] σ := by
  unfold fX8_laysCarried_L187 at h
  refine g_iinc 190 [(5, .int (l5 + 1)), (0, .ref (ad 0)), (1, .int l1), (2, .int l2), (3, .int l3)] C dX8_laysCarried_187 (j := 4) rfl (by rfl) (by decide) rfl rfl ?_
  refine g_goto 125 C dX8_laysCarried_190 (by decide) ?_
  have hh := end_inl h K
  exact g_sub [1, 2, 3, 4, 0] (hh) rfl
noncomputable def fX8_laysCarried_B125 (l1 : Int32) (l2 : Int32) (l3 : Int32) (l5 : Int32) (σ : Mem) : Option ((Int32 × Mem) ⊕ (Mem)) :=
  if 3 ≤ l5 then
    some (.inr σ)
  else
    (loop (fun a => fX8_laysCarried_B134 l1 l2 l3 l5 a.1 a.2) (0, σ)).bind fun b6 =>
    fX8_laysCarried_L187 l1 l2 l3 l5 b6
set_option maxHeartbeats 4000000 in
set_option maxRecDepth 100000 in
theorem tX8_laysCarried_B125 {E : Gx} {cI : ClassId} {ad : Nat → Nat} (C : Cx E rmX8_laysCarried cI layM ad 7 RX8 cX8_laysCarried) {out : Int32 × Mem} (K0 : KI E rmX8_laysCarried cI layM ad 7 cX8_laysCarried .boolean out) {l1 : Int32} {l2 : Int32} {l3 : Int32} {l5 : Int32} {σ : Mem} {res : (Int32 × Mem) ⊕ (Mem)} (h : fX8_laysCarried_B125 l1 l2 l3 l5 σ = some res) (K : Sum.elim (fun a => G E rmX8_laysCarried cI layM ad 7 125 [(0, .ref (ad 0)), (1, .int l1), (2, .int l2), (3, .int l3), (5, .int a.1)] [] a.2) (fun b => G E rmX8_laysCarried cI layM ad 7 193 [(0, .ref (ad 0)), (1, .int l1), (2, .int l2)] [] b) res) : G E rmX8_laysCarried cI layM ad 7 125 [(0, .ref (ad 0)), (1, .int l1), (2, .int l2), (3, .int l3), (5, .int l5)] [] σ := by
  unfold fX8_laysCarried_B125 at h
  refine g_iload 127 C dX8_laysCarried_125 (j := 4) rfl rfl ?_
  refine g_iconst 128 (v := 3) C dX8_laysCarried_127 (by decide) rfl ?_
  refine g_icmp_ge 193 131 C dX8_laysCarried_128 (by decide) rfl h (fun h => ?_) (fun h => ?_)
  · have hh := end_inr h K
    exact g_sub [0, 1, 2] (hh) rfl
  · refine g_iconst 132 (v := 0) C dX8_laysCarried_131 (by decide) rfl ?_
    refine g_istore 134 [(6, .int 0), (0, .ref (ad 0)), (1, .int l1), (2, .int l2), (3, .int l3), (5, .int l5)] C dX8_laysCarried_132 (by decide) rfl rfl ?_
    obtain ⟨b6, hb, h⟩ := bind_some h
    refine g_sub [1, 2, 3, 4, 5, 0] (g_loop (a := (0, σ)) (fun a => G E rmX8_laysCarried cI layM ad 7 134 [(0, .ref (ad 0)), (1, .int l1), (2, .int l2), (3, .int l3), (5, .int l5), (6, .int a.1)] [] a.2) (fun b => G E rmX8_laysCarried cI layM ad 7 187 [(0, .ref (ad 0)), (1, .int l1), (2, .int l2), (3, .int l3), (5, .int l5)] [] b) hb (fun a res h K => tX8_laysCarried_B134 (l1 := l1) (l2 := l2) (l3 := l3) (l5 := l5) (l6 := a.1) (σ := a.2) (res := res) C K0 h K) ?_) rfl
    show G E rmX8_laysCarried cI layM ad 7 187 [(0, .ref (ad 0)), (1, .int l1), (2, .int l2), (3, .int l3), (5, .int l5)] [] b6
    exact tX8_laysCarried_L187 (l1 := l1) (l2 := l2) (l3 := l3) (l5 := l5) (σ := b6) C K0 h K
noncomputable def fX8_laysCarried_L267 (l1 : Int32) (l2 : Int32) (l5 : Int32) (σ : Mem) : Option ((Int32 × Mem) ⊕ (Mem)) :=
  some (.inl (l5 + 1, σ))
set_option maxHeartbeats 4000000 in
set_option maxRecDepth 100000 in
theorem tX8_laysCarried_L267 {E : Gx} {cI : ClassId} {ad : Nat → Nat} (C : Cx E rmX8_laysCarried cI layM ad 7 RX8 cX8_laysCarried) {out : Int32 × Mem} (K0 : KI E rmX8_laysCarried cI layM ad 7 cX8_laysCarried .boolean out) {l1 : Int32} {l2 : Int32} {l5 : Int32} {σ : Mem} {res : (Int32 × Mem) ⊕ (Mem)} (h : fX8_laysCarried_L267 l1 l2 l5 σ = some res) (K : Sum.elim (fun a => G E rmX8_laysCarried cI layM ad 7 210 [(0, .ref (ad 0)), (1, .int l1), (2, .int l2), (5, .int a.1)] [] a.2) (fun b => G E rmX8_laysCarried cI layM ad 7 273 [] [] b) res) : G E rmX8_laysCarried cI layM ad 7 267 [(0, .ref (ad 0)), (1, .int l1), (2, .int l2), (5, .int l5)] [] σ := by
  unfold fX8_laysCarried_L267 at h
  refine g_iinc 270 [(5, .int (l5 + 1)), (0, .ref (ad 0)), (1, .int l1), (2, .int l2)] C dX8_laysCarried_267 (j := 3) rfl (by rfl) (by decide) rfl rfl ?_
  refine g_goto 210 C dX8_laysCarried_270 (by decide) ?_
  have hh := end_inl h K
  exact g_sub [1, 2, 3, 0] (hh) rfl
noncomputable def fX8_laysCarried_B210 (l1 : Int32) (l2 : Int32) (l5 : Int32) (σ : Mem) : Option ((Int32 × Mem) ⊕ (Mem)) :=
  if (σ 0 6) ≤ l5 then
    some (.inr σ)
  else
    (fX8_has l1 l5 σ).bind fun o9 =>
    if o9.1 = 0 then
      fX8_laysCarried_L267 l1 l2 l5 o9.2
    else
      if l5 = l2 then
        fX8_laysCarried_L267 l1 l2 l5 o9.2
      else
        chk (inb l5 30) <|
        (fX8_joins l5 l5 1 l2 (o9.2 8 l5.toNatClampNeg) o9.2).bind fun o10 =>
        chk (inb l2 30) <|
        chk (inb l5 30) <|
        fX8_laysCarried_L267 l1 l2 l5 (up2 o10 6 l5.toNatClampNeg (o10 6 l2.toNatClampNeg))
set_option maxHeartbeats 4000000 in
set_option maxRecDepth 100000 in
theorem tX8_laysCarried_B210 {E : Gx} {cI : ClassId} {ad : Nat → Nat} (C : Cx E rmX8_laysCarried cI layM ad 7 RX8 cX8_laysCarried) {out : Int32 × Mem} (K0 : KI E rmX8_laysCarried cI layM ad 7 cX8_laysCarried .boolean out) {l1 : Int32} {l2 : Int32} {l5 : Int32} {σ : Mem} {res : (Int32 × Mem) ⊕ (Mem)} (h : fX8_laysCarried_B210 l1 l2 l5 σ = some res) (K : Sum.elim (fun a => G E rmX8_laysCarried cI layM ad 7 210 [(0, .ref (ad 0)), (1, .int l1), (2, .int l2), (5, .int a.1)] [] a.2) (fun b => G E rmX8_laysCarried cI layM ad 7 273 [] [] b) res) : G E rmX8_laysCarried cI layM ad 7 210 [(0, .ref (ad 0)), (1, .int l1), (2, .int l2), (5, .int l5)] [] σ := by
  unfold fX8_laysCarried_B210 at h
  refine g_iload 212 C dX8_laysCarried_210 (j := 3) rfl rfl ?_
  refine g_aload_n 213 C dX8_laysCarried_212 rfl (j := 0) rfl rfl ?_
  refine g_geti 216 (j := 6) C rfl rfl wu_X8 (by decide) wf_X8_72 rfl dX8_laysCarried_213 rfl ?_
  refine g_icmp_ge 273 219 C dX8_laysCarried_216 (by decide) rfl h (fun h => ?_) (fun h => ?_)
  · have hh := end_inr h K
    exact g_sub [] (hh) rfl
  · refine g_iload_n 220 C dX8_laysCarried_219 rfl (j := 1) rfl rfl ?_
    refine g_iload 222 C dX8_laysCarried_220 (j := 3) rfl rfl ?_
    refine g_csi 225 C (As := [.int l1, .int l5]) (fun _ h => mX8_has (a1 := l1) (a2 := l5) (σ := σ) h) wl_X8_102 ws_X8_has wc_X8_has wn_X8 qX8_has rfl rfl ⟨Nat.le_of_ble_eq_true rfl, Nat.le_of_ble_eq_true rfl⟩ rfl rfl (Nat.le_of_ble_eq_true rfl) dX8_laysCarried_222 rfl h (fun o9 h => ?_)
    refine g_if_eq 267 228 C dX8_laysCarried_225 (by decide) rfl h (fun h => ?_) (fun h => ?_)
    · exact tX8_laysCarried_L267 (l1 := l1) (l2 := l2) (l5 := l5) (σ := o9.2) C K0 h K
    · refine g_iload 230 C dX8_laysCarried_228 (j := 3) rfl rfl ?_
      refine g_iload_n 231 C dX8_laysCarried_230 rfl (j := 2) rfl rfl ?_
      refine g_icmp_ne 237 234 C dX8_laysCarried_231 (by decide) rfl h (fun h => ?_) (fun h => ?_)
      · refine g_goto 267 C dX8_laysCarried_234 (by decide) ?_
        exact tX8_laysCarried_L267 (l1 := l1) (l2 := l2) (l5 := l5) (σ := o9.2) C K0 h K
      · refine g_aload_n 238 C dX8_laysCarried_237 rfl (j := 0) rfl rfl ?_
        refine g_iload 240 C dX8_laysCarried_238 (j := 3) rfl rfl ?_
        refine g_iload 242 C dX8_laysCarried_240 (j := 3) rfl rfl ?_
        refine g_iconst 243 (v := 1) C dX8_laysCarried_242 (by decide) rfl ?_
        refine g_iload_n 244 C dX8_laysCarried_243 rfl (j := 2) rfl rfl ?_
        refine g_aload_n 245 C dX8_laysCarried_244 rfl (j := 0) rfl rfl ?_
        refine g_getr 248 (j := 15) C rfl rfl wu_X8 (by decide) wf_X8_42 rfl dX8_laysCarried_245 rfl ?_
        refine g_iload 250 C dX8_laysCarried_248 (j := 3) rfl rfl ?_
        refine g_iald 251 C rfl dX8_laysCarried_250 rfl h (fun h => ?_)
        refine g_cvv 254 C (As := [.int l5, .int l5, .int 1, .int l2, .int (o9.2 8 l5.toNatClampNeg)]) (fun _ h => mX8_joins (a1 := l5) (a2 := l5) (a3 := 1) (a4 := l2) (a5 := o9.2 8 l5.toNatClampNeg) (σ := o9.2) h) wl_X8_162 wi_X8_joins wz_X8_joins wc_X8_joins wn_X8 qX8_joins rfl rfl ⟨Nat.le_of_ble_eq_true rfl, Nat.le_of_ble_eq_true rfl⟩ rfl rfl rfl rfl (Nat.le_of_ble_eq_true rfl) dX8_laysCarried_251 rfl h (fun o10 h => ?_)
        refine g_aload_n 255 C dX8_laysCarried_254 rfl (j := 0) rfl rfl ?_
        refine g_getr 258 (j := 13) C rfl rfl wu_X8 (by decide) wf_X8_36 rfl dX8_laysCarried_255 rfl ?_
        refine g_iload 260 C dX8_laysCarried_258 (j := 3) rfl rfl ?_
        refine g_aload_n 261 C dX8_laysCarried_260 rfl (j := 0) rfl rfl ?_
        refine g_getr 264 (j := 13) C rfl rfl wu_X8 (by decide) wf_X8_36 rfl dX8_laysCarried_261 rfl ?_
        refine g_iload_n 265 C dX8_laysCarried_264 rfl (j := 2) rfl rfl ?_
        refine g_iald 266 C rfl dX8_laysCarried_265 rfl h (fun h => ?_)
        refine g_iast 267 C rfl dX8_laysCarried_266 rfl h (fun h => ?_)
        exact tX8_laysCarried_L267 (l1 := l1) (l2 := l2) (l5 := l5) (σ := up2 o10 6 l5.toNatClampNeg (o10 6 l2.toNatClampNeg)) C K0 h K
noncomputable def fX8_laysCarried_L273 (σ : Mem) : Option (Int32 × Mem) :=
  some (1, σ)
set_option maxHeartbeats 4000000 in
set_option maxRecDepth 100000 in
theorem tX8_laysCarried_L273 {E : Gx} {cI : ClassId} {ad : Nat → Nat} (C : Cx E rmX8_laysCarried cI layM ad 7 RX8 cX8_laysCarried) {out : Int32 × Mem} (K0 : KI E rmX8_laysCarried cI layM ad 7 cX8_laysCarried .boolean out) {σ : Mem} (h : fX8_laysCarried_L273 σ = some out) : G E rmX8_laysCarried cI layM ad 7 273 [] [] σ := by
  unfold fX8_laysCarried_L273 at h
  refine g_iconst 274 (v := 1) C dX8_laysCarried_273 (by decide) rfl ?_
  cases h
  exact K0 _ _ dX8_laysCarried_274 (zb_nar (x := 1) (by decide))
noncomputable def fX8_laysCarried_L207 (l1 : Int32) (l2 : Int32) (σ : Mem) : Option (Int32 × Mem) :=
  (loop (fun a => fX8_laysCarried_B210 l1 l2 a.1 a.2) (0, σ)).bind fun b11 =>
  fX8_laysCarried_L273 b11
set_option maxHeartbeats 4000000 in
set_option maxRecDepth 100000 in
theorem tX8_laysCarried_L207 {E : Gx} {cI : ClassId} {ad : Nat → Nat} (C : Cx E rmX8_laysCarried cI layM ad 7 RX8 cX8_laysCarried) {out : Int32 × Mem} (K0 : KI E rmX8_laysCarried cI layM ad 7 cX8_laysCarried .boolean out) {l1 : Int32} {l2 : Int32} {σ : Mem} (h : fX8_laysCarried_L207 l1 l2 σ = some out) : G E rmX8_laysCarried cI layM ad 7 207 [(0, .ref (ad 0)), (1, .int l1), (2, .int l2)] [] σ := by
  unfold fX8_laysCarried_L207 at h
  refine g_iconst 208 (v := 0) C dX8_laysCarried_207 (by decide) rfl ?_
  refine g_istore 210 [(5, .int 0), (0, .ref (ad 0)), (1, .int l1), (2, .int l2)] C dX8_laysCarried_208 (by decide) rfl rfl ?_
  obtain ⟨b11, hb, h⟩ := bind_some h
  refine g_sub [1, 2, 3, 0] (g_loop (a := (0, σ)) (fun a => G E rmX8_laysCarried cI layM ad 7 210 [(0, .ref (ad 0)), (1, .int l1), (2, .int l2), (5, .int a.1)] [] a.2) (fun b => G E rmX8_laysCarried cI layM ad 7 273 [] [] b) hb (fun a res h K => tX8_laysCarried_B210 (l1 := l1) (l2 := l2) (l5 := a.1) (σ := a.2) (res := res) C K0 h K) ?_) rfl
  show G E rmX8_laysCarried cI layM ad 7 273 [] [] b11
  exact tX8_laysCarried_L273 (σ := b11) C K0 h
noncomputable def fX8_laysCarried_L193 (l1 : Int32) (l2 : Int32) (σ : Mem) : Option (Int32 × Mem) :=
  (fX8_copies 30 l2 σ).bind fun o8 =>
  chk (inb l2 30) <|
  fX8_laysCarried_L207 l1 l2 (up2 o8 6 l2.toNatClampNeg 0)
set_option maxHeartbeats 4000000 in
set_option maxRecDepth 100000 in
theorem tX8_laysCarried_L193 {E : Gx} {cI : ClassId} {ad : Nat → Nat} (C : Cx E rmX8_laysCarried cI layM ad 7 RX8 cX8_laysCarried) {out : Int32 × Mem} (K0 : KI E rmX8_laysCarried cI layM ad 7 cX8_laysCarried .boolean out) {l1 : Int32} {l2 : Int32} {σ : Mem} (h : fX8_laysCarried_L193 l1 l2 σ = some out) : G E rmX8_laysCarried cI layM ad 7 193 [(0, .ref (ad 0)), (1, .int l1), (2, .int l2)] [] σ := by
  unfold fX8_laysCarried_L193 at h
  refine g_aload_n 194 C dX8_laysCarried_193 rfl (j := 0) rfl rfl ?_
  refine g_bipush 196 (v := 30) C dX8_laysCarried_194 (by decide) rfl ?_
  refine g_iload_n 197 C dX8_laysCarried_196 rfl (j := 2) rfl rfl ?_
  refine g_cvv 200 C (As := [.int 30, .int l2]) (fun _ h => mX8_copies (a1 := 30) (a2 := l2) (σ := σ) h) wl_X8_156 wi_X8_copies wz_X8_copies wc_X8_copies wn_X8 qX8_copies rfl rfl ⟨Nat.le_of_ble_eq_true rfl, Nat.le_of_ble_eq_true rfl⟩ rfl rfl rfl rfl (Nat.le_of_ble_eq_true rfl) dX8_laysCarried_197 rfl h (fun o8 h => ?_)
  refine g_aload_n 201 C dX8_laysCarried_200 rfl (j := 0) rfl rfl ?_
  refine g_getr 204 (j := 13) C rfl rfl wu_X8 (by decide) wf_X8_36 rfl dX8_laysCarried_201 rfl ?_
  refine g_iload_n 205 C dX8_laysCarried_204 rfl (j := 2) rfl rfl ?_
  refine g_iconst 206 (v := 0) C dX8_laysCarried_205 (by decide) rfl ?_
  refine g_iast 207 C rfl dX8_laysCarried_206 rfl h (fun h => ?_)
  exact tX8_laysCarried_L207 (l1 := l1) (l2 := l2) (σ := up2 o8 6 l2.toNatClampNeg 0) C K0 h
noncomputable def fX8_laysCarried_L95 (l1 : Int32) (l2 : Int32) (l3 : Int32) (l4 : Int32) (σ : Mem) : Option (Int32 × Mem) :=
  if l4 = 0 then
    (fX8_carries l2 l3 0 σ).bind fun o12 =>
    fX8_laysCarried_L207 l1 l2 o12
  else
    chk (inb l2 30) <|
    (fX8_laysGiven 30 (σ 3 l2.toNatClampNeg) σ).bind fun o5 =>
    (loop (fun a => fX8_laysCarried_B125 l1 l2 l3 a.1 a.2) (0, o5)).bind fun b7 =>
    fX8_laysCarried_L193 l1 l2 b7
set_option maxHeartbeats 4000000 in
set_option maxRecDepth 100000 in
theorem tX8_laysCarried_L95 {E : Gx} {cI : ClassId} {ad : Nat → Nat} (C : Cx E rmX8_laysCarried cI layM ad 7 RX8 cX8_laysCarried) {out : Int32 × Mem} (K0 : KI E rmX8_laysCarried cI layM ad 7 cX8_laysCarried .boolean out) {l1 : Int32} {l2 : Int32} {l3 : Int32} {l4 : Int32} {σ : Mem} (h : fX8_laysCarried_L95 l1 l2 l3 l4 σ = some out) : G E rmX8_laysCarried cI layM ad 7 95 [(0, .ref (ad 0)), (1, .int l1), (2, .int l2), (3, .int l3), (4, .int l4)] [] σ := by
  unfold fX8_laysCarried_L95 at h
  refine g_iload 97 C dX8_laysCarried_95 (j := 4) rfl rfl ?_
  refine g_if_ne 110 100 C dX8_laysCarried_97 (by decide) rfl h (fun h => ?_) (fun h => ?_)
  · refine g_aload_n 101 C dX8_laysCarried_100 rfl (j := 0) rfl rfl ?_
    refine g_iload_n 102 C dX8_laysCarried_101 rfl (j := 2) rfl rfl ?_
    refine g_iload_n 103 C dX8_laysCarried_102 rfl (j := 3) rfl rfl ?_
    refine g_iconst 104 (v := 0) C dX8_laysCarried_103 (by decide) rfl ?_
    refine g_cvv 107 C (As := [.int l2, .int l3, .int 0]) (fun _ h => mX8_carries (a1 := l2) (a2 := l3) (a3 := 0) (σ := σ) h) wl_X8_174 wi_X8_carries wz_X8_carries wc_X8_carries wn_X8 qX8_carries rfl rfl ⟨Nat.le_of_ble_eq_true rfl, Nat.le_of_ble_eq_true rfl⟩ rfl rfl rfl rfl (Nat.le_of_ble_eq_true rfl) dX8_laysCarried_104 rfl h (fun o12 h => ?_)
    refine g_goto 207 C dX8_laysCarried_107 (by decide) ?_
    exact g_sub [0, 1, 2] (tX8_laysCarried_L207 (l1 := l1) (l2 := l2) (σ := o12) C K0 h) rfl
  · refine g_aload_n 111 C dX8_laysCarried_110 rfl (j := 0) rfl rfl ?_
    refine g_bipush 113 (v := 30) C dX8_laysCarried_111 (by decide) rfl ?_
    refine g_aload_n 114 C dX8_laysCarried_113 rfl (j := 0) rfl rfl ?_
    refine g_getr 117 (j := 4) C rfl rfl wu_X8 (by decide) wf_X8_17 rfl dX8_laysCarried_114 rfl ?_
    refine g_iload_n 118 C dX8_laysCarried_117 rfl (j := 2) rfl rfl ?_
    refine g_iald 119 C rfl dX8_laysCarried_118 rfl h (fun h => ?_)
    refine g_cvv 122 C (As := [.int 30, .int (σ 3 l2.toNatClampNeg)]) (fun _ h => mX8_laysGiven (a1 := 30) (a2 := σ 3 l2.toNatClampNeg) (σ := σ) h) wl_X8_151 wi_X8_laysGiven wz_X8_laysGiven wc_X8_laysGiven wn_X8 qX8_laysGiven rfl rfl ⟨Nat.le_of_ble_eq_true rfl, Nat.le_of_ble_eq_true rfl⟩ rfl rfl rfl rfl (Nat.le_of_ble_eq_true rfl) dX8_laysCarried_119 rfl h (fun o5 h => ?_)
    refine g_iconst 123 (v := 0) C dX8_laysCarried_122 (by decide) rfl ?_
    refine g_istore 125 [(5, .int 0), (0, .ref (ad 0)), (1, .int l1), (2, .int l2), (3, .int l3), (4, .int l4)] C dX8_laysCarried_123 (by decide) rfl rfl ?_
    obtain ⟨b7, hb, h⟩ := bind_some h
    refine g_sub [1, 2, 3, 4, 0] (g_loop (a := (0, o5)) (fun a => G E rmX8_laysCarried cI layM ad 7 125 [(0, .ref (ad 0)), (1, .int l1), (2, .int l2), (3, .int l3), (5, .int a.1)] [] a.2) (fun b => G E rmX8_laysCarried cI layM ad 7 193 [(0, .ref (ad 0)), (1, .int l1), (2, .int l2)] [] b) hb (fun a res h K => tX8_laysCarried_B125 (l1 := l1) (l2 := l2) (l3 := l3) (l5 := a.1) (σ := a.2) (res := res) C K0 h K) ?_) rfl
    show G E rmX8_laysCarried cI layM ad 7 193 [(0, .ref (ad 0)), (1, .int l1), (2, .int l2)] [] b7
    exact tX8_laysCarried_L193 (l1 := l1) (l2 := l2) (σ := b7) C K0 h
noncomputable def fX8_laysCarried_L93 (σ : Mem) : Option (Int32 × Mem) :=
  some (0, σ)
set_option maxHeartbeats 4000000 in
set_option maxRecDepth 100000 in
theorem tX8_laysCarried_L93 {E : Gx} {cI : ClassId} {ad : Nat → Nat} (C : Cx E rmX8_laysCarried cI layM ad 7 RX8 cX8_laysCarried) {out : Int32 × Mem} (K0 : KI E rmX8_laysCarried cI layM ad 7 cX8_laysCarried .boolean out) {σ : Mem} (h : fX8_laysCarried_L93 σ = some out) : G E rmX8_laysCarried cI layM ad 7 93 [] [] σ := by
  unfold fX8_laysCarried_L93 at h
  refine g_iconst 94 (v := 0) C dX8_laysCarried_93 (by decide) rfl ?_
  cases h
  exact K0 _ _ dX8_laysCarried_94 (zb_nar (x := 0) (by decide))
noncomputable def fX8_laysCarried_L78 (l1 : Int32) (l2 : Int32) (l3 : Int32) (l4 : Int32) (σ : Mem) : Option (Int32 × Mem) :=
  if l4 = 1 then
    (fX8_degreeOf l3 σ).bind fun o13 =>
    if o13.1 ≤ 2 then
      fX8_laysCarried_L95 l1 l2 l3 l4 o13.2
    else
      fX8_laysCarried_L93 o13.2
  else
    fX8_laysCarried_L95 l1 l2 l3 l4 σ
set_option maxHeartbeats 4000000 in
set_option maxRecDepth 100000 in
theorem tX8_laysCarried_L78 {E : Gx} {cI : ClassId} {ad : Nat → Nat} (C : Cx E rmX8_laysCarried cI layM ad 7 RX8 cX8_laysCarried) {out : Int32 × Mem} (K0 : KI E rmX8_laysCarried cI layM ad 7 cX8_laysCarried .boolean out) {l1 : Int32} {l2 : Int32} {l3 : Int32} {l4 : Int32} {σ : Mem} (h : fX8_laysCarried_L78 l1 l2 l3 l4 σ = some out) : G E rmX8_laysCarried cI layM ad 7 78 [(0, .ref (ad 0)), (1, .int l1), (2, .int l2), (3, .int l3), (4, .int l4)] [] σ := by
  unfold fX8_laysCarried_L78 at h
  refine g_iload 80 C dX8_laysCarried_78 (j := 4) rfl rfl ?_
  refine g_iconst 81 (v := 1) C dX8_laysCarried_80 (by decide) rfl ?_
  refine g_icmp_ne 95 84 C dX8_laysCarried_81 (by decide) rfl h (fun h => ?_) (fun h => ?_)
  · refine g_aload_n 85 C dX8_laysCarried_84 rfl (j := 0) rfl rfl ?_
    refine g_iload_n 86 C dX8_laysCarried_85 rfl (j := 3) rfl rfl ?_
    refine g_cvi 89 C (As := [.int l3]) (fun _ h => mX8_degreeOf (a1 := l3) (σ := σ) h) wl_X8_124 wi_X8_degreeOf wz_X8_degreeOf wc_X8_degreeOf wn_X8 qX8_degreeOf rfl rfl ⟨Nat.le_of_ble_eq_true rfl, Nat.le_of_ble_eq_true rfl⟩ rfl rfl rfl rfl (Nat.le_of_ble_eq_true rfl) dX8_laysCarried_86 rfl h (fun o13 h => ?_)
    refine g_iconst 90 (v := 2) C dX8_laysCarried_89 (by decide) rfl ?_
    refine g_icmp_le 95 93 C dX8_laysCarried_90 (by decide) rfl h (fun h => ?_) (fun h => ?_)
    · exact tX8_laysCarried_L95 (l1 := l1) (l2 := l2) (l3 := l3) (l4 := l4) (σ := o13.2) C K0 h
    · exact g_sub [] (tX8_laysCarried_L93 (σ := o13.2) C K0 h) rfl
  · exact tX8_laysCarried_L95 (l1 := l1) (l2 := l2) (l3 := l3) (l4 := l4) (σ := σ) C K0 h
noncomputable def fX8_laysCarried_L52 (l1 : Int32) (l2 : Int32) (σ : Mem) : Option (Int32 × Mem) :=
  chk (inb l2 30) <|
  chk (inb (σ 4 l2.toNatClampNeg) 30) <|
  if (σ 8 (σ 4 l2.toNatClampNeg).toNatClampNeg) = 0 then
    fX8_laysCarried_L78 l1 l2 (σ 4 l2.toNatClampNeg) (σ 8 (σ 4 l2.toNatClampNeg).toNatClampNeg) σ
  else
    if (σ 8 (σ 4 l2.toNatClampNeg).toNatClampNeg) = 1 then
      fX8_laysCarried_L78 l1 l2 (σ 4 l2.toNatClampNeg) (σ 8 (σ 4 l2.toNatClampNeg).toNatClampNeg) σ
    else
      fX8_laysCarried_L93 σ
set_option maxHeartbeats 4000000 in
set_option maxRecDepth 100000 in
theorem tX8_laysCarried_L52 {E : Gx} {cI : ClassId} {ad : Nat → Nat} (C : Cx E rmX8_laysCarried cI layM ad 7 RX8 cX8_laysCarried) {out : Int32 × Mem} (K0 : KI E rmX8_laysCarried cI layM ad 7 cX8_laysCarried .boolean out) {l1 : Int32} {l2 : Int32} {σ : Mem} (h : fX8_laysCarried_L52 l1 l2 σ = some out) : G E rmX8_laysCarried cI layM ad 7 52 [(0, .ref (ad 0)), (1, .int l1), (2, .int l2)] [] σ := by
  unfold fX8_laysCarried_L52 at h
  refine g_aload_n 53 C dX8_laysCarried_52 rfl (j := 0) rfl rfl ?_
  refine g_getr 56 (j := 5) C rfl rfl wu_X8 (by decide) wf_X8_20 rfl dX8_laysCarried_53 rfl ?_
  refine g_iload_n 57 C dX8_laysCarried_56 rfl (j := 2) rfl rfl ?_
  refine g_iald 58 C rfl dX8_laysCarried_57 rfl h (fun h => ?_)
  refine g_istore_n 59 [(3, .int (σ 4 l2.toNatClampNeg)), (0, .ref (ad 0)), (1, .int l1), (2, .int l2)] C dX8_laysCarried_58 rfl (by decide) rfl rfl ?_
  refine g_aload_n 60 C dX8_laysCarried_59 rfl (j := 1) rfl rfl ?_
  refine g_getr 63 (j := 15) C rfl rfl wu_X8 (by decide) wf_X8_42 rfl dX8_laysCarried_60 rfl ?_
  refine g_iload_n 64 C dX8_laysCarried_63 rfl (j := 0) rfl rfl ?_
  refine g_iald 65 C rfl dX8_laysCarried_64 rfl h (fun h => ?_)
  refine g_istore 67 [(4, .int (σ 8 (σ 4 l2.toNatClampNeg).toNatClampNeg)), (3, .int (σ 4 l2.toNatClampNeg)), (0, .ref (ad 0)), (1, .int l1), (2, .int l2)] C dX8_laysCarried_65 (by decide) rfl rfl ?_
  refine g_iload 69 C dX8_laysCarried_67 (j := 0) rfl rfl ?_
  refine g_if_eq 78 72 C dX8_laysCarried_69 (by decide) rfl h (fun h => ?_) (fun h => ?_)
  · exact g_sub [2, 3, 4, 1, 0] (tX8_laysCarried_L78 (l1 := l1) (l2 := l2) (l3 := (σ 4 l2.toNatClampNeg)) (l4 := (σ 8 (σ 4 l2.toNatClampNeg).toNatClampNeg)) (σ := σ) C K0 h) rfl
  · refine g_iload 74 C dX8_laysCarried_72 (j := 0) rfl rfl ?_
    refine g_iconst 75 (v := 1) C dX8_laysCarried_74 (by decide) rfl ?_
    refine g_icmp_ne 93 78 C dX8_laysCarried_75 (by decide) rfl h (fun h => ?_) (fun h => ?_)
    · exact g_sub [2, 3, 4, 1, 0] (tX8_laysCarried_L78 (l1 := l1) (l2 := l2) (l3 := (σ 4 l2.toNatClampNeg)) (l4 := (σ 8 (σ 4 l2.toNatClampNeg).toNatClampNeg)) (σ := σ) C K0 h) rfl
    · exact g_sub [] (tX8_laysCarried_L93 (σ := σ) C K0 h) rfl
noncomputable def fX8_laysCarried (a1 : Int32) (a2 : Int32) (σ : Mem) : Option (Int32 × Mem) :=
  (fX8_empties a2 σ).bind fun o1 =>
  chk (inb a2 30) <|
  (loop (fun a => fX8_laysCarried_B14 a1 a2 a.1 a.2) (0, up2 o1 8 a2.toNatClampNeg 1)).bind (Sum.elim (fun b4x0 => fX8_laysCarried_L52 a1 a2 b4x0) (fun b4r => some b4r))
set_option maxHeartbeats 4000000 in
set_option maxRecDepth 100000 in
theorem mX8_laysCarried {l : Launch} {D : va_G} {cI : ClassId} {ad : Nat → Nat} {a1 : Int32} {a2 : Int32} {σ : Mem} {out : Int32 × Mem} (h : fX8_laysCarried a1 a2 σ = some out) : MI l D cI layM ad yX8_laysCarried cX8_laysCarried 7 .boolean rmX8_laysCarried [.ref (ad 0), .int a1, .int a2] σ out := by
  refine met_i (by decide) (Nat.le_of_ble_eq_true rfl) (fun E C K0 => ?_)
  show G E rmX8_laysCarried cI layM ad 7 0 [(0, .ref (ad 0)), (1, .int a1), (2, .int a2)] [] σ
  unfold fX8_laysCarried at h
  refine g_aload_n 1 C dX8_laysCarried_0 rfl (j := 0) rfl rfl ?_
  refine g_iload_n 2 C dX8_laysCarried_1 rfl (j := 2) rfl rfl ?_
  refine g_cvv 5 C (As := [.int a2]) (fun _ h => mX8_empties (a1 := a2) (σ := σ) h) wl_X8_127 wi_X8_empties wz_X8_empties wc_X8_empties wn_X8 qX8_empties rfl rfl ⟨Nat.le_of_ble_eq_true rfl, Nat.le_of_ble_eq_true rfl⟩ rfl rfl rfl rfl (Nat.le_of_ble_eq_true rfl) dX8_laysCarried_2 rfl h (fun o1 h => ?_)
  refine g_aload_n 6 C dX8_laysCarried_5 rfl (j := 0) rfl rfl ?_
  refine g_getr 9 (j := 15) C rfl rfl wu_X8 (by decide) wf_X8_42 rfl dX8_laysCarried_6 rfl ?_
  refine g_iload_n 10 C dX8_laysCarried_9 rfl (j := 2) rfl rfl ?_
  refine g_iconst 11 (v := 1) C dX8_laysCarried_10 (by decide) rfl ?_
  refine g_iast 12 C rfl dX8_laysCarried_11 rfl h (fun h => ?_)
  refine g_iconst 13 (v := 0) C dX8_laysCarried_12 (by decide) rfl ?_
  refine g_istore_n 14 [(3, .int 0), (0, .ref (ad 0)), (1, .int a1), (2, .int a2)] C dX8_laysCarried_13 rfl (by decide) rfl rfl ?_
  obtain ⟨b4, hb, h⟩ := bind_some h
  refine g_sub [1, 2, 3, 0] (g_loop (a := (0, up2 o1 8 a2.toNatClampNeg 1)) (fun a => G E rmX8_laysCarried cI layM ad 7 14 [(0, .ref (ad 0)), (1, .int a1), (2, .int a2), (3, .int a.1)] [] a.2) (Sum.elim (fun b => G E rmX8_laysCarried cI layM ad 7 52 [(0, .ref (ad 0)), (1, .int a1), (2, .int a2)] [] b) (fun b => b = out)) hb (fun a res h K => tX8_laysCarried_B14 (l1 := a1) (l2 := a2) (l3 := a.1) (σ := a.2) (res := res) C K0 h K) ?_) rfl
  rcases b4 with b4x0 | b4r
  · show G E rmX8_laysCarried cI layM ad 7 52 [(0, .ref (ad 0)), (1, .int a1), (2, .int a2)] [] b4x0
    exact tX8_laysCarried_L52 (l1 := a1) (l2 := a2) (σ := b4x0) C K0 h
  · exact end_top h

/-! LoopReducerModel.bits(I)I -/
abbrev rmX8_bits : Room := { frames := 0, cells := 0, slots := 0, locals := 0 }
theorem qX8_bits : yX8_bits.cls ≠ "java/lang/invoke/MethodHandle" ∧ yX8_bits.cls ≠ "java/lang/invoke/VarHandle" ∧ (parseMethodDescriptor yX8_bits.desc).map (fun d => d.parameters.length) = some 1 := by decide +kernel
theorem DX8_bits : ∀ q ∈ ([(0, .iconst 0, 1), (1, .istore_n 2, 1), (2, .iconst 0, 1), (3, .istore_n 3, 1), (4, .iload_n 3, 1), (5, .bipush 30, 2), (7, .if_icmp .ge 17, 3), (10, .iload_n 2, 1), (11, .iload_n 1, 1), (12, .iload_n 3, 1), (13, .ishr, 1), (14, .iconst 1, 1), (15, .iand, 1), (16, .iadd, 1), (17, .istore_n 2, 1), (18, .iinc 3 1, 3), (21, .goto (-17), 3), (24, .iload_n 2, 1), (25, .ireturn, 1)] : List (Nat × Instr × Nat)), decode cX8_bits q.1 = .ok q.2 := by decide +kernel
theorem dX8_bits_0 : decode cX8_bits 0 = .ok (.iconst 0, 1) := DX8_bits (0, .iconst 0, 1) (List.mem_of_getElem? (i := 0) rfl)
theorem dX8_bits_1 : decode cX8_bits 1 = .ok (.istore_n 2, 1) := DX8_bits (1, .istore_n 2, 1) (List.mem_of_getElem? (i := 1) rfl)
theorem dX8_bits_2 : decode cX8_bits 2 = .ok (.iconst 0, 1) := DX8_bits (2, .iconst 0, 1) (List.mem_of_getElem? (i := 2) rfl)
theorem dX8_bits_3 : decode cX8_bits 3 = .ok (.istore_n 3, 1) := DX8_bits (3, .istore_n 3, 1) (List.mem_of_getElem? (i := 3) rfl)
theorem dX8_bits_4 : decode cX8_bits 4 = .ok (.iload_n 3, 1) := DX8_bits (4, .iload_n 3, 1) (List.mem_of_getElem? (i := 4) rfl)
theorem dX8_bits_5 : decode cX8_bits 5 = .ok (.bipush 30, 2) := DX8_bits (5, .bipush 30, 2) (List.mem_of_getElem? (i := 5) rfl)
theorem dX8_bits_7 : decode cX8_bits 7 = .ok (.if_icmp .ge 17, 3) := DX8_bits (7, .if_icmp .ge 17, 3) (List.mem_of_getElem? (i := 6) rfl)
theorem dX8_bits_10 : decode cX8_bits 10 = .ok (.iload_n 2, 1) := DX8_bits (10, .iload_n 2, 1) (List.mem_of_getElem? (i := 7) rfl)
theorem dX8_bits_11 : decode cX8_bits 11 = .ok (.iload_n 1, 1) := DX8_bits (11, .iload_n 1, 1) (List.mem_of_getElem? (i := 8) rfl)
theorem dX8_bits_12 : decode cX8_bits 12 = .ok (.iload_n 3, 1) := DX8_bits (12, .iload_n 3, 1) (List.mem_of_getElem? (i := 9) rfl)
theorem dX8_bits_13 : decode cX8_bits 13 = .ok (.ishr, 1) := DX8_bits (13, .ishr, 1) (List.mem_of_getElem? (i := 10) rfl)
theorem dX8_bits_14 : decode cX8_bits 14 = .ok (.iconst 1, 1) := DX8_bits (14, .iconst 1, 1) (List.mem_of_getElem? (i := 11) rfl)
theorem dX8_bits_15 : decode cX8_bits 15 = .ok (.iand, 1) := DX8_bits (15, .iand, 1) (List.mem_of_getElem? (i := 12) rfl)
theorem dX8_bits_16 : decode cX8_bits 16 = .ok (.iadd, 1) := DX8_bits (16, .iadd, 1) (List.mem_of_getElem? (i := 13) rfl)
theorem dX8_bits_17 : decode cX8_bits 17 = .ok (.istore_n 2, 1) := DX8_bits (17, .istore_n 2, 1) (List.mem_of_getElem? (i := 14) rfl)
theorem dX8_bits_18 : decode cX8_bits 18 = .ok (.iinc 3 1, 3) := DX8_bits (18, .iinc 3 1, 3) (List.mem_of_getElem? (i := 15) rfl)
theorem dX8_bits_21 : decode cX8_bits 21 = .ok (.goto (-17), 3) := DX8_bits (21, .goto (-17), 3) (List.mem_of_getElem? (i := 16) rfl)
theorem dX8_bits_24 : decode cX8_bits 24 = .ok (.iload_n 2, 1) := DX8_bits (24, .iload_n 2, 1) (List.mem_of_getElem? (i := 17) rfl)
theorem dX8_bits_25 : decode cX8_bits 25 = .ok (.ireturn, 1) := DX8_bits (25, .ireturn, 1) (List.mem_of_getElem? (i := 18) rfl)
noncomputable def fX8_bits_B4 (l1 : Int32) (l2 : Int32) (l3 : Int32) (σ : Mem) : Option ((Int32 × Int32 × Mem) ⊕ (Int32 × Mem)) :=
  if 30 ≤ l3 then
    some (.inr (l2, σ))
  else
    some (.inl (l2 + ((l1 >>> (l3 &&& 31)) &&& 1), l3 + 1, σ))
set_option maxHeartbeats 4000000 in
set_option maxRecDepth 100000 in
theorem tX8_bits_B4 {E : Gx} {cI : ClassId} {ad : Nat → Nat} (C : Cx E rmX8_bits cI layM ad 4 RX8 cX8_bits) {out : Int32 × Mem} (K0 : KI E rmX8_bits cI layM ad 4 cX8_bits .int out) {l1 : Int32} {l2 : Int32} {l3 : Int32} {σ : Mem} {res : (Int32 × Int32 × Mem) ⊕ (Int32 × Mem)} (h : fX8_bits_B4 l1 l2 l3 σ = some res) (K : Sum.elim (fun a => G E rmX8_bits cI layM ad 4 4 [(1, .int l1), (2, .int a.1), (3, .int a.2.1)] [] a.2.2) (fun b => G E rmX8_bits cI layM ad 4 24 [(2, .int b.1)] [] b.2) res) : G E rmX8_bits cI layM ad 4 4 [(1, .int l1), (2, .int l2), (3, .int l3)] [] σ := by
  unfold fX8_bits_B4 at h
  refine g_iload_n 5 C dX8_bits_4 rfl (j := 2) rfl rfl ?_
  refine g_bipush 7 (v := 30) C dX8_bits_5 (by decide) rfl ?_
  refine g_icmp_ge 24 10 C dX8_bits_7 (by decide) rfl h (fun h => ?_) (fun h => ?_)
  · have hh := end_inr h K
    exact g_sub [1] (hh) rfl
  · refine g_iload_n 11 C dX8_bits_10 rfl (j := 1) rfl rfl ?_
    refine g_iload_n 12 C dX8_bits_11 rfl (j := 0) rfl rfl ?_
    refine g_iload_n 13 C dX8_bits_12 rfl (j := 2) rfl rfl ?_
    refine g_ishr 14 C dX8_bits_13 rfl ?_
    refine g_iconst 15 (v := 1) C dX8_bits_14 (by decide) rfl ?_
    refine g_iand 16 C dX8_bits_15 rfl ?_
    refine g_iadd 17 C dX8_bits_16 rfl ?_
    refine g_istore_n 18 [(2, .int (l2 + ((l1 >>> (l3 &&& 31)) &&& 1))), (1, .int l1), (3, .int l3)] C dX8_bits_17 rfl (by decide) rfl rfl ?_
    refine g_iinc 21 [(3, .int (l3 + 1)), (2, .int (l2 + ((l1 >>> (l3 &&& 31)) &&& 1))), (1, .int l1)] C dX8_bits_18 (j := 2) rfl (by rfl) (by decide) rfl rfl ?_
    refine g_goto 4 C dX8_bits_21 (by decide) ?_
    have hh := end_inl h K
    exact g_sub [2, 1, 0] (hh) rfl
noncomputable def fX8_bits_L24 (l2 : Int32) (σ : Mem) : Option (Int32 × Mem) :=
  some (l2, σ)
set_option maxHeartbeats 4000000 in
set_option maxRecDepth 100000 in
theorem tX8_bits_L24 {E : Gx} {cI : ClassId} {ad : Nat → Nat} (C : Cx E rmX8_bits cI layM ad 4 RX8 cX8_bits) {out : Int32 × Mem} (K0 : KI E rmX8_bits cI layM ad 4 cX8_bits .int out) {l2 : Int32} {σ : Mem} (h : fX8_bits_L24 l2 σ = some out) : G E rmX8_bits cI layM ad 4 24 [(2, .int l2)] [] σ := by
  unfold fX8_bits_L24 at h
  refine g_iload_n 25 C dX8_bits_24 rfl (j := 0) rfl rfl ?_
  cases h
  exact K0 _ _ dX8_bits_25 rfl
noncomputable def fX8_bits (a1 : Int32) (σ : Mem) : Option (Int32 × Mem) :=
  (loop (fun a => fX8_bits_B4 a1 a.1 a.2.1 a.2.2) (0, 0, σ)).bind fun b1 =>
  fX8_bits_L24 b1.1 b1.2
set_option maxHeartbeats 4000000 in
set_option maxRecDepth 100000 in
theorem mX8_bits {l : Launch} {D : va_G} {cI : ClassId} {ad : Nat → Nat} {a1 : Int32} {σ : Mem} {out : Int32 × Mem} (h : fX8_bits a1 σ = some out) : MI l D cI layM ad yX8_bits cX8_bits 4 .int rmX8_bits [.ref (ad 0), .int a1] σ out := by
  refine met_i (by decide) (Nat.le_of_ble_eq_true rfl) (fun E C K0 => ?_)
  show G E rmX8_bits cI layM ad 4 0 [(0, .ref (ad 0)), (1, .int a1)] [] σ
  unfold fX8_bits at h
  refine g_iconst 1 (v := 0) C dX8_bits_0 (by decide) rfl ?_
  refine g_istore_n 2 [(2, .int 0), (0, .ref (ad 0)), (1, .int a1)] C dX8_bits_1 rfl (by decide) rfl rfl ?_
  refine g_iconst 3 (v := 0) C dX8_bits_2 (by decide) rfl ?_
  refine g_istore_n 4 [(3, .int 0), (2, .int 0), (0, .ref (ad 0)), (1, .int a1)] C dX8_bits_3 rfl (by decide) rfl rfl ?_
  obtain ⟨b1, hb, h⟩ := bind_some h
  refine g_sub [3, 1, 0] (g_loop (a := (0, 0, σ)) (fun a => G E rmX8_bits cI layM ad 4 4 [(1, .int a1), (2, .int a.1), (3, .int a.2.1)] [] a.2.2) (fun b => G E rmX8_bits cI layM ad 4 24 [(2, .int b.1)] [] b.2) hb (fun a res h K => tX8_bits_B4 (l1 := a1) (l2 := a.1) (l3 := a.2.1) (σ := a.2.2) (res := res) C K0 h K) ?_) rfl
  show G E rmX8_bits cI layM ad 4 24 [(2, .int b1.1)] [] b1.2
  exact tX8_bits_L24 (l2 := b1.1) (σ := b1.2) C K0 h

/-! LoopReducerModel.gives(III)V -/
abbrev rmX8_gives : Room := { frames := 1, cells := 0, slots := 0, locals := 22 }
theorem qX8_gives : yX8_gives.cls ≠ "java/lang/invoke/MethodHandle" ∧ yX8_gives.cls ≠ "java/lang/invoke/VarHandle" ∧ (parseMethodDescriptor yX8_gives.desc).map (fun d => d.parameters.length) = some 3 := by decide +kernel
theorem DX8_gives : ∀ q ∈ ([(0, .aload_n 0, 1), (1, .getfield 45, 3), (4, .iconst 0, 1), (5, .aload_n 0, 1), (6, .iload_n 1, 1), (7, .i2l, 1), (8, .invokevirtual 83, 3), (11, .iastore, 1), (12, .aload_n 0, 1), (13, .getfield 45, 3), (16, .iconst 1, 1), (17, .aload_n 0, 1), (18, .iload_n 2, 1), (19, .i2l, 1), (20, .invokevirtual 83, 3), (23, .iastore, 1), (24, .aload_n 0, 1), (25, .getfield 45, 3), (28, .iconst 2, 1), (29, .aload_n 0, 1), (30, .iload_n 3, 1), (31, .i2l, 1), (32, .invokevirtual 83, 3), (35, .iastore, 1), (36, .return_, 1)] : List (Nat × Instr × Nat)), decode cX8_gives q.1 = .ok q.2 := by decide +kernel
theorem dX8_gives_0 : decode cX8_gives 0 = .ok (.aload_n 0, 1) := DX8_gives (0, .aload_n 0, 1) (List.mem_of_getElem? (i := 0) rfl)
theorem dX8_gives_1 : decode cX8_gives 1 = .ok (.getfield 45, 3) := DX8_gives (1, .getfield 45, 3) (List.mem_of_getElem? (i := 1) rfl)
theorem dX8_gives_4 : decode cX8_gives 4 = .ok (.iconst 0, 1) := DX8_gives (4, .iconst 0, 1) (List.mem_of_getElem? (i := 2) rfl)
theorem dX8_gives_5 : decode cX8_gives 5 = .ok (.aload_n 0, 1) := DX8_gives (5, .aload_n 0, 1) (List.mem_of_getElem? (i := 3) rfl)
theorem dX8_gives_6 : decode cX8_gives 6 = .ok (.iload_n 1, 1) := DX8_gives (6, .iload_n 1, 1) (List.mem_of_getElem? (i := 4) rfl)
theorem dX8_gives_7 : decode cX8_gives 7 = .ok (.i2l, 1) := DX8_gives (7, .i2l, 1) (List.mem_of_getElem? (i := 5) rfl)
theorem dX8_gives_8 : decode cX8_gives 8 = .ok (.invokevirtual 83, 3) := DX8_gives (8, .invokevirtual 83, 3) (List.mem_of_getElem? (i := 6) rfl)
theorem dX8_gives_11 : decode cX8_gives 11 = .ok (.iastore, 1) := DX8_gives (11, .iastore, 1) (List.mem_of_getElem? (i := 7) rfl)
theorem dX8_gives_12 : decode cX8_gives 12 = .ok (.aload_n 0, 1) := DX8_gives (12, .aload_n 0, 1) (List.mem_of_getElem? (i := 8) rfl)
theorem dX8_gives_13 : decode cX8_gives 13 = .ok (.getfield 45, 3) := DX8_gives (13, .getfield 45, 3) (List.mem_of_getElem? (i := 9) rfl)
theorem dX8_gives_16 : decode cX8_gives 16 = .ok (.iconst 1, 1) := DX8_gives (16, .iconst 1, 1) (List.mem_of_getElem? (i := 10) rfl)
theorem dX8_gives_17 : decode cX8_gives 17 = .ok (.aload_n 0, 1) := DX8_gives (17, .aload_n 0, 1) (List.mem_of_getElem? (i := 11) rfl)
theorem dX8_gives_18 : decode cX8_gives 18 = .ok (.iload_n 2, 1) := DX8_gives (18, .iload_n 2, 1) (List.mem_of_getElem? (i := 12) rfl)
theorem dX8_gives_19 : decode cX8_gives 19 = .ok (.i2l, 1) := DX8_gives (19, .i2l, 1) (List.mem_of_getElem? (i := 13) rfl)
theorem dX8_gives_20 : decode cX8_gives 20 = .ok (.invokevirtual 83, 3) := DX8_gives (20, .invokevirtual 83, 3) (List.mem_of_getElem? (i := 14) rfl)
theorem dX8_gives_23 : decode cX8_gives 23 = .ok (.iastore, 1) := DX8_gives (23, .iastore, 1) (List.mem_of_getElem? (i := 15) rfl)
theorem dX8_gives_24 : decode cX8_gives 24 = .ok (.aload_n 0, 1) := DX8_gives (24, .aload_n 0, 1) (List.mem_of_getElem? (i := 16) rfl)
theorem dX8_gives_25 : decode cX8_gives 25 = .ok (.getfield 45, 3) := DX8_gives (25, .getfield 45, 3) (List.mem_of_getElem? (i := 17) rfl)
theorem dX8_gives_28 : decode cX8_gives 28 = .ok (.iconst 2, 1) := DX8_gives (28, .iconst 2, 1) (List.mem_of_getElem? (i := 18) rfl)
theorem dX8_gives_29 : decode cX8_gives 29 = .ok (.aload_n 0, 1) := DX8_gives (29, .aload_n 0, 1) (List.mem_of_getElem? (i := 19) rfl)
theorem dX8_gives_30 : decode cX8_gives 30 = .ok (.iload_n 3, 1) := DX8_gives (30, .iload_n 3, 1) (List.mem_of_getElem? (i := 20) rfl)
theorem dX8_gives_31 : decode cX8_gives 31 = .ok (.i2l, 1) := DX8_gives (31, .i2l, 1) (List.mem_of_getElem? (i := 21) rfl)
theorem dX8_gives_32 : decode cX8_gives 32 = .ok (.invokevirtual 83, 3) := DX8_gives (32, .invokevirtual 83, 3) (List.mem_of_getElem? (i := 22) rfl)
theorem dX8_gives_35 : decode cX8_gives 35 = .ok (.iastore, 1) := DX8_gives (35, .iastore, 1) (List.mem_of_getElem? (i := 23) rfl)
theorem dX8_gives_36 : decode cX8_gives 36 = .ok (.return_, 1) := DX8_gives (36, .return_, 1) (List.mem_of_getElem? (i := 24) rfl)
noncomputable def fX8_gives (a1 : Int32) (a2 : Int32) (a3 : Int32) (σ : Mem) : Option (Mem) :=
  (fX8_cut a1.toInt64 σ).bind fun o1 =>
  chk (inb 0 3) <|
  (fX8_cut a2.toInt64 (up2 o1.2 9 (0 : Int32).toNatClampNeg o1.1)).bind fun o2 =>
  chk (inb 1 3) <|
  (fX8_cut a3.toInt64 (up2 o2.2 9 (1 : Int32).toNatClampNeg o2.1)).bind fun o3 =>
  chk (inb 2 3) <|
  some (up2 o3.2 9 (2 : Int32).toNatClampNeg o3.1)
set_option maxHeartbeats 4000000 in
set_option maxRecDepth 100000 in
theorem mX8_gives {l : Launch} {D : va_G} {cI : ClassId} {ad : Nat → Nat} {a1 : Int32} {a2 : Int32} {a3 : Int32} {σ : Mem} {out : Mem} (h : fX8_gives a1 a2 a3 σ = some out) : MV l D cI layM ad yX8_gives cX8_gives 4 rmX8_gives [.ref (ad 0), .int a1, .int a2, .int a3] σ out := by
  refine met_v (by decide) (Nat.le_of_ble_eq_true rfl) (fun E C K0 => ?_)
  show G E rmX8_gives cI layM ad 4 0 [(0, .ref (ad 0)), (1, .int a1), (2, .int a2), (3, .int a3)] [] σ
  unfold fX8_gives at h
  refine g_aload_n 1 C dX8_gives_0 rfl (j := 0) rfl rfl ?_
  refine g_getr 4 (j := 16) C rfl rfl wu_X8 (by decide) wf_X8_45 rfl dX8_gives_1 rfl ?_
  refine g_iconst 5 (v := 0) C dX8_gives_4 (by decide) rfl ?_
  refine g_aload_n 6 C dX8_gives_5 rfl (j := 0) rfl rfl ?_
  refine g_iload_n 7 C dX8_gives_6 rfl (j := 1) rfl rfl ?_
  refine g_i2l 8 C dX8_gives_7 rfl ?_
  refine g_cvi 11 C (As := [.long a1.toInt64]) (fun _ h => mX8_cut (a1 := a1.toInt64) (σ := σ) h) wl_X8_83 wi_X8_cut wz_X8_cut wc_X8_cut wn_X8 qX8_cut rfl rfl ⟨Nat.le_of_ble_eq_true rfl, Nat.le_of_ble_eq_true rfl⟩ rfl rfl rfl rfl (Nat.le_of_ble_eq_true rfl) dX8_gives_8 rfl h (fun o1 h => ?_)
  refine g_iast 12 C rfl dX8_gives_11 rfl h (fun h => ?_)
  refine g_aload_n 13 C dX8_gives_12 rfl (j := 0) rfl rfl ?_
  refine g_getr 16 (j := 16) C rfl rfl wu_X8 (by decide) wf_X8_45 rfl dX8_gives_13 rfl ?_
  refine g_iconst 17 (v := 1) C dX8_gives_16 (by decide) rfl ?_
  refine g_aload_n 18 C dX8_gives_17 rfl (j := 0) rfl rfl ?_
  refine g_iload_n 19 C dX8_gives_18 rfl (j := 2) rfl rfl ?_
  refine g_i2l 20 C dX8_gives_19 rfl ?_
  refine g_cvi 23 C (As := [.long a2.toInt64]) (fun _ h => mX8_cut (a1 := a2.toInt64) (σ := up2 o1.2 9 (0 : Int32).toNatClampNeg o1.1) h) wl_X8_83 wi_X8_cut wz_X8_cut wc_X8_cut wn_X8 qX8_cut rfl rfl ⟨Nat.le_of_ble_eq_true rfl, Nat.le_of_ble_eq_true rfl⟩ rfl rfl rfl rfl (Nat.le_of_ble_eq_true rfl) dX8_gives_20 rfl h (fun o2 h => ?_)
  refine g_iast 24 C rfl dX8_gives_23 rfl h (fun h => ?_)
  refine g_aload_n 25 C dX8_gives_24 rfl (j := 0) rfl rfl ?_
  refine g_getr 28 (j := 16) C rfl rfl wu_X8 (by decide) wf_X8_45 rfl dX8_gives_25 rfl ?_
  refine g_iconst 29 (v := 2) C dX8_gives_28 (by decide) rfl ?_
  refine g_aload_n 30 C dX8_gives_29 rfl (j := 0) rfl rfl ?_
  refine g_iload_n 31 C dX8_gives_30 rfl (j := 3) rfl rfl ?_
  refine g_i2l 32 C dX8_gives_31 rfl ?_
  refine g_cvi 35 C (As := [.long a3.toInt64]) (fun _ h => mX8_cut (a1 := a3.toInt64) (σ := up2 o2.2 9 (1 : Int32).toNatClampNeg o2.1) h) wl_X8_83 wi_X8_cut wz_X8_cut wc_X8_cut wn_X8 qX8_cut rfl rfl ⟨Nat.le_of_ble_eq_true rfl, Nat.le_of_ble_eq_true rfl⟩ rfl rfl rfl rfl (Nat.le_of_ble_eq_true rfl) dX8_gives_32 rfl h (fun o3 h => ?_)
  refine g_iast 36 C rfl dX8_gives_35 rfl h (fun h => ?_)
  cases h
  exact K0 _ _ dX8_gives_36

/-! LoopReducerModel.power(II)I -/
abbrev rmX8_power : Room := { frames := 1, cells := 0, slots := 0, locals := 22 }
theorem qX8_power : yX8_power.cls ≠ "java/lang/invoke/MethodHandle" ∧ yX8_power.cls ≠ "java/lang/invoke/VarHandle" ∧ (parseMethodDescriptor yX8_power.desc).map (fun d => d.parameters.length) = some 2 := by decide +kernel
theorem DX8_power : ∀ q ∈ ([(0, .iconst 1, 1), (1, .istore_n 3, 1), (2, .iconst 0, 1), (3, .istore 4, 2), (5, .iload 4, 2), (7, .iload_n 2, 1), (8, .if_icmp .ge 19, 3), (11, .aload_n 0, 1), (12, .iload_n 3, 1), (13, .i2l, 1), (14, .iload_n 1, 1), (15, .i2l, 1), (16, .lmul, 1), (17, .invokevirtual 83, 3), (20, .istore_n 3, 1), (21, .iinc 4 1, 3), (24, .goto (-19), 3), (27, .iload_n 3, 1), (28, .ireturn, 1)] : List (Nat × Instr × Nat)), decode cX8_power q.1 = .ok q.2 := by decide +kernel
theorem dX8_power_0 : decode cX8_power 0 = .ok (.iconst 1, 1) := DX8_power (0, .iconst 1, 1) (List.mem_of_getElem? (i := 0) rfl)
theorem dX8_power_1 : decode cX8_power 1 = .ok (.istore_n 3, 1) := DX8_power (1, .istore_n 3, 1) (List.mem_of_getElem? (i := 1) rfl)
theorem dX8_power_2 : decode cX8_power 2 = .ok (.iconst 0, 1) := DX8_power (2, .iconst 0, 1) (List.mem_of_getElem? (i := 2) rfl)
theorem dX8_power_3 : decode cX8_power 3 = .ok (.istore 4, 2) := DX8_power (3, .istore 4, 2) (List.mem_of_getElem? (i := 3) rfl)
theorem dX8_power_5 : decode cX8_power 5 = .ok (.iload 4, 2) := DX8_power (5, .iload 4, 2) (List.mem_of_getElem? (i := 4) rfl)
theorem dX8_power_7 : decode cX8_power 7 = .ok (.iload_n 2, 1) := DX8_power (7, .iload_n 2, 1) (List.mem_of_getElem? (i := 5) rfl)
theorem dX8_power_8 : decode cX8_power 8 = .ok (.if_icmp .ge 19, 3) := DX8_power (8, .if_icmp .ge 19, 3) (List.mem_of_getElem? (i := 6) rfl)
theorem dX8_power_11 : decode cX8_power 11 = .ok (.aload_n 0, 1) := DX8_power (11, .aload_n 0, 1) (List.mem_of_getElem? (i := 7) rfl)
theorem dX8_power_12 : decode cX8_power 12 = .ok (.iload_n 3, 1) := DX8_power (12, .iload_n 3, 1) (List.mem_of_getElem? (i := 8) rfl)
theorem dX8_power_13 : decode cX8_power 13 = .ok (.i2l, 1) := DX8_power (13, .i2l, 1) (List.mem_of_getElem? (i := 9) rfl)
theorem dX8_power_14 : decode cX8_power 14 = .ok (.iload_n 1, 1) := DX8_power (14, .iload_n 1, 1) (List.mem_of_getElem? (i := 10) rfl)
theorem dX8_power_15 : decode cX8_power 15 = .ok (.i2l, 1) := DX8_power (15, .i2l, 1) (List.mem_of_getElem? (i := 11) rfl)
theorem dX8_power_16 : decode cX8_power 16 = .ok (.lmul, 1) := DX8_power (16, .lmul, 1) (List.mem_of_getElem? (i := 12) rfl)
theorem dX8_power_17 : decode cX8_power 17 = .ok (.invokevirtual 83, 3) := DX8_power (17, .invokevirtual 83, 3) (List.mem_of_getElem? (i := 13) rfl)
theorem dX8_power_20 : decode cX8_power 20 = .ok (.istore_n 3, 1) := DX8_power (20, .istore_n 3, 1) (List.mem_of_getElem? (i := 14) rfl)
theorem dX8_power_21 : decode cX8_power 21 = .ok (.iinc 4 1, 3) := DX8_power (21, .iinc 4 1, 3) (List.mem_of_getElem? (i := 15) rfl)
theorem dX8_power_24 : decode cX8_power 24 = .ok (.goto (-19), 3) := DX8_power (24, .goto (-19), 3) (List.mem_of_getElem? (i := 16) rfl)
theorem dX8_power_27 : decode cX8_power 27 = .ok (.iload_n 3, 1) := DX8_power (27, .iload_n 3, 1) (List.mem_of_getElem? (i := 17) rfl)
theorem dX8_power_28 : decode cX8_power 28 = .ok (.ireturn, 1) := DX8_power (28, .ireturn, 1) (List.mem_of_getElem? (i := 18) rfl)
noncomputable def fX8_power_B5 (l1 : Int32) (l2 : Int32) (l3 : Int32) (l4 : Int32) (σ : Mem) : Option ((Int32 × Int32 × Mem) ⊕ (Int32 × Mem)) :=
  if l2 ≤ l4 then
    some (.inr (l3, σ))
  else
    (fX8_cut (l3.toInt64 * l1.toInt64) σ).bind fun o1 =>
    some (.inl (o1.1, l4 + 1, o1.2))
set_option maxHeartbeats 4000000 in
set_option maxRecDepth 100000 in
theorem tX8_power_B5 {E : Gx} {cI : ClassId} {ad : Nat → Nat} (C : Cx E rmX8_power cI layM ad 5 RX8 cX8_power) {out : Int32 × Mem} (K0 : KI E rmX8_power cI layM ad 5 cX8_power .int out) {l1 : Int32} {l2 : Int32} {l3 : Int32} {l4 : Int32} {σ : Mem} {res : (Int32 × Int32 × Mem) ⊕ (Int32 × Mem)} (h : fX8_power_B5 l1 l2 l3 l4 σ = some res) (K : Sum.elim (fun a => G E rmX8_power cI layM ad 5 5 [(0, .ref (ad 0)), (1, .int l1), (2, .int l2), (3, .int a.1), (4, .int a.2.1)] [] a.2.2) (fun b => G E rmX8_power cI layM ad 5 27 [(3, .int b.1)] [] b.2) res) : G E rmX8_power cI layM ad 5 5 [(0, .ref (ad 0)), (1, .int l1), (2, .int l2), (3, .int l3), (4, .int l4)] [] σ := by
  unfold fX8_power_B5 at h
  refine g_iload 7 C dX8_power_5 (j := 4) rfl rfl ?_
  refine g_iload_n 8 C dX8_power_7 rfl (j := 2) rfl rfl ?_
  refine g_icmp_ge 27 11 C dX8_power_8 (by decide) rfl h (fun h => ?_) (fun h => ?_)
  · have hh := end_inr h K
    exact g_sub [3] (hh) rfl
  · refine g_aload_n 12 C dX8_power_11 rfl (j := 0) rfl rfl ?_
    refine g_iload_n 13 C dX8_power_12 rfl (j := 3) rfl rfl ?_
    refine g_i2l 14 C dX8_power_13 rfl ?_
    refine g_iload_n 15 C dX8_power_14 rfl (j := 1) rfl rfl ?_
    refine g_i2l 16 C dX8_power_15 rfl ?_
    refine g_lmul 17 C dX8_power_16 rfl ?_
    refine g_cvi 20 C (As := [.long (l3.toInt64 * l1.toInt64)]) (fun _ h => mX8_cut (a1 := l3.toInt64 * l1.toInt64) (σ := σ) h) wl_X8_83 wi_X8_cut wz_X8_cut wc_X8_cut wn_X8 qX8_cut rfl rfl ⟨Nat.le_of_ble_eq_true rfl, Nat.le_of_ble_eq_true rfl⟩ rfl rfl rfl rfl (Nat.le_of_ble_eq_true rfl) dX8_power_17 rfl h (fun o1 h => ?_)
    refine g_istore_n 21 [(3, .int o1.1), (0, .ref (ad 0)), (1, .int l1), (2, .int l2), (4, .int l4)] C dX8_power_20 rfl (by decide) rfl rfl ?_
    refine g_iinc 24 [(4, .int (l4 + 1)), (3, .int o1.1), (0, .ref (ad 0)), (1, .int l1), (2, .int l2)] C dX8_power_21 (j := 4) rfl (by rfl) (by decide) rfl rfl ?_
    refine g_goto 5 C dX8_power_24 (by decide) ?_
    have hh := end_inl h K
    exact g_sub [2, 3, 4, 1, 0] (hh) rfl
noncomputable def fX8_power_L27 (l3 : Int32) (σ : Mem) : Option (Int32 × Mem) :=
  some (l3, σ)
set_option maxHeartbeats 4000000 in
set_option maxRecDepth 100000 in
theorem tX8_power_L27 {E : Gx} {cI : ClassId} {ad : Nat → Nat} (C : Cx E rmX8_power cI layM ad 5 RX8 cX8_power) {out : Int32 × Mem} (K0 : KI E rmX8_power cI layM ad 5 cX8_power .int out) {l3 : Int32} {σ : Mem} (h : fX8_power_L27 l3 σ = some out) : G E rmX8_power cI layM ad 5 27 [(3, .int l3)] [] σ := by
  unfold fX8_power_L27 at h
  refine g_iload_n 28 C dX8_power_27 rfl (j := 0) rfl rfl ?_
  cases h
  exact K0 _ _ dX8_power_28 rfl
noncomputable def fX8_power (a1 : Int32) (a2 : Int32) (σ : Mem) : Option (Int32 × Mem) :=
  (loop (fun a => fX8_power_B5 a1 a2 a.1 a.2.1 a.2.2) (1, 0, σ)).bind fun b2 =>
  fX8_power_L27 b2.1 b2.2
set_option maxHeartbeats 4000000 in
set_option maxRecDepth 100000 in
theorem mX8_power {l : Launch} {D : va_G} {cI : ClassId} {ad : Nat → Nat} {a1 : Int32} {a2 : Int32} {σ : Mem} {out : Int32 × Mem} (h : fX8_power a1 a2 σ = some out) : MI l D cI layM ad yX8_power cX8_power 5 .int rmX8_power [.ref (ad 0), .int a1, .int a2] σ out := by
  refine met_i (by decide) (Nat.le_of_ble_eq_true rfl) (fun E C K0 => ?_)
  show G E rmX8_power cI layM ad 5 0 [(0, .ref (ad 0)), (1, .int a1), (2, .int a2)] [] σ
  unfold fX8_power at h
  refine g_iconst 1 (v := 1) C dX8_power_0 (by decide) rfl ?_
  refine g_istore_n 2 [(3, .int 1), (0, .ref (ad 0)), (1, .int a1), (2, .int a2)] C dX8_power_1 rfl (by decide) rfl rfl ?_
  refine g_iconst 3 (v := 0) C dX8_power_2 (by decide) rfl ?_
  refine g_istore 5 [(4, .int 0), (3, .int 1), (0, .ref (ad 0)), (1, .int a1), (2, .int a2)] C dX8_power_3 (by decide) rfl rfl ?_
  obtain ⟨b2, hb, h⟩ := bind_some h
  refine g_sub [2, 3, 4, 1, 0] (g_loop (a := (1, 0, σ)) (fun a => G E rmX8_power cI layM ad 5 5 [(0, .ref (ad 0)), (1, .int a1), (2, .int a2), (3, .int a.1), (4, .int a.2.1)] [] a.2.2) (fun b => G E rmX8_power cI layM ad 5 27 [(3, .int b.1)] [] b.2) hb (fun a res h K => tX8_power_B5 (l1 := a1) (l2 := a2) (l3 := a.1) (l4 := a.2.1) (σ := a.2.2) (res := res) C K0 h K) ?_) rfl
  show G E rmX8_power cI layM ad 5 27 [(3, .int b2.1)] [] b2.2
  exact tX8_power_L27 (l3 := b2.1) (σ := b2.2) C K0 h

/-! LoopReducerModel.valueOf(II)I -/
abbrev rmX8_valueOf : Room := { frames := 2, cells := 0, slots := 0, locals := 54 }
theorem qX8_valueOf : yX8_valueOf.cls ≠ "java/lang/invoke/MethodHandle" ∧ yX8_valueOf.cls ≠ "java/lang/invoke/VarHandle" ∧ (parseMethodDescriptor yX8_valueOf.desc).map (fun d => d.parameters.length) = some 2 := by decide +kernel
theorem DX8_valueOf : ∀ q ∈ ([(0, .lconst 0, 1), (1, .lstore_n 3, 1), (2, .iconst 0, 1), (3, .istore 5, 2), (5, .iload 5, 2), (7, .sipush 343, 3), (10, .if_icmp .ge 110, 3), (13, .aload_n 0, 1), (14, .getfield 8, 3), (17, .sipush 1372, 3), (20, .iload_n 1, 1), (21, .imul, 1), (22, .sipush 343, 3), (25, .iload_n 2, 1), (26, .imul, 1), (27, .iadd, 1), (28, .iload 5, 2), (30, .iadd, 1), (31, .iaload, 1), (32, .istore 6, 2), (34, .iload 6, 2), (36, .ifCond .eq 78, 3), (39, .lload_n 3, 1), (40, .aload_n 0, 1), (41, .iload 6, 2), (43, .i2l, 1), (44, .aload_n 0, 1), (45, .aload_n 0, 1), (46, .aload_n 0, 1), (47, .getfield 45, 3), (50, .iconst 0, 1), (51, .iaload, 1), (52, .iload 5, 2), (54, .bipush 7, 2), (56, .irem, 1), (57, .invokevirtual 202, 3), (60, .i2l, 1), (61, .aload_n 0, 1), (62, .aload_n 0, 1), (63, .aload_n 0, 1), (64, .getfield 45, 3), (67, .iconst 1, 1), (68, .iaload, 1), (69, .iload 5, 2), (71, .bipush 7, 2), (73, .idiv, 1), (74, .bipush 7, 2), (76, .irem, 1), (77, .invokevirtual 202, 3), (80, .i2l, 1), (81, .aload_n 0, 1), (82, .aload_n 0, 1), (83, .getfield 45, 3), (86, .iconst 2, 1), (87, .iaload, 1), (88, .iload 5, 2), (90, .bipush 49, 2), (92, .idiv, 1), (93, .invokevirtual 202, 3), (96, .i2l, 1), (97, .lmul, 1), (98, .invokevirtual 83, 3), (101, .i2l, 1), (102, .lmul, 1), (103, .invokevirtual 83, 3), (106, .i2l, 1), (107, .lmul, 1), (108, .invokevirtual 83, 3), (111, .i2l, 1), (112, .ladd, 1), (113, .lstore_n 3, 1), (114, .iinc 5 1, 3), (117, .goto (-112), 3), (120, .aload_n 0, 1), (121, .lload_n 3, 1), (122, .invokevirtual 83, 3), (125, .ireturn, 1)] : List (Nat × Instr × Nat)), decode cX8_valueOf q.1 = .ok q.2 := by decide +kernel
theorem dX8_valueOf_0 : decode cX8_valueOf 0 = .ok (.lconst 0, 1) := DX8_valueOf (0, .lconst 0, 1) (List.mem_of_getElem? (i := 0) rfl)
theorem dX8_valueOf_1 : decode cX8_valueOf 1 = .ok (.lstore_n 3, 1) := DX8_valueOf (1, .lstore_n 3, 1) (List.mem_of_getElem? (i := 1) rfl)
theorem dX8_valueOf_2 : decode cX8_valueOf 2 = .ok (.iconst 0, 1) := DX8_valueOf (2, .iconst 0, 1) (List.mem_of_getElem? (i := 2) rfl)
theorem dX8_valueOf_3 : decode cX8_valueOf 3 = .ok (.istore 5, 2) := DX8_valueOf (3, .istore 5, 2) (List.mem_of_getElem? (i := 3) rfl)
theorem dX8_valueOf_5 : decode cX8_valueOf 5 = .ok (.iload 5, 2) := DX8_valueOf (5, .iload 5, 2) (List.mem_of_getElem? (i := 4) rfl)
theorem dX8_valueOf_7 : decode cX8_valueOf 7 = .ok (.sipush 343, 3) := DX8_valueOf (7, .sipush 343, 3) (List.mem_of_getElem? (i := 5) rfl)
theorem dX8_valueOf_10 : decode cX8_valueOf 10 = .ok (.if_icmp .ge 110, 3) := DX8_valueOf (10, .if_icmp .ge 110, 3) (List.mem_of_getElem? (i := 6) rfl)
theorem dX8_valueOf_13 : decode cX8_valueOf 13 = .ok (.aload_n 0, 1) := DX8_valueOf (13, .aload_n 0, 1) (List.mem_of_getElem? (i := 7) rfl)
theorem dX8_valueOf_14 : decode cX8_valueOf 14 = .ok (.getfield 8, 3) := DX8_valueOf (14, .getfield 8, 3) (List.mem_of_getElem? (i := 8) rfl)
theorem dX8_valueOf_17 : decode cX8_valueOf 17 = .ok (.sipush 1372, 3) := DX8_valueOf (17, .sipush 1372, 3) (List.mem_of_getElem? (i := 9) rfl)
theorem dX8_valueOf_20 : decode cX8_valueOf 20 = .ok (.iload_n 1, 1) := DX8_valueOf (20, .iload_n 1, 1) (List.mem_of_getElem? (i := 10) rfl)
theorem dX8_valueOf_21 : decode cX8_valueOf 21 = .ok (.imul, 1) := DX8_valueOf (21, .imul, 1) (List.mem_of_getElem? (i := 11) rfl)
theorem dX8_valueOf_22 : decode cX8_valueOf 22 = .ok (.sipush 343, 3) := DX8_valueOf (22, .sipush 343, 3) (List.mem_of_getElem? (i := 12) rfl)
theorem dX8_valueOf_25 : decode cX8_valueOf 25 = .ok (.iload_n 2, 1) := DX8_valueOf (25, .iload_n 2, 1) (List.mem_of_getElem? (i := 13) rfl)
theorem dX8_valueOf_26 : decode cX8_valueOf 26 = .ok (.imul, 1) := DX8_valueOf (26, .imul, 1) (List.mem_of_getElem? (i := 14) rfl)
theorem dX8_valueOf_27 : decode cX8_valueOf 27 = .ok (.iadd, 1) := DX8_valueOf (27, .iadd, 1) (List.mem_of_getElem? (i := 15) rfl)
theorem dX8_valueOf_28 : decode cX8_valueOf 28 = .ok (.iload 5, 2) := DX8_valueOf (28, .iload 5, 2) (List.mem_of_getElem? (i := 16) rfl)
theorem dX8_valueOf_30 : decode cX8_valueOf 30 = .ok (.iadd, 1) := DX8_valueOf (30, .iadd, 1) (List.mem_of_getElem? (i := 17) rfl)
theorem dX8_valueOf_31 : decode cX8_valueOf 31 = .ok (.iaload, 1) := DX8_valueOf (31, .iaload, 1) (List.mem_of_getElem? (i := 18) rfl)
theorem dX8_valueOf_32 : decode cX8_valueOf 32 = .ok (.istore 6, 2) := DX8_valueOf (32, .istore 6, 2) (List.mem_of_getElem? (i := 19) rfl)
theorem dX8_valueOf_34 : decode cX8_valueOf 34 = .ok (.iload 6, 2) := DX8_valueOf (34, .iload 6, 2) (List.mem_of_getElem? (i := 20) rfl)
theorem dX8_valueOf_36 : decode cX8_valueOf 36 = .ok (.ifCond .eq 78, 3) := DX8_valueOf (36, .ifCond .eq 78, 3) (List.mem_of_getElem? (i := 21) rfl)
theorem dX8_valueOf_39 : decode cX8_valueOf 39 = .ok (.lload_n 3, 1) := DX8_valueOf (39, .lload_n 3, 1) (List.mem_of_getElem? (i := 22) rfl)
theorem dX8_valueOf_40 : decode cX8_valueOf 40 = .ok (.aload_n 0, 1) := DX8_valueOf (40, .aload_n 0, 1) (List.mem_of_getElem? (i := 23) rfl)
theorem dX8_valueOf_41 : decode cX8_valueOf 41 = .ok (.iload 6, 2) := DX8_valueOf (41, .iload 6, 2) (List.mem_of_getElem? (i := 24) rfl)
theorem dX8_valueOf_43 : decode cX8_valueOf 43 = .ok (.i2l, 1) := DX8_valueOf (43, .i2l, 1) (List.mem_of_getElem? (i := 25) rfl)
theorem dX8_valueOf_44 : decode cX8_valueOf 44 = .ok (.aload_n 0, 1) := DX8_valueOf (44, .aload_n 0, 1) (List.mem_of_getElem? (i := 26) rfl)
theorem dX8_valueOf_45 : decode cX8_valueOf 45 = .ok (.aload_n 0, 1) := DX8_valueOf (45, .aload_n 0, 1) (List.mem_of_getElem? (i := 27) rfl)
theorem dX8_valueOf_46 : decode cX8_valueOf 46 = .ok (.aload_n 0, 1) := DX8_valueOf (46, .aload_n 0, 1) (List.mem_of_getElem? (i := 28) rfl)
theorem dX8_valueOf_47 : decode cX8_valueOf 47 = .ok (.getfield 45, 3) := DX8_valueOf (47, .getfield 45, 3) (List.mem_of_getElem? (i := 29) rfl)
theorem dX8_valueOf_50 : decode cX8_valueOf 50 = .ok (.iconst 0, 1) := DX8_valueOf (50, .iconst 0, 1) (List.mem_of_getElem? (i := 30) rfl)
theorem dX8_valueOf_51 : decode cX8_valueOf 51 = .ok (.iaload, 1) := DX8_valueOf (51, .iaload, 1) (List.mem_of_getElem? (i := 31) rfl)
theorem dX8_valueOf_52 : decode cX8_valueOf 52 = .ok (.iload 5, 2) := DX8_valueOf (52, .iload 5, 2) (List.mem_of_getElem? (i := 32) rfl)
theorem dX8_valueOf_54 : decode cX8_valueOf 54 = .ok (.bipush 7, 2) := DX8_valueOf (54, .bipush 7, 2) (List.mem_of_getElem? (i := 33) rfl)
theorem dX8_valueOf_56 : decode cX8_valueOf 56 = .ok (.irem, 1) := DX8_valueOf (56, .irem, 1) (List.mem_of_getElem? (i := 34) rfl)
theorem dX8_valueOf_57 : decode cX8_valueOf 57 = .ok (.invokevirtual 202, 3) := DX8_valueOf (57, .invokevirtual 202, 3) (List.mem_of_getElem? (i := 35) rfl)
theorem dX8_valueOf_60 : decode cX8_valueOf 60 = .ok (.i2l, 1) := DX8_valueOf (60, .i2l, 1) (List.mem_of_getElem? (i := 36) rfl)
theorem dX8_valueOf_61 : decode cX8_valueOf 61 = .ok (.aload_n 0, 1) := DX8_valueOf (61, .aload_n 0, 1) (List.mem_of_getElem? (i := 37) rfl)
theorem dX8_valueOf_62 : decode cX8_valueOf 62 = .ok (.aload_n 0, 1) := DX8_valueOf (62, .aload_n 0, 1) (List.mem_of_getElem? (i := 38) rfl)
theorem dX8_valueOf_63 : decode cX8_valueOf 63 = .ok (.aload_n 0, 1) := DX8_valueOf (63, .aload_n 0, 1) (List.mem_of_getElem? (i := 39) rfl)
theorem dX8_valueOf_64 : decode cX8_valueOf 64 = .ok (.getfield 45, 3) := DX8_valueOf (64, .getfield 45, 3) (List.mem_of_getElem? (i := 40) rfl)
theorem dX8_valueOf_67 : decode cX8_valueOf 67 = .ok (.iconst 1, 1) := DX8_valueOf (67, .iconst 1, 1) (List.mem_of_getElem? (i := 41) rfl)
theorem dX8_valueOf_68 : decode cX8_valueOf 68 = .ok (.iaload, 1) := DX8_valueOf (68, .iaload, 1) (List.mem_of_getElem? (i := 42) rfl)
theorem dX8_valueOf_69 : decode cX8_valueOf 69 = .ok (.iload 5, 2) := DX8_valueOf (69, .iload 5, 2) (List.mem_of_getElem? (i := 43) rfl)
theorem dX8_valueOf_71 : decode cX8_valueOf 71 = .ok (.bipush 7, 2) := DX8_valueOf (71, .bipush 7, 2) (List.mem_of_getElem? (i := 44) rfl)
theorem dX8_valueOf_73 : decode cX8_valueOf 73 = .ok (.idiv, 1) := DX8_valueOf (73, .idiv, 1) (List.mem_of_getElem? (i := 45) rfl)
theorem dX8_valueOf_74 : decode cX8_valueOf 74 = .ok (.bipush 7, 2) := DX8_valueOf (74, .bipush 7, 2) (List.mem_of_getElem? (i := 46) rfl)
theorem dX8_valueOf_76 : decode cX8_valueOf 76 = .ok (.irem, 1) := DX8_valueOf (76, .irem, 1) (List.mem_of_getElem? (i := 47) rfl)
theorem dX8_valueOf_77 : decode cX8_valueOf 77 = .ok (.invokevirtual 202, 3) := DX8_valueOf (77, .invokevirtual 202, 3) (List.mem_of_getElem? (i := 48) rfl)
theorem dX8_valueOf_80 : decode cX8_valueOf 80 = .ok (.i2l, 1) := DX8_valueOf (80, .i2l, 1) (List.mem_of_getElem? (i := 49) rfl)
theorem dX8_valueOf_81 : decode cX8_valueOf 81 = .ok (.aload_n 0, 1) := DX8_valueOf (81, .aload_n 0, 1) (List.mem_of_getElem? (i := 50) rfl)
theorem dX8_valueOf_82 : decode cX8_valueOf 82 = .ok (.aload_n 0, 1) := DX8_valueOf (82, .aload_n 0, 1) (List.mem_of_getElem? (i := 51) rfl)
theorem dX8_valueOf_83 : decode cX8_valueOf 83 = .ok (.getfield 45, 3) := DX8_valueOf (83, .getfield 45, 3) (List.mem_of_getElem? (i := 52) rfl)
theorem dX8_valueOf_86 : decode cX8_valueOf 86 = .ok (.iconst 2, 1) := DX8_valueOf (86, .iconst 2, 1) (List.mem_of_getElem? (i := 53) rfl)
theorem dX8_valueOf_87 : decode cX8_valueOf 87 = .ok (.iaload, 1) := DX8_valueOf (87, .iaload, 1) (List.mem_of_getElem? (i := 54) rfl)
theorem dX8_valueOf_88 : decode cX8_valueOf 88 = .ok (.iload 5, 2) := DX8_valueOf (88, .iload 5, 2) (List.mem_of_getElem? (i := 55) rfl)
theorem dX8_valueOf_90 : decode cX8_valueOf 90 = .ok (.bipush 49, 2) := DX8_valueOf (90, .bipush 49, 2) (List.mem_of_getElem? (i := 56) rfl)
theorem dX8_valueOf_92 : decode cX8_valueOf 92 = .ok (.idiv, 1) := DX8_valueOf (92, .idiv, 1) (List.mem_of_getElem? (i := 57) rfl)
theorem dX8_valueOf_93 : decode cX8_valueOf 93 = .ok (.invokevirtual 202, 3) := DX8_valueOf (93, .invokevirtual 202, 3) (List.mem_of_getElem? (i := 58) rfl)
theorem dX8_valueOf_96 : decode cX8_valueOf 96 = .ok (.i2l, 1) := DX8_valueOf (96, .i2l, 1) (List.mem_of_getElem? (i := 59) rfl)
theorem dX8_valueOf_97 : decode cX8_valueOf 97 = .ok (.lmul, 1) := DX8_valueOf (97, .lmul, 1) (List.mem_of_getElem? (i := 60) rfl)
theorem dX8_valueOf_98 : decode cX8_valueOf 98 = .ok (.invokevirtual 83, 3) := DX8_valueOf (98, .invokevirtual 83, 3) (List.mem_of_getElem? (i := 61) rfl)
theorem dX8_valueOf_101 : decode cX8_valueOf 101 = .ok (.i2l, 1) := DX8_valueOf (101, .i2l, 1) (List.mem_of_getElem? (i := 62) rfl)
theorem dX8_valueOf_102 : decode cX8_valueOf 102 = .ok (.lmul, 1) := DX8_valueOf (102, .lmul, 1) (List.mem_of_getElem? (i := 63) rfl)
theorem dX8_valueOf_103 : decode cX8_valueOf 103 = .ok (.invokevirtual 83, 3) := DX8_valueOf (103, .invokevirtual 83, 3) (List.mem_of_getElem? (i := 64) rfl)
theorem dX8_valueOf_106 : decode cX8_valueOf 106 = .ok (.i2l, 1) := DX8_valueOf (106, .i2l, 1) (List.mem_of_getElem? (i := 65) rfl)
theorem dX8_valueOf_107 : decode cX8_valueOf 107 = .ok (.lmul, 1) := DX8_valueOf (107, .lmul, 1) (List.mem_of_getElem? (i := 66) rfl)
theorem dX8_valueOf_108 : decode cX8_valueOf 108 = .ok (.invokevirtual 83, 3) := DX8_valueOf (108, .invokevirtual 83, 3) (List.mem_of_getElem? (i := 67) rfl)
theorem dX8_valueOf_111 : decode cX8_valueOf 111 = .ok (.i2l, 1) := DX8_valueOf (111, .i2l, 1) (List.mem_of_getElem? (i := 68) rfl)
theorem dX8_valueOf_112 : decode cX8_valueOf 112 = .ok (.ladd, 1) := DX8_valueOf (112, .ladd, 1) (List.mem_of_getElem? (i := 69) rfl)
theorem dX8_valueOf_113 : decode cX8_valueOf 113 = .ok (.lstore_n 3, 1) := DX8_valueOf (113, .lstore_n 3, 1) (List.mem_of_getElem? (i := 70) rfl)
theorem dX8_valueOf_114 : decode cX8_valueOf 114 = .ok (.iinc 5 1, 3) := DX8_valueOf (114, .iinc 5 1, 3) (List.mem_of_getElem? (i := 71) rfl)
theorem dX8_valueOf_117 : decode cX8_valueOf 117 = .ok (.goto (-112), 3) := DX8_valueOf (117, .goto (-112), 3) (List.mem_of_getElem? (i := 72) rfl)
theorem dX8_valueOf_120 : decode cX8_valueOf 120 = .ok (.aload_n 0, 1) := DX8_valueOf (120, .aload_n 0, 1) (List.mem_of_getElem? (i := 73) rfl)
theorem dX8_valueOf_121 : decode cX8_valueOf 121 = .ok (.lload_n 3, 1) := DX8_valueOf (121, .lload_n 3, 1) (List.mem_of_getElem? (i := 74) rfl)
theorem dX8_valueOf_122 : decode cX8_valueOf 122 = .ok (.invokevirtual 83, 3) := DX8_valueOf (122, .invokevirtual 83, 3) (List.mem_of_getElem? (i := 75) rfl)
theorem dX8_valueOf_125 : decode cX8_valueOf 125 = .ok (.ireturn, 1) := DX8_valueOf (125, .ireturn, 1) (List.mem_of_getElem? (i := 76) rfl)
noncomputable def fX8_valueOf_L114 (l1 : Int32) (l2 : Int32) (l3 : Int64) (l5 : Int32) (σ : Mem) : Option ((Int64 × Int32 × Mem) ⊕ (Int64 × Mem)) :=
  some (.inl (l3, l5 + 1, σ))
set_option maxHeartbeats 4000000 in
set_option maxRecDepth 100000 in
theorem tX8_valueOf_L114 {E : Gx} {cI : ClassId} {ad : Nat → Nat} (C : Cx E rmX8_valueOf cI layM ad 7 RX8 cX8_valueOf) {out : Int32 × Mem} (K0 : KI E rmX8_valueOf cI layM ad 7 cX8_valueOf .int out) {l1 : Int32} {l2 : Int32} {l3 : Int64} {l5 : Int32} {σ : Mem} {res : (Int64 × Int32 × Mem) ⊕ (Int64 × Mem)} (h : fX8_valueOf_L114 l1 l2 l3 l5 σ = some res) (K : Sum.elim (fun a => G E rmX8_valueOf cI layM ad 7 5 [(0, .ref (ad 0)), (1, .int l1), (2, .int l2), (3, .long a.1), (5, .int a.2.1)] [] a.2.2) (fun b => G E rmX8_valueOf cI layM ad 7 120 [(0, .ref (ad 0)), (3, .long b.1)] [] b.2) res) : G E rmX8_valueOf cI layM ad 7 114 [(0, .ref (ad 0)), (1, .int l1), (2, .int l2), (3, .long l3), (5, .int l5)] [] σ := by
  unfold fX8_valueOf_L114 at h
  refine g_iinc 117 [(5, .int (l5 + 1)), (0, .ref (ad 0)), (1, .int l1), (2, .int l2), (3, .long l3)] C dX8_valueOf_114 (j := 4) rfl (by rfl) (by decide) rfl rfl ?_
  refine g_goto 5 C dX8_valueOf_117 (by decide) ?_
  have hh := end_inl h K
  exact g_sub [1, 2, 3, 4, 0] (hh) rfl
noncomputable def fX8_valueOf_B5 (l1 : Int32) (l2 : Int32) (l3 : Int64) (l5 : Int32) (σ : Mem) : Option ((Int64 × Int32 × Mem) ⊕ (Int64 × Mem)) :=
  if 343 ≤ l5 then
    some (.inr (l3, σ))
  else
    chk (inb (((1372 * l1) + (343 * l2)) + l5) 170128) <|
    if (σ 1 (((1372 * l1) + (343 * l2)) + l5).toNatClampNeg) = 0 then
      fX8_valueOf_L114 l1 l2 l3 l5 σ
    else
      chk (inb 0 3) <|
      (fX8_power (σ 9 (0 : Int32).toNatClampNeg) (l5 - l5 / 7 * 7) σ).bind fun o1 =>
      chk (inb 1 3) <|
      (fX8_power (o1.2 9 (1 : Int32).toNatClampNeg) ((l5 / 7) - (l5 / 7) / 7 * 7) o1.2).bind fun o2 =>
      chk (inb 2 3) <|
      (fX8_power (o2.2 9 (2 : Int32).toNatClampNeg) (l5 / 49) o2.2).bind fun o3 =>
      (fX8_cut (((o2.1).toInt64) * ((o3.1).toInt64)) o3.2).bind fun o4 =>
      (fX8_cut (((o1.1).toInt64) * ((o4.1).toInt64)) o4.2).bind fun o5 =>
      (fX8_cut (((σ 1 (((1372 * l1) + (343 * l2)) + l5).toNatClampNeg).toInt64) * ((o5.1).toInt64)) o5.2).bind fun o6 =>
      fX8_valueOf_L114 l1 l2 (l3 + ((o6.1).toInt64)) l5 o6.2
set_option maxHeartbeats 4000000 in
set_option maxRecDepth 100000 in
theorem tX8_valueOf_B5 {E : Gx} {cI : ClassId} {ad : Nat → Nat} (C : Cx E rmX8_valueOf cI layM ad 7 RX8 cX8_valueOf) {out : Int32 × Mem} (K0 : KI E rmX8_valueOf cI layM ad 7 cX8_valueOf .int out) {l1 : Int32} {l2 : Int32} {l3 : Int64} {l5 : Int32} {σ : Mem} {res : (Int64 × Int32 × Mem) ⊕ (Int64 × Mem)} (h : fX8_valueOf_B5 l1 l2 l3 l5 σ = some res) (K : Sum.elim (fun a => G E rmX8_valueOf cI layM ad 7 5 [(0, .ref (ad 0)), (1, .int l1), (2, .int l2), (3, .long a.1), (5, .int a.2.1)] [] a.2.2) (fun b => G E rmX8_valueOf cI layM ad 7 120 [(0, .ref (ad 0)), (3, .long b.1)] [] b.2) res) : G E rmX8_valueOf cI layM ad 7 5 [(0, .ref (ad 0)), (1, .int l1), (2, .int l2), (3, .long l3), (5, .int l5)] [] σ := by
  unfold fX8_valueOf_B5 at h
  refine g_iload 7 C dX8_valueOf_5 (j := 4) rfl rfl ?_
  refine g_sipush 10 (v := 343) C dX8_valueOf_7 (by decide) rfl ?_
  refine g_icmp_ge 120 13 C dX8_valueOf_10 (by decide) rfl h (fun h => ?_) (fun h => ?_)
  · have hh := end_inr h K
    exact g_sub [0, 3] (hh) rfl
  · refine g_aload_n 14 C dX8_valueOf_13 rfl (j := 0) rfl rfl ?_
    refine g_getr 17 (j := 0) C rfl rfl wu_X8 (by decide) wf_X8_8 rfl dX8_valueOf_14 rfl ?_
    refine g_sipush 20 (v := 1372) C dX8_valueOf_17 (by decide) rfl ?_
    refine g_iload_n 21 C dX8_valueOf_20 rfl (j := 1) rfl rfl ?_
    refine g_imul 22 C dX8_valueOf_21 rfl ?_
    refine g_sipush 25 (v := 343) C dX8_valueOf_22 (by decide) rfl ?_
    refine g_iload_n 26 C dX8_valueOf_25 rfl (j := 2) rfl rfl ?_
    refine g_imul 27 C dX8_valueOf_26 rfl ?_
    refine g_iadd 28 C dX8_valueOf_27 rfl ?_
    refine g_iload 30 C dX8_valueOf_28 (j := 4) rfl rfl ?_
    refine g_iadd 31 C dX8_valueOf_30 rfl ?_
    refine g_iald 32 C rfl dX8_valueOf_31 rfl h (fun h => ?_)
    refine g_istore 34 [(6, .int (σ 1 (((1372 * l1) + (343 * l2)) + l5).toNatClampNeg)), (0, .ref (ad 0)), (1, .int l1), (2, .int l2), (3, .long l3), (5, .int l5)] C dX8_valueOf_32 (by decide) rfl rfl ?_
    refine g_iload 36 C dX8_valueOf_34 (j := 0) rfl rfl ?_
    refine g_if_eq 114 39 C dX8_valueOf_36 (by decide) rfl h (fun h => ?_) (fun h => ?_)
    · exact g_sub [1, 2, 3, 4, 5] (tX8_valueOf_L114 (l1 := l1) (l2 := l2) (l3 := l3) (l5 := l5) (σ := σ) C K0 h K) rfl
    · refine g_lload_n 40 C dX8_valueOf_39 rfl (j := 4) rfl rfl ?_
      refine g_aload_n 41 C dX8_valueOf_40 rfl (j := 1) rfl rfl ?_
      refine g_iload 43 C dX8_valueOf_41 (j := 0) rfl rfl ?_
      refine g_i2l 44 C dX8_valueOf_43 rfl ?_
      refine g_aload_n 45 C dX8_valueOf_44 rfl (j := 1) rfl rfl ?_
      refine g_aload_n 46 C dX8_valueOf_45 rfl (j := 1) rfl rfl ?_
      refine g_aload_n 47 C dX8_valueOf_46 rfl (j := 1) rfl rfl ?_
      refine g_getr 50 (j := 16) C rfl rfl wu_X8 (by decide) wf_X8_45 rfl dX8_valueOf_47 rfl ?_
      refine g_iconst 51 (v := 0) C dX8_valueOf_50 (by decide) rfl ?_
      refine g_iald 52 C rfl dX8_valueOf_51 rfl h (fun h => ?_)
      refine g_iload 54 C dX8_valueOf_52 (j := 5) rfl rfl ?_
      refine g_bipush 56 (v := 7) C dX8_valueOf_54 (by decide) rfl ?_
      refine g_irem 57 C dX8_valueOf_56 (by decide) rfl ?_
      refine g_cvi 60 C (As := [.int (σ 9 (0 : Int32).toNatClampNeg), .int (l5 - l5 / 7 * 7)]) (fun _ h => mX8_power (a1 := σ 9 (0 : Int32).toNatClampNeg) (a2 := l5 - l5 / 7 * 7) (σ := σ) h) wl_X8_202 wi_X8_power wz_X8_power wc_X8_power wn_X8 qX8_power rfl rfl ⟨Nat.le_of_ble_eq_true rfl, Nat.le_of_ble_eq_true rfl⟩ rfl rfl rfl rfl (Nat.le_of_ble_eq_true rfl) dX8_valueOf_57 rfl h (fun o1 h => ?_)
      refine g_i2l 61 C dX8_valueOf_60 rfl ?_
      refine g_aload_n 62 C dX8_valueOf_61 rfl (j := 1) rfl rfl ?_
      refine g_aload_n 63 C dX8_valueOf_62 rfl (j := 1) rfl rfl ?_
      refine g_aload_n 64 C dX8_valueOf_63 rfl (j := 1) rfl rfl ?_
      refine g_getr 67 (j := 16) C rfl rfl wu_X8 (by decide) wf_X8_45 rfl dX8_valueOf_64 rfl ?_
      refine g_iconst 68 (v := 1) C dX8_valueOf_67 (by decide) rfl ?_
      refine g_iald 69 C rfl dX8_valueOf_68 rfl h (fun h => ?_)
      refine g_iload 71 C dX8_valueOf_69 (j := 5) rfl rfl ?_
      refine g_bipush 73 (v := 7) C dX8_valueOf_71 (by decide) rfl ?_
      refine g_idiv 74 C dX8_valueOf_73 (by decide) rfl ?_
      refine g_bipush 76 (v := 7) C dX8_valueOf_74 (by decide) rfl ?_
      refine g_irem 77 C dX8_valueOf_76 (by decide) rfl ?_
      refine g_cviW 80 C (As := [.int (o1.2 9 (1 : Int32).toNatClampNeg), .int ((l5 / 7) - (l5 / 7) / 7 * 7)]) (fun _ h => mX8_power (a1 := o1.2 9 (1 : Int32).toNatClampNeg) (a2 := (l5 / 7) - (l5 / 7) / 7 * 7) (σ := o1.2) h) wl_X8_202 wi_X8_power wz_X8_power wc_X8_power wn_X8 qX8_power rfl rfl ⟨Nat.le_of_ble_eq_true rfl, Nat.le_of_ble_eq_true rfl⟩ rfl rfl rfl rfl (Nat.le_of_ble_eq_true rfl) dX8_valueOf_77 rfl h (fun o2 h => ?_)
      refine g_i2l 81 C dX8_valueOf_80 rfl ?_
      refine g_aload_n 82 C dX8_valueOf_81 rfl (j := 1) rfl rfl ?_
      refine g_aload_n 83 C dX8_valueOf_82 rfl (j := 1) rfl rfl ?_
      refine g_getr 86 (j := 16) C rfl rfl wu_X8 (by decide) wf_X8_45 rfl dX8_valueOf_83 rfl ?_
      refine g_iconst 87 (v := 2) C dX8_valueOf_86 (by decide) rfl ?_
      refine g_iald 88 C rfl dX8_valueOf_87 rfl h (fun h => ?_)
      refine g_iload 90 C dX8_valueOf_88 (j := 5) rfl rfl ?_
      refine g_bipush 92 (v := 49) C dX8_valueOf_90 (by decide) rfl ?_
      refine g_idiv 93 C dX8_valueOf_92 (by decide) rfl ?_
      refine g_cviW 96 C (As := [.int (o2.2 9 (2 : Int32).toNatClampNeg), .int (l5 / 49)]) (fun _ h => mX8_power (a1 := o2.2 9 (2 : Int32).toNatClampNeg) (a2 := l5 / 49) (σ := o2.2) h) wl_X8_202 wi_X8_power wz_X8_power wc_X8_power wn_X8 qX8_power rfl rfl ⟨Nat.le_of_ble_eq_true rfl, Nat.le_of_ble_eq_true rfl⟩ rfl rfl rfl rfl (Nat.le_of_ble_eq_true rfl) dX8_valueOf_93 rfl h (fun o3 h => ?_)
      refine g_i2l 97 C dX8_valueOf_96 rfl ?_
      refine g_lmul 98 C dX8_valueOf_97 rfl ?_
      refine g_cvi 101 C (As := [.long (((o2.1).toInt64) * ((o3.1).toInt64))]) (fun _ h => mX8_cut (a1 := ((o2.1).toInt64) * ((o3.1).toInt64)) (σ := o3.2) h) wl_X8_83 wi_X8_cut wz_X8_cut wc_X8_cut wn_X8 qX8_cut rfl rfl ⟨Nat.le_of_ble_eq_true rfl, Nat.le_of_ble_eq_true rfl⟩ rfl rfl rfl rfl (Nat.le_of_ble_eq_true rfl) dX8_valueOf_98 rfl h (fun o4 h => ?_)
      refine g_i2l 102 C dX8_valueOf_101 rfl ?_
      refine g_lmul 103 C dX8_valueOf_102 rfl ?_
      refine g_cvi 106 C (As := [.long (((o1.1).toInt64) * ((o4.1).toInt64))]) (fun _ h => mX8_cut (a1 := ((o1.1).toInt64) * ((o4.1).toInt64)) (σ := o4.2) h) wl_X8_83 wi_X8_cut wz_X8_cut wc_X8_cut wn_X8 qX8_cut rfl rfl ⟨Nat.le_of_ble_eq_true rfl, Nat.le_of_ble_eq_true rfl⟩ rfl rfl rfl rfl (Nat.le_of_ble_eq_true rfl) dX8_valueOf_103 rfl h (fun o5 h => ?_)
      refine g_i2l 107 C dX8_valueOf_106 rfl ?_
      refine g_lmul 108 C dX8_valueOf_107 rfl ?_
      refine g_cvi 111 C (As := [.long (((σ 1 (((1372 * l1) + (343 * l2)) + l5).toNatClampNeg).toInt64) * ((o5.1).toInt64))]) (fun _ h => mX8_cut (a1 := ((σ 1 (((1372 * l1) + (343 * l2)) + l5).toNatClampNeg).toInt64) * ((o5.1).toInt64)) (σ := o5.2) h) wl_X8_83 wi_X8_cut wz_X8_cut wc_X8_cut wn_X8 qX8_cut rfl rfl ⟨Nat.le_of_ble_eq_true rfl, Nat.le_of_ble_eq_true rfl⟩ rfl rfl rfl rfl (Nat.le_of_ble_eq_true rfl) dX8_valueOf_108 rfl h (fun o6 h => ?_)
      refine g_i2l 112 C dX8_valueOf_111 rfl ?_
      refine g_ladd 113 C dX8_valueOf_112 rfl ?_
      refine g_lstore_n 114 [(3, .long (l3 + ((o6.1).toInt64))), (6, .int (σ 1 (((1372 * l1) + (343 * l2)) + l5).toNatClampNeg)), (0, .ref (ad 0)), (1, .int l1), (2, .int l2), (5, .int l5)] C dX8_valueOf_113 rfl (by decide) rfl rfl ?_
      exact g_sub [2, 3, 4, 0, 5] (tX8_valueOf_L114 (l1 := l1) (l2 := l2) (l3 := (l3 + ((o6.1).toInt64))) (l5 := l5) (σ := o6.2) C K0 h K) rfl
noncomputable def fX8_valueOf_L120 (l3 : Int64) (σ : Mem) : Option (Int32 × Mem) :=
  (fX8_cut l3 σ).bind fun o8 =>
  some (o8.1, o8.2)
set_option maxHeartbeats 4000000 in
set_option maxRecDepth 100000 in
theorem tX8_valueOf_L120 {E : Gx} {cI : ClassId} {ad : Nat → Nat} (C : Cx E rmX8_valueOf cI layM ad 7 RX8 cX8_valueOf) {out : Int32 × Mem} (K0 : KI E rmX8_valueOf cI layM ad 7 cX8_valueOf .int out) {l3 : Int64} {σ : Mem} (h : fX8_valueOf_L120 l3 σ = some out) : G E rmX8_valueOf cI layM ad 7 120 [(0, .ref (ad 0)), (3, .long l3)] [] σ := by
  unfold fX8_valueOf_L120 at h
  refine g_aload_n 121 C dX8_valueOf_120 rfl (j := 0) rfl rfl ?_
  refine g_lload_n 122 C dX8_valueOf_121 rfl (j := 1) rfl rfl ?_
  refine g_cvi 125 C (As := [.long l3]) (fun _ h => mX8_cut (a1 := l3) (σ := σ) h) wl_X8_83 wi_X8_cut wz_X8_cut wc_X8_cut wn_X8 qX8_cut rfl rfl ⟨Nat.le_of_ble_eq_true rfl, Nat.le_of_ble_eq_true rfl⟩ rfl rfl rfl rfl (Nat.le_of_ble_eq_true rfl) dX8_valueOf_122 rfl h (fun o8 h => ?_)
  cases h
  exact K0 _ _ dX8_valueOf_125 rfl
noncomputable def fX8_valueOf (a1 : Int32) (a2 : Int32) (σ : Mem) : Option (Int32 × Mem) :=
  (loop (fun a => fX8_valueOf_B5 a1 a2 a.1 a.2.1 a.2.2) (0, 0, σ)).bind fun b7 =>
  fX8_valueOf_L120 b7.1 b7.2
set_option maxHeartbeats 4000000 in
set_option maxRecDepth 100000 in
theorem mX8_valueOf {l : Launch} {D : va_G} {cI : ClassId} {ad : Nat → Nat} {a1 : Int32} {a2 : Int32} {σ : Mem} {out : Int32 × Mem} (h : fX8_valueOf a1 a2 σ = some out) : MI l D cI layM ad yX8_valueOf cX8_valueOf 7 .int rmX8_valueOf [.ref (ad 0), .int a1, .int a2] σ out := by
  refine met_i (by decide) (Nat.le_of_ble_eq_true rfl) (fun E C K0 => ?_)
  show G E rmX8_valueOf cI layM ad 7 0 [(0, .ref (ad 0)), (1, .int a1), (2, .int a2)] [] σ
  unfold fX8_valueOf at h
  refine g_lconst 1 (v := 0) C dX8_valueOf_0 (by decide) rfl ?_
  refine g_lstore_n 2 [(3, .long 0), (0, .ref (ad 0)), (1, .int a1), (2, .int a2)] C dX8_valueOf_1 rfl (by decide) rfl rfl ?_
  refine g_iconst 3 (v := 0) C dX8_valueOf_2 (by decide) rfl ?_
  refine g_istore 5 [(5, .int 0), (3, .long 0), (0, .ref (ad 0)), (1, .int a1), (2, .int a2)] C dX8_valueOf_3 (by decide) rfl rfl ?_
  obtain ⟨b7, hb, h⟩ := bind_some h
  refine g_sub [2, 3, 4, 1, 0] (g_loop (a := (0, 0, σ)) (fun a => G E rmX8_valueOf cI layM ad 7 5 [(0, .ref (ad 0)), (1, .int a1), (2, .int a2), (3, .long a.1), (5, .int a.2.1)] [] a.2.2) (fun b => G E rmX8_valueOf cI layM ad 7 120 [(0, .ref (ad 0)), (3, .long b.1)] [] b.2) hb (fun a res h K => tX8_valueOf_B5 (l1 := a1) (l2 := a2) (l3 := a.1) (l5 := a.2.1) (σ := a.2.2) (res := res) C K0 h K) ?_) rfl
  show G E rmX8_valueOf cI layM ad 7 120 [(0, .ref (ad 0)), (3, .long b7.1)] [] b7.2
  exact tX8_valueOf_L120 (l3 := b7.1) (σ := b7.2) C K0 h

/-! LoopReducerModel.tells(IJ)I -/
abbrev rmX8_tells : Room := { frames := 3, cells := 0, slots := 0, locals := 80 }
theorem qX8_tells : yX8_tells.cls ≠ "java/lang/invoke/MethodHandle" ∧ yX8_tells.cls ≠ "java/lang/invoke/VarHandle" ∧ (parseMethodDescriptor yX8_tells.desc).map (fun d => d.parameters.length) = some 2 := by decide +kernel
theorem DX8_tells : ∀ q ∈ ([(0, .lload_n 2, 1), (1, .lload_n 2, 1), (2, .lconst 1, 1), (3, .lsub, 1), (4, .lmul, 1), (5, .ldc2_w 211, 3), (8, .ldiv, 1), (9, .lstore 4, 2), (11, .lload_n 2, 1), (12, .lload_n 2, 1), (13, .lconst 1, 1), (14, .lsub, 1), (15, .lmul, 1), (16, .ldc2_w 211, 3), (19, .ldiv, 1), (20, .lload_n 2, 1), (21, .ldc2_w 211, 3), (24, .lsub, 1), (25, .lmul, 1), (26, .ldc2_w 213, 3), (29, .ldiv, 1), (30, .lstore 6, 2), (32, .aload_n 0, 1), (33, .aload_n 0, 1), (34, .iload_n 1, 1), (35, .iconst 0, 1), (36, .invokevirtual 208, 3), (39, .i2l, 1), (40, .lload_n 2, 1), (41, .aload_n 0, 1), (42, .getfield 66, 3), (45, .i2l, 1), (46, .lconst 1, 1), (47, .lsub, 1), (48, .land, 1), (49, .aload_n 0, 1), (50, .iload_n 1, 1), (51, .iconst 1, 1), (52, .invokevirtual 208, 3), (55, .i2l, 1), (56, .lmul, 1), (57, .ladd, 1), (58, .lload 4, 2), (60, .aload_n 0, 1), (61, .getfield 66, 3), (64, .i2l, 1), (65, .lconst 1, 1), (66, .lsub, 1), (67, .land, 1), (68, .aload_n 0, 1), (69, .iload_n 1, 1), (70, .iconst 2, 1), (71, .invokevirtual 208, 3), (74, .i2l, 1), (75, .lmul, 1), (76, .ladd, 1), (77, .lload 6, 2), (79, .aload_n 0, 1), (80, .getfield 66, 3), (83, .i2l, 1), (84, .lconst 1, 1), (85, .lsub, 1), (86, .land, 1), (87, .aload_n 0, 1), (88, .iload_n 1, 1), (89, .iconst 3, 1), (90, .invokevirtual 208, 3), (93, .i2l, 1), (94, .lmul, 1), (95, .ladd, 1), (96, .invokevirtual 83, 3), (99, .ireturn, 1)] : List (Nat × Instr × Nat)), decode cX8_tells q.1 = .ok q.2 := by decide +kernel
theorem dX8_tells_0 : decode cX8_tells 0 = .ok (.lload_n 2, 1) := DX8_tells (0, .lload_n 2, 1) (List.mem_of_getElem? (i := 0) rfl)
theorem dX8_tells_1 : decode cX8_tells 1 = .ok (.lload_n 2, 1) := DX8_tells (1, .lload_n 2, 1) (List.mem_of_getElem? (i := 1) rfl)
theorem dX8_tells_2 : decode cX8_tells 2 = .ok (.lconst 1, 1) := DX8_tells (2, .lconst 1, 1) (List.mem_of_getElem? (i := 2) rfl)
theorem dX8_tells_3 : decode cX8_tells 3 = .ok (.lsub, 1) := DX8_tells (3, .lsub, 1) (List.mem_of_getElem? (i := 3) rfl)
theorem dX8_tells_4 : decode cX8_tells 4 = .ok (.lmul, 1) := DX8_tells (4, .lmul, 1) (List.mem_of_getElem? (i := 4) rfl)
theorem dX8_tells_5 : decode cX8_tells 5 = .ok (.ldc2_w 211, 3) := DX8_tells (5, .ldc2_w 211, 3) (List.mem_of_getElem? (i := 5) rfl)
theorem dX8_tells_8 : decode cX8_tells 8 = .ok (.ldiv, 1) := DX8_tells (8, .ldiv, 1) (List.mem_of_getElem? (i := 6) rfl)
theorem dX8_tells_9 : decode cX8_tells 9 = .ok (.lstore 4, 2) := DX8_tells (9, .lstore 4, 2) (List.mem_of_getElem? (i := 7) rfl)
theorem dX8_tells_11 : decode cX8_tells 11 = .ok (.lload_n 2, 1) := DX8_tells (11, .lload_n 2, 1) (List.mem_of_getElem? (i := 8) rfl)
theorem dX8_tells_12 : decode cX8_tells 12 = .ok (.lload_n 2, 1) := DX8_tells (12, .lload_n 2, 1) (List.mem_of_getElem? (i := 9) rfl)
theorem dX8_tells_13 : decode cX8_tells 13 = .ok (.lconst 1, 1) := DX8_tells (13, .lconst 1, 1) (List.mem_of_getElem? (i := 10) rfl)
theorem dX8_tells_14 : decode cX8_tells 14 = .ok (.lsub, 1) := DX8_tells (14, .lsub, 1) (List.mem_of_getElem? (i := 11) rfl)
theorem dX8_tells_15 : decode cX8_tells 15 = .ok (.lmul, 1) := DX8_tells (15, .lmul, 1) (List.mem_of_getElem? (i := 12) rfl)
theorem dX8_tells_16 : decode cX8_tells 16 = .ok (.ldc2_w 211, 3) := DX8_tells (16, .ldc2_w 211, 3) (List.mem_of_getElem? (i := 13) rfl)
theorem dX8_tells_19 : decode cX8_tells 19 = .ok (.ldiv, 1) := DX8_tells (19, .ldiv, 1) (List.mem_of_getElem? (i := 14) rfl)
theorem dX8_tells_20 : decode cX8_tells 20 = .ok (.lload_n 2, 1) := DX8_tells (20, .lload_n 2, 1) (List.mem_of_getElem? (i := 15) rfl)
theorem dX8_tells_21 : decode cX8_tells 21 = .ok (.ldc2_w 211, 3) := DX8_tells (21, .ldc2_w 211, 3) (List.mem_of_getElem? (i := 16) rfl)
theorem dX8_tells_24 : decode cX8_tells 24 = .ok (.lsub, 1) := DX8_tells (24, .lsub, 1) (List.mem_of_getElem? (i := 17) rfl)
theorem dX8_tells_25 : decode cX8_tells 25 = .ok (.lmul, 1) := DX8_tells (25, .lmul, 1) (List.mem_of_getElem? (i := 18) rfl)
theorem dX8_tells_26 : decode cX8_tells 26 = .ok (.ldc2_w 213, 3) := DX8_tells (26, .ldc2_w 213, 3) (List.mem_of_getElem? (i := 19) rfl)
theorem dX8_tells_29 : decode cX8_tells 29 = .ok (.ldiv, 1) := DX8_tells (29, .ldiv, 1) (List.mem_of_getElem? (i := 20) rfl)
theorem dX8_tells_30 : decode cX8_tells 30 = .ok (.lstore 6, 2) := DX8_tells (30, .lstore 6, 2) (List.mem_of_getElem? (i := 21) rfl)
theorem dX8_tells_32 : decode cX8_tells 32 = .ok (.aload_n 0, 1) := DX8_tells (32, .aload_n 0, 1) (List.mem_of_getElem? (i := 22) rfl)
theorem dX8_tells_33 : decode cX8_tells 33 = .ok (.aload_n 0, 1) := DX8_tells (33, .aload_n 0, 1) (List.mem_of_getElem? (i := 23) rfl)
theorem dX8_tells_34 : decode cX8_tells 34 = .ok (.iload_n 1, 1) := DX8_tells (34, .iload_n 1, 1) (List.mem_of_getElem? (i := 24) rfl)
theorem dX8_tells_35 : decode cX8_tells 35 = .ok (.iconst 0, 1) := DX8_tells (35, .iconst 0, 1) (List.mem_of_getElem? (i := 25) rfl)
theorem dX8_tells_36 : decode cX8_tells 36 = .ok (.invokevirtual 208, 3) := DX8_tells (36, .invokevirtual 208, 3) (List.mem_of_getElem? (i := 26) rfl)
theorem dX8_tells_39 : decode cX8_tells 39 = .ok (.i2l, 1) := DX8_tells (39, .i2l, 1) (List.mem_of_getElem? (i := 27) rfl)
theorem dX8_tells_40 : decode cX8_tells 40 = .ok (.lload_n 2, 1) := DX8_tells (40, .lload_n 2, 1) (List.mem_of_getElem? (i := 28) rfl)
theorem dX8_tells_41 : decode cX8_tells 41 = .ok (.aload_n 0, 1) := DX8_tells (41, .aload_n 0, 1) (List.mem_of_getElem? (i := 29) rfl)
theorem dX8_tells_42 : decode cX8_tells 42 = .ok (.getfield 66, 3) := DX8_tells (42, .getfield 66, 3) (List.mem_of_getElem? (i := 30) rfl)
theorem dX8_tells_45 : decode cX8_tells 45 = .ok (.i2l, 1) := DX8_tells (45, .i2l, 1) (List.mem_of_getElem? (i := 31) rfl)
theorem dX8_tells_46 : decode cX8_tells 46 = .ok (.lconst 1, 1) := DX8_tells (46, .lconst 1, 1) (List.mem_of_getElem? (i := 32) rfl)
theorem dX8_tells_47 : decode cX8_tells 47 = .ok (.lsub, 1) := DX8_tells (47, .lsub, 1) (List.mem_of_getElem? (i := 33) rfl)
theorem dX8_tells_48 : decode cX8_tells 48 = .ok (.land, 1) := DX8_tells (48, .land, 1) (List.mem_of_getElem? (i := 34) rfl)
theorem dX8_tells_49 : decode cX8_tells 49 = .ok (.aload_n 0, 1) := DX8_tells (49, .aload_n 0, 1) (List.mem_of_getElem? (i := 35) rfl)
theorem dX8_tells_50 : decode cX8_tells 50 = .ok (.iload_n 1, 1) := DX8_tells (50, .iload_n 1, 1) (List.mem_of_getElem? (i := 36) rfl)
theorem dX8_tells_51 : decode cX8_tells 51 = .ok (.iconst 1, 1) := DX8_tells (51, .iconst 1, 1) (List.mem_of_getElem? (i := 37) rfl)
theorem dX8_tells_52 : decode cX8_tells 52 = .ok (.invokevirtual 208, 3) := DX8_tells (52, .invokevirtual 208, 3) (List.mem_of_getElem? (i := 38) rfl)
theorem dX8_tells_55 : decode cX8_tells 55 = .ok (.i2l, 1) := DX8_tells (55, .i2l, 1) (List.mem_of_getElem? (i := 39) rfl)
theorem dX8_tells_56 : decode cX8_tells 56 = .ok (.lmul, 1) := DX8_tells (56, .lmul, 1) (List.mem_of_getElem? (i := 40) rfl)
theorem dX8_tells_57 : decode cX8_tells 57 = .ok (.ladd, 1) := DX8_tells (57, .ladd, 1) (List.mem_of_getElem? (i := 41) rfl)
theorem dX8_tells_58 : decode cX8_tells 58 = .ok (.lload 4, 2) := DX8_tells (58, .lload 4, 2) (List.mem_of_getElem? (i := 42) rfl)
theorem dX8_tells_60 : decode cX8_tells 60 = .ok (.aload_n 0, 1) := DX8_tells (60, .aload_n 0, 1) (List.mem_of_getElem? (i := 43) rfl)
theorem dX8_tells_61 : decode cX8_tells 61 = .ok (.getfield 66, 3) := DX8_tells (61, .getfield 66, 3) (List.mem_of_getElem? (i := 44) rfl)
theorem dX8_tells_64 : decode cX8_tells 64 = .ok (.i2l, 1) := DX8_tells (64, .i2l, 1) (List.mem_of_getElem? (i := 45) rfl)
theorem dX8_tells_65 : decode cX8_tells 65 = .ok (.lconst 1, 1) := DX8_tells (65, .lconst 1, 1) (List.mem_of_getElem? (i := 46) rfl)
theorem dX8_tells_66 : decode cX8_tells 66 = .ok (.lsub, 1) := DX8_tells (66, .lsub, 1) (List.mem_of_getElem? (i := 47) rfl)
theorem dX8_tells_67 : decode cX8_tells 67 = .ok (.land, 1) := DX8_tells (67, .land, 1) (List.mem_of_getElem? (i := 48) rfl)
theorem dX8_tells_68 : decode cX8_tells 68 = .ok (.aload_n 0, 1) := DX8_tells (68, .aload_n 0, 1) (List.mem_of_getElem? (i := 49) rfl)
theorem dX8_tells_69 : decode cX8_tells 69 = .ok (.iload_n 1, 1) := DX8_tells (69, .iload_n 1, 1) (List.mem_of_getElem? (i := 50) rfl)
theorem dX8_tells_70 : decode cX8_tells 70 = .ok (.iconst 2, 1) := DX8_tells (70, .iconst 2, 1) (List.mem_of_getElem? (i := 51) rfl)
theorem dX8_tells_71 : decode cX8_tells 71 = .ok (.invokevirtual 208, 3) := DX8_tells (71, .invokevirtual 208, 3) (List.mem_of_getElem? (i := 52) rfl)
theorem dX8_tells_74 : decode cX8_tells 74 = .ok (.i2l, 1) := DX8_tells (74, .i2l, 1) (List.mem_of_getElem? (i := 53) rfl)
theorem dX8_tells_75 : decode cX8_tells 75 = .ok (.lmul, 1) := DX8_tells (75, .lmul, 1) (List.mem_of_getElem? (i := 54) rfl)
theorem dX8_tells_76 : decode cX8_tells 76 = .ok (.ladd, 1) := DX8_tells (76, .ladd, 1) (List.mem_of_getElem? (i := 55) rfl)
theorem dX8_tells_77 : decode cX8_tells 77 = .ok (.lload 6, 2) := DX8_tells (77, .lload 6, 2) (List.mem_of_getElem? (i := 56) rfl)
theorem dX8_tells_79 : decode cX8_tells 79 = .ok (.aload_n 0, 1) := DX8_tells (79, .aload_n 0, 1) (List.mem_of_getElem? (i := 57) rfl)
theorem dX8_tells_80 : decode cX8_tells 80 = .ok (.getfield 66, 3) := DX8_tells (80, .getfield 66, 3) (List.mem_of_getElem? (i := 58) rfl)
theorem dX8_tells_83 : decode cX8_tells 83 = .ok (.i2l, 1) := DX8_tells (83, .i2l, 1) (List.mem_of_getElem? (i := 59) rfl)
theorem dX8_tells_84 : decode cX8_tells 84 = .ok (.lconst 1, 1) := DX8_tells (84, .lconst 1, 1) (List.mem_of_getElem? (i := 60) rfl)
theorem dX8_tells_85 : decode cX8_tells 85 = .ok (.lsub, 1) := DX8_tells (85, .lsub, 1) (List.mem_of_getElem? (i := 61) rfl)
theorem dX8_tells_86 : decode cX8_tells 86 = .ok (.land, 1) := DX8_tells (86, .land, 1) (List.mem_of_getElem? (i := 62) rfl)
theorem dX8_tells_87 : decode cX8_tells 87 = .ok (.aload_n 0, 1) := DX8_tells (87, .aload_n 0, 1) (List.mem_of_getElem? (i := 63) rfl)
theorem dX8_tells_88 : decode cX8_tells 88 = .ok (.iload_n 1, 1) := DX8_tells (88, .iload_n 1, 1) (List.mem_of_getElem? (i := 64) rfl)
theorem dX8_tells_89 : decode cX8_tells 89 = .ok (.iconst 3, 1) := DX8_tells (89, .iconst 3, 1) (List.mem_of_getElem? (i := 65) rfl)
theorem dX8_tells_90 : decode cX8_tells 90 = .ok (.invokevirtual 208, 3) := DX8_tells (90, .invokevirtual 208, 3) (List.mem_of_getElem? (i := 66) rfl)
theorem dX8_tells_93 : decode cX8_tells 93 = .ok (.i2l, 1) := DX8_tells (93, .i2l, 1) (List.mem_of_getElem? (i := 67) rfl)
theorem dX8_tells_94 : decode cX8_tells 94 = .ok (.lmul, 1) := DX8_tells (94, .lmul, 1) (List.mem_of_getElem? (i := 68) rfl)
theorem dX8_tells_95 : decode cX8_tells 95 = .ok (.ladd, 1) := DX8_tells (95, .ladd, 1) (List.mem_of_getElem? (i := 69) rfl)
theorem dX8_tells_96 : decode cX8_tells 96 = .ok (.invokevirtual 83, 3) := DX8_tells (96, .invokevirtual 83, 3) (List.mem_of_getElem? (i := 70) rfl)
theorem dX8_tells_99 : decode cX8_tells 99 = .ok (.ireturn, 1) := DX8_tells (99, .ireturn, 1) (List.mem_of_getElem? (i := 71) rfl)
noncomputable def fX8_tells (a1 : Int32) (a2 : Int64) (σ : Mem) : Option (Int32 × Mem) :=
  (fX8_valueOf a1 0 σ).bind fun o1 =>
  (fX8_valueOf a1 1 o1.2).bind fun o2 =>
  (fX8_valueOf a1 2 o2.2).bind fun o3 =>
  (fX8_valueOf a1 3 o3.2).bind fun o4 =>
  (fX8_cut (((((o1.1).toInt64) + ((a2 &&& (((o1.2 0 1).toInt64) - 1)) * ((o2.1).toInt64))) + ((((a2 * (a2 - 1)) / 2) &&& (((o2.2 0 1).toInt64) - 1)) * ((o3.1).toInt64))) + ((((((a2 * (a2 - 1)) / 2) * (a2 - 2)) / 3) &&& (((o3.2 0 1).toInt64) - 1)) * ((o4.1).toInt64))) o4.2).bind fun o5 =>
  some (o5.1, o5.2)
set_option maxHeartbeats 4000000 in
set_option maxRecDepth 100000 in
theorem mX8_tells {l : Launch} {D : va_G} {cI : ClassId} {ad : Nat → Nat} {a1 : Int32} {a2 : Int64} {σ : Mem} {out : Int32 × Mem} (h : fX8_tells a1 a2 σ = some out) : MI l D cI layM ad yX8_tells cX8_tells 8 .int rmX8_tells [.ref (ad 0), .int a1, .long a2] σ out := by
  refine met_i (by decide) (Nat.le_of_ble_eq_true rfl) (fun E C K0 => ?_)
  show G E rmX8_tells cI layM ad 8 0 [(0, .ref (ad 0)), (1, .int a1), (2, .long a2)] [] σ
  unfold fX8_tells at h
  refine g_lload_n 1 C dX8_tells_0 rfl (j := 2) rfl rfl ?_
  refine g_lload_n 2 C dX8_tells_1 rfl (j := 2) rfl rfl ?_
  refine g_lconst 3 (v := 1) C dX8_tells_2 (by decide) rfl ?_
  refine g_lsub 4 C dX8_tells_3 rfl ?_
  refine g_lmul 5 C dX8_tells_4 rfl ?_
  refine g_ldc2 8 (v := 2) C dX8_tells_5 wk_X8_211 rfl ?_
  refine g_ldiv 9 C dX8_tells_8 (by decide) rfl ?_
  refine g_lstore 11 [(4, .long ((a2 * (a2 - 1)) / 2)), (0, .ref (ad 0)), (1, .int a1), (2, .long a2)] C dX8_tells_9 (by decide) rfl rfl ?_
  refine g_lload_n 12 C dX8_tells_11 rfl (j := 3) rfl rfl ?_
  refine g_lload_n 13 C dX8_tells_12 rfl (j := 3) rfl rfl ?_
  refine g_lconst 14 (v := 1) C dX8_tells_13 (by decide) rfl ?_
  refine g_lsub 15 C dX8_tells_14 rfl ?_
  refine g_lmul 16 C dX8_tells_15 rfl ?_
  refine g_ldc2 19 (v := 2) C dX8_tells_16 wk_X8_211 rfl ?_
  refine g_ldiv 20 C dX8_tells_19 (by decide) rfl ?_
  refine g_lload_n 21 C dX8_tells_20 rfl (j := 3) rfl rfl ?_
  refine g_ldc2 24 (v := 2) C dX8_tells_21 wk_X8_211 rfl ?_
  refine g_lsub 25 C dX8_tells_24 rfl ?_
  refine g_lmul 26 C dX8_tells_25 rfl ?_
  refine g_ldc2 29 (v := 3) C dX8_tells_26 wk_X8_213 rfl ?_
  refine g_ldiv 30 C dX8_tells_29 (by decide) rfl ?_
  refine g_lstore 32 [(6, .long ((((a2 * (a2 - 1)) / 2) * (a2 - 2)) / 3)), (4, .long ((a2 * (a2 - 1)) / 2)), (0, .ref (ad 0)), (1, .int a1), (2, .long a2)] C dX8_tells_30 (by decide) rfl rfl ?_
  refine g_aload_n 33 C dX8_tells_32 rfl (j := 2) rfl rfl ?_
  refine g_aload_n 34 C dX8_tells_33 rfl (j := 2) rfl rfl ?_
  refine g_iload_n 35 C dX8_tells_34 rfl (j := 3) rfl rfl ?_
  refine g_iconst 36 (v := 0) C dX8_tells_35 (by decide) rfl ?_
  refine g_cvi 39 C (As := [.int a1, .int 0]) (fun _ h => mX8_valueOf (a1 := a1) (a2 := 0) (σ := σ) h) wl_X8_208 wi_X8_valueOf wz_X8_valueOf wc_X8_valueOf wn_X8 qX8_valueOf rfl rfl ⟨Nat.le_of_ble_eq_true rfl, Nat.le_of_ble_eq_true rfl⟩ rfl rfl rfl rfl (Nat.le_of_ble_eq_true rfl) dX8_tells_36 rfl h (fun o1 h => ?_)
  refine g_i2l 40 C dX8_tells_39 rfl ?_
  refine g_lload_n 41 C dX8_tells_40 rfl (j := 4) rfl rfl ?_
  refine g_aload_n 42 C dX8_tells_41 rfl (j := 2) rfl rfl ?_
  refine g_geti 45 (j := 1) C rfl rfl wu_X8 (by decide) wf_X8_66 rfl dX8_tells_42 rfl ?_
  refine g_i2l 46 C dX8_tells_45 rfl ?_
  refine g_lconst 47 (v := 1) C dX8_tells_46 (by decide) rfl ?_
  refine g_lsub 48 C dX8_tells_47 rfl ?_
  refine g_land 49 C dX8_tells_48 rfl ?_
  refine g_aload_n 50 C dX8_tells_49 rfl (j := 2) rfl rfl ?_
  refine g_iload_n 51 C dX8_tells_50 rfl (j := 3) rfl rfl ?_
  refine g_iconst 52 (v := 1) C dX8_tells_51 (by decide) rfl ?_
  refine g_cvi 55 C (As := [.int a1, .int 1]) (fun _ h => mX8_valueOf (a1 := a1) (a2 := 1) (σ := o1.2) h) wl_X8_208 wi_X8_valueOf wz_X8_valueOf wc_X8_valueOf wn_X8 qX8_valueOf rfl rfl ⟨Nat.le_of_ble_eq_true rfl, Nat.le_of_ble_eq_true rfl⟩ rfl rfl rfl rfl (Nat.le_of_ble_eq_true rfl) dX8_tells_52 rfl h (fun o2 h => ?_)
  refine g_i2l 56 C dX8_tells_55 rfl ?_
  refine g_lmul 57 C dX8_tells_56 rfl ?_
  refine g_ladd 58 C dX8_tells_57 rfl ?_
  refine g_lload 60 C dX8_tells_58 (j := 1) rfl rfl ?_
  refine g_aload_n 61 C dX8_tells_60 rfl (j := 2) rfl rfl ?_
  refine g_geti 64 (j := 1) C rfl rfl wu_X8 (by decide) wf_X8_66 rfl dX8_tells_61 rfl ?_
  refine g_i2l 65 C dX8_tells_64 rfl ?_
  refine g_lconst 66 (v := 1) C dX8_tells_65 (by decide) rfl ?_
  refine g_lsub 67 C dX8_tells_66 rfl ?_
  refine g_land 68 C dX8_tells_67 rfl ?_
  refine g_aload_n 69 C dX8_tells_68 rfl (j := 2) rfl rfl ?_
  refine g_iload_n 70 C dX8_tells_69 rfl (j := 3) rfl rfl ?_
  refine g_iconst 71 (v := 2) C dX8_tells_70 (by decide) rfl ?_
  refine g_cvi 74 C (As := [.int a1, .int 2]) (fun _ h => mX8_valueOf (a1 := a1) (a2 := 2) (σ := o2.2) h) wl_X8_208 wi_X8_valueOf wz_X8_valueOf wc_X8_valueOf wn_X8 qX8_valueOf rfl rfl ⟨Nat.le_of_ble_eq_true rfl, Nat.le_of_ble_eq_true rfl⟩ rfl rfl rfl rfl (Nat.le_of_ble_eq_true rfl) dX8_tells_71 rfl h (fun o3 h => ?_)
  refine g_i2l 75 C dX8_tells_74 rfl ?_
  refine g_lmul 76 C dX8_tells_75 rfl ?_
  refine g_ladd 77 C dX8_tells_76 rfl ?_
  refine g_lload 79 C dX8_tells_77 (j := 0) rfl rfl ?_
  refine g_aload_n 80 C dX8_tells_79 rfl (j := 2) rfl rfl ?_
  refine g_geti 83 (j := 1) C rfl rfl wu_X8 (by decide) wf_X8_66 rfl dX8_tells_80 rfl ?_
  refine g_i2l 84 C dX8_tells_83 rfl ?_
  refine g_lconst 85 (v := 1) C dX8_tells_84 (by decide) rfl ?_
  refine g_lsub 86 C dX8_tells_85 rfl ?_
  refine g_land 87 C dX8_tells_86 rfl ?_
  refine g_aload_n 88 C dX8_tells_87 rfl (j := 2) rfl rfl ?_
  refine g_iload_n 89 C dX8_tells_88 rfl (j := 3) rfl rfl ?_
  refine g_iconst 90 (v := 3) C dX8_tells_89 (by decide) rfl ?_
  refine g_cvi 93 C (As := [.int a1, .int 3]) (fun _ h => mX8_valueOf (a1 := a1) (a2 := 3) (σ := o3.2) h) wl_X8_208 wi_X8_valueOf wz_X8_valueOf wc_X8_valueOf wn_X8 qX8_valueOf rfl rfl ⟨Nat.le_of_ble_eq_true rfl, Nat.le_of_ble_eq_true rfl⟩ rfl rfl rfl rfl (Nat.le_of_ble_eq_true rfl) dX8_tells_90 rfl h (fun o4 h => ?_)
  refine g_i2l 94 C dX8_tells_93 rfl ?_
  refine g_lmul 95 C dX8_tells_94 rfl ?_
  refine g_ladd 96 C dX8_tells_95 rfl ?_
  refine g_cvi 99 C (As := [.long (((((o1.1).toInt64) + ((a2 &&& (((o1.2 0 1).toInt64) - 1)) * ((o2.1).toInt64))) + ((((a2 * (a2 - 1)) / 2) &&& (((o2.2 0 1).toInt64) - 1)) * ((o3.1).toInt64))) + ((((((a2 * (a2 - 1)) / 2) * (a2 - 2)) / 3) &&& (((o3.2 0 1).toInt64) - 1)) * ((o4.1).toInt64)))]) (fun _ h => mX8_cut (a1 := ((((o1.1).toInt64) + ((a2 &&& (((o1.2 0 1).toInt64) - 1)) * ((o2.1).toInt64))) + ((((a2 * (a2 - 1)) / 2) &&& (((o2.2 0 1).toInt64) - 1)) * ((o3.1).toInt64))) + ((((((a2 * (a2 - 1)) / 2) * (a2 - 2)) / 3) &&& (((o3.2 0 1).toInt64) - 1)) * ((o4.1).toInt64))) (σ := o4.2) h) wl_X8_83 wi_X8_cut wz_X8_cut wc_X8_cut wn_X8 qX8_cut rfl rfl ⟨Nat.le_of_ble_eq_true rfl, Nat.le_of_ble_eq_true rfl⟩ rfl rfl rfl rfl (Nat.le_of_ble_eq_true rfl) dX8_tells_96 rfl h (fun o5 h => ?_)
  cases h
  exact K0 _ _ dX8_tells_99 rfl

/-! LoopReducerModel.startOf(I)I -/
abbrev rmX8_startOf : Room := { frames := 0, cells := 0, slots := 0, locals := 0 }
theorem qX8_startOf : yX8_startOf.cls ≠ "java/lang/invoke/MethodHandle" ∧ yX8_startOf.cls ≠ "java/lang/invoke/VarHandle" ∧ (parseMethodDescriptor yX8_startOf.desc).map (fun d => d.parameters.length) = some 1 := by decide +kernel
theorem DX8_startOf : ∀ q ∈ ([(0, .aload_n 0, 1), (1, .getfield 14, 3), (4, .aload_n 0, 1), (5, .getfield 17, 3), (8, .iload_n 1, 1), (9, .iaload, 1), (10, .iaload, 1), (11, .ifCond .ne 17, 3), (14, .aload_n 0, 1), (15, .getfield 17, 3), (18, .aload_n 0, 1), (19, .getfield 17, 3), (22, .iload_n 1, 1), (23, .iaload, 1), (24, .iaload, 1), (25, .goto 19, 3), (28, .aload_n 0, 1), (29, .getfield 45, 3), (32, .aload_n 0, 1), (33, .getfield 17, 3), (36, .aload_n 0, 1), (37, .getfield 17, 3), (40, .iload_n 1, 1), (41, .iaload, 1), (42, .iaload, 1), (43, .iaload, 1), (44, .ireturn, 1)] : List (Nat × Instr × Nat)), decode cX8_startOf q.1 = .ok q.2 := by decide +kernel
theorem dX8_startOf_0 : decode cX8_startOf 0 = .ok (.aload_n 0, 1) := DX8_startOf (0, .aload_n 0, 1) (List.mem_of_getElem? (i := 0) rfl)
theorem dX8_startOf_1 : decode cX8_startOf 1 = .ok (.getfield 14, 3) := DX8_startOf (1, .getfield 14, 3) (List.mem_of_getElem? (i := 1) rfl)
theorem dX8_startOf_4 : decode cX8_startOf 4 = .ok (.aload_n 0, 1) := DX8_startOf (4, .aload_n 0, 1) (List.mem_of_getElem? (i := 2) rfl)
theorem dX8_startOf_5 : decode cX8_startOf 5 = .ok (.getfield 17, 3) := DX8_startOf (5, .getfield 17, 3) (List.mem_of_getElem? (i := 3) rfl)
theorem dX8_startOf_8 : decode cX8_startOf 8 = .ok (.iload_n 1, 1) := DX8_startOf (8, .iload_n 1, 1) (List.mem_of_getElem? (i := 4) rfl)
theorem dX8_startOf_9 : decode cX8_startOf 9 = .ok (.iaload, 1) := DX8_startOf (9, .iaload, 1) (List.mem_of_getElem? (i := 5) rfl)
theorem dX8_startOf_10 : decode cX8_startOf 10 = .ok (.iaload, 1) := DX8_startOf (10, .iaload, 1) (List.mem_of_getElem? (i := 6) rfl)
theorem dX8_startOf_11 : decode cX8_startOf 11 = .ok (.ifCond .ne 17, 3) := DX8_startOf (11, .ifCond .ne 17, 3) (List.mem_of_getElem? (i := 7) rfl)
theorem dX8_startOf_14 : decode cX8_startOf 14 = .ok (.aload_n 0, 1) := DX8_startOf (14, .aload_n 0, 1) (List.mem_of_getElem? (i := 8) rfl)
theorem dX8_startOf_15 : decode cX8_startOf 15 = .ok (.getfield 17, 3) := DX8_startOf (15, .getfield 17, 3) (List.mem_of_getElem? (i := 9) rfl)
theorem dX8_startOf_18 : decode cX8_startOf 18 = .ok (.aload_n 0, 1) := DX8_startOf (18, .aload_n 0, 1) (List.mem_of_getElem? (i := 10) rfl)
theorem dX8_startOf_19 : decode cX8_startOf 19 = .ok (.getfield 17, 3) := DX8_startOf (19, .getfield 17, 3) (List.mem_of_getElem? (i := 11) rfl)
theorem dX8_startOf_22 : decode cX8_startOf 22 = .ok (.iload_n 1, 1) := DX8_startOf (22, .iload_n 1, 1) (List.mem_of_getElem? (i := 12) rfl)
theorem dX8_startOf_23 : decode cX8_startOf 23 = .ok (.iaload, 1) := DX8_startOf (23, .iaload, 1) (List.mem_of_getElem? (i := 13) rfl)
theorem dX8_startOf_24 : decode cX8_startOf 24 = .ok (.iaload, 1) := DX8_startOf (24, .iaload, 1) (List.mem_of_getElem? (i := 14) rfl)
theorem dX8_startOf_25 : decode cX8_startOf 25 = .ok (.goto 19, 3) := DX8_startOf (25, .goto 19, 3) (List.mem_of_getElem? (i := 15) rfl)
theorem dX8_startOf_28 : decode cX8_startOf 28 = .ok (.aload_n 0, 1) := DX8_startOf (28, .aload_n 0, 1) (List.mem_of_getElem? (i := 16) rfl)
theorem dX8_startOf_29 : decode cX8_startOf 29 = .ok (.getfield 45, 3) := DX8_startOf (29, .getfield 45, 3) (List.mem_of_getElem? (i := 17) rfl)
theorem dX8_startOf_32 : decode cX8_startOf 32 = .ok (.aload_n 0, 1) := DX8_startOf (32, .aload_n 0, 1) (List.mem_of_getElem? (i := 18) rfl)
theorem dX8_startOf_33 : decode cX8_startOf 33 = .ok (.getfield 17, 3) := DX8_startOf (33, .getfield 17, 3) (List.mem_of_getElem? (i := 19) rfl)
theorem dX8_startOf_36 : decode cX8_startOf 36 = .ok (.aload_n 0, 1) := DX8_startOf (36, .aload_n 0, 1) (List.mem_of_getElem? (i := 20) rfl)
theorem dX8_startOf_37 : decode cX8_startOf 37 = .ok (.getfield 17, 3) := DX8_startOf (37, .getfield 17, 3) (List.mem_of_getElem? (i := 21) rfl)
theorem dX8_startOf_40 : decode cX8_startOf 40 = .ok (.iload_n 1, 1) := DX8_startOf (40, .iload_n 1, 1) (List.mem_of_getElem? (i := 22) rfl)
theorem dX8_startOf_41 : decode cX8_startOf 41 = .ok (.iaload, 1) := DX8_startOf (41, .iaload, 1) (List.mem_of_getElem? (i := 23) rfl)
theorem dX8_startOf_42 : decode cX8_startOf 42 = .ok (.iaload, 1) := DX8_startOf (42, .iaload, 1) (List.mem_of_getElem? (i := 24) rfl)
theorem dX8_startOf_43 : decode cX8_startOf 43 = .ok (.iaload, 1) := DX8_startOf (43, .iaload, 1) (List.mem_of_getElem? (i := 25) rfl)
theorem dX8_startOf_44 : decode cX8_startOf 44 = .ok (.ireturn, 1) := DX8_startOf (44, .ireturn, 1) (List.mem_of_getElem? (i := 26) rfl)
noncomputable def fX8_startOf_L44 (s0 : Int32) (σ : Mem) : Option (Int32 × Mem) :=
  some (s0, σ)
set_option maxHeartbeats 4000000 in
set_option maxRecDepth 100000 in
theorem tX8_startOf_L44 {E : Gx} {cI : ClassId} {ad : Nat → Nat} (C : Cx E rmX8_startOf cI layM ad 2 RX8 cX8_startOf) {out : Int32 × Mem} (K0 : KI E rmX8_startOf cI layM ad 2 cX8_startOf .int out) {s0 : Int32} {σ : Mem} (h : fX8_startOf_L44 s0 σ = some out) : G E rmX8_startOf cI layM ad 2 44 [] [.int s0] σ := by
  unfold fX8_startOf_L44 at h
  cases h
  exact K0 _ _ dX8_startOf_44 rfl
noncomputable def fX8_startOf (a1 : Int32) (σ : Mem) : Option (Int32 × Mem) :=
  chk (inb a1 30) <|
  chk (inb (σ 3 a1.toNatClampNeg) 30) <|
  if (σ 2 (σ 3 a1.toNatClampNeg).toNatClampNeg) = 0 then
    chk (inb a1 30) <|
    chk (inb (σ 3 a1.toNatClampNeg) 30) <|
    fX8_startOf_L44 (σ 3 (σ 3 a1.toNatClampNeg).toNatClampNeg) σ
  else
    chk (inb a1 30) <|
    chk (inb (σ 3 a1.toNatClampNeg) 30) <|
    chk (inb (σ 3 (σ 3 a1.toNatClampNeg).toNatClampNeg) 3) <|
    fX8_startOf_L44 (σ 9 (σ 3 (σ 3 a1.toNatClampNeg).toNatClampNeg).toNatClampNeg) σ
set_option maxHeartbeats 4000000 in
set_option maxRecDepth 100000 in
theorem mX8_startOf {l : Launch} {D : va_G} {cI : ClassId} {ad : Nat → Nat} {a1 : Int32} {σ : Mem} {out : Int32 × Mem} (h : fX8_startOf a1 σ = some out) : MI l D cI layM ad yX8_startOf cX8_startOf 2 .int rmX8_startOf [.ref (ad 0), .int a1] σ out := by
  refine met_i (by decide) (Nat.le_of_ble_eq_true rfl) (fun E C K0 => ?_)
  show G E rmX8_startOf cI layM ad 2 0 [(0, .ref (ad 0)), (1, .int a1)] [] σ
  unfold fX8_startOf at h
  refine g_aload_n 1 C dX8_startOf_0 rfl (j := 0) rfl rfl ?_
  refine g_getr 4 (j := 3) C rfl rfl wu_X8 (by decide) wf_X8_14 rfl dX8_startOf_1 rfl ?_
  refine g_aload_n 5 C dX8_startOf_4 rfl (j := 0) rfl rfl ?_
  refine g_getr 8 (j := 4) C rfl rfl wu_X8 (by decide) wf_X8_17 rfl dX8_startOf_5 rfl ?_
  refine g_iload_n 9 C dX8_startOf_8 rfl (j := 1) rfl rfl ?_
  refine g_iald 10 C rfl dX8_startOf_9 rfl h (fun h => ?_)
  refine g_iald 11 C rfl dX8_startOf_10 rfl h (fun h => ?_)
  refine g_if_ne 28 14 C dX8_startOf_11 (by decide) rfl h (fun h => ?_) (fun h => ?_)
  · refine g_aload_n 15 C dX8_startOf_14 rfl (j := 0) rfl rfl ?_
    refine g_getr 18 (j := 4) C rfl rfl wu_X8 (by decide) wf_X8_17 rfl dX8_startOf_15 rfl ?_
    refine g_aload_n 19 C dX8_startOf_18 rfl (j := 0) rfl rfl ?_
    refine g_getr 22 (j := 4) C rfl rfl wu_X8 (by decide) wf_X8_17 rfl dX8_startOf_19 rfl ?_
    refine g_iload_n 23 C dX8_startOf_22 rfl (j := 1) rfl rfl ?_
    refine g_iald 24 C rfl dX8_startOf_23 rfl h (fun h => ?_)
    refine g_iald 25 C rfl dX8_startOf_24 rfl h (fun h => ?_)
    refine g_goto 44 C dX8_startOf_25 (by decide) ?_
    exact g_sub [] (tX8_startOf_L44 (s0 := (σ 3 (σ 3 a1.toNatClampNeg).toNatClampNeg)) (σ := σ) C K0 h) rfl
  · refine g_aload_n 29 C dX8_startOf_28 rfl (j := 0) rfl rfl ?_
    refine g_getr 32 (j := 16) C rfl rfl wu_X8 (by decide) wf_X8_45 rfl dX8_startOf_29 rfl ?_
    refine g_aload_n 33 C dX8_startOf_32 rfl (j := 0) rfl rfl ?_
    refine g_getr 36 (j := 4) C rfl rfl wu_X8 (by decide) wf_X8_17 rfl dX8_startOf_33 rfl ?_
    refine g_aload_n 37 C dX8_startOf_36 rfl (j := 0) rfl rfl ?_
    refine g_getr 40 (j := 4) C rfl rfl wu_X8 (by decide) wf_X8_17 rfl dX8_startOf_37 rfl ?_
    refine g_iload_n 41 C dX8_startOf_40 rfl (j := 1) rfl rfl ?_
    refine g_iald 42 C rfl dX8_startOf_41 rfl h (fun h => ?_)
    refine g_iald 43 C rfl dX8_startOf_42 rfl h (fun h => ?_)
    refine g_iald 44 C rfl dX8_startOf_43 rfl h (fun h => ?_)
    exact g_sub [] (tX8_startOf_L44 (s0 := (σ 9 (σ 3 (σ 3 a1.toNatClampNeg).toNatClampNeg).toNatClampNeg)) (σ := σ) C K0 h) rfl

/-! LoopReducerModel.neededBy(I)I -/
abbrev rmX8_neededBy : Room := { frames := 1, cells := 0, slots := 0, locals := 21 }
theorem qX8_neededBy : yX8_neededBy.cls ≠ "java/lang/invoke/MethodHandle" ∧ yX8_neededBy.cls ≠ "java/lang/invoke/VarHandle" ∧ (parseMethodDescriptor yX8_neededBy.desc).map (fun d => d.parameters.length) = some 1 := by decide +kernel
theorem DX8_neededBy : ∀ q ∈ ([(0, .iload_n 1, 1), (1, .istore_n 2, 1), (2, .iconst 0, 1), (3, .istore_n 3, 1), (4, .iload_n 3, 1), (5, .iload_n 2, 1), (6, .if_icmp .eq 92, 3), (9, .iload_n 2, 1), (10, .istore_n 3, 1), (11, .iconst 0, 1), (12, .istore 4, 2), (14, .iload 4, 2), (16, .aload_n 0, 1), (17, .getfield 72, 3), (20, .if_icmp .ge 75, 3), (23, .aload_n 0, 1), (24, .getfield 39, 3), (27, .iload 4, 2), (29, .iaload, 1), (30, .ifCond .eq 25, 3), (33, .aload_n 0, 1), (34, .getfield 14, 3), (37, .iload 4, 2), (39, .iaload, 1), (40, .iconst 4, 1), (41, .if_icmp .ne 18, 3), (44, .aload_n 0, 1), (45, .getfield 39, 3), (48, .iload 4, 2), (50, .iaload, 1), (51, .iconst 1, 1), (52, .if_icmp .ne 7, 3), (55, .iconst 1, 1), (56, .goto 4, 3), (59, .iconst 0, 1), (60, .istore 5, 2), (62, .iload_n 2, 1), (63, .iload_n 2, 1), (64, .iload 4, 2), (66, .invokestatic 102, 3), (69, .ifCond .eq 17, 3), (72, .iload 5, 2), (74, .ifCond .ne 12, 3), (77, .aload_n 0, 1), (78, .iload 4, 2), (80, .invokevirtual 109, 3), (83, .goto 4, 3), (86, .iconst 0, 1), (87, .ior, 1), (88, .istore_n 2, 1), (89, .iinc 4 1, 3), (92, .goto (-78), 3), (95, .goto (-91), 3), (98, .iload_n 2, 1), (99, .ireturn, 1)] : List (Nat × Instr × Nat)), decode cX8_neededBy q.1 = .ok q.2 := by decide +kernel
theorem dX8_neededBy_0 : decode cX8_neededBy 0 = .ok (.iload_n 1, 1) := DX8_neededBy (0, .iload_n 1, 1) (List.mem_of_getElem? (i := 0) rfl)
theorem dX8_neededBy_1 : decode cX8_neededBy 1 = .ok (.istore_n 2, 1) := DX8_neededBy (1, .istore_n 2, 1) (List.mem_of_getElem? (i := 1) rfl)
theorem dX8_neededBy_2 : decode cX8_neededBy 2 = .ok (.iconst 0, 1) := DX8_neededBy (2, .iconst 0, 1) (List.mem_of_getElem? (i := 2) rfl)
theorem dX8_neededBy_3 : decode cX8_neededBy 3 = .ok (.istore_n 3, 1) := DX8_neededBy (3, .istore_n 3, 1) (List.mem_of_getElem? (i := 3) rfl)
theorem dX8_neededBy_4 : decode cX8_neededBy 4 = .ok (.iload_n 3, 1) := DX8_neededBy (4, .iload_n 3, 1) (List.mem_of_getElem? (i := 4) rfl)
theorem dX8_neededBy_5 : decode cX8_neededBy 5 = .ok (.iload_n 2, 1) := DX8_neededBy (5, .iload_n 2, 1) (List.mem_of_getElem? (i := 5) rfl)
theorem dX8_neededBy_6 : decode cX8_neededBy 6 = .ok (.if_icmp .eq 92, 3) := DX8_neededBy (6, .if_icmp .eq 92, 3) (List.mem_of_getElem? (i := 6) rfl)
theorem dX8_neededBy_9 : decode cX8_neededBy 9 = .ok (.iload_n 2, 1) := DX8_neededBy (9, .iload_n 2, 1) (List.mem_of_getElem? (i := 7) rfl)
theorem dX8_neededBy_10 : decode cX8_neededBy 10 = .ok (.istore_n 3, 1) := DX8_neededBy (10, .istore_n 3, 1) (List.mem_of_getElem? (i := 8) rfl)
theorem dX8_neededBy_11 : decode cX8_neededBy 11 = .ok (.iconst 0, 1) := DX8_neededBy (11, .iconst 0, 1) (List.mem_of_getElem? (i := 9) rfl)
theorem dX8_neededBy_12 : decode cX8_neededBy 12 = .ok (.istore 4, 2) := DX8_neededBy (12, .istore 4, 2) (List.mem_of_getElem? (i := 10) rfl)
theorem dX8_neededBy_14 : decode cX8_neededBy 14 = .ok (.iload 4, 2) := DX8_neededBy (14, .iload 4, 2) (List.mem_of_getElem? (i := 11) rfl)
theorem dX8_neededBy_16 : decode cX8_neededBy 16 = .ok (.aload_n 0, 1) := DX8_neededBy (16, .aload_n 0, 1) (List.mem_of_getElem? (i := 12) rfl)
theorem dX8_neededBy_17 : decode cX8_neededBy 17 = .ok (.getfield 72, 3) := DX8_neededBy (17, .getfield 72, 3) (List.mem_of_getElem? (i := 13) rfl)
theorem dX8_neededBy_20 : decode cX8_neededBy 20 = .ok (.if_icmp .ge 75, 3) := DX8_neededBy (20, .if_icmp .ge 75, 3) (List.mem_of_getElem? (i := 14) rfl)
theorem dX8_neededBy_23 : decode cX8_neededBy 23 = .ok (.aload_n 0, 1) := DX8_neededBy (23, .aload_n 0, 1) (List.mem_of_getElem? (i := 15) rfl)
theorem dX8_neededBy_24 : decode cX8_neededBy 24 = .ok (.getfield 39, 3) := DX8_neededBy (24, .getfield 39, 3) (List.mem_of_getElem? (i := 16) rfl)
theorem dX8_neededBy_27 : decode cX8_neededBy 27 = .ok (.iload 4, 2) := DX8_neededBy (27, .iload 4, 2) (List.mem_of_getElem? (i := 17) rfl)
theorem dX8_neededBy_29 : decode cX8_neededBy 29 = .ok (.iaload, 1) := DX8_neededBy (29, .iaload, 1) (List.mem_of_getElem? (i := 18) rfl)
theorem dX8_neededBy_30 : decode cX8_neededBy 30 = .ok (.ifCond .eq 25, 3) := DX8_neededBy (30, .ifCond .eq 25, 3) (List.mem_of_getElem? (i := 19) rfl)
theorem dX8_neededBy_33 : decode cX8_neededBy 33 = .ok (.aload_n 0, 1) := DX8_neededBy (33, .aload_n 0, 1) (List.mem_of_getElem? (i := 20) rfl)
theorem dX8_neededBy_34 : decode cX8_neededBy 34 = .ok (.getfield 14, 3) := DX8_neededBy (34, .getfield 14, 3) (List.mem_of_getElem? (i := 21) rfl)
theorem dX8_neededBy_37 : decode cX8_neededBy 37 = .ok (.iload 4, 2) := DX8_neededBy (37, .iload 4, 2) (List.mem_of_getElem? (i := 22) rfl)
theorem dX8_neededBy_39 : decode cX8_neededBy 39 = .ok (.iaload, 1) := DX8_neededBy (39, .iaload, 1) (List.mem_of_getElem? (i := 23) rfl)
theorem dX8_neededBy_40 : decode cX8_neededBy 40 = .ok (.iconst 4, 1) := DX8_neededBy (40, .iconst 4, 1) (List.mem_of_getElem? (i := 24) rfl)
theorem dX8_neededBy_41 : decode cX8_neededBy 41 = .ok (.if_icmp .ne 18, 3) := DX8_neededBy (41, .if_icmp .ne 18, 3) (List.mem_of_getElem? (i := 25) rfl)
theorem dX8_neededBy_44 : decode cX8_neededBy 44 = .ok (.aload_n 0, 1) := DX8_neededBy (44, .aload_n 0, 1) (List.mem_of_getElem? (i := 26) rfl)
theorem dX8_neededBy_45 : decode cX8_neededBy 45 = .ok (.getfield 39, 3) := DX8_neededBy (45, .getfield 39, 3) (List.mem_of_getElem? (i := 27) rfl)
theorem dX8_neededBy_48 : decode cX8_neededBy 48 = .ok (.iload 4, 2) := DX8_neededBy (48, .iload 4, 2) (List.mem_of_getElem? (i := 28) rfl)
theorem dX8_neededBy_50 : decode cX8_neededBy 50 = .ok (.iaload, 1) := DX8_neededBy (50, .iaload, 1) (List.mem_of_getElem? (i := 29) rfl)
theorem dX8_neededBy_51 : decode cX8_neededBy 51 = .ok (.iconst 1, 1) := DX8_neededBy (51, .iconst 1, 1) (List.mem_of_getElem? (i := 30) rfl)
theorem dX8_neededBy_52 : decode cX8_neededBy 52 = .ok (.if_icmp .ne 7, 3) := DX8_neededBy (52, .if_icmp .ne 7, 3) (List.mem_of_getElem? (i := 31) rfl)
theorem dX8_neededBy_55 : decode cX8_neededBy 55 = .ok (.iconst 1, 1) := DX8_neededBy (55, .iconst 1, 1) (List.mem_of_getElem? (i := 32) rfl)
theorem dX8_neededBy_56 : decode cX8_neededBy 56 = .ok (.goto 4, 3) := DX8_neededBy (56, .goto 4, 3) (List.mem_of_getElem? (i := 33) rfl)
theorem dX8_neededBy_59 : decode cX8_neededBy 59 = .ok (.iconst 0, 1) := DX8_neededBy (59, .iconst 0, 1) (List.mem_of_getElem? (i := 34) rfl)
theorem dX8_neededBy_60 : decode cX8_neededBy 60 = .ok (.istore 5, 2) := DX8_neededBy (60, .istore 5, 2) (List.mem_of_getElem? (i := 35) rfl)
theorem dX8_neededBy_62 : decode cX8_neededBy 62 = .ok (.iload_n 2, 1) := DX8_neededBy (62, .iload_n 2, 1) (List.mem_of_getElem? (i := 36) rfl)
theorem dX8_neededBy_63 : decode cX8_neededBy 63 = .ok (.iload_n 2, 1) := DX8_neededBy (63, .iload_n 2, 1) (List.mem_of_getElem? (i := 37) rfl)
theorem dX8_neededBy_64 : decode cX8_neededBy 64 = .ok (.iload 4, 2) := DX8_neededBy (64, .iload 4, 2) (List.mem_of_getElem? (i := 38) rfl)
theorem dX8_neededBy_66 : decode cX8_neededBy 66 = .ok (.invokestatic 102, 3) := DX8_neededBy (66, .invokestatic 102, 3) (List.mem_of_getElem? (i := 39) rfl)
theorem dX8_neededBy_69 : decode cX8_neededBy 69 = .ok (.ifCond .eq 17, 3) := DX8_neededBy (69, .ifCond .eq 17, 3) (List.mem_of_getElem? (i := 40) rfl)
theorem dX8_neededBy_72 : decode cX8_neededBy 72 = .ok (.iload 5, 2) := DX8_neededBy (72, .iload 5, 2) (List.mem_of_getElem? (i := 41) rfl)
theorem dX8_neededBy_74 : decode cX8_neededBy 74 = .ok (.ifCond .ne 12, 3) := DX8_neededBy (74, .ifCond .ne 12, 3) (List.mem_of_getElem? (i := 42) rfl)
theorem dX8_neededBy_77 : decode cX8_neededBy 77 = .ok (.aload_n 0, 1) := DX8_neededBy (77, .aload_n 0, 1) (List.mem_of_getElem? (i := 43) rfl)
theorem dX8_neededBy_78 : decode cX8_neededBy 78 = .ok (.iload 4, 2) := DX8_neededBy (78, .iload 4, 2) (List.mem_of_getElem? (i := 44) rfl)
theorem dX8_neededBy_80 : decode cX8_neededBy 80 = .ok (.invokevirtual 109, 3) := DX8_neededBy (80, .invokevirtual 109, 3) (List.mem_of_getElem? (i := 45) rfl)
theorem dX8_neededBy_83 : decode cX8_neededBy 83 = .ok (.goto 4, 3) := DX8_neededBy (83, .goto 4, 3) (List.mem_of_getElem? (i := 46) rfl)
theorem dX8_neededBy_86 : decode cX8_neededBy 86 = .ok (.iconst 0, 1) := DX8_neededBy (86, .iconst 0, 1) (List.mem_of_getElem? (i := 47) rfl)
theorem dX8_neededBy_87 : decode cX8_neededBy 87 = .ok (.ior, 1) := DX8_neededBy (87, .ior, 1) (List.mem_of_getElem? (i := 48) rfl)
theorem dX8_neededBy_88 : decode cX8_neededBy 88 = .ok (.istore_n 2, 1) := DX8_neededBy (88, .istore_n 2, 1) (List.mem_of_getElem? (i := 49) rfl)
theorem dX8_neededBy_89 : decode cX8_neededBy 89 = .ok (.iinc 4 1, 3) := DX8_neededBy (89, .iinc 4 1, 3) (List.mem_of_getElem? (i := 50) rfl)
theorem dX8_neededBy_92 : decode cX8_neededBy 92 = .ok (.goto (-78), 3) := DX8_neededBy (92, .goto (-78), 3) (List.mem_of_getElem? (i := 51) rfl)
theorem dX8_neededBy_95 : decode cX8_neededBy 95 = .ok (.goto (-91), 3) := DX8_neededBy (95, .goto (-91), 3) (List.mem_of_getElem? (i := 52) rfl)
theorem dX8_neededBy_98 : decode cX8_neededBy 98 = .ok (.iload_n 2, 1) := DX8_neededBy (98, .iload_n 2, 1) (List.mem_of_getElem? (i := 53) rfl)
theorem dX8_neededBy_99 : decode cX8_neededBy 99 = .ok (.ireturn, 1) := DX8_neededBy (99, .ireturn, 1) (List.mem_of_getElem? (i := 54) rfl)
noncomputable def fX8_neededBy_L87 (l3 : Int32) (l4 : Int32) (s0 : Int32) (s1 : Int32) (σ : Mem) : Option ((Int32 × Int32 × Mem) ⊕ (Int32 × Mem)) :=
  some (.inl (s0 ||| s1, l4 + 1, σ))
set_option maxHeartbeats 4000000 in
set_option maxRecDepth 100000 in
theorem tX8_neededBy_L87 {E : Gx} {cI : ClassId} {ad : Nat → Nat} (C : Cx E rmX8_neededBy cI layM ad 6 RX8 cX8_neededBy) {out : Int32 × Mem} (K0 : KI E rmX8_neededBy cI layM ad 6 cX8_neededBy .int out) {l3 : Int32} {l4 : Int32} {s0 : Int32} {s1 : Int32} {σ : Mem} {res : (Int32 × Int32 × Mem) ⊕ (Int32 × Mem)} (h : fX8_neededBy_L87 l3 l4 s0 s1 σ = some res) (K : Sum.elim (fun a => G E rmX8_neededBy cI layM ad 6 14 [(0, .ref (ad 0)), (2, .int a.1), (3, .int l3), (4, .int a.2.1)] [] a.2.2) (fun b => G E rmX8_neededBy cI layM ad 6 95 [(0, .ref (ad 0)), (2, .int b.1), (3, .int l3)] [] b.2) res) : G E rmX8_neededBy cI layM ad 6 87 [(0, .ref (ad 0)), (3, .int l3), (4, .int l4)] [.int s1, .int s0] σ := by
  unfold fX8_neededBy_L87 at h
  refine g_ior 88 C dX8_neededBy_87 rfl ?_
  refine g_istore_n 89 [(2, .int (s0 ||| s1)), (0, .ref (ad 0)), (3, .int l3), (4, .int l4)] C dX8_neededBy_88 rfl (by decide) rfl rfl ?_
  refine g_iinc 92 [(4, .int (l4 + 1)), (2, .int (s0 ||| s1)), (0, .ref (ad 0)), (3, .int l3)] C dX8_neededBy_89 (j := 3) rfl (by rfl) (by decide) rfl rfl ?_
  refine g_goto 14 C dX8_neededBy_92 (by decide) ?_
  have hh := end_inl h K
  exact g_sub [2, 1, 3, 0] (hh) rfl
noncomputable def fX8_neededBy_L86 (l3 : Int32) (l4 : Int32) (s0 : Int32) (σ : Mem) : Option ((Int32 × Int32 × Mem) ⊕ (Int32 × Mem)) :=
  fX8_neededBy_L87 l3 l4 s0 0 σ
set_option maxHeartbeats 4000000 in
set_option maxRecDepth 100000 in
theorem tX8_neededBy_L86 {E : Gx} {cI : ClassId} {ad : Nat → Nat} (C : Cx E rmX8_neededBy cI layM ad 6 RX8 cX8_neededBy) {out : Int32 × Mem} (K0 : KI E rmX8_neededBy cI layM ad 6 cX8_neededBy .int out) {l3 : Int32} {l4 : Int32} {s0 : Int32} {σ : Mem} {res : (Int32 × Int32 × Mem) ⊕ (Int32 × Mem)} (h : fX8_neededBy_L86 l3 l4 s0 σ = some res) (K : Sum.elim (fun a => G E rmX8_neededBy cI layM ad 6 14 [(0, .ref (ad 0)), (2, .int a.1), (3, .int l3), (4, .int a.2.1)] [] a.2.2) (fun b => G E rmX8_neededBy cI layM ad 6 95 [(0, .ref (ad 0)), (2, .int b.1), (3, .int l3)] [] b.2) res) : G E rmX8_neededBy cI layM ad 6 86 [(0, .ref (ad 0)), (3, .int l3), (4, .int l4)] [.int s0] σ := by
  unfold fX8_neededBy_L86 at h
  refine g_iconst 87 (v := 0) C dX8_neededBy_86 (by decide) rfl ?_
  exact tX8_neededBy_L87 (l3 := l3) (l4 := l4) (s0 := s0) (s1 := 0) (σ := σ) C K0 h K
noncomputable def fX8_neededBy_L60 (l2 : Int32) (l3 : Int32) (l4 : Int32) (s0 : Int32) (σ : Mem) : Option ((Int32 × Int32 × Mem) ⊕ (Int32 × Mem)) :=
  (fX8_has l2 l4 σ).bind fun o1 =>
  if o1.1 = 0 then
    fX8_neededBy_L86 l3 l4 l2 o1.2
  else
    if s0 = 0 then
      (fX8_direct l4 o1.2).bind fun o2 =>
      fX8_neededBy_L87 l3 l4 l2 o2.1 o2.2
    else
      fX8_neededBy_L86 l3 l4 l2 o1.2
set_option maxHeartbeats 4000000 in
set_option maxRecDepth 100000 in
theorem tX8_neededBy_L60 {E : Gx} {cI : ClassId} {ad : Nat → Nat} (C : Cx E rmX8_neededBy cI layM ad 6 RX8 cX8_neededBy) {out : Int32 × Mem} (K0 : KI E rmX8_neededBy cI layM ad 6 cX8_neededBy .int out) {l2 : Int32} {l3 : Int32} {l4 : Int32} {s0 : Int32} {σ : Mem} {res : (Int32 × Int32 × Mem) ⊕ (Int32 × Mem)} (h : fX8_neededBy_L60 l2 l3 l4 s0 σ = some res) (K : Sum.elim (fun a => G E rmX8_neededBy cI layM ad 6 14 [(0, .ref (ad 0)), (2, .int a.1), (3, .int l3), (4, .int a.2.1)] [] a.2.2) (fun b => G E rmX8_neededBy cI layM ad 6 95 [(0, .ref (ad 0)), (2, .int b.1), (3, .int l3)] [] b.2) res) : G E rmX8_neededBy cI layM ad 6 60 [(0, .ref (ad 0)), (2, .int l2), (3, .int l3), (4, .int l4)] [.int s0] σ := by
  unfold fX8_neededBy_L60 at h
  refine g_istore 62 [(5, .int s0), (0, .ref (ad 0)), (2, .int l2), (3, .int l3), (4, .int l4)] C dX8_neededBy_60 (by decide) rfl rfl ?_
  refine g_iload_n 63 C dX8_neededBy_62 rfl (j := 2) rfl rfl ?_
  refine g_iload_n 64 C dX8_neededBy_63 rfl (j := 2) rfl rfl ?_
  refine g_iload 66 C dX8_neededBy_64 (j := 4) rfl rfl ?_
  refine g_csi 69 C (As := [.int l2, .int l4]) (fun _ h => mX8_has (a1 := l2) (a2 := l4) (σ := σ) h) wl_X8_102 ws_X8_has wc_X8_has wn_X8 qX8_has rfl rfl ⟨Nat.le_of_ble_eq_true rfl, Nat.le_of_ble_eq_true rfl⟩ rfl rfl (Nat.le_of_ble_eq_true rfl) dX8_neededBy_66 rfl h (fun o1 h => ?_)
  refine g_if_eq 86 72 C dX8_neededBy_69 (by decide) rfl h (fun h => ?_) (fun h => ?_)
  · exact g_sub [1, 3, 4] (tX8_neededBy_L86 (l3 := l3) (l4 := l4) (s0 := l2) (σ := o1.2) C K0 h K) rfl
  · refine g_iload 74 C dX8_neededBy_72 (j := 0) rfl rfl ?_
    refine g_if_ne 86 77 C dX8_neededBy_74 (by decide) rfl h (fun h => ?_) (fun h => ?_)
    · refine g_aload_n 78 C dX8_neededBy_77 rfl (j := 1) rfl rfl ?_
      refine g_iload 80 C dX8_neededBy_78 (j := 4) rfl rfl ?_
      refine g_cvi 83 C (As := [.int l4]) (fun _ h => mX8_direct (a1 := l4) (σ := o1.2) h) wl_X8_109 wi_X8_direct wz_X8_direct wc_X8_direct wn_X8 qX8_direct rfl rfl ⟨Nat.le_of_ble_eq_true rfl, Nat.le_of_ble_eq_true rfl⟩ rfl rfl rfl rfl (Nat.le_of_ble_eq_true rfl) dX8_neededBy_80 rfl h (fun o2 h => ?_)
      refine g_goto 87 C dX8_neededBy_83 (by decide) ?_
      exact g_sub [1, 3, 4] (tX8_neededBy_L87 (l3 := l3) (l4 := l4) (s0 := l2) (s1 := o2.1) (σ := o2.2) C K0 h K) rfl
    · exact g_sub [1, 3, 4] (tX8_neededBy_L86 (l3 := l3) (l4 := l4) (s0 := l2) (σ := o1.2) C K0 h K) rfl
noncomputable def fX8_neededBy_L55 (l2 : Int32) (l3 : Int32) (l4 : Int32) (σ : Mem) : Option ((Int32 × Int32 × Mem) ⊕ (Int32 × Mem)) :=
  fX8_neededBy_L60 l2 l3 l4 1 σ
set_option maxHeartbeats 4000000 in
set_option maxRecDepth 100000 in
theorem tX8_neededBy_L55 {E : Gx} {cI : ClassId} {ad : Nat → Nat} (C : Cx E rmX8_neededBy cI layM ad 6 RX8 cX8_neededBy) {out : Int32 × Mem} (K0 : KI E rmX8_neededBy cI layM ad 6 cX8_neededBy .int out) {l2 : Int32} {l3 : Int32} {l4 : Int32} {σ : Mem} {res : (Int32 × Int32 × Mem) ⊕ (Int32 × Mem)} (h : fX8_neededBy_L55 l2 l3 l4 σ = some res) (K : Sum.elim (fun a => G E rmX8_neededBy cI layM ad 6 14 [(0, .ref (ad 0)), (2, .int a.1), (3, .int l3), (4, .int a.2.1)] [] a.2.2) (fun b => G E rmX8_neededBy cI layM ad 6 95 [(0, .ref (ad 0)), (2, .int b.1), (3, .int l3)] [] b.2) res) : G E rmX8_neededBy cI layM ad 6 55 [(0, .ref (ad 0)), (2, .int l2), (3, .int l3), (4, .int l4)] [] σ := by
  unfold fX8_neededBy_L55 at h
  refine g_iconst 56 (v := 1) C dX8_neededBy_55 (by decide) rfl ?_
  refine g_goto 60 C dX8_neededBy_56 (by decide) ?_
  exact tX8_neededBy_L60 (l2 := l2) (l3 := l3) (l4 := l4) (s0 := 1) (σ := σ) C K0 h K
noncomputable def fX8_neededBy_L59 (l2 : Int32) (l3 : Int32) (l4 : Int32) (σ : Mem) : Option ((Int32 × Int32 × Mem) ⊕ (Int32 × Mem)) :=
  fX8_neededBy_L60 l2 l3 l4 0 σ
set_option maxHeartbeats 4000000 in
set_option maxRecDepth 100000 in
theorem tX8_neededBy_L59 {E : Gx} {cI : ClassId} {ad : Nat → Nat} (C : Cx E rmX8_neededBy cI layM ad 6 RX8 cX8_neededBy) {out : Int32 × Mem} (K0 : KI E rmX8_neededBy cI layM ad 6 cX8_neededBy .int out) {l2 : Int32} {l3 : Int32} {l4 : Int32} {σ : Mem} {res : (Int32 × Int32 × Mem) ⊕ (Int32 × Mem)} (h : fX8_neededBy_L59 l2 l3 l4 σ = some res) (K : Sum.elim (fun a => G E rmX8_neededBy cI layM ad 6 14 [(0, .ref (ad 0)), (2, .int a.1), (3, .int l3), (4, .int a.2.1)] [] a.2.2) (fun b => G E rmX8_neededBy cI layM ad 6 95 [(0, .ref (ad 0)), (2, .int b.1), (3, .int l3)] [] b.2) res) : G E rmX8_neededBy cI layM ad 6 59 [(0, .ref (ad 0)), (2, .int l2), (3, .int l3), (4, .int l4)] [] σ := by
  unfold fX8_neededBy_L59 at h
  refine g_iconst 60 (v := 0) C dX8_neededBy_59 (by decide) rfl ?_
  exact tX8_neededBy_L60 (l2 := l2) (l3 := l3) (l4 := l4) (s0 := 0) (σ := σ) C K0 h K
noncomputable def fX8_neededBy_B14 (l2 : Int32) (l3 : Int32) (l4 : Int32) (σ : Mem) : Option ((Int32 × Int32 × Mem) ⊕ (Int32 × Mem)) :=
  if (σ 0 6) ≤ l4 then
    some (.inr (l2, σ))
  else
    chk (inb l4 30) <|
    if (σ 7 l4.toNatClampNeg) = 0 then
      fX8_neededBy_L55 l2 l3 l4 σ
    else
      chk (inb l4 30) <|
      if (σ 2 l4.toNatClampNeg) = 4 then
        chk (inb l4 30) <|
        if (σ 7 l4.toNatClampNeg) = 1 then
          fX8_neededBy_L55 l2 l3 l4 σ
        else
          fX8_neededBy_L59 l2 l3 l4 σ
      else
        fX8_neededBy_L59 l2 l3 l4 σ
set_option maxHeartbeats 4000000 in
set_option maxRecDepth 100000 in
theorem tX8_neededBy_B14 {E : Gx} {cI : ClassId} {ad : Nat → Nat} (C : Cx E rmX8_neededBy cI layM ad 6 RX8 cX8_neededBy) {out : Int32 × Mem} (K0 : KI E rmX8_neededBy cI layM ad 6 cX8_neededBy .int out) {l2 : Int32} {l3 : Int32} {l4 : Int32} {σ : Mem} {res : (Int32 × Int32 × Mem) ⊕ (Int32 × Mem)} (h : fX8_neededBy_B14 l2 l3 l4 σ = some res) (K : Sum.elim (fun a => G E rmX8_neededBy cI layM ad 6 14 [(0, .ref (ad 0)), (2, .int a.1), (3, .int l3), (4, .int a.2.1)] [] a.2.2) (fun b => G E rmX8_neededBy cI layM ad 6 95 [(0, .ref (ad 0)), (2, .int b.1), (3, .int l3)] [] b.2) res) : G E rmX8_neededBy cI layM ad 6 14 [(0, .ref (ad 0)), (2, .int l2), (3, .int l3), (4, .int l4)] [] σ := by
  unfold fX8_neededBy_B14 at h
  refine g_iload 16 C dX8_neededBy_14 (j := 3) rfl rfl ?_
  refine g_aload_n 17 C dX8_neededBy_16 rfl (j := 0) rfl rfl ?_
  refine g_geti 20 (j := 6) C rfl rfl wu_X8 (by decide) wf_X8_72 rfl dX8_neededBy_17 rfl ?_
  refine g_icmp_ge 95 23 C dX8_neededBy_20 (by decide) rfl h (fun h => ?_) (fun h => ?_)
  · have hh := end_inr h K
    exact g_sub [0, 1, 2] (hh) rfl
  · refine g_aload_n 24 C dX8_neededBy_23 rfl (j := 0) rfl rfl ?_
    refine g_getr 27 (j := 14) C rfl rfl wu_X8 (by decide) wf_X8_39 rfl dX8_neededBy_24 rfl ?_
    refine g_iload 29 C dX8_neededBy_27 (j := 3) rfl rfl ?_
    refine g_iald 30 C rfl dX8_neededBy_29 rfl h (fun h => ?_)
    refine g_if_eq 55 33 C dX8_neededBy_30 (by decide) rfl h (fun h => ?_) (fun h => ?_)
    · exact tX8_neededBy_L55 (l2 := l2) (l3 := l3) (l4 := l4) (σ := σ) C K0 h K
    · refine g_aload_n 34 C dX8_neededBy_33 rfl (j := 0) rfl rfl ?_
      refine g_getr 37 (j := 3) C rfl rfl wu_X8 (by decide) wf_X8_14 rfl dX8_neededBy_34 rfl ?_
      refine g_iload 39 C dX8_neededBy_37 (j := 3) rfl rfl ?_
      refine g_iald 40 C rfl dX8_neededBy_39 rfl h (fun h => ?_)
      refine g_iconst 41 (v := 4) C dX8_neededBy_40 (by decide) rfl ?_
      refine g_icmp_ne 59 44 C dX8_neededBy_41 (by decide) rfl h (fun h => ?_) (fun h => ?_)
      · refine g_aload_n 45 C dX8_neededBy_44 rfl (j := 0) rfl rfl ?_
        refine g_getr 48 (j := 14) C rfl rfl wu_X8 (by decide) wf_X8_39 rfl dX8_neededBy_45 rfl ?_
        refine g_iload 50 C dX8_neededBy_48 (j := 3) rfl rfl ?_
        refine g_iald 51 C rfl dX8_neededBy_50 rfl h (fun h => ?_)
        refine g_iconst 52 (v := 1) C dX8_neededBy_51 (by decide) rfl ?_
        refine g_icmp_ne 59 55 C dX8_neededBy_52 (by decide) rfl h (fun h => ?_) (fun h => ?_)
        · exact tX8_neededBy_L55 (l2 := l2) (l3 := l3) (l4 := l4) (σ := σ) C K0 h K
        · exact tX8_neededBy_L59 (l2 := l2) (l3 := l3) (l4 := l4) (σ := σ) C K0 h K
      · exact tX8_neededBy_L59 (l2 := l2) (l3 := l3) (l4 := l4) (σ := σ) C K0 h K
noncomputable def fX8_neededBy_L95 (l2 : Int32) (l3 : Int32) (σ : Mem) : Option ((Int32 × Int32 × Mem) ⊕ (Int32 × Mem)) :=
  some (.inl (l2, l3, σ))
set_option maxHeartbeats 4000000 in
set_option maxRecDepth 100000 in
theorem tX8_neededBy_L95 {E : Gx} {cI : ClassId} {ad : Nat → Nat} (C : Cx E rmX8_neededBy cI layM ad 6 RX8 cX8_neededBy) {out : Int32 × Mem} (K0 : KI E rmX8_neededBy cI layM ad 6 cX8_neededBy .int out) {l2 : Int32} {l3 : Int32} {σ : Mem} {res : (Int32 × Int32 × Mem) ⊕ (Int32 × Mem)} (h : fX8_neededBy_L95 l2 l3 σ = some res) (K : Sum.elim (fun a => G E rmX8_neededBy cI layM ad 6 4 [(0, .ref (ad 0)), (2, .int a.1), (3, .int a.2.1)] [] a.2.2) (fun b => G E rmX8_neededBy cI layM ad 6 98 [(2, .int b.1)] [] b.2) res) : G E rmX8_neededBy cI layM ad 6 95 [(0, .ref (ad 0)), (2, .int l2), (3, .int l3)] [] σ := by
  unfold fX8_neededBy_L95 at h
  refine g_goto 4 C dX8_neededBy_95 (by decide) ?_
  have hh := end_inl h K
  exact hh
noncomputable def fX8_neededBy_B4 (l2 : Int32) (l3 : Int32) (σ : Mem) : Option ((Int32 × Int32 × Mem) ⊕ (Int32 × Mem)) :=
  if l3 = l2 then
    some (.inr (l2, σ))
  else
    (loop (fun a => fX8_neededBy_B14 a.1 l2 a.2.1 a.2.2) (l2, 0, σ)).bind fun b3 =>
    fX8_neededBy_L95 b3.1 l2 b3.2
set_option maxHeartbeats 4000000 in
set_option maxRecDepth 100000 in
theorem tX8_neededBy_B4 {E : Gx} {cI : ClassId} {ad : Nat → Nat} (C : Cx E rmX8_neededBy cI layM ad 6 RX8 cX8_neededBy) {out : Int32 × Mem} (K0 : KI E rmX8_neededBy cI layM ad 6 cX8_neededBy .int out) {l2 : Int32} {l3 : Int32} {σ : Mem} {res : (Int32 × Int32 × Mem) ⊕ (Int32 × Mem)} (h : fX8_neededBy_B4 l2 l3 σ = some res) (K : Sum.elim (fun a => G E rmX8_neededBy cI layM ad 6 4 [(0, .ref (ad 0)), (2, .int a.1), (3, .int a.2.1)] [] a.2.2) (fun b => G E rmX8_neededBy cI layM ad 6 98 [(2, .int b.1)] [] b.2) res) : G E rmX8_neededBy cI layM ad 6 4 [(0, .ref (ad 0)), (2, .int l2), (3, .int l3)] [] σ := by
  unfold fX8_neededBy_B4 at h
  refine g_iload_n 5 C dX8_neededBy_4 rfl (j := 2) rfl rfl ?_
  refine g_iload_n 6 C dX8_neededBy_5 rfl (j := 1) rfl rfl ?_
  refine g_icmp_eq 98 9 C dX8_neededBy_6 (by decide) rfl h (fun h => ?_) (fun h => ?_)
  · have hh := end_inr h K
    exact g_sub [1] (hh) rfl
  · refine g_iload_n 10 C dX8_neededBy_9 rfl (j := 1) rfl rfl ?_
    refine g_istore_n 11 [(3, .int l2), (0, .ref (ad 0)), (2, .int l2)] C dX8_neededBy_10 rfl (by decide) rfl rfl ?_
    refine g_iconst 12 (v := 0) C dX8_neededBy_11 (by decide) rfl ?_
    refine g_istore 14 [(4, .int 0), (3, .int l2), (0, .ref (ad 0)), (2, .int l2)] C dX8_neededBy_12 (by decide) rfl rfl ?_
    obtain ⟨b3, hb, h⟩ := bind_some h
    refine g_sub [2, 3, 1, 0] (g_loop (a := (l2, 0, σ)) (fun a => G E rmX8_neededBy cI layM ad 6 14 [(0, .ref (ad 0)), (2, .int a.1), (3, .int l2), (4, .int a.2.1)] [] a.2.2) (fun b => G E rmX8_neededBy cI layM ad 6 95 [(0, .ref (ad 0)), (2, .int b.1), (3, .int l2)] [] b.2) hb (fun a res h K => tX8_neededBy_B14 (l2 := a.1) (l3 := l2) (l4 := a.2.1) (σ := a.2.2) (res := res) C K0 h K) ?_) rfl
    show G E rmX8_neededBy cI layM ad 6 95 [(0, .ref (ad 0)), (2, .int b3.1), (3, .int l2)] [] b3.2
    exact tX8_neededBy_L95 (l2 := b3.1) (l3 := l2) (σ := b3.2) C K0 h K
noncomputable def fX8_neededBy_L98 (l2 : Int32) (σ : Mem) : Option (Int32 × Mem) :=
  some (l2, σ)
set_option maxHeartbeats 4000000 in
set_option maxRecDepth 100000 in
theorem tX8_neededBy_L98 {E : Gx} {cI : ClassId} {ad : Nat → Nat} (C : Cx E rmX8_neededBy cI layM ad 6 RX8 cX8_neededBy) {out : Int32 × Mem} (K0 : KI E rmX8_neededBy cI layM ad 6 cX8_neededBy .int out) {l2 : Int32} {σ : Mem} (h : fX8_neededBy_L98 l2 σ = some out) : G E rmX8_neededBy cI layM ad 6 98 [(2, .int l2)] [] σ := by
  unfold fX8_neededBy_L98 at h
  refine g_iload_n 99 C dX8_neededBy_98 rfl (j := 0) rfl rfl ?_
  cases h
  exact K0 _ _ dX8_neededBy_99 rfl
noncomputable def fX8_neededBy (a1 : Int32) (σ : Mem) : Option (Int32 × Mem) :=
  (loop (fun a => fX8_neededBy_B4 a.1 a.2.1 a.2.2) (a1, 0, σ)).bind fun b4 =>
  fX8_neededBy_L98 b4.1 b4.2
set_option maxHeartbeats 4000000 in
set_option maxRecDepth 100000 in
theorem mX8_neededBy {l : Launch} {D : va_G} {cI : ClassId} {ad : Nat → Nat} {a1 : Int32} {σ : Mem} {out : Int32 × Mem} (h : fX8_neededBy a1 σ = some out) : MI l D cI layM ad yX8_neededBy cX8_neededBy 6 .int rmX8_neededBy [.ref (ad 0), .int a1] σ out := by
  refine met_i (by decide) (Nat.le_of_ble_eq_true rfl) (fun E C K0 => ?_)
  show G E rmX8_neededBy cI layM ad 6 0 [(0, .ref (ad 0)), (1, .int a1)] [] σ
  unfold fX8_neededBy at h
  refine g_iload_n 1 C dX8_neededBy_0 rfl (j := 1) rfl rfl ?_
  refine g_istore_n 2 [(2, .int a1), (0, .ref (ad 0)), (1, .int a1)] C dX8_neededBy_1 rfl (by decide) rfl rfl ?_
  refine g_iconst 3 (v := 0) C dX8_neededBy_2 (by decide) rfl ?_
  refine g_istore_n 4 [(3, .int 0), (2, .int a1), (0, .ref (ad 0)), (1, .int a1)] C dX8_neededBy_3 rfl (by decide) rfl rfl ?_
  obtain ⟨b4, hb, h⟩ := bind_some h
  refine g_sub [2, 1, 0] (g_loop (a := (a1, 0, σ)) (fun a => G E rmX8_neededBy cI layM ad 6 4 [(0, .ref (ad 0)), (2, .int a.1), (3, .int a.2.1)] [] a.2.2) (fun b => G E rmX8_neededBy cI layM ad 6 98 [(2, .int b.1)] [] b.2) hb (fun a res h K => tX8_neededBy_B4 (l2 := a.1) (l3 := a.2.1) (σ := a.2.2) (res := res) C K0 h K) ?_) rfl
  show G E rmX8_neededBy cI layM ad 6 98 [(2, .int b4.1)] [] b4.2
  exact tX8_neededBy_L98 (l2 := b4.1) (σ := b4.2) C K0 h
