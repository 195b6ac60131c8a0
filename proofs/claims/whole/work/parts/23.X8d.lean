/-! LoopReducerModel.form(II)I -/
abbrev rmX8_form : Room := { frames := 7, cells := 0, slots := 0, locals := 171 }
theorem qX8_form : yX8_form.cls ≠ "java/lang/invoke/MethodHandle" ∧ yX8_form.cls ≠ "java/lang/invoke/VarHandle" ∧ (parseMethodDescriptor yX8_form.desc).map (fun d => d.parameters.length) = some 2 := by decide +kernel
theorem DX8_form : ∀ q ∈ ([(0, .aload_n 0, 1), (1, .iconst 0, 1), (2, .putfield 69, 3), (5, .aload_n 0, 1), (6, .iload_n 1, 1), (7, .invokevirtual 95, 3), (10, .ifCond .eq 12, 3), (13, .iload_n 2, 1), (14, .iconst 0, 1), (15, .iconst 4, 1), (16, .invokestatic 75, 3), (19, .ifCond .ne 5, 3), (22, .iconst (-1), 1), (23, .ireturn, 1), (24, .aload_n 0, 1), (25, .invokevirtual 190, 3), (28, .iload_n 2, 1), (29, .ifCond .ne 10, 3), (32, .aload_n 0, 1), (33, .getfield 39, 3), (36, .iload_n 1, 1), (37, .iaload, 1), (38, .ireturn, 1), (39, .iload_n 2, 1), (40, .iconst 3, 1), (41, .if_icmp .ne 28, 3), (44, .aload_n 0, 1), (45, .getfield 39, 3), (48, .iload_n 1, 1), (49, .iaload, 1), (50, .iconst 3, 1), (51, .if_icmp .ne 15, 3), (54, .aload_n 0, 1), (55, .aload_n 0, 1), (56, .iload_n 1, 1), (57, .invokevirtual 115, 3), (60, .invokevirtual 193, 3), (63, .goto 5, 3), (66, .bipush (-2), 2), (68, .ireturn, 1), (69, .aload_n 0, 1), (70, .iload_n 1, 1), (71, .invokevirtual 159, 3), (74, .ifCond .ne 6, 3), (77, .bipush (-2), 2), (79, .ireturn, 1), (80, .iload_n 2, 1), (81, .iconst 1, 1), (82, .if_icmp .ne 9, 3), (85, .aload_n 0, 1), (86, .iload_n 1, 1), (87, .invokevirtual 124, 3), (90, .ireturn, 1), (91, .iload_n 2, 1), (92, .iconst 2, 1), (93, .if_icmp .ne 10, 3), (96, .aload_n 0, 1), (97, .getfield 36, 3), (100, .iload_n 1, 1), (101, .iaload, 1), (102, .ireturn, 1), (103, .iconst 0, 1), (104, .istore_n 3, 1), (105, .aload_n 0, 1), (106, .getfield 36, 3), (109, .iload_n 3, 1), (110, .iaload, 1), (111, .aload_n 0, 1), (112, .getfield 36, 3), (115, .iload_n 1, 1), (116, .iaload, 1), (117, .if_icmp .ne 12, 3), (120, .aload_n 0, 1), (121, .iload_n 3, 1), (122, .iload_n 1, 1), (123, .invokevirtual 196, 3), (126, .ifCond .ne 9, 3), (129, .iinc 3 1, 3), (132, .goto (-27), 3), (135, .iload_n 3, 1), (136, .ireturn, 1)] : List (Nat × Instr × Nat)), decode cX8_form q.1 = .ok q.2 := by decide +kernel
theorem dX8_form_0 : decode cX8_form 0 = .ok (.aload_n 0, 1) := DX8_form (0, .aload_n 0, 1) (List.mem_of_getElem? (i := 0) rfl)
theorem dX8_form_1 : decode cX8_form 1 = .ok (.iconst 0, 1) := DX8_form (1, .iconst 0, 1) (List.mem_of_getElem? (i := 1) rfl)
theorem dX8_form_2 : decode cX8_form 2 = .ok (.putfield 69, 3) := DX8_form (2, .putfield 69, 3) (List.mem_of_getElem? (i := 2) rfl)
theorem dX8_form_5 : decode cX8_form 5 = .ok (.aload_n 0, 1) := DX8_form (5, .aload_n 0, 1) (List.mem_of_getElem? (i := 3) rfl)
theorem dX8_form_6 : decode cX8_form 6 = .ok (.iload_n 1, 1) := DX8_form (6, .iload_n 1, 1) (List.mem_of_getElem? (i := 4) rfl)
theorem dX8_form_7 : decode cX8_form 7 = .ok (.invokevirtual 95, 3) := DX8_form (7, .invokevirtual 95, 3) (List.mem_of_getElem? (i := 5) rfl)
theorem dX8_form_10 : decode cX8_form 10 = .ok (.ifCond .eq 12, 3) := DX8_form (10, .ifCond .eq 12, 3) (List.mem_of_getElem? (i := 6) rfl)
theorem dX8_form_13 : decode cX8_form 13 = .ok (.iload_n 2, 1) := DX8_form (13, .iload_n 2, 1) (List.mem_of_getElem? (i := 7) rfl)
theorem dX8_form_14 : decode cX8_form 14 = .ok (.iconst 0, 1) := DX8_form (14, .iconst 0, 1) (List.mem_of_getElem? (i := 8) rfl)
theorem dX8_form_15 : decode cX8_form 15 = .ok (.iconst 4, 1) := DX8_form (15, .iconst 4, 1) (List.mem_of_getElem? (i := 9) rfl)
theorem dX8_form_16 : decode cX8_form 16 = .ok (.invokestatic 75, 3) := DX8_form (16, .invokestatic 75, 3) (List.mem_of_getElem? (i := 10) rfl)
theorem dX8_form_19 : decode cX8_form 19 = .ok (.ifCond .ne 5, 3) := DX8_form (19, .ifCond .ne 5, 3) (List.mem_of_getElem? (i := 11) rfl)
theorem dX8_form_22 : decode cX8_form 22 = .ok (.iconst (-1), 1) := DX8_form (22, .iconst (-1), 1) (List.mem_of_getElem? (i := 12) rfl)
theorem dX8_form_23 : decode cX8_form 23 = .ok (.ireturn, 1) := DX8_form (23, .ireturn, 1) (List.mem_of_getElem? (i := 13) rfl)
theorem dX8_form_24 : decode cX8_form 24 = .ok (.aload_n 0, 1) := DX8_form (24, .aload_n 0, 1) (List.mem_of_getElem? (i := 14) rfl)
theorem dX8_form_25 : decode cX8_form 25 = .ok (.invokevirtual 190, 3) := DX8_form (25, .invokevirtual 190, 3) (List.mem_of_getElem? (i := 15) rfl)
theorem dX8_form_28 : decode cX8_form 28 = .ok (.iload_n 2, 1) := DX8_form (28, .iload_n 2, 1) (List.mem_of_getElem? (i := 16) rfl)
theorem dX8_form_29 : decode cX8_form 29 = .ok (.ifCond .ne 10, 3) := DX8_form (29, .ifCond .ne 10, 3) (List.mem_of_getElem? (i := 17) rfl)
theorem dX8_form_32 : decode cX8_form 32 = .ok (.aload_n 0, 1) := DX8_form (32, .aload_n 0, 1) (List.mem_of_getElem? (i := 18) rfl)
theorem dX8_form_33 : decode cX8_form 33 = .ok (.getfield 39, 3) := DX8_form (33, .getfield 39, 3) (List.mem_of_getElem? (i := 19) rfl)
theorem dX8_form_36 : decode cX8_form 36 = .ok (.iload_n 1, 1) := DX8_form (36, .iload_n 1, 1) (List.mem_of_getElem? (i := 20) rfl)
theorem dX8_form_37 : decode cX8_form 37 = .ok (.iaload, 1) := DX8_form (37, .iaload, 1) (List.mem_of_getElem? (i := 21) rfl)
theorem dX8_form_38 : decode cX8_form 38 = .ok (.ireturn, 1) := DX8_form (38, .ireturn, 1) (List.mem_of_getElem? (i := 22) rfl)
theorem dX8_form_39 : decode cX8_form 39 = .ok (.iload_n 2, 1) := DX8_form (39, .iload_n 2, 1) (List.mem_of_getElem? (i := 23) rfl)
theorem dX8_form_40 : decode cX8_form 40 = .ok (.iconst 3, 1) := DX8_form (40, .iconst 3, 1) (List.mem_of_getElem? (i := 24) rfl)
theorem dX8_form_41 : decode cX8_form 41 = .ok (.if_icmp .ne 28, 3) := DX8_form (41, .if_icmp .ne 28, 3) (List.mem_of_getElem? (i := 25) rfl)
theorem dX8_form_44 : decode cX8_form 44 = .ok (.aload_n 0, 1) := DX8_form (44, .aload_n 0, 1) (List.mem_of_getElem? (i := 26) rfl)
theorem dX8_form_45 : decode cX8_form 45 = .ok (.getfield 39, 3) := DX8_form (45, .getfield 39, 3) (List.mem_of_getElem? (i := 27) rfl)
theorem dX8_form_48 : decode cX8_form 48 = .ok (.iload_n 1, 1) := DX8_form (48, .iload_n 1, 1) (List.mem_of_getElem? (i := 28) rfl)
theorem dX8_form_49 : decode cX8_form 49 = .ok (.iaload, 1) := DX8_form (49, .iaload, 1) (List.mem_of_getElem? (i := 29) rfl)
theorem dX8_form_50 : decode cX8_form 50 = .ok (.iconst 3, 1) := DX8_form (50, .iconst 3, 1) (List.mem_of_getElem? (i := 30) rfl)
theorem dX8_form_51 : decode cX8_form 51 = .ok (.if_icmp .ne 15, 3) := DX8_form (51, .if_icmp .ne 15, 3) (List.mem_of_getElem? (i := 31) rfl)
theorem dX8_form_54 : decode cX8_form 54 = .ok (.aload_n 0, 1) := DX8_form (54, .aload_n 0, 1) (List.mem_of_getElem? (i := 32) rfl)
theorem dX8_form_55 : decode cX8_form 55 = .ok (.aload_n 0, 1) := DX8_form (55, .aload_n 0, 1) (List.mem_of_getElem? (i := 33) rfl)
theorem dX8_form_56 : decode cX8_form 56 = .ok (.iload_n 1, 1) := DX8_form (56, .iload_n 1, 1) (List.mem_of_getElem? (i := 34) rfl)
theorem dX8_form_57 : decode cX8_form 57 = .ok (.invokevirtual 115, 3) := DX8_form (57, .invokevirtual 115, 3) (List.mem_of_getElem? (i := 35) rfl)
theorem dX8_form_60 : decode cX8_form 60 = .ok (.invokevirtual 193, 3) := DX8_form (60, .invokevirtual 193, 3) (List.mem_of_getElem? (i := 36) rfl)
theorem dX8_form_63 : decode cX8_form 63 = .ok (.goto 5, 3) := DX8_form (63, .goto 5, 3) (List.mem_of_getElem? (i := 37) rfl)
theorem dX8_form_66 : decode cX8_form 66 = .ok (.bipush (-2), 2) := DX8_form (66, .bipush (-2), 2) (List.mem_of_getElem? (i := 38) rfl)
theorem dX8_form_68 : decode cX8_form 68 = .ok (.ireturn, 1) := DX8_form (68, .ireturn, 1) (List.mem_of_getElem? (i := 39) rfl)
theorem dX8_form_69 : decode cX8_form 69 = .ok (.aload_n 0, 1) := DX8_form (69, .aload_n 0, 1) (List.mem_of_getElem? (i := 40) rfl)
theorem dX8_form_70 : decode cX8_form 70 = .ok (.iload_n 1, 1) := DX8_form (70, .iload_n 1, 1) (List.mem_of_getElem? (i := 41) rfl)
theorem dX8_form_71 : decode cX8_form 71 = .ok (.invokevirtual 159, 3) := DX8_form (71, .invokevirtual 159, 3) (List.mem_of_getElem? (i := 42) rfl)
theorem dX8_form_74 : decode cX8_form 74 = .ok (.ifCond .ne 6, 3) := DX8_form (74, .ifCond .ne 6, 3) (List.mem_of_getElem? (i := 43) rfl)
theorem dX8_form_77 : decode cX8_form 77 = .ok (.bipush (-2), 2) := DX8_form (77, .bipush (-2), 2) (List.mem_of_getElem? (i := 44) rfl)
theorem dX8_form_79 : decode cX8_form 79 = .ok (.ireturn, 1) := DX8_form (79, .ireturn, 1) (List.mem_of_getElem? (i := 45) rfl)
theorem dX8_form_80 : decode cX8_form 80 = .ok (.iload_n 2, 1) := DX8_form (80, .iload_n 2, 1) (List.mem_of_getElem? (i := 46) rfl)
theorem dX8_form_81 : decode cX8_form 81 = .ok (.iconst 1, 1) := DX8_form (81, .iconst 1, 1) (List.mem_of_getElem? (i := 47) rfl)
theorem dX8_form_82 : decode cX8_form 82 = .ok (.if_icmp .ne 9, 3) := DX8_form (82, .if_icmp .ne 9, 3) (List.mem_of_getElem? (i := 48) rfl)
theorem dX8_form_85 : decode cX8_form 85 = .ok (.aload_n 0, 1) := DX8_form (85, .aload_n 0, 1) (List.mem_of_getElem? (i := 49) rfl)
theorem dX8_form_86 : decode cX8_form 86 = .ok (.iload_n 1, 1) := DX8_form (86, .iload_n 1, 1) (List.mem_of_getElem? (i := 50) rfl)
theorem dX8_form_87 : decode cX8_form 87 = .ok (.invokevirtual 124, 3) := DX8_form (87, .invokevirtual 124, 3) (List.mem_of_getElem? (i := 51) rfl)
theorem dX8_form_90 : decode cX8_form 90 = .ok (.ireturn, 1) := DX8_form (90, .ireturn, 1) (List.mem_of_getElem? (i := 52) rfl)
theorem dX8_form_91 : decode cX8_form 91 = .ok (.iload_n 2, 1) := DX8_form (91, .iload_n 2, 1) (List.mem_of_getElem? (i := 53) rfl)
theorem dX8_form_92 : decode cX8_form 92 = .ok (.iconst 2, 1) := DX8_form (92, .iconst 2, 1) (List.mem_of_getElem? (i := 54) rfl)
theorem dX8_form_93 : decode cX8_form 93 = .ok (.if_icmp .ne 10, 3) := DX8_form (93, .if_icmp .ne 10, 3) (List.mem_of_getElem? (i := 55) rfl)
theorem dX8_form_96 : decode cX8_form 96 = .ok (.aload_n 0, 1) := DX8_form (96, .aload_n 0, 1) (List.mem_of_getElem? (i := 56) rfl)
theorem dX8_form_97 : decode cX8_form 97 = .ok (.getfield 36, 3) := DX8_form (97, .getfield 36, 3) (List.mem_of_getElem? (i := 57) rfl)
theorem dX8_form_100 : decode cX8_form 100 = .ok (.iload_n 1, 1) := DX8_form (100, .iload_n 1, 1) (List.mem_of_getElem? (i := 58) rfl)
theorem dX8_form_101 : decode cX8_form 101 = .ok (.iaload, 1) := DX8_form (101, .iaload, 1) (List.mem_of_getElem? (i := 59) rfl)
theorem dX8_form_102 : decode cX8_form 102 = .ok (.ireturn, 1) := DX8_form (102, .ireturn, 1) (List.mem_of_getElem? (i := 60) rfl)
theorem dX8_form_103 : decode cX8_form 103 = .ok (.iconst 0, 1) := DX8_form (103, .iconst 0, 1) (List.mem_of_getElem? (i := 61) rfl)
theorem dX8_form_104 : decode cX8_form 104 = .ok (.istore_n 3, 1) := DX8_form (104, .istore_n 3, 1) (List.mem_of_getElem? (i := 62) rfl)
theorem dX8_form_105 : decode cX8_form 105 = .ok (.aload_n 0, 1) := DX8_form (105, .aload_n 0, 1) (List.mem_of_getElem? (i := 63) rfl)
theorem dX8_form_106 : decode cX8_form 106 = .ok (.getfield 36, 3) := DX8_form (106, .getfield 36, 3) (List.mem_of_getElem? (i := 64) rfl)
theorem dX8_form_109 : decode cX8_form 109 = .ok (.iload_n 3, 1) := DX8_form (109, .iload_n 3, 1) (List.mem_of_getElem? (i := 65) rfl)
theorem dX8_form_110 : decode cX8_form 110 = .ok (.iaload, 1) := DX8_form (110, .iaload, 1) (List.mem_of_getElem? (i := 66) rfl)
theorem dX8_form_111 : decode cX8_form 111 = .ok (.aload_n 0, 1) := DX8_form (111, .aload_n 0, 1) (List.mem_of_getElem? (i := 67) rfl)
theorem dX8_form_112 : decode cX8_form 112 = .ok (.getfield 36, 3) := DX8_form (112, .getfield 36, 3) (List.mem_of_getElem? (i := 68) rfl)
theorem dX8_form_115 : decode cX8_form 115 = .ok (.iload_n 1, 1) := DX8_form (115, .iload_n 1, 1) (List.mem_of_getElem? (i := 69) rfl)
theorem dX8_form_116 : decode cX8_form 116 = .ok (.iaload, 1) := DX8_form (116, .iaload, 1) (List.mem_of_getElem? (i := 70) rfl)
theorem dX8_form_117 : decode cX8_form 117 = .ok (.if_icmp .ne 12, 3) := DX8_form (117, .if_icmp .ne 12, 3) (List.mem_of_getElem? (i := 71) rfl)
theorem dX8_form_120 : decode cX8_form 120 = .ok (.aload_n 0, 1) := DX8_form (120, .aload_n 0, 1) (List.mem_of_getElem? (i := 72) rfl)
theorem dX8_form_121 : decode cX8_form 121 = .ok (.iload_n 3, 1) := DX8_form (121, .iload_n 3, 1) (List.mem_of_getElem? (i := 73) rfl)
theorem dX8_form_122 : decode cX8_form 122 = .ok (.iload_n 1, 1) := DX8_form (122, .iload_n 1, 1) (List.mem_of_getElem? (i := 74) rfl)
theorem dX8_form_123 : decode cX8_form 123 = .ok (.invokevirtual 196, 3) := DX8_form (123, .invokevirtual 196, 3) (List.mem_of_getElem? (i := 75) rfl)
theorem dX8_form_126 : decode cX8_form 126 = .ok (.ifCond .ne 9, 3) := DX8_form (126, .ifCond .ne 9, 3) (List.mem_of_getElem? (i := 76) rfl)
theorem dX8_form_129 : decode cX8_form 129 = .ok (.iinc 3 1, 3) := DX8_form (129, .iinc 3 1, 3) (List.mem_of_getElem? (i := 77) rfl)
theorem dX8_form_132 : decode cX8_form 132 = .ok (.goto (-27), 3) := DX8_form (132, .goto (-27), 3) (List.mem_of_getElem? (i := 78) rfl)
theorem dX8_form_135 : decode cX8_form 135 = .ok (.iload_n 3, 1) := DX8_form (135, .iload_n 3, 1) (List.mem_of_getElem? (i := 79) rfl)
theorem dX8_form_136 : decode cX8_form 136 = .ok (.ireturn, 1) := DX8_form (136, .ireturn, 1) (List.mem_of_getElem? (i := 80) rfl)
noncomputable def fX8_form_L22 (σ : Mem) : Option (Int32 × Mem) :=
  some ((-1), σ)
set_option maxHeartbeats 4000000 in
set_option maxRecDepth 100000 in
theorem tX8_form_L22 {E : Gx} {cI : ClassId} {ad : Nat → Nat} (C : Cx E rmX8_form cI layM ad 4 RX8 cX8_form) {out : Int32 × Mem} (K0 : KI E rmX8_form cI layM ad 4 cX8_form .int out) {σ : Mem} (h : fX8_form_L22 σ = some out) : G E rmX8_form cI layM ad 4 22 [] [] σ := by
  unfold fX8_form_L22 at h
  refine g_iconst 23 (v := (-1)) C dX8_form_22 (by decide) rfl ?_
  cases h
  exact K0 _ _ dX8_form_23 rfl
noncomputable def fX8_form_L129 (l1 : Int32) (l3 : Int32) (σ : Mem) : Option ((Int32 × Mem) ⊕ (Int32 × Mem)) :=
  some (.inl (l3 + 1, σ))
set_option maxHeartbeats 4000000 in
set_option maxRecDepth 100000 in
theorem tX8_form_L129 {E : Gx} {cI : ClassId} {ad : Nat → Nat} (C : Cx E rmX8_form cI layM ad 4 RX8 cX8_form) {out : Int32 × Mem} (K0 : KI E rmX8_form cI layM ad 4 cX8_form .int out) {l1 : Int32} {l3 : Int32} {σ : Mem} {res : (Int32 × Mem) ⊕ (Int32 × Mem)} (h : fX8_form_L129 l1 l3 σ = some res) (K : Sum.elim (fun a => G E rmX8_form cI layM ad 4 105 [(0, .ref (ad 0)), (1, .int l1), (3, .int a.1)] [] a.2) (fun b => G E rmX8_form cI layM ad 4 135 [(3, .int b.1)] [] b.2) res) : G E rmX8_form cI layM ad 4 129 [(0, .ref (ad 0)), (1, .int l1), (3, .int l3)] [] σ := by
  unfold fX8_form_L129 at h
  refine g_iinc 132 [(3, .int (l3 + 1)), (0, .ref (ad 0)), (1, .int l1)] C dX8_form_129 (j := 2) rfl (by rfl) (by decide) rfl rfl ?_
  refine g_goto 105 C dX8_form_132 (by decide) ?_
  have hh := end_inl h K
  exact g_sub [1, 2, 0] (hh) rfl
noncomputable def fX8_form_B105 (l1 : Int32) (l3 : Int32) (σ : Mem) : Option ((Int32 × Mem) ⊕ (Int32 × Mem)) :=
  chk (inb l3 30) <|
  chk (inb l1 30) <|
  if (σ 6 l3.toNatClampNeg) = (σ 6 l1.toNatClampNeg) then
    (fX8_areAlike l3 l1 σ).bind fun o5 =>
    if o5.1 = 0 then
      fX8_form_L129 l1 l3 o5.2
    else
      some (.inr (l3, o5.2))
  else
    fX8_form_L129 l1 l3 σ
set_option maxHeartbeats 4000000 in
set_option maxRecDepth 100000 in
theorem tX8_form_B105 {E : Gx} {cI : ClassId} {ad : Nat → Nat} (C : Cx E rmX8_form cI layM ad 4 RX8 cX8_form) {out : Int32 × Mem} (K0 : KI E rmX8_form cI layM ad 4 cX8_form .int out) {l1 : Int32} {l3 : Int32} {σ : Mem} {res : (Int32 × Mem) ⊕ (Int32 × Mem)} (h : fX8_form_B105 l1 l3 σ = some res) (K : Sum.elim (fun a => G E rmX8_form cI layM ad 4 105 [(0, .ref (ad 0)), (1, .int l1), (3, .int a.1)] [] a.2) (fun b => G E rmX8_form cI layM ad 4 135 [(3, .int b.1)] [] b.2) res) : G E rmX8_form cI layM ad 4 105 [(0, .ref (ad 0)), (1, .int l1), (3, .int l3)] [] σ := by
  unfold fX8_form_B105 at h
  refine g_aload_n 106 C dX8_form_105 rfl (j := 0) rfl rfl ?_
  refine g_getr 109 (j := 13) C rfl rfl wu_X8 (by decide) wf_X8_36 rfl dX8_form_106 rfl ?_
  refine g_iload_n 110 C dX8_form_109 rfl (j := 2) rfl rfl ?_
  refine g_iald 111 C rfl dX8_form_110 rfl h (fun h => ?_)
  refine g_aload_n 112 C dX8_form_111 rfl (j := 0) rfl rfl ?_
  refine g_getr 115 (j := 13) C rfl rfl wu_X8 (by decide) wf_X8_36 rfl dX8_form_112 rfl ?_
  refine g_iload_n 116 C dX8_form_115 rfl (j := 1) rfl rfl ?_
  refine g_iald 117 C rfl dX8_form_116 rfl h (fun h => ?_)
  refine g_icmp_ne 129 120 C dX8_form_117 (by decide) rfl h (fun h => ?_) (fun h => ?_)
  · refine g_aload_n 121 C dX8_form_120 rfl (j := 0) rfl rfl ?_
    refine g_iload_n 122 C dX8_form_121 rfl (j := 2) rfl rfl ?_
    refine g_iload_n 123 C dX8_form_122 rfl (j := 1) rfl rfl ?_
    refine g_cvi 126 C (As := [.int l3, .int l1]) (fun _ h => mX8_areAlike (a1 := l3) (a2 := l1) (σ := σ) h) wl_X8_196 wi_X8_areAlike wz_X8_areAlike wc_X8_areAlike wn_X8 qX8_areAlike rfl rfl ⟨Nat.le_of_ble_eq_true rfl, Nat.le_of_ble_eq_true rfl⟩ rfl rfl rfl rfl (Nat.le_of_ble_eq_true rfl) dX8_form_123 rfl h (fun o5 h => ?_)
    refine g_if_ne 135 129 C dX8_form_126 (by decide) rfl h (fun h => ?_) (fun h => ?_)
    · exact tX8_form_L129 (l1 := l1) (l3 := l3) (σ := o5.2) C K0 h K
    · have hh := end_inr h K
      exact g_sub [2] (hh) rfl
  · exact tX8_form_L129 (l1 := l1) (l3 := l3) (σ := σ) C K0 h K
noncomputable def fX8_form_L135 (l3 : Int32) (σ : Mem) : Option (Int32 × Mem) :=
  some (l3, σ)
set_option maxHeartbeats 4000000 in
set_option maxRecDepth 100000 in
theorem tX8_form_L135 {E : Gx} {cI : ClassId} {ad : Nat → Nat} (C : Cx E rmX8_form cI layM ad 4 RX8 cX8_form) {out : Int32 × Mem} (K0 : KI E rmX8_form cI layM ad 4 cX8_form .int out) {l3 : Int32} {σ : Mem} (h : fX8_form_L135 l3 σ = some out) : G E rmX8_form cI layM ad 4 135 [(3, .int l3)] [] σ := by
  unfold fX8_form_L135 at h
  refine g_iload_n 136 C dX8_form_135 rfl (j := 0) rfl rfl ?_
  cases h
  exact K0 _ _ dX8_form_136 rfl
noncomputable def fX8_form_L68 (s0 : Int32) (σ : Mem) : Option (Int32 × Mem) :=
  some (s0, σ)
set_option maxHeartbeats 4000000 in
set_option maxRecDepth 100000 in
theorem tX8_form_L68 {E : Gx} {cI : ClassId} {ad : Nat → Nat} (C : Cx E rmX8_form cI layM ad 4 RX8 cX8_form) {out : Int32 × Mem} (K0 : KI E rmX8_form cI layM ad 4 cX8_form .int out) {s0 : Int32} {σ : Mem} (h : fX8_form_L68 s0 σ = some out) : G E rmX8_form cI layM ad 4 68 [] [.int s0] σ := by
  unfold fX8_form_L68 at h
  cases h
  exact K0 _ _ dX8_form_68 rfl
noncomputable def fX8_form (a1 : Int32) (a2 : Int32) (σ : Mem) : Option (Int32 × Mem) :=
  (fX8_isName a1 (up2 σ 0 2 0)).bind fun o1 =>
  if o1.1 = 0 then
    fX8_form_L22 o1.2
  else
    (fX8_isIn a2 0 4 o1.2).bind fun o2 =>
    if o2.1 = 0 then
      fX8_form_L22 o2.2
    else
      (fX8_lays o2.2).bind fun o3 =>
      if a2 = 0 then
        chk (inb a1 30) <|
        some (o3 7 a1.toNatClampNeg, o3)
      else
        if a2 = 3 then
          chk (inb a1 30) <|
          if (o3 7 a1.toNatClampNeg) = 3 then
            (fX8_cycleOf a1 o3).bind fun o8 =>
            (fX8_bits o8.1 o8.2).bind fun o9 =>
            fX8_form_L68 o9.1 o9.2
          else
            fX8_form_L68 (-2) o3
        else
          (fX8_hasForm a1 o3).bind fun o4 =>
          if o4.1 = 0 then
            some ((-2), o4.2)
          else
            if a2 = 1 then
              (fX8_degreeOf a1 o4.2).bind fun o7 =>
              some (o7.1, o7.2)
            else
              if a2 = 2 then
                chk (inb a1 30) <|
                some (o4.2 6 a1.toNatClampNeg, o4.2)
              else
                (loop (fun a => fX8_form_B105 a1 a.1 a.2) (0, o4.2)).bind fun b6 =>
                fX8_form_L135 b6.1 b6.2
set_option maxHeartbeats 4000000 in
set_option maxRecDepth 100000 in
theorem mX8_form {l : Launch} {D : va_G} {cI : ClassId} {ad : Nat → Nat} {a1 : Int32} {a2 : Int32} {σ : Mem} {out : Int32 × Mem} (h : fX8_form a1 a2 σ = some out) : MI l D cI layM ad yX8_form cX8_form 4 .int rmX8_form [.ref (ad 0), .int a1, .int a2] σ out := by
  refine met_i (by decide) (Nat.le_of_ble_eq_true rfl) (fun E C K0 => ?_)
  show G E rmX8_form cI layM ad 4 0 [(0, .ref (ad 0)), (1, .int a1), (2, .int a2)] [] σ
  unfold fX8_form at h
  refine g_aload_n 1 C dX8_form_0 rfl (j := 0) rfl rfl ?_
  refine g_iconst 2 (v := 0) C dX8_form_1 (by decide) rfl ?_
  refine g_puti 5 (j := 2) C rfl rfl wu_X8 (by decide) wf_X8_69 tyX8 tyX8_ok nmX8 rfl rfl rfl rfl dX8_form_2 rfl ?_
  refine g_aload_n 6 C dX8_form_5 rfl (j := 0) rfl rfl ?_
  refine g_iload_n 7 C dX8_form_6 rfl (j := 1) rfl rfl ?_
  refine g_cvi 10 C (As := [.int a1]) (fun _ h => mX8_isName (a1 := a1) (σ := up2 σ 0 2 0) h) wl_X8_95 wi_X8_isName wz_X8_isName wc_X8_isName wn_X8 qX8_isName rfl rfl ⟨Nat.le_of_ble_eq_true rfl, Nat.le_of_ble_eq_true rfl⟩ rfl rfl rfl rfl (Nat.le_of_ble_eq_true rfl) dX8_form_7 rfl h (fun o1 h => ?_)
  refine g_if_eq 22 13 C dX8_form_10 (by decide) rfl h (fun h => ?_) (fun h => ?_)
  · exact g_sub [] (tX8_form_L22 (σ := o1.2) C K0 h) rfl
  · refine g_iload_n 14 C dX8_form_13 rfl (j := 2) rfl rfl ?_
    refine g_iconst 15 (v := 0) C dX8_form_14 (by decide) rfl ?_
    refine g_iconst 16 (v := 4) C dX8_form_15 (by decide) rfl ?_
    refine g_csi 19 C (As := [.int a2, .int 0, .int 4]) (fun _ h => mX8_isIn (a1 := a2) (a2 := 0) (a3 := 4) (σ := o1.2) h) wl_X8_75 ws_X8_isIn wc_X8_isIn wn_X8 qX8_isIn rfl rfl ⟨Nat.le_of_ble_eq_true rfl, Nat.le_of_ble_eq_true rfl⟩ rfl rfl (Nat.le_of_ble_eq_true rfl) dX8_form_16 rfl h (fun o2 h => ?_)
    refine g_if_ne 24 22 C dX8_form_19 (by decide) rfl h (fun h => ?_) (fun h => ?_)
    · exact g_sub [] (tX8_form_L22 (σ := o2.2) C K0 h) rfl
    · refine g_aload_n 25 C dX8_form_24 rfl (j := 0) rfl rfl ?_
      refine g_cvv 28 C (As := []) (fun _ h => mX8_lays (σ := o2.2) h) wl_X8_190 wi_X8_lays wz_X8_lays wc_X8_lays wn_X8 qX8_lays rfl rfl ⟨Nat.le_of_ble_eq_true rfl, Nat.le_of_ble_eq_true rfl⟩ rfl rfl rfl rfl (Nat.le_of_ble_eq_true rfl) dX8_form_25 rfl h (fun o3 h => ?_)
      refine g_iload_n 29 C dX8_form_28 rfl (j := 2) rfl rfl ?_
      refine g_if_ne 39 32 C dX8_form_29 (by decide) rfl h (fun h => ?_) (fun h => ?_)
      · refine g_aload_n 33 C dX8_form_32 rfl (j := 0) rfl rfl ?_
        refine g_getr 36 (j := 14) C rfl rfl wu_X8 (by decide) wf_X8_39 rfl dX8_form_33 rfl ?_
        refine g_iload_n 37 C dX8_form_36 rfl (j := 1) rfl rfl ?_
        refine g_iald 38 C rfl dX8_form_37 rfl h (fun h => ?_)
        cases h
        exact K0 _ _ dX8_form_38 rfl
      · refine g_iload_n 40 C dX8_form_39 rfl (j := 2) rfl rfl ?_
        refine g_iconst 41 (v := 3) C dX8_form_40 (by decide) rfl ?_
        refine g_icmp_ne 69 44 C dX8_form_41 (by decide) rfl h (fun h => ?_) (fun h => ?_)
        · refine g_aload_n 45 C dX8_form_44 rfl (j := 0) rfl rfl ?_
          refine g_getr 48 (j := 14) C rfl rfl wu_X8 (by decide) wf_X8_39 rfl dX8_form_45 rfl ?_
          refine g_iload_n 49 C dX8_form_48 rfl (j := 1) rfl rfl ?_
          refine g_iald 50 C rfl dX8_form_49 rfl h (fun h => ?_)
          refine g_iconst 51 (v := 3) C dX8_form_50 (by decide) rfl ?_
          refine g_icmp_ne 66 54 C dX8_form_51 (by decide) rfl h (fun h => ?_) (fun h => ?_)
          · refine g_aload_n 55 C dX8_form_54 rfl (j := 0) rfl rfl ?_
            refine g_aload_n 56 C dX8_form_55 rfl (j := 0) rfl rfl ?_
            refine g_iload_n 57 C dX8_form_56 rfl (j := 1) rfl rfl ?_
            refine g_cvi 60 C (As := [.int a1]) (fun _ h => mX8_cycleOf (a1 := a1) (σ := o3) h) wl_X8_115 wi_X8_cycleOf wz_X8_cycleOf wc_X8_cycleOf wn_X8 qX8_cycleOf rfl rfl ⟨Nat.le_of_ble_eq_true rfl, Nat.le_of_ble_eq_true rfl⟩ rfl rfl rfl rfl (Nat.le_of_ble_eq_true rfl) dX8_form_57 rfl h (fun o8 h => ?_)
            refine g_cvi 63 C (As := [.int o8.1]) (fun _ h => mX8_bits (a1 := o8.1) (σ := o8.2) h) wl_X8_193 wi_X8_bits wz_X8_bits wc_X8_bits wn_X8 qX8_bits rfl rfl ⟨Nat.le_of_ble_eq_true rfl, Nat.le_of_ble_eq_true rfl⟩ rfl rfl rfl rfl (Nat.le_of_ble_eq_true rfl) dX8_form_60 rfl h (fun o9 h => ?_)
            refine g_goto 68 C dX8_form_63 (by decide) ?_
            exact g_sub [] (tX8_form_L68 (s0 := o9.1) (σ := o9.2) C K0 h) rfl
          · refine g_bipush 68 (v := (-2)) C dX8_form_66 (by decide) rfl ?_
            exact g_sub [] (tX8_form_L68 (s0 := (-2)) (σ := o3) C K0 h) rfl
        · refine g_aload_n 70 C dX8_form_69 rfl (j := 0) rfl rfl ?_
          refine g_iload_n 71 C dX8_form_70 rfl (j := 1) rfl rfl ?_
          refine g_cvi 74 C (As := [.int a1]) (fun _ h => mX8_hasForm (a1 := a1) (σ := o3) h) wl_X8_159 wi_X8_hasForm wz_X8_hasForm wc_X8_hasForm wn_X8 qX8_hasForm rfl rfl ⟨Nat.le_of_ble_eq_true rfl, Nat.le_of_ble_eq_true rfl⟩ rfl rfl rfl rfl (Nat.le_of_ble_eq_true rfl) dX8_form_71 rfl h (fun o4 h => ?_)
          refine g_if_ne 80 77 C dX8_form_74 (by decide) rfl h (fun h => ?_) (fun h => ?_)
          · refine g_bipush 79 (v := (-2)) C dX8_form_77 (by decide) rfl ?_
            cases h
            exact K0 _ _ dX8_form_79 rfl
          · refine g_iload_n 81 C dX8_form_80 rfl (j := 2) rfl rfl ?_
            refine g_iconst 82 (v := 1) C dX8_form_81 (by decide) rfl ?_
            refine g_icmp_ne 91 85 C dX8_form_82 (by decide) rfl h (fun h => ?_) (fun h => ?_)
            · refine g_aload_n 86 C dX8_form_85 rfl (j := 0) rfl rfl ?_
              refine g_iload_n 87 C dX8_form_86 rfl (j := 1) rfl rfl ?_
              refine g_cvi 90 C (As := [.int a1]) (fun _ h => mX8_degreeOf (a1 := a1) (σ := o4.2) h) wl_X8_124 wi_X8_degreeOf wz_X8_degreeOf wc_X8_degreeOf wn_X8 qX8_degreeOf rfl rfl ⟨Nat.le_of_ble_eq_true rfl, Nat.le_of_ble_eq_true rfl⟩ rfl rfl rfl rfl (Nat.le_of_ble_eq_true rfl) dX8_form_87 rfl h (fun o7 h => ?_)
              cases h
              exact K0 _ _ dX8_form_90 rfl
            · refine g_iload_n 92 C dX8_form_91 rfl (j := 2) rfl rfl ?_
              refine g_iconst 93 (v := 2) C dX8_form_92 (by decide) rfl ?_
              refine g_icmp_ne 103 96 C dX8_form_93 (by decide) rfl h (fun h => ?_) (fun h => ?_)
              · refine g_aload_n 97 C dX8_form_96 rfl (j := 0) rfl rfl ?_
                refine g_getr 100 (j := 13) C rfl rfl wu_X8 (by decide) wf_X8_36 rfl dX8_form_97 rfl ?_
                refine g_iload_n 101 C dX8_form_100 rfl (j := 1) rfl rfl ?_
                refine g_iald 102 C rfl dX8_form_101 rfl h (fun h => ?_)
                cases h
                exact K0 _ _ dX8_form_102 rfl
              · refine g_iconst 104 (v := 0) C dX8_form_103 (by decide) rfl ?_
                refine g_istore_n 105 [(3, .int 0), (0, .ref (ad 0)), (1, .int a1), (2, .int a2)] C dX8_form_104 rfl (by decide) rfl rfl ?_
                obtain ⟨b6, hb, h⟩ := bind_some h
                refine g_sub [1, 2, 0] (g_loop (a := (0, o4.2)) (fun a => G E rmX8_form cI layM ad 4 105 [(0, .ref (ad 0)), (1, .int a1), (3, .int a.1)] [] a.2) (fun b => G E rmX8_form cI layM ad 4 135 [(3, .int b.1)] [] b.2) hb (fun a res h K => tX8_form_B105 (l1 := a1) (l3 := a.1) (σ := a.2) (res := res) C K0 h K) ?_) rfl
                show G E rmX8_form cI layM ad 4 135 [(3, .int b6.1)] [] b6.2
                exact tX8_form_L135 (l3 := b6.1) (σ := b6.2) C K0 h

/-! LoopReducerModel.isPoly(II)Z -/
abbrev rmX8_isPoly : Room := { frames := 7, cells := 0, slots := 0, locals := 171 }
theorem qX8_isPoly : yX8_isPoly.cls ≠ "java/lang/invoke/MethodHandle" ∧ yX8_isPoly.cls ≠ "java/lang/invoke/VarHandle" ∧ (parseMethodDescriptor yX8_isPoly.desc).map (fun d => d.parameters.length) = some 2 := by decide +kernel
theorem DX8_isPoly : ∀ q ∈ ([(0, .aload_n 0, 1), (1, .iload_n 1, 1), (2, .invokevirtual 95, 3), (5, .ifCond .eq 12, 3), (8, .iload_n 2, 1), (9, .iconst 0, 1), (10, .iconst 3, 1), (11, .invokestatic 75, 3), (14, .ifCond .ne 5, 3), (17, .iconst 0, 1), (18, .ireturn, 1), (19, .aload_n 0, 1), (20, .invokevirtual 190, 3), (23, .aload_n 0, 1), (24, .iload_n 1, 1), (25, .invokevirtual 159, 3), (28, .ireturn, 1)] : List (Nat × Instr × Nat)), decode cX8_isPoly q.1 = .ok q.2 := by decide +kernel
theorem dX8_isPoly_0 : decode cX8_isPoly 0 = .ok (.aload_n 0, 1) := DX8_isPoly (0, .aload_n 0, 1) (List.mem_of_getElem? (i := 0) rfl)
theorem dX8_isPoly_1 : decode cX8_isPoly 1 = .ok (.iload_n 1, 1) := DX8_isPoly (1, .iload_n 1, 1) (List.mem_of_getElem? (i := 1) rfl)
theorem dX8_isPoly_2 : decode cX8_isPoly 2 = .ok (.invokevirtual 95, 3) := DX8_isPoly (2, .invokevirtual 95, 3) (List.mem_of_getElem? (i := 2) rfl)
theorem dX8_isPoly_5 : decode cX8_isPoly 5 = .ok (.ifCond .eq 12, 3) := DX8_isPoly (5, .ifCond .eq 12, 3) (List.mem_of_getElem? (i := 3) rfl)
theorem dX8_isPoly_8 : decode cX8_isPoly 8 = .ok (.iload_n 2, 1) := DX8_isPoly (8, .iload_n 2, 1) (List.mem_of_getElem? (i := 4) rfl)
theorem dX8_isPoly_9 : decode cX8_isPoly 9 = .ok (.iconst 0, 1) := DX8_isPoly (9, .iconst 0, 1) (List.mem_of_getElem? (i := 5) rfl)
theorem dX8_isPoly_10 : decode cX8_isPoly 10 = .ok (.iconst 3, 1) := DX8_isPoly (10, .iconst 3, 1) (List.mem_of_getElem? (i := 6) rfl)
theorem dX8_isPoly_11 : decode cX8_isPoly 11 = .ok (.invokestatic 75, 3) := DX8_isPoly (11, .invokestatic 75, 3) (List.mem_of_getElem? (i := 7) rfl)
theorem dX8_isPoly_14 : decode cX8_isPoly 14 = .ok (.ifCond .ne 5, 3) := DX8_isPoly (14, .ifCond .ne 5, 3) (List.mem_of_getElem? (i := 8) rfl)
theorem dX8_isPoly_17 : decode cX8_isPoly 17 = .ok (.iconst 0, 1) := DX8_isPoly (17, .iconst 0, 1) (List.mem_of_getElem? (i := 9) rfl)
theorem dX8_isPoly_18 : decode cX8_isPoly 18 = .ok (.ireturn, 1) := DX8_isPoly (18, .ireturn, 1) (List.mem_of_getElem? (i := 10) rfl)
theorem dX8_isPoly_19 : decode cX8_isPoly 19 = .ok (.aload_n 0, 1) := DX8_isPoly (19, .aload_n 0, 1) (List.mem_of_getElem? (i := 11) rfl)
theorem dX8_isPoly_20 : decode cX8_isPoly 20 = .ok (.invokevirtual 190, 3) := DX8_isPoly (20, .invokevirtual 190, 3) (List.mem_of_getElem? (i := 12) rfl)
theorem dX8_isPoly_23 : decode cX8_isPoly 23 = .ok (.aload_n 0, 1) := DX8_isPoly (23, .aload_n 0, 1) (List.mem_of_getElem? (i := 13) rfl)
theorem dX8_isPoly_24 : decode cX8_isPoly 24 = .ok (.iload_n 1, 1) := DX8_isPoly (24, .iload_n 1, 1) (List.mem_of_getElem? (i := 14) rfl)
theorem dX8_isPoly_25 : decode cX8_isPoly 25 = .ok (.invokevirtual 159, 3) := DX8_isPoly (25, .invokevirtual 159, 3) (List.mem_of_getElem? (i := 15) rfl)
theorem dX8_isPoly_28 : decode cX8_isPoly 28 = .ok (.ireturn, 1) := DX8_isPoly (28, .ireturn, 1) (List.mem_of_getElem? (i := 16) rfl)
noncomputable def fX8_isPoly_L17 (σ : Mem) : Option (Int32 × Mem) :=
  some (0, σ)
set_option maxHeartbeats 4000000 in
set_option maxRecDepth 100000 in
theorem tX8_isPoly_L17 {E : Gx} {cI : ClassId} {ad : Nat → Nat} (C : Cx E rmX8_isPoly cI layM ad 3 RX8 cX8_isPoly) {out : Int32 × Mem} (K0 : KI E rmX8_isPoly cI layM ad 3 cX8_isPoly .boolean out) {σ : Mem} (h : fX8_isPoly_L17 σ = some out) : G E rmX8_isPoly cI layM ad 3 17 [] [] σ := by
  unfold fX8_isPoly_L17 at h
  refine g_iconst 18 (v := 0) C dX8_isPoly_17 (by decide) rfl ?_
  cases h
  exact K0 _ _ dX8_isPoly_18 (zb_nar (x := 0) (by decide))
noncomputable def fX8_isPoly (a1 : Int32) (a2 : Int32) (σ : Mem) : Option (Int32 × Mem) :=
  (fX8_isName a1 σ).bind fun o1 =>
  if o1.1 = 0 then
    fX8_isPoly_L17 o1.2
  else
    (fX8_isIn a2 0 3 o1.2).bind fun o2 =>
    if o2.1 = 0 then
      fX8_isPoly_L17 o2.2
    else
      (fX8_lays o2.2).bind fun o3 =>
      (fX8_hasForm a1 o3).bind fun o4 =>
      chk (o4.1 == 0 || o4.1 == 1) <|
      some (o4.1, o4.2)
set_option maxHeartbeats 4000000 in
set_option maxRecDepth 100000 in
theorem mX8_isPoly {l : Launch} {D : va_G} {cI : ClassId} {ad : Nat → Nat} {a1 : Int32} {a2 : Int32} {σ : Mem} {out : Int32 × Mem} (h : fX8_isPoly a1 a2 σ = some out) : MI l D cI layM ad yX8_isPoly cX8_isPoly 3 .boolean rmX8_isPoly [.ref (ad 0), .int a1, .int a2] σ out := by
  refine met_i (by decide) (Nat.le_of_ble_eq_true rfl) (fun E C K0 => ?_)
  show G E rmX8_isPoly cI layM ad 3 0 [(0, .ref (ad 0)), (1, .int a1), (2, .int a2)] [] σ
  unfold fX8_isPoly at h
  refine g_aload_n 1 C dX8_isPoly_0 rfl (j := 0) rfl rfl ?_
  refine g_iload_n 2 C dX8_isPoly_1 rfl (j := 1) rfl rfl ?_
  refine g_cvi 5 C (As := [.int a1]) (fun _ h => mX8_isName (a1 := a1) (σ := σ) h) wl_X8_95 wi_X8_isName wz_X8_isName wc_X8_isName wn_X8 qX8_isName rfl rfl ⟨Nat.le_of_ble_eq_true rfl, Nat.le_of_ble_eq_true rfl⟩ rfl rfl rfl rfl (Nat.le_of_ble_eq_true rfl) dX8_isPoly_2 rfl h (fun o1 h => ?_)
  refine g_if_eq 17 8 C dX8_isPoly_5 (by decide) rfl h (fun h => ?_) (fun h => ?_)
  · exact g_sub [] (tX8_isPoly_L17 (σ := o1.2) C K0 h) rfl
  · refine g_iload_n 9 C dX8_isPoly_8 rfl (j := 2) rfl rfl ?_
    refine g_iconst 10 (v := 0) C dX8_isPoly_9 (by decide) rfl ?_
    refine g_iconst 11 (v := 3) C dX8_isPoly_10 (by decide) rfl ?_
    refine g_csi 14 C (As := [.int a2, .int 0, .int 3]) (fun _ h => mX8_isIn (a1 := a2) (a2 := 0) (a3 := 3) (σ := o1.2) h) wl_X8_75 ws_X8_isIn wc_X8_isIn wn_X8 qX8_isIn rfl rfl ⟨Nat.le_of_ble_eq_true rfl, Nat.le_of_ble_eq_true rfl⟩ rfl rfl (Nat.le_of_ble_eq_true rfl) dX8_isPoly_11 rfl h (fun o2 h => ?_)
    refine g_if_ne 19 17 C dX8_isPoly_14 (by decide) rfl h (fun h => ?_) (fun h => ?_)
    · exact g_sub [] (tX8_isPoly_L17 (σ := o2.2) C K0 h) rfl
    · refine g_aload_n 20 C dX8_isPoly_19 rfl (j := 0) rfl rfl ?_
      refine g_cvv 23 C (As := []) (fun _ h => mX8_lays (σ := o2.2) h) wl_X8_190 wi_X8_lays wz_X8_lays wc_X8_lays wn_X8 qX8_lays rfl rfl ⟨Nat.le_of_ble_eq_true rfl, Nat.le_of_ble_eq_true rfl⟩ rfl rfl rfl rfl (Nat.le_of_ble_eq_true rfl) dX8_isPoly_20 rfl h (fun o3 h => ?_)
      refine g_aload_n 24 C dX8_isPoly_23 rfl (j := 0) rfl rfl ?_
      refine g_iload_n 25 C dX8_isPoly_24 rfl (j := 1) rfl rfl ?_
      refine g_cvi 28 C (As := [.int a1]) (fun _ h => mX8_hasForm (a1 := a1) (σ := o3) h) wl_X8_159 wi_X8_hasForm wz_X8_hasForm wc_X8_hasForm wn_X8 qX8_hasForm rfl rfl ⟨Nat.le_of_ble_eq_true rfl, Nat.le_of_ble_eq_true rfl⟩ rfl rfl rfl rfl (Nat.le_of_ble_eq_true rfl) dX8_isPoly_25 rfl h (fun o4 h => ?_)
      obtain ⟨hz, h⟩ := chk_some h
      cases h
      exact K0 _ _ dX8_isPoly_28 (zb_nar hz)

/-! LoopReducerModel.poly(IIII)I -/
abbrev rmX8_poly : Room := { frames := 8, cells := 0, slots := 0, locals := 193 }
theorem qX8_poly : yX8_poly.cls ≠ "java/lang/invoke/MethodHandle" ∧ yX8_poly.cls ≠ "java/lang/invoke/VarHandle" ∧ (parseMethodDescriptor yX8_poly.desc).map (fun d => d.parameters.length) = some 4 := by decide +kernel
theorem DX8_poly : ∀ q ∈ ([(0, .aload_n 0, 1), (1, .iconst 0, 1), (2, .putfield 69, 3), (5, .aload_n 0, 1), (6, .iload_n 1, 1), (7, .iload_n 2, 1), (8, .invokevirtual 199, 3), (11, .ifCond .ne 5, 3), (14, .iconst (-1), 1), (15, .ireturn, 1), (16, .iconst 0, 1), (17, .istore 5, 2), (19, .iconst 0, 1), (20, .istore 6, 2), (22, .iload 6, 2), (24, .sipush 343, 3), (27, .if_icmp .ge 104, 3), (30, .aload_n 0, 1), (31, .getfield 8, 3), (34, .sipush 1372, 3), (37, .iload_n 1, 1), (38, .imul, 1), (39, .sipush 343, 3), (42, .iload_n 2, 1), (43, .imul, 1), (44, .iadd, 1), (45, .iload 6, 2), (47, .iadd, 1), (48, .iaload, 1), (49, .istore 7, 2), (51, .iload 7, 2), (53, .ifCond .ne 6, 3), (56, .goto 69, 3), (59, .iload 5, 2), (61, .iload_n 3, 1), (62, .if_icmp .ne 60, 3), (65, .iload 4, 2), (67, .ifCond .ne 11, 3), (70, .iload 6, 2), (72, .bipush 7, 2), (74, .irem, 1), (75, .goto 46, 3), (78, .iload 4, 2), (80, .iconst 1, 1), (81, .if_icmp .ne 14, 3), (84, .iload 6, 2), (86, .bipush 7, 2), (88, .idiv, 1), (89, .bipush 7, 2), (91, .irem, 1), (92, .goto 29, 3), (95, .iload 4, 2), (97, .iconst 2, 1), (98, .if_icmp .ne 11, 3), (101, .iload 6, 2), (103, .bipush 49, 2), (105, .idiv, 1), (106, .goto 15, 3), (109, .iload 4, 2), (111, .iconst 3, 1), (112, .if_icmp .ne 8, 3), (115, .iload 7, 2), (117, .goto 4, 3), (120, .iconst (-1), 1), (121, .ireturn, 1), (122, .iinc 5 1, 3), (125, .iinc 6 1, 3), (128, .goto (-106), 3), (131, .iload_n 3, 1), (132, .iconst (-1), 1), (133, .if_icmp .ne 8, 3), (136, .iload 5, 2), (138, .goto 4, 3), (141, .iconst (-1), 1), (142, .ireturn, 1)] : List (Nat × Instr × Nat)), decode cX8_poly q.1 = .ok q.2 := by decide +kernel
theorem dX8_poly_0 : decode cX8_poly 0 = .ok (.aload_n 0, 1) := DX8_poly (0, .aload_n 0, 1) (List.mem_of_getElem? (i := 0) rfl)
theorem dX8_poly_1 : decode cX8_poly 1 = .ok (.iconst 0, 1) := DX8_poly (1, .iconst 0, 1) (List.mem_of_getElem? (i := 1) rfl)
theorem dX8_poly_2 : decode cX8_poly 2 = .ok (.putfield 69, 3) := DX8_poly (2, .putfield 69, 3) (List.mem_of_getElem? (i := 2) rfl)
theorem dX8_poly_5 : decode cX8_poly 5 = .ok (.aload_n 0, 1) := DX8_poly (5, .aload_n 0, 1) (List.mem_of_getElem? (i := 3) rfl)
theorem dX8_poly_6 : decode cX8_poly 6 = .ok (.iload_n 1, 1) := DX8_poly (6, .iload_n 1, 1) (List.mem_of_getElem? (i := 4) rfl)
theorem dX8_poly_7 : decode cX8_poly 7 = .ok (.iload_n 2, 1) := DX8_poly (7, .iload_n 2, 1) (List.mem_of_getElem? (i := 5) rfl)
theorem dX8_poly_8 : decode cX8_poly 8 = .ok (.invokevirtual 199, 3) := DX8_poly (8, .invokevirtual 199, 3) (List.mem_of_getElem? (i := 6) rfl)
theorem dX8_poly_11 : decode cX8_poly 11 = .ok (.ifCond .ne 5, 3) := DX8_poly (11, .ifCond .ne 5, 3) (List.mem_of_getElem? (i := 7) rfl)
theorem dX8_poly_14 : decode cX8_poly 14 = .ok (.iconst (-1), 1) := DX8_poly (14, .iconst (-1), 1) (List.mem_of_getElem? (i := 8) rfl)
theorem dX8_poly_15 : decode cX8_poly 15 = .ok (.ireturn, 1) := DX8_poly (15, .ireturn, 1) (List.mem_of_getElem? (i := 9) rfl)
theorem dX8_poly_16 : decode cX8_poly 16 = .ok (.iconst 0, 1) := DX8_poly (16, .iconst 0, 1) (List.mem_of_getElem? (i := 10) rfl)
theorem dX8_poly_17 : decode cX8_poly 17 = .ok (.istore 5, 2) := DX8_poly (17, .istore 5, 2) (List.mem_of_getElem? (i := 11) rfl)
theorem dX8_poly_19 : decode cX8_poly 19 = .ok (.iconst 0, 1) := DX8_poly (19, .iconst 0, 1) (List.mem_of_getElem? (i := 12) rfl)
theorem dX8_poly_20 : decode cX8_poly 20 = .ok (.istore 6, 2) := DX8_poly (20, .istore 6, 2) (List.mem_of_getElem? (i := 13) rfl)
theorem dX8_poly_22 : decode cX8_poly 22 = .ok (.iload 6, 2) := DX8_poly (22, .iload 6, 2) (List.mem_of_getElem? (i := 14) rfl)
theorem dX8_poly_24 : decode cX8_poly 24 = .ok (.sipush 343, 3) := DX8_poly (24, .sipush 343, 3) (List.mem_of_getElem? (i := 15) rfl)
theorem dX8_poly_27 : decode cX8_poly 27 = .ok (.if_icmp .ge 104, 3) := DX8_poly (27, .if_icmp .ge 104, 3) (List.mem_of_getElem? (i := 16) rfl)
theorem dX8_poly_30 : decode cX8_poly 30 = .ok (.aload_n 0, 1) := DX8_poly (30, .aload_n 0, 1) (List.mem_of_getElem? (i := 17) rfl)
theorem dX8_poly_31 : decode cX8_poly 31 = .ok (.getfield 8, 3) := DX8_poly (31, .getfield 8, 3) (List.mem_of_getElem? (i := 18) rfl)
theorem dX8_poly_34 : decode cX8_poly 34 = .ok (.sipush 1372, 3) := DX8_poly (34, .sipush 1372, 3) (List.mem_of_getElem? (i := 19) rfl)
theorem dX8_poly_37 : decode cX8_poly 37 = .ok (.iload_n 1, 1) := DX8_poly (37, .iload_n 1, 1) (List.mem_of_getElem? (i := 20) rfl)
theorem dX8_poly_38 : decode cX8_poly 38 = .ok (.imul, 1) := DX8_poly (38, .imul, 1) (List.mem_of_getElem? (i := 21) rfl)
theorem dX8_poly_39 : decode cX8_poly 39 = .ok (.sipush 343, 3) := DX8_poly (39, .sipush 343, 3) (List.mem_of_getElem? (i := 22) rfl)
theorem dX8_poly_42 : decode cX8_poly 42 = .ok (.iload_n 2, 1) := DX8_poly (42, .iload_n 2, 1) (List.mem_of_getElem? (i := 23) rfl)
theorem dX8_poly_43 : decode cX8_poly 43 = .ok (.imul, 1) := DX8_poly (43, .imul, 1) (List.mem_of_getElem? (i := 24) rfl)
theorem dX8_poly_44 : decode cX8_poly 44 = .ok (.iadd, 1) := DX8_poly (44, .iadd, 1) (List.mem_of_getElem? (i := 25) rfl)
theorem dX8_poly_45 : decode cX8_poly 45 = .ok (.iload 6, 2) := DX8_poly (45, .iload 6, 2) (List.mem_of_getElem? (i := 26) rfl)
theorem dX8_poly_47 : decode cX8_poly 47 = .ok (.iadd, 1) := DX8_poly (47, .iadd, 1) (List.mem_of_getElem? (i := 27) rfl)
theorem dX8_poly_48 : decode cX8_poly 48 = .ok (.iaload, 1) := DX8_poly (48, .iaload, 1) (List.mem_of_getElem? (i := 28) rfl)
theorem dX8_poly_49 : decode cX8_poly 49 = .ok (.istore 7, 2) := DX8_poly (49, .istore 7, 2) (List.mem_of_getElem? (i := 29) rfl)
theorem dX8_poly_51 : decode cX8_poly 51 = .ok (.iload 7, 2) := DX8_poly (51, .iload 7, 2) (List.mem_of_getElem? (i := 30) rfl)
theorem dX8_poly_53 : decode cX8_poly 53 = .ok (.ifCond .ne 6, 3) := DX8_poly (53, .ifCond .ne 6, 3) (List.mem_of_getElem? (i := 31) rfl)
theorem dX8_poly_56 : decode cX8_poly 56 = .ok (.goto 69, 3) := DX8_poly (56, .goto 69, 3) (List.mem_of_getElem? (i := 32) rfl)
theorem dX8_poly_59 : decode cX8_poly 59 = .ok (.iload 5, 2) := DX8_poly (59, .iload 5, 2) (List.mem_of_getElem? (i := 33) rfl)
theorem dX8_poly_61 : decode cX8_poly 61 = .ok (.iload_n 3, 1) := DX8_poly (61, .iload_n 3, 1) (List.mem_of_getElem? (i := 34) rfl)
theorem dX8_poly_62 : decode cX8_poly 62 = .ok (.if_icmp .ne 60, 3) := DX8_poly (62, .if_icmp .ne 60, 3) (List.mem_of_getElem? (i := 35) rfl)
theorem dX8_poly_65 : decode cX8_poly 65 = .ok (.iload 4, 2) := DX8_poly (65, .iload 4, 2) (List.mem_of_getElem? (i := 36) rfl)
theorem dX8_poly_67 : decode cX8_poly 67 = .ok (.ifCond .ne 11, 3) := DX8_poly (67, .ifCond .ne 11, 3) (List.mem_of_getElem? (i := 37) rfl)
theorem dX8_poly_70 : decode cX8_poly 70 = .ok (.iload 6, 2) := DX8_poly (70, .iload 6, 2) (List.mem_of_getElem? (i := 38) rfl)
theorem dX8_poly_72 : decode cX8_poly 72 = .ok (.bipush 7, 2) := DX8_poly (72, .bipush 7, 2) (List.mem_of_getElem? (i := 39) rfl)
theorem dX8_poly_74 : decode cX8_poly 74 = .ok (.irem, 1) := DX8_poly (74, .irem, 1) (List.mem_of_getElem? (i := 40) rfl)
theorem dX8_poly_75 : decode cX8_poly 75 = .ok (.goto 46, 3) := DX8_poly (75, .goto 46, 3) (List.mem_of_getElem? (i := 41) rfl)
theorem dX8_poly_78 : decode cX8_poly 78 = .ok (.iload 4, 2) := DX8_poly (78, .iload 4, 2) (List.mem_of_getElem? (i := 42) rfl)
theorem dX8_poly_80 : decode cX8_poly 80 = .ok (.iconst 1, 1) := DX8_poly (80, .iconst 1, 1) (List.mem_of_getElem? (i := 43) rfl)
theorem dX8_poly_81 : decode cX8_poly 81 = .ok (.if_icmp .ne 14, 3) := DX8_poly (81, .if_icmp .ne 14, 3) (List.mem_of_getElem? (i := 44) rfl)
theorem dX8_poly_84 : decode cX8_poly 84 = .ok (.iload 6, 2) := DX8_poly (84, .iload 6, 2) (List.mem_of_getElem? (i := 45) rfl)
theorem dX8_poly_86 : decode cX8_poly 86 = .ok (.bipush 7, 2) := DX8_poly (86, .bipush 7, 2) (List.mem_of_getElem? (i := 46) rfl)
theorem dX8_poly_88 : decode cX8_poly 88 = .ok (.idiv, 1) := DX8_poly (88, .idiv, 1) (List.mem_of_getElem? (i := 47) rfl)
theorem dX8_poly_89 : decode cX8_poly 89 = .ok (.bipush 7, 2) := DX8_poly (89, .bipush 7, 2) (List.mem_of_getElem? (i := 48) rfl)
theorem dX8_poly_91 : decode cX8_poly 91 = .ok (.irem, 1) := DX8_poly (91, .irem, 1) (List.mem_of_getElem? (i := 49) rfl)
theorem dX8_poly_92 : decode cX8_poly 92 = .ok (.goto 29, 3) := DX8_poly (92, .goto 29, 3) (List.mem_of_getElem? (i := 50) rfl)
theorem dX8_poly_95 : decode cX8_poly 95 = .ok (.iload 4, 2) := DX8_poly (95, .iload 4, 2) (List.mem_of_getElem? (i := 51) rfl)
theorem dX8_poly_97 : decode cX8_poly 97 = .ok (.iconst 2, 1) := DX8_poly (97, .iconst 2, 1) (List.mem_of_getElem? (i := 52) rfl)
theorem dX8_poly_98 : decode cX8_poly 98 = .ok (.if_icmp .ne 11, 3) := DX8_poly (98, .if_icmp .ne 11, 3) (List.mem_of_getElem? (i := 53) rfl)
theorem dX8_poly_101 : decode cX8_poly 101 = .ok (.iload 6, 2) := DX8_poly (101, .iload 6, 2) (List.mem_of_getElem? (i := 54) rfl)
theorem dX8_poly_103 : decode cX8_poly 103 = .ok (.bipush 49, 2) := DX8_poly (103, .bipush 49, 2) (List.mem_of_getElem? (i := 55) rfl)
theorem dX8_poly_105 : decode cX8_poly 105 = .ok (.idiv, 1) := DX8_poly (105, .idiv, 1) (List.mem_of_getElem? (i := 56) rfl)
theorem dX8_poly_106 : decode cX8_poly 106 = .ok (.goto 15, 3) := DX8_poly (106, .goto 15, 3) (List.mem_of_getElem? (i := 57) rfl)
theorem dX8_poly_109 : decode cX8_poly 109 = .ok (.iload 4, 2) := DX8_poly (109, .iload 4, 2) (List.mem_of_getElem? (i := 58) rfl)
theorem dX8_poly_111 : decode cX8_poly 111 = .ok (.iconst 3, 1) := DX8_poly (111, .iconst 3, 1) (List.mem_of_getElem? (i := 59) rfl)
theorem dX8_poly_112 : decode cX8_poly 112 = .ok (.if_icmp .ne 8, 3) := DX8_poly (112, .if_icmp .ne 8, 3) (List.mem_of_getElem? (i := 60) rfl)
theorem dX8_poly_115 : decode cX8_poly 115 = .ok (.iload 7, 2) := DX8_poly (115, .iload 7, 2) (List.mem_of_getElem? (i := 61) rfl)
theorem dX8_poly_117 : decode cX8_poly 117 = .ok (.goto 4, 3) := DX8_poly (117, .goto 4, 3) (List.mem_of_getElem? (i := 62) rfl)
theorem dX8_poly_120 : decode cX8_poly 120 = .ok (.iconst (-1), 1) := DX8_poly (120, .iconst (-1), 1) (List.mem_of_getElem? (i := 63) rfl)
theorem dX8_poly_121 : decode cX8_poly 121 = .ok (.ireturn, 1) := DX8_poly (121, .ireturn, 1) (List.mem_of_getElem? (i := 64) rfl)
theorem dX8_poly_122 : decode cX8_poly 122 = .ok (.iinc 5 1, 3) := DX8_poly (122, .iinc 5 1, 3) (List.mem_of_getElem? (i := 65) rfl)
theorem dX8_poly_125 : decode cX8_poly 125 = .ok (.iinc 6 1, 3) := DX8_poly (125, .iinc 6 1, 3) (List.mem_of_getElem? (i := 66) rfl)
theorem dX8_poly_128 : decode cX8_poly 128 = .ok (.goto (-106), 3) := DX8_poly (128, .goto (-106), 3) (List.mem_of_getElem? (i := 67) rfl)
theorem dX8_poly_131 : decode cX8_poly 131 = .ok (.iload_n 3, 1) := DX8_poly (131, .iload_n 3, 1) (List.mem_of_getElem? (i := 68) rfl)
theorem dX8_poly_132 : decode cX8_poly 132 = .ok (.iconst (-1), 1) := DX8_poly (132, .iconst (-1), 1) (List.mem_of_getElem? (i := 69) rfl)
theorem dX8_poly_133 : decode cX8_poly 133 = .ok (.if_icmp .ne 8, 3) := DX8_poly (133, .if_icmp .ne 8, 3) (List.mem_of_getElem? (i := 70) rfl)
theorem dX8_poly_136 : decode cX8_poly 136 = .ok (.iload 5, 2) := DX8_poly (136, .iload 5, 2) (List.mem_of_getElem? (i := 71) rfl)
theorem dX8_poly_138 : decode cX8_poly 138 = .ok (.goto 4, 3) := DX8_poly (138, .goto 4, 3) (List.mem_of_getElem? (i := 72) rfl)
theorem dX8_poly_141 : decode cX8_poly 141 = .ok (.iconst (-1), 1) := DX8_poly (141, .iconst (-1), 1) (List.mem_of_getElem? (i := 73) rfl)
theorem dX8_poly_142 : decode cX8_poly 142 = .ok (.ireturn, 1) := DX8_poly (142, .ireturn, 1) (List.mem_of_getElem? (i := 74) rfl)
noncomputable def fX8_poly_L125 (l1 : Int32) (l2 : Int32) (l3 : Int32) (l4 : Int32) (l5 : Int32) (l6 : Int32) (σ : Mem) : Option ((Int32 × Int32 × Mem) ⊕ ((Int32 × Mem) ⊕ (Int32 × Mem))) :=
  some (.inl (l5, l6 + 1, σ))
set_option maxHeartbeats 4000000 in
set_option maxRecDepth 100000 in
theorem tX8_poly_L125 {E : Gx} {cI : ClassId} {ad : Nat → Nat} (C : Cx E rmX8_poly cI layM ad 8 RX8 cX8_poly) {out : Int32 × Mem} (K0 : KI E rmX8_poly cI layM ad 8 cX8_poly .int out) {l1 : Int32} {l2 : Int32} {l3 : Int32} {l4 : Int32} {l5 : Int32} {l6 : Int32} {σ : Mem} {res : (Int32 × Int32 × Mem) ⊕ ((Int32 × Mem) ⊕ (Int32 × Mem))} (h : fX8_poly_L125 l1 l2 l3 l4 l5 l6 σ = some res) (K : Sum.elim (fun a => G E rmX8_poly cI layM ad 8 22 [(0, .ref (ad 0)), (1, .int l1), (2, .int l2), (3, .int l3), (4, .int l4), (5, .int a.1), (6, .int a.2.1)] [] a.2.2) (Sum.elim (fun b => G E rmX8_poly cI layM ad 8 131 [(3, .int l3), (5, .int b.1)] [] b.2) (fun b => b = out)) res) : G E rmX8_poly cI layM ad 8 125 [(0, .ref (ad 0)), (1, .int l1), (2, .int l2), (3, .int l3), (4, .int l4), (5, .int l5), (6, .int l6)] [] σ := by
  unfold fX8_poly_L125 at h
  refine g_iinc 128 [(6, .int (l6 + 1)), (0, .ref (ad 0)), (1, .int l1), (2, .int l2), (3, .int l3), (4, .int l4), (5, .int l5)] C dX8_poly_125 (j := 6) rfl (by rfl) (by decide) rfl rfl ?_
  refine g_goto 22 C dX8_poly_128 (by decide) ?_
  have hh := end_inl h K
  exact g_sub [1, 2, 3, 4, 5, 6, 0] (hh) rfl
noncomputable def fX8_poly_L121 (l1 : Int32) (l2 : Int32) (l3 : Int32) (l4 : Int32) (s0 : Int32) (σ : Mem) : Option ((Int32 × Int32 × Mem) ⊕ ((Int32 × Mem) ⊕ (Int32 × Mem))) :=
  some (.inr (.inr (s0, σ)))
set_option maxHeartbeats 4000000 in
set_option maxRecDepth 100000 in
theorem tX8_poly_L121 {E : Gx} {cI : ClassId} {ad : Nat → Nat} (C : Cx E rmX8_poly cI layM ad 8 RX8 cX8_poly) {out : Int32 × Mem} (K0 : KI E rmX8_poly cI layM ad 8 cX8_poly .int out) {l1 : Int32} {l2 : Int32} {l3 : Int32} {l4 : Int32} {s0 : Int32} {σ : Mem} {res : (Int32 × Int32 × Mem) ⊕ ((Int32 × Mem) ⊕ (Int32 × Mem))} (h : fX8_poly_L121 l1 l2 l3 l4 s0 σ = some res) (K : Sum.elim (fun a => G E rmX8_poly cI layM ad 8 22 [(0, .ref (ad 0)), (1, .int l1), (2, .int l2), (3, .int l3), (4, .int l4), (5, .int a.1), (6, .int a.2.1)] [] a.2.2) (Sum.elim (fun b => G E rmX8_poly cI layM ad 8 131 [(3, .int l3), (5, .int b.1)] [] b.2) (fun b => b = out)) res) : G E rmX8_poly cI layM ad 8 121 [(0, .ref (ad 0)), (1, .int l1), (2, .int l2), (3, .int l3), (4, .int l4)] [.int s0] σ := by
  unfold fX8_poly_L121 at h
  have ho := end_alt1_2 h K
  replace ho : (s0, σ) = out := ho
  subst ho
  exact K0 _ _ dX8_poly_121 rfl
noncomputable def fX8_poly_B22 (l1 : Int32) (l2 : Int32) (l3 : Int32) (l4 : Int32) (l5 : Int32) (l6 : Int32) (σ : Mem) : Option ((Int32 × Int32 × Mem) ⊕ ((Int32 × Mem) ⊕ (Int32 × Mem))) :=
  if 343 ≤ l6 then
    some (.inr (.inl (l5, σ)))
  else
    chk (inb (((1372 * l1) + (343 * l2)) + l6) 170128) <|
    if (σ 1 (((1372 * l1) + (343 * l2)) + l6).toNatClampNeg) = 0 then
      fX8_poly_L125 l1 l2 l3 l4 l5 l6 σ
    else
      if l5 = l3 then
        if l4 = 0 then
          fX8_poly_L121 l1 l2 l3 l4 (l6 - l6 / 7 * 7) σ
        else
          if l4 = 1 then
            fX8_poly_L121 l1 l2 l3 l4 ((l6 / 7) - (l6 / 7) / 7 * 7) σ
          else
            if l4 = 2 then
              fX8_poly_L121 l1 l2 l3 l4 (l6 / 49) σ
            else
              if l4 = 3 then
                fX8_poly_L121 l1 l2 l3 l4 (σ 1 (((1372 * l1) + (343 * l2)) + l6).toNatClampNeg) σ
              else
                fX8_poly_L121 l1 l2 l3 l4 (-1) σ
      else
        fX8_poly_L125 l1 l2 l3 l4 (l5 + 1) l6 σ
set_option maxHeartbeats 4000000 in
set_option maxRecDepth 100000 in
theorem tX8_poly_B22 {E : Gx} {cI : ClassId} {ad : Nat → Nat} (C : Cx E rmX8_poly cI layM ad 8 RX8 cX8_poly) {out : Int32 × Mem} (K0 : KI E rmX8_poly cI layM ad 8 cX8_poly .int out) {l1 : Int32} {l2 : Int32} {l3 : Int32} {l4 : Int32} {l5 : Int32} {l6 : Int32} {σ : Mem} {res : (Int32 × Int32 × Mem) ⊕ ((Int32 × Mem) ⊕ (Int32 × Mem))} (h : fX8_poly_B22 l1 l2 l3 l4 l5 l6 σ = some res) (K : Sum.elim (fun a => G E rmX8_poly cI layM ad 8 22 [(0, .ref (ad 0)), (1, .int l1), (2, .int l2), (3, .int l3), (4, .int l4), (5, .int a.1), (6, .int a.2.1)] [] a.2.2) (Sum.elim (fun b => G E rmX8_poly cI layM ad 8 131 [(3, .int l3), (5, .int b.1)] [] b.2) (fun b => b = out)) res) : G E rmX8_poly cI layM ad 8 22 [(0, .ref (ad 0)), (1, .int l1), (2, .int l2), (3, .int l3), (4, .int l4), (5, .int l5), (6, .int l6)] [] σ := by
  unfold fX8_poly_B22 at h
  refine g_iload 24 C dX8_poly_22 (j := 6) rfl rfl ?_
  refine g_sipush 27 (v := 343) C dX8_poly_24 (by decide) rfl ?_
  refine g_icmp_ge 131 30 C dX8_poly_27 (by decide) rfl h (fun h => ?_) (fun h => ?_)
  · have hh := end_alt0_2 h K
    exact g_sub [3, 5] (hh) rfl
  · refine g_aload_n 31 C dX8_poly_30 rfl (j := 0) rfl rfl ?_
    refine g_getr 34 (j := 0) C rfl rfl wu_X8 (by decide) wf_X8_8 rfl dX8_poly_31 rfl ?_
    refine g_sipush 37 (v := 1372) C dX8_poly_34 (by decide) rfl ?_
    refine g_iload_n 38 C dX8_poly_37 rfl (j := 1) rfl rfl ?_
    refine g_imul 39 C dX8_poly_38 rfl ?_
    refine g_sipush 42 (v := 343) C dX8_poly_39 (by decide) rfl ?_
    refine g_iload_n 43 C dX8_poly_42 rfl (j := 2) rfl rfl ?_
    refine g_imul 44 C dX8_poly_43 rfl ?_
    refine g_iadd 45 C dX8_poly_44 rfl ?_
    refine g_iload 47 C dX8_poly_45 (j := 6) rfl rfl ?_
    refine g_iadd 48 C dX8_poly_47 rfl ?_
    refine g_iald 49 C rfl dX8_poly_48 rfl h (fun h => ?_)
    refine g_istore 51 [(7, .int (σ 1 (((1372 * l1) + (343 * l2)) + l6).toNatClampNeg)), (0, .ref (ad 0)), (1, .int l1), (2, .int l2), (3, .int l3), (4, .int l4), (5, .int l5), (6, .int l6)] C dX8_poly_49 (by decide) rfl rfl ?_
    refine g_iload 53 C dX8_poly_51 (j := 0) rfl rfl ?_
    refine g_if_ne 59 56 C dX8_poly_53 (by decide) rfl h (fun h => ?_) (fun h => ?_)
    · refine g_goto 125 C dX8_poly_56 (by decide) ?_
      exact g_sub [1, 2, 3, 4, 5, 6, 7] (tX8_poly_L125 (l1 := l1) (l2 := l2) (l3 := l3) (l4 := l4) (l5 := l5) (l6 := l6) (σ := σ) C K0 h K) rfl
    · refine g_iload 61 C dX8_poly_59 (j := 6) rfl rfl ?_
      refine g_iload_n 62 C dX8_poly_61 rfl (j := 4) rfl rfl ?_
      refine g_icmp_ne 122 65 C dX8_poly_62 (by decide) rfl h (fun h => ?_) (fun h => ?_)
      · refine g_iload 67 C dX8_poly_65 (j := 5) rfl rfl ?_
        refine g_if_ne 78 70 C dX8_poly_67 (by decide) rfl h (fun h => ?_) (fun h => ?_)
        · refine g_iload 72 C dX8_poly_70 (j := 7) rfl rfl ?_
          refine g_bipush 74 (v := 7) C dX8_poly_72 (by decide) rfl ?_
          refine g_irem 75 C dX8_poly_74 (by decide) rfl ?_
          refine g_goto 121 C dX8_poly_75 (by decide) ?_
          exact g_sub [1, 2, 3, 4, 5] (tX8_poly_L121 (l1 := l1) (l2 := l2) (l3 := l3) (l4 := l4) (s0 := (l6 - l6 / 7 * 7)) (σ := σ) C K0 h K) rfl
        · refine g_iload 80 C dX8_poly_78 (j := 5) rfl rfl ?_
          refine g_iconst 81 (v := 1) C dX8_poly_80 (by decide) rfl ?_
          refine g_icmp_ne 95 84 C dX8_poly_81 (by decide) rfl h (fun h => ?_) (fun h => ?_)
          · refine g_iload 86 C dX8_poly_84 (j := 7) rfl rfl ?_
            refine g_bipush 88 (v := 7) C dX8_poly_86 (by decide) rfl ?_
            refine g_idiv 89 C dX8_poly_88 (by decide) rfl ?_
            refine g_bipush 91 (v := 7) C dX8_poly_89 (by decide) rfl ?_
            refine g_irem 92 C dX8_poly_91 (by decide) rfl ?_
            refine g_goto 121 C dX8_poly_92 (by decide) ?_
            exact g_sub [1, 2, 3, 4, 5] (tX8_poly_L121 (l1 := l1) (l2 := l2) (l3 := l3) (l4 := l4) (s0 := ((l6 / 7) - (l6 / 7) / 7 * 7)) (σ := σ) C K0 h K) rfl
          · refine g_iload 97 C dX8_poly_95 (j := 5) rfl rfl ?_
            refine g_iconst 98 (v := 2) C dX8_poly_97 (by decide) rfl ?_
            refine g_icmp_ne 109 101 C dX8_poly_98 (by decide) rfl h (fun h => ?_) (fun h => ?_)
            · refine g_iload 103 C dX8_poly_101 (j := 7) rfl rfl ?_
              refine g_bipush 105 (v := 49) C dX8_poly_103 (by decide) rfl ?_
              refine g_idiv 106 C dX8_poly_105 (by decide) rfl ?_
              refine g_goto 121 C dX8_poly_106 (by decide) ?_
              exact g_sub [1, 2, 3, 4, 5] (tX8_poly_L121 (l1 := l1) (l2 := l2) (l3 := l3) (l4 := l4) (s0 := (l6 / 49)) (σ := σ) C K0 h K) rfl
            · refine g_iload 111 C dX8_poly_109 (j := 5) rfl rfl ?_
              refine g_iconst 112 (v := 3) C dX8_poly_111 (by decide) rfl ?_
              refine g_icmp_ne 120 115 C dX8_poly_112 (by decide) rfl h (fun h => ?_) (fun h => ?_)
              · refine g_iload 117 C dX8_poly_115 (j := 0) rfl rfl ?_
                refine g_goto 121 C dX8_poly_117 (by decide) ?_
                exact g_sub [1, 2, 3, 4, 5] (tX8_poly_L121 (l1 := l1) (l2 := l2) (l3 := l3) (l4 := l4) (s0 := (σ 1 (((1372 * l1) + (343 * l2)) + l6).toNatClampNeg)) (σ := σ) C K0 h K) rfl
              · refine g_iconst 121 (v := (-1)) C dX8_poly_120 (by decide) rfl ?_
                exact g_sub [1, 2, 3, 4, 5] (tX8_poly_L121 (l1 := l1) (l2 := l2) (l3 := l3) (l4 := l4) (s0 := (-1)) (σ := σ) C K0 h K) rfl
      · refine g_iinc 125 [(5, .int (l5 + 1)), (7, .int (σ 1 (((1372 * l1) + (343 * l2)) + l6).toNatClampNeg)), (0, .ref (ad 0)), (1, .int l1), (2, .int l2), (3, .int l3), (4, .int l4), (6, .int l6)] C dX8_poly_122 (j := 6) rfl (by rfl) (by decide) rfl rfl ?_
        exact g_sub [2, 3, 4, 5, 6, 0, 7] (tX8_poly_L125 (l1 := l1) (l2 := l2) (l3 := l3) (l4 := l4) (l5 := (l5 + 1)) (l6 := l6) (σ := σ) C K0 h K) rfl
noncomputable def fX8_poly_L142 (s0 : Int32) (σ : Mem) : Option (Int32 × Mem) :=
  some (s0, σ)
set_option maxHeartbeats 4000000 in
set_option maxRecDepth 100000 in
theorem tX8_poly_L142 {E : Gx} {cI : ClassId} {ad : Nat → Nat} (C : Cx E rmX8_poly cI layM ad 8 RX8 cX8_poly) {out : Int32 × Mem} (K0 : KI E rmX8_poly cI layM ad 8 cX8_poly .int out) {s0 : Int32} {σ : Mem} (h : fX8_poly_L142 s0 σ = some out) : G E rmX8_poly cI layM ad 8 142 [] [.int s0] σ := by
  unfold fX8_poly_L142 at h
  cases h
  exact K0 _ _ dX8_poly_142 rfl
noncomputable def fX8_poly_L131 (l3 : Int32) (l5 : Int32) (σ : Mem) : Option (Int32 × Mem) :=
  if l3 = (-1) then
    fX8_poly_L142 l5 σ
  else
    fX8_poly_L142 (-1) σ
set_option maxHeartbeats 4000000 in
set_option maxRecDepth 100000 in
theorem tX8_poly_L131 {E : Gx} {cI : ClassId} {ad : Nat → Nat} (C : Cx E rmX8_poly cI layM ad 8 RX8 cX8_poly) {out : Int32 × Mem} (K0 : KI E rmX8_poly cI layM ad 8 cX8_poly .int out) {l3 : Int32} {l5 : Int32} {σ : Mem} (h : fX8_poly_L131 l3 l5 σ = some out) : G E rmX8_poly cI layM ad 8 131 [(3, .int l3), (5, .int l5)] [] σ := by
  unfold fX8_poly_L131 at h
  refine g_iload_n 132 C dX8_poly_131 rfl (j := 0) rfl rfl ?_
  refine g_iconst 133 (v := (-1)) C dX8_poly_132 (by decide) rfl ?_
  refine g_icmp_ne 141 136 C dX8_poly_133 (by decide) rfl h (fun h => ?_) (fun h => ?_)
  · refine g_iload 138 C dX8_poly_136 (j := 1) rfl rfl ?_
    refine g_goto 142 C dX8_poly_138 (by decide) ?_
    exact g_sub [] (tX8_poly_L142 (s0 := l5) (σ := σ) C K0 h) rfl
  · refine g_iconst 142 (v := (-1)) C dX8_poly_141 (by decide) rfl ?_
    exact g_sub [] (tX8_poly_L142 (s0 := (-1)) (σ := σ) C K0 h) rfl
noncomputable def fX8_poly (a1 : Int32) (a2 : Int32) (a3 : Int32) (a4 : Int32) (σ : Mem) : Option (Int32 × Mem) :=
  (fX8_isPoly a1 a2 (up2 σ 0 2 0)).bind fun o1 =>
  if o1.1 = 0 then
    some ((-1), o1.2)
  else
    (loop (fun a => fX8_poly_B22 a1 a2 a3 a4 a.1 a.2.1 a.2.2) (0, 0, o1.2)).bind (Sum.elim (fun b2x0 => fX8_poly_L131 a3 b2x0.1 b2x0.2) (fun b2r => some b2r))
set_option maxHeartbeats 4000000 in
set_option maxRecDepth 100000 in
theorem mX8_poly {l : Launch} {D : va_G} {cI : ClassId} {ad : Nat → Nat} {a1 : Int32} {a2 : Int32} {a3 : Int32} {a4 : Int32} {σ : Mem} {out : Int32 × Mem} (h : fX8_poly a1 a2 a3 a4 σ = some out) : MI l D cI layM ad yX8_poly cX8_poly 8 .int rmX8_poly [.ref (ad 0), .int a1, .int a2, .int a3, .int a4] σ out := by
  refine met_i (by decide) (Nat.le_of_ble_eq_true rfl) (fun E C K0 => ?_)
  show G E rmX8_poly cI layM ad 8 0 [(0, .ref (ad 0)), (1, .int a1), (2, .int a2), (3, .int a3), (4, .int a4)] [] σ
  unfold fX8_poly at h
  refine g_aload_n 1 C dX8_poly_0 rfl (j := 0) rfl rfl ?_
  refine g_iconst 2 (v := 0) C dX8_poly_1 (by decide) rfl ?_
  refine g_puti 5 (j := 2) C rfl rfl wu_X8 (by decide) wf_X8_69 tyX8 tyX8_ok nmX8 rfl rfl rfl rfl dX8_poly_2 rfl ?_
  refine g_aload_n 6 C dX8_poly_5 rfl (j := 0) rfl rfl ?_
  refine g_iload_n 7 C dX8_poly_6 rfl (j := 1) rfl rfl ?_
  refine g_iload_n 8 C dX8_poly_7 rfl (j := 2) rfl rfl ?_
  refine g_cvi 11 C (As := [.int a1, .int a2]) (fun _ h => mX8_isPoly (a1 := a1) (a2 := a2) (σ := up2 σ 0 2 0) h) wl_X8_199 wi_X8_isPoly wz_X8_isPoly wc_X8_isPoly wn_X8 qX8_isPoly rfl rfl ⟨Nat.le_of_ble_eq_true rfl, Nat.le_of_ble_eq_true rfl⟩ rfl rfl rfl rfl (Nat.le_of_ble_eq_true rfl) dX8_poly_8 rfl h (fun o1 h => ?_)
  refine g_if_ne 16 14 C dX8_poly_11 (by decide) rfl h (fun h => ?_) (fun h => ?_)
  · refine g_iconst 15 (v := (-1)) C dX8_poly_14 (by decide) rfl ?_
    cases h
    exact K0 _ _ dX8_poly_15 rfl
  · refine g_iconst 17 (v := 0) C dX8_poly_16 (by decide) rfl ?_
    refine g_istore 19 [(5, .int 0), (0, .ref (ad 0)), (1, .int a1), (2, .int a2), (3, .int a3), (4, .int a4)] C dX8_poly_17 (by decide) rfl rfl ?_
    refine g_iconst 20 (v := 0) C dX8_poly_19 (by decide) rfl ?_
    refine g_istore 22 [(6, .int 0), (5, .int 0), (0, .ref (ad 0)), (1, .int a1), (2, .int a2), (3, .int a3), (4, .int a4)] C dX8_poly_20 (by decide) rfl rfl ?_
    obtain ⟨b2, hb, h⟩ := bind_some h
    refine g_sub [2, 3, 4, 5, 6, 1, 0] (g_loop (a := (0, 0, o1.2)) (fun a => G E rmX8_poly cI layM ad 8 22 [(0, .ref (ad 0)), (1, .int a1), (2, .int a2), (3, .int a3), (4, .int a4), (5, .int a.1), (6, .int a.2.1)] [] a.2.2) (Sum.elim (fun b => G E rmX8_poly cI layM ad 8 131 [(3, .int a3), (5, .int b.1)] [] b.2) (fun b => b = out)) hb (fun a res h K => tX8_poly_B22 (l1 := a1) (l2 := a2) (l3 := a3) (l4 := a4) (l5 := a.1) (l6 := a.2.1) (σ := a.2.2) (res := res) C K0 h K) ?_) rfl
    rcases b2 with b2x0 | b2r
    · show G E rmX8_poly cI layM ad 8 131 [(3, .int a3), (5, .int b2x0.1)] [] b2x0.2
      exact tX8_poly_L131 (l3 := a3) (l5 := b2x0.1) (σ := b2x0.2) C K0 h
    · exact end_top h

/-! LoopReducerModel.value(IIIII)I -/
abbrev rmX8_value : Room := { frames := 8, cells := 0, slots := 0, locals := 193 }
theorem qX8_value : yX8_value.cls ≠ "java/lang/invoke/MethodHandle" ∧ yX8_value.cls ≠ "java/lang/invoke/VarHandle" ∧ (parseMethodDescriptor yX8_value.desc).map (fun d => d.parameters.length) = some 5 := by decide +kernel
theorem DX8_value : ∀ q ∈ ([(0, .aload_n 0, 1), (1, .iconst 0, 1), (2, .putfield 69, 3), (5, .aload_n 0, 1), (6, .iload_n 1, 1), (7, .iload_n 2, 1), (8, .invokevirtual 199, 3), (11, .ifCond .ne 5, 3), (14, .iconst (-1), 1), (15, .ireturn, 1), (16, .aload_n 0, 1), (17, .iload_n 3, 1), (18, .iload 4, 2), (20, .iload 5, 2), (22, .invokevirtual 205, 3), (25, .aload_n 0, 1), (26, .iload_n 1, 1), (27, .iload_n 2, 1), (28, .invokevirtual 208, 3), (31, .ireturn, 1)] : List (Nat × Instr × Nat)), decode cX8_value q.1 = .ok q.2 := by decide +kernel
theorem dX8_value_0 : decode cX8_value 0 = .ok (.aload_n 0, 1) := DX8_value (0, .aload_n 0, 1) (List.mem_of_getElem? (i := 0) rfl)
theorem dX8_value_1 : decode cX8_value 1 = .ok (.iconst 0, 1) := DX8_value (1, .iconst 0, 1) (List.mem_of_getElem? (i := 1) rfl)
theorem dX8_value_2 : decode cX8_value 2 = .ok (.putfield 69, 3) := DX8_value (2, .putfield 69, 3) (List.mem_of_getElem? (i := 2) rfl)
theorem dX8_value_5 : decode cX8_value 5 = .ok (.aload_n 0, 1) := DX8_value (5, .aload_n 0, 1) (List.mem_of_getElem? (i := 3) rfl)
theorem dX8_value_6 : decode cX8_value 6 = .ok (.iload_n 1, 1) := DX8_value (6, .iload_n 1, 1) (List.mem_of_getElem? (i := 4) rfl)
theorem dX8_value_7 : decode cX8_value 7 = .ok (.iload_n 2, 1) := DX8_value (7, .iload_n 2, 1) (List.mem_of_getElem? (i := 5) rfl)
theorem dX8_value_8 : decode cX8_value 8 = .ok (.invokevirtual 199, 3) := DX8_value (8, .invokevirtual 199, 3) (List.mem_of_getElem? (i := 6) rfl)
theorem dX8_value_11 : decode cX8_value 11 = .ok (.ifCond .ne 5, 3) := DX8_value (11, .ifCond .ne 5, 3) (List.mem_of_getElem? (i := 7) rfl)
theorem dX8_value_14 : decode cX8_value 14 = .ok (.iconst (-1), 1) := DX8_value (14, .iconst (-1), 1) (List.mem_of_getElem? (i := 8) rfl)
theorem dX8_value_15 : decode cX8_value 15 = .ok (.ireturn, 1) := DX8_value (15, .ireturn, 1) (List.mem_of_getElem? (i := 9) rfl)
theorem dX8_value_16 : decode cX8_value 16 = .ok (.aload_n 0, 1) := DX8_value (16, .aload_n 0, 1) (List.mem_of_getElem? (i := 10) rfl)
theorem dX8_value_17 : decode cX8_value 17 = .ok (.iload_n 3, 1) := DX8_value (17, .iload_n 3, 1) (List.mem_of_getElem? (i := 11) rfl)
theorem dX8_value_18 : decode cX8_value 18 = .ok (.iload 4, 2) := DX8_value (18, .iload 4, 2) (List.mem_of_getElem? (i := 12) rfl)
theorem dX8_value_20 : decode cX8_value 20 = .ok (.iload 5, 2) := DX8_value (20, .iload 5, 2) (List.mem_of_getElem? (i := 13) rfl)
theorem dX8_value_22 : decode cX8_value 22 = .ok (.invokevirtual 205, 3) := DX8_value (22, .invokevirtual 205, 3) (List.mem_of_getElem? (i := 14) rfl)
theorem dX8_value_25 : decode cX8_value 25 = .ok (.aload_n 0, 1) := DX8_value (25, .aload_n 0, 1) (List.mem_of_getElem? (i := 15) rfl)
theorem dX8_value_26 : decode cX8_value 26 = .ok (.iload_n 1, 1) := DX8_value (26, .iload_n 1, 1) (List.mem_of_getElem? (i := 16) rfl)
theorem dX8_value_27 : decode cX8_value 27 = .ok (.iload_n 2, 1) := DX8_value (27, .iload_n 2, 1) (List.mem_of_getElem? (i := 17) rfl)
theorem dX8_value_28 : decode cX8_value 28 = .ok (.invokevirtual 208, 3) := DX8_value (28, .invokevirtual 208, 3) (List.mem_of_getElem? (i := 18) rfl)
theorem dX8_value_31 : decode cX8_value 31 = .ok (.ireturn, 1) := DX8_value (31, .ireturn, 1) (List.mem_of_getElem? (i := 19) rfl)
noncomputable def fX8_value (a1 : Int32) (a2 : Int32) (a3 : Int32) (a4 : Int32) (a5 : Int32) (σ : Mem) : Option (Int32 × Mem) :=
  (fX8_isPoly a1 a2 (up2 σ 0 2 0)).bind fun o1 =>
  if o1.1 = 0 then
    some ((-1), o1.2)
  else
    (fX8_gives a3 a4 a5 o1.2).bind fun o2 =>
    (fX8_valueOf a1 a2 o2).bind fun o3 =>
    some (o3.1, o3.2)
set_option maxHeartbeats 4000000 in
set_option maxRecDepth 100000 in
theorem mX8_value {l : Launch} {D : va_G} {cI : ClassId} {ad : Nat → Nat} {a1 : Int32} {a2 : Int32} {a3 : Int32} {a4 : Int32} {a5 : Int32} {σ : Mem} {out : Int32 × Mem} (h : fX8_value a1 a2 a3 a4 a5 σ = some out) : MI l D cI layM ad yX8_value cX8_value 6 .int rmX8_value [.ref (ad 0), .int a1, .int a2, .int a3, .int a4, .int a5] σ out := by
  refine met_i (by decide) (Nat.le_of_ble_eq_true rfl) (fun E C K0 => ?_)
  show G E rmX8_value cI layM ad 6 0 [(0, .ref (ad 0)), (1, .int a1), (2, .int a2), (3, .int a3), (4, .int a4), (5, .int a5)] [] σ
  unfold fX8_value at h
  refine g_aload_n 1 C dX8_value_0 rfl (j := 0) rfl rfl ?_
  refine g_iconst 2 (v := 0) C dX8_value_1 (by decide) rfl ?_
  refine g_puti 5 (j := 2) C rfl rfl wu_X8 (by decide) wf_X8_69 tyX8 tyX8_ok nmX8 rfl rfl rfl rfl dX8_value_2 rfl ?_
  refine g_aload_n 6 C dX8_value_5 rfl (j := 0) rfl rfl ?_
  refine g_iload_n 7 C dX8_value_6 rfl (j := 1) rfl rfl ?_
  refine g_iload_n 8 C dX8_value_7 rfl (j := 2) rfl rfl ?_
  refine g_cvi 11 C (As := [.int a1, .int a2]) (fun _ h => mX8_isPoly (a1 := a1) (a2 := a2) (σ := up2 σ 0 2 0) h) wl_X8_199 wi_X8_isPoly wz_X8_isPoly wc_X8_isPoly wn_X8 qX8_isPoly rfl rfl ⟨Nat.le_of_ble_eq_true rfl, Nat.le_of_ble_eq_true rfl⟩ rfl rfl rfl rfl (Nat.le_of_ble_eq_true rfl) dX8_value_8 rfl h (fun o1 h => ?_)
  refine g_if_ne 16 14 C dX8_value_11 (by decide) rfl h (fun h => ?_) (fun h => ?_)
  · refine g_iconst 15 (v := (-1)) C dX8_value_14 (by decide) rfl ?_
    cases h
    exact K0 _ _ dX8_value_15 rfl
  · refine g_aload_n 17 C dX8_value_16 rfl (j := 0) rfl rfl ?_
    refine g_iload_n 18 C dX8_value_17 rfl (j := 3) rfl rfl ?_
    refine g_iload 20 C dX8_value_18 (j := 4) rfl rfl ?_
    refine g_iload 22 C dX8_value_20 (j := 5) rfl rfl ?_
    refine g_cvv 25 C (As := [.int a3, .int a4, .int a5]) (fun _ h => mX8_gives (a1 := a3) (a2 := a4) (a3 := a5) (σ := o1.2) h) wl_X8_205 wi_X8_gives wz_X8_gives wc_X8_gives wn_X8 qX8_gives rfl rfl ⟨Nat.le_of_ble_eq_true rfl, Nat.le_of_ble_eq_true rfl⟩ rfl rfl rfl rfl (Nat.le_of_ble_eq_true rfl) dX8_value_22 rfl h (fun o2 h => ?_)
    refine g_aload_n 26 C dX8_value_25 rfl (j := 0) rfl rfl ?_
    refine g_iload_n 27 C dX8_value_26 rfl (j := 1) rfl rfl ?_
    refine g_iload_n 28 C dX8_value_27 rfl (j := 2) rfl rfl ?_
    refine g_cvi 31 C (As := [.int a1, .int a2]) (fun _ h => mX8_valueOf (a1 := a1) (a2 := a2) (σ := o2) h) wl_X8_208 wi_X8_valueOf wz_X8_valueOf wc_X8_valueOf wn_X8 qX8_valueOf rfl rfl ⟨Nat.le_of_ble_eq_true rfl, Nat.le_of_ble_eq_true rfl⟩ rfl rfl rfl rfl (Nat.le_of_ble_eq_true rfl) dX8_value_28 rfl h (fun o3 h => ?_)
    cases h
    exact K0 _ _ dX8_value_31 rfl

/-! LoopReducerModel.told(IIIII)I -/
abbrev rmX8_told : Room := { frames := 7, cells := 0, slots := 0, locals := 171 }
theorem qX8_told : yX8_told.cls ≠ "java/lang/invoke/MethodHandle" ∧ yX8_told.cls ≠ "java/lang/invoke/VarHandle" ∧ (parseMethodDescriptor yX8_told.desc).map (fun d => d.parameters.length) = some 5 := by decide +kernel
theorem DX8_told : ∀ q ∈ ([(0, .aload_n 0, 1), (1, .iconst 0, 1), (2, .putfield 69, 3), (5, .aload_n 0, 1), (6, .iload_n 1, 1), (7, .invokevirtual 95, 3), (10, .ifCond .eq 13, 3), (13, .iload_n 2, 1), (14, .iconst 0, 1), (15, .ldc 215, 2), (17, .invokestatic 75, 3), (20, .ifCond .ne 5, 3), (23, .iconst (-1), 1), (24, .ireturn, 1), (25, .aload_n 0, 1), (26, .invokevirtual 190, 3), (29, .aload_n 0, 1), (30, .iload_n 3, 1), (31, .iload 4, 2), (33, .iload 5, 2), (35, .invokevirtual 205, 3), (38, .aload_n 0, 1), (39, .getfield 39, 3), (42, .iload_n 1, 1), (43, .iaload, 1), (44, .iconst 3, 1), (45, .if_icmp .ne 46, 3), (48, .iload_n 1, 1), (49, .istore 6, 2), (51, .iload_n 2, 1), (52, .aload_n 0, 1), (53, .aload_n 0, 1), (54, .iload_n 1, 1), (55, .invokevirtual 115, 3), (58, .invokevirtual 193, 3), (61, .irem, 1), (62, .istore 7, 2), (64, .iload 7, 2), (66, .ifCond .le 18, 3), (69, .aload_n 0, 1), (70, .getfield 20, 3), (73, .iload 6, 2), (75, .iaload, 1), (76, .istore 6, 2), (78, .iinc 7 (-1), 3), (81, .goto (-17), 3), (84, .aload_n 0, 1), (85, .iload 6, 2), (87, .invokevirtual 216, 3), (90, .ireturn, 1), (91, .aload_n 0, 1), (92, .iload_n 1, 1), (93, .invokevirtual 159, 3), (96, .ifCond .eq 23, 3), (99, .iload_n 2, 1), (100, .aload_n 0, 1), (101, .getfield 36, 3), (104, .iload_n 1, 1), (105, .iaload, 1), (106, .if_icmp .lt 13, 3), (109, .aload_n 0, 1), (110, .iload_n 1, 1), (111, .iload_n 2, 1), (112, .i2l, 1), (113, .invokevirtual 219, 3), (116, .goto 4, 3), (119, .iconst (-1), 1), (120, .ireturn, 1)] : List (Nat × Instr × Nat)), decode cX8_told q.1 = .ok q.2 := by decide +kernel
theorem dX8_told_0 : decode cX8_told 0 = .ok (.aload_n 0, 1) := DX8_told (0, .aload_n 0, 1) (List.mem_of_getElem? (i := 0) rfl)
theorem dX8_told_1 : decode cX8_told 1 = .ok (.iconst 0, 1) := DX8_told (1, .iconst 0, 1) (List.mem_of_getElem? (i := 1) rfl)
theorem dX8_told_2 : decode cX8_told 2 = .ok (.putfield 69, 3) := DX8_told (2, .putfield 69, 3) (List.mem_of_getElem? (i := 2) rfl)
theorem dX8_told_5 : decode cX8_told 5 = .ok (.aload_n 0, 1) := DX8_told (5, .aload_n 0, 1) (List.mem_of_getElem? (i := 3) rfl)
theorem dX8_told_6 : decode cX8_told 6 = .ok (.iload_n 1, 1) := DX8_told (6, .iload_n 1, 1) (List.mem_of_getElem? (i := 4) rfl)
theorem dX8_told_7 : decode cX8_told 7 = .ok (.invokevirtual 95, 3) := DX8_told (7, .invokevirtual 95, 3) (List.mem_of_getElem? (i := 5) rfl)
theorem dX8_told_10 : decode cX8_told 10 = .ok (.ifCond .eq 13, 3) := DX8_told (10, .ifCond .eq 13, 3) (List.mem_of_getElem? (i := 6) rfl)
theorem dX8_told_13 : decode cX8_told 13 = .ok (.iload_n 2, 1) := DX8_told (13, .iload_n 2, 1) (List.mem_of_getElem? (i := 7) rfl)
theorem dX8_told_14 : decode cX8_told 14 = .ok (.iconst 0, 1) := DX8_told (14, .iconst 0, 1) (List.mem_of_getElem? (i := 8) rfl)
theorem dX8_told_15 : decode cX8_told 15 = .ok (.ldc 215, 2) := DX8_told (15, .ldc 215, 2) (List.mem_of_getElem? (i := 9) rfl)
theorem dX8_told_17 : decode cX8_told 17 = .ok (.invokestatic 75, 3) := DX8_told (17, .invokestatic 75, 3) (List.mem_of_getElem? (i := 10) rfl)
theorem dX8_told_20 : decode cX8_told 20 = .ok (.ifCond .ne 5, 3) := DX8_told (20, .ifCond .ne 5, 3) (List.mem_of_getElem? (i := 11) rfl)
theorem dX8_told_23 : decode cX8_told 23 = .ok (.iconst (-1), 1) := DX8_told (23, .iconst (-1), 1) (List.mem_of_getElem? (i := 12) rfl)
theorem dX8_told_24 : decode cX8_told 24 = .ok (.ireturn, 1) := DX8_told (24, .ireturn, 1) (List.mem_of_getElem? (i := 13) rfl)
theorem dX8_told_25 : decode cX8_told 25 = .ok (.aload_n 0, 1) := DX8_told (25, .aload_n 0, 1) (List.mem_of_getElem? (i := 14) rfl)
theorem dX8_told_26 : decode cX8_told 26 = .ok (.invokevirtual 190, 3) := DX8_told (26, .invokevirtual 190, 3) (List.mem_of_getElem? (i := 15) rfl)
theorem dX8_told_29 : decode cX8_told 29 = .ok (.aload_n 0, 1) := DX8_told (29, .aload_n 0, 1) (List.mem_of_getElem? (i := 16) rfl)
theorem dX8_told_30 : decode cX8_told 30 = .ok (.iload_n 3, 1) := DX8_told (30, .iload_n 3, 1) (List.mem_of_getElem? (i := 17) rfl)
theorem dX8_told_31 : decode cX8_told 31 = .ok (.iload 4, 2) := DX8_told (31, .iload 4, 2) (List.mem_of_getElem? (i := 18) rfl)
theorem dX8_told_33 : decode cX8_told 33 = .ok (.iload 5, 2) := DX8_told (33, .iload 5, 2) (List.mem_of_getElem? (i := 19) rfl)
theorem dX8_told_35 : decode cX8_told 35 = .ok (.invokevirtual 205, 3) := DX8_told (35, .invokevirtual 205, 3) (List.mem_of_getElem? (i := 20) rfl)
theorem dX8_told_38 : decode cX8_told 38 = .ok (.aload_n 0, 1) := DX8_told (38, .aload_n 0, 1) (List.mem_of_getElem? (i := 21) rfl)
theorem dX8_told_39 : decode cX8_told 39 = .ok (.getfield 39, 3) := DX8_told (39, .getfield 39, 3) (List.mem_of_getElem? (i := 22) rfl)
theorem dX8_told_42 : decode cX8_told 42 = .ok (.iload_n 1, 1) := DX8_told (42, .iload_n 1, 1) (List.mem_of_getElem? (i := 23) rfl)
theorem dX8_told_43 : decode cX8_told 43 = .ok (.iaload, 1) := DX8_told (43, .iaload, 1) (List.mem_of_getElem? (i := 24) rfl)
theorem dX8_told_44 : decode cX8_told 44 = .ok (.iconst 3, 1) := DX8_told (44, .iconst 3, 1) (List.mem_of_getElem? (i := 25) rfl)
theorem dX8_told_45 : decode cX8_told 45 = .ok (.if_icmp .ne 46, 3) := DX8_told (45, .if_icmp .ne 46, 3) (List.mem_of_getElem? (i := 26) rfl)
theorem dX8_told_48 : decode cX8_told 48 = .ok (.iload_n 1, 1) := DX8_told (48, .iload_n 1, 1) (List.mem_of_getElem? (i := 27) rfl)
theorem dX8_told_49 : decode cX8_told 49 = .ok (.istore 6, 2) := DX8_told (49, .istore 6, 2) (List.mem_of_getElem? (i := 28) rfl)
theorem dX8_told_51 : decode cX8_told 51 = .ok (.iload_n 2, 1) := DX8_told (51, .iload_n 2, 1) (List.mem_of_getElem? (i := 29) rfl)
theorem dX8_told_52 : decode cX8_told 52 = .ok (.aload_n 0, 1) := DX8_told (52, .aload_n 0, 1) (List.mem_of_getElem? (i := 30) rfl)
theorem dX8_told_53 : decode cX8_told 53 = .ok (.aload_n 0, 1) := DX8_told (53, .aload_n 0, 1) (List.mem_of_getElem? (i := 31) rfl)
theorem dX8_told_54 : decode cX8_told 54 = .ok (.iload_n 1, 1) := DX8_told (54, .iload_n 1, 1) (List.mem_of_getElem? (i := 32) rfl)
theorem dX8_told_55 : decode cX8_told 55 = .ok (.invokevirtual 115, 3) := DX8_told (55, .invokevirtual 115, 3) (List.mem_of_getElem? (i := 33) rfl)
theorem dX8_told_58 : decode cX8_told 58 = .ok (.invokevirtual 193, 3) := DX8_told (58, .invokevirtual 193, 3) (List.mem_of_getElem? (i := 34) rfl)
theorem dX8_told_61 : decode cX8_told 61 = .ok (.irem, 1) := DX8_told (61, .irem, 1) (List.mem_of_getElem? (i := 35) rfl)
theorem dX8_told_62 : decode cX8_told 62 = .ok (.istore 7, 2) := DX8_told (62, .istore 7, 2) (List.mem_of_getElem? (i := 36) rfl)
theorem dX8_told_64 : decode cX8_told 64 = .ok (.iload 7, 2) := DX8_told (64, .iload 7, 2) (List.mem_of_getElem? (i := 37) rfl)
theorem dX8_told_66 : decode cX8_told 66 = .ok (.ifCond .le 18, 3) := DX8_told (66, .ifCond .le 18, 3) (List.mem_of_getElem? (i := 38) rfl)
theorem dX8_told_69 : decode cX8_told 69 = .ok (.aload_n 0, 1) := DX8_told (69, .aload_n 0, 1) (List.mem_of_getElem? (i := 39) rfl)
theorem dX8_told_70 : decode cX8_told 70 = .ok (.getfield 20, 3) := DX8_told (70, .getfield 20, 3) (List.mem_of_getElem? (i := 40) rfl)
theorem dX8_told_73 : decode cX8_told 73 = .ok (.iload 6, 2) := DX8_told (73, .iload 6, 2) (List.mem_of_getElem? (i := 41) rfl)
theorem dX8_told_75 : decode cX8_told 75 = .ok (.iaload, 1) := DX8_told (75, .iaload, 1) (List.mem_of_getElem? (i := 42) rfl)
theorem dX8_told_76 : decode cX8_told 76 = .ok (.istore 6, 2) := DX8_told (76, .istore 6, 2) (List.mem_of_getElem? (i := 43) rfl)
theorem dX8_told_78 : decode cX8_told 78 = .ok (.iinc 7 (-1), 3) := DX8_told (78, .iinc 7 (-1), 3) (List.mem_of_getElem? (i := 44) rfl)
theorem dX8_told_81 : decode cX8_told 81 = .ok (.goto (-17), 3) := DX8_told (81, .goto (-17), 3) (List.mem_of_getElem? (i := 45) rfl)
theorem dX8_told_84 : decode cX8_told 84 = .ok (.aload_n 0, 1) := DX8_told (84, .aload_n 0, 1) (List.mem_of_getElem? (i := 46) rfl)
theorem dX8_told_85 : decode cX8_told 85 = .ok (.iload 6, 2) := DX8_told (85, .iload 6, 2) (List.mem_of_getElem? (i := 47) rfl)
theorem dX8_told_87 : decode cX8_told 87 = .ok (.invokevirtual 216, 3) := DX8_told (87, .invokevirtual 216, 3) (List.mem_of_getElem? (i := 48) rfl)
theorem dX8_told_90 : decode cX8_told 90 = .ok (.ireturn, 1) := DX8_told (90, .ireturn, 1) (List.mem_of_getElem? (i := 49) rfl)
theorem dX8_told_91 : decode cX8_told 91 = .ok (.aload_n 0, 1) := DX8_told (91, .aload_n 0, 1) (List.mem_of_getElem? (i := 50) rfl)
theorem dX8_told_92 : decode cX8_told 92 = .ok (.iload_n 1, 1) := DX8_told (92, .iload_n 1, 1) (List.mem_of_getElem? (i := 51) rfl)
theorem dX8_told_93 : decode cX8_told 93 = .ok (.invokevirtual 159, 3) := DX8_told (93, .invokevirtual 159, 3) (List.mem_of_getElem? (i := 52) rfl)
theorem dX8_told_96 : decode cX8_told 96 = .ok (.ifCond .eq 23, 3) := DX8_told (96, .ifCond .eq 23, 3) (List.mem_of_getElem? (i := 53) rfl)
theorem dX8_told_99 : decode cX8_told 99 = .ok (.iload_n 2, 1) := DX8_told (99, .iload_n 2, 1) (List.mem_of_getElem? (i := 54) rfl)
theorem dX8_told_100 : decode cX8_told 100 = .ok (.aload_n 0, 1) := DX8_told (100, .aload_n 0, 1) (List.mem_of_getElem? (i := 55) rfl)
theorem dX8_told_101 : decode cX8_told 101 = .ok (.getfield 36, 3) := DX8_told (101, .getfield 36, 3) (List.mem_of_getElem? (i := 56) rfl)
theorem dX8_told_104 : decode cX8_told 104 = .ok (.iload_n 1, 1) := DX8_told (104, .iload_n 1, 1) (List.mem_of_getElem? (i := 57) rfl)
theorem dX8_told_105 : decode cX8_told 105 = .ok (.iaload, 1) := DX8_told (105, .iaload, 1) (List.mem_of_getElem? (i := 58) rfl)
theorem dX8_told_106 : decode cX8_told 106 = .ok (.if_icmp .lt 13, 3) := DX8_told (106, .if_icmp .lt 13, 3) (List.mem_of_getElem? (i := 59) rfl)
theorem dX8_told_109 : decode cX8_told 109 = .ok (.aload_n 0, 1) := DX8_told (109, .aload_n 0, 1) (List.mem_of_getElem? (i := 60) rfl)
theorem dX8_told_110 : decode cX8_told 110 = .ok (.iload_n 1, 1) := DX8_told (110, .iload_n 1, 1) (List.mem_of_getElem? (i := 61) rfl)
theorem dX8_told_111 : decode cX8_told 111 = .ok (.iload_n 2, 1) := DX8_told (111, .iload_n 2, 1) (List.mem_of_getElem? (i := 62) rfl)
theorem dX8_told_112 : decode cX8_told 112 = .ok (.i2l, 1) := DX8_told (112, .i2l, 1) (List.mem_of_getElem? (i := 63) rfl)
theorem dX8_told_113 : decode cX8_told 113 = .ok (.invokevirtual 219, 3) := DX8_told (113, .invokevirtual 219, 3) (List.mem_of_getElem? (i := 64) rfl)
theorem dX8_told_116 : decode cX8_told 116 = .ok (.goto 4, 3) := DX8_told (116, .goto 4, 3) (List.mem_of_getElem? (i := 65) rfl)
theorem dX8_told_119 : decode cX8_told 119 = .ok (.iconst (-1), 1) := DX8_told (119, .iconst (-1), 1) (List.mem_of_getElem? (i := 66) rfl)
theorem dX8_told_120 : decode cX8_told 120 = .ok (.ireturn, 1) := DX8_told (120, .ireturn, 1) (List.mem_of_getElem? (i := 67) rfl)
noncomputable def fX8_told_L23 (σ : Mem) : Option (Int32 × Mem) :=
  some ((-1), σ)
set_option maxHeartbeats 4000000 in
set_option maxRecDepth 100000 in
theorem tX8_told_L23 {E : Gx} {cI : ClassId} {ad : Nat → Nat} (C : Cx E rmX8_told cI layM ad 8 RX8 cX8_told) {out : Int32 × Mem} (K0 : KI E rmX8_told cI layM ad 8 cX8_told .int out) {σ : Mem} (h : fX8_told_L23 σ = some out) : G E rmX8_told cI layM ad 8 23 [] [] σ := by
  unfold fX8_told_L23 at h
  refine g_iconst 24 (v := (-1)) C dX8_told_23 (by decide) rfl ?_
  cases h
  exact K0 _ _ dX8_told_24 rfl
noncomputable def fX8_told_L120 (s0 : Int32) (σ : Mem) : Option (Int32 × Mem) :=
  some (s0, σ)
set_option maxHeartbeats 4000000 in
set_option maxRecDepth 100000 in
theorem tX8_told_L120 {E : Gx} {cI : ClassId} {ad : Nat → Nat} (C : Cx E rmX8_told cI layM ad 8 RX8 cX8_told) {out : Int32 × Mem} (K0 : KI E rmX8_told cI layM ad 8 cX8_told .int out) {s0 : Int32} {σ : Mem} (h : fX8_told_L120 s0 σ = some out) : G E rmX8_told cI layM ad 8 120 [] [.int s0] σ := by
  unfold fX8_told_L120 at h
  cases h
  exact K0 _ _ dX8_told_120 rfl
noncomputable def fX8_told_L119 (σ : Mem) : Option (Int32 × Mem) :=
  fX8_told_L120 (-1) σ
set_option maxHeartbeats 4000000 in
set_option maxRecDepth 100000 in
theorem tX8_told_L119 {E : Gx} {cI : ClassId} {ad : Nat → Nat} (C : Cx E rmX8_told cI layM ad 8 RX8 cX8_told) {out : Int32 × Mem} (K0 : KI E rmX8_told cI layM ad 8 cX8_told .int out) {σ : Mem} (h : fX8_told_L119 σ = some out) : G E rmX8_told cI layM ad 8 119 [] [] σ := by
  unfold fX8_told_L119 at h
  refine g_iconst 120 (v := (-1)) C dX8_told_119 (by decide) rfl ?_
  exact tX8_told_L120 (s0 := (-1)) (σ := σ) C K0 h
noncomputable def fX8_told_B64 (l6 : Int32) (l7 : Int32) (σ : Mem) : Option ((Int32 × Int32 × Mem) ⊕ (Int32 × Mem)) :=
  if l7 ≤ 0 then
    some (.inr (l6, σ))
  else
    chk (inb l6 30) <|
    some (.inl (σ 4 l6.toNatClampNeg, l7 + (-1), σ))
set_option maxHeartbeats 4000000 in
set_option maxRecDepth 100000 in
theorem tX8_told_B64 {E : Gx} {cI : ClassId} {ad : Nat → Nat} (C : Cx E rmX8_told cI layM ad 8 RX8 cX8_told) {out : Int32 × Mem} (K0 : KI E rmX8_told cI layM ad 8 cX8_told .int out) {l6 : Int32} {l7 : Int32} {σ : Mem} {res : (Int32 × Int32 × Mem) ⊕ (Int32 × Mem)} (h : fX8_told_B64 l6 l7 σ = some res) (K : Sum.elim (fun a => G E rmX8_told cI layM ad 8 64 [(0, .ref (ad 0)), (6, .int a.1), (7, .int a.2.1)] [] a.2.2) (fun b => G E rmX8_told cI layM ad 8 84 [(0, .ref (ad 0)), (6, .int b.1)] [] b.2) res) : G E rmX8_told cI layM ad 8 64 [(0, .ref (ad 0)), (6, .int l6), (7, .int l7)] [] σ := by
  unfold fX8_told_B64 at h
  refine g_iload 66 C dX8_told_64 (j := 2) rfl rfl ?_
  refine g_if_le 84 69 C dX8_told_66 (by decide) rfl h (fun h => ?_) (fun h => ?_)
  · have hh := end_inr h K
    exact g_sub [0, 1] (hh) rfl
  · refine g_aload_n 70 C dX8_told_69 rfl (j := 0) rfl rfl ?_
    refine g_getr 73 (j := 5) C rfl rfl wu_X8 (by decide) wf_X8_20 rfl dX8_told_70 rfl ?_
    refine g_iload 75 C dX8_told_73 (j := 1) rfl rfl ?_
    refine g_iald 76 C rfl dX8_told_75 rfl h (fun h => ?_)
    refine g_istore 78 [(6, .int (σ 4 l6.toNatClampNeg)), (0, .ref (ad 0)), (7, .int l7)] C dX8_told_76 (by decide) rfl rfl ?_
    refine g_iinc 81 [(7, .int (l7 + (-1))), (6, .int (σ 4 l6.toNatClampNeg)), (0, .ref (ad 0))] C dX8_told_78 (j := 2) rfl (by rfl) (by decide) rfl rfl ?_
    refine g_goto 64 C dX8_told_81 (by decide) ?_
    have hh := end_inl h K
    exact g_sub [2, 1, 0] (hh) rfl
noncomputable def fX8_told_L84 (l6 : Int32) (σ : Mem) : Option (Int32 × Mem) :=
  (fX8_startOf l6 σ).bind fun o10 =>
  some (o10.1, o10.2)
set_option maxHeartbeats 4000000 in
set_option maxRecDepth 100000 in
theorem tX8_told_L84 {E : Gx} {cI : ClassId} {ad : Nat → Nat} (C : Cx E rmX8_told cI layM ad 8 RX8 cX8_told) {out : Int32 × Mem} (K0 : KI E rmX8_told cI layM ad 8 cX8_told .int out) {l6 : Int32} {σ : Mem} (h : fX8_told_L84 l6 σ = some out) : G E rmX8_told cI layM ad 8 84 [(0, .ref (ad 0)), (6, .int l6)] [] σ := by
  unfold fX8_told_L84 at h
  refine g_aload_n 85 C dX8_told_84 rfl (j := 0) rfl rfl ?_
  refine g_iload 87 C dX8_told_85 (j := 1) rfl rfl ?_
  refine g_cvi 90 C (As := [.int l6]) (fun _ h => mX8_startOf (a1 := l6) (σ := σ) h) wl_X8_216 wi_X8_startOf wz_X8_startOf wc_X8_startOf wn_X8 qX8_startOf rfl rfl ⟨Nat.le_of_ble_eq_true rfl, Nat.le_of_ble_eq_true rfl⟩ rfl rfl rfl rfl (Nat.le_of_ble_eq_true rfl) dX8_told_87 rfl h (fun o10 h => ?_)
  cases h
  exact K0 _ _ dX8_told_90 rfl
noncomputable def fX8_told (a1 : Int32) (a2 : Int32) (a3 : Int32) (a4 : Int32) (a5 : Int32) (σ : Mem) : Option (Int32 × Mem) :=
  (fX8_isName a1 (up2 σ 0 2 0)).bind fun o1 =>
  if o1.1 = 0 then
    fX8_told_L23 o1.2
  else
    (fX8_isIn a2 0 1000000 o1.2).bind fun o2 =>
    if o2.1 = 0 then
      fX8_told_L23 o2.2
    else
      (fX8_lays o2.2).bind fun o3 =>
      (fX8_gives a3 a4 a5 o3).bind fun o4 =>
      chk (inb a1 30) <|
      if (o4 7 a1.toNatClampNeg) = 3 then
        (fX8_cycleOf a1 o4).bind fun o7 =>
        (fX8_bits o7.1 o7.2).bind fun o8 =>
        chk (o8.1 != 0) <|
        (loop (fun a => fX8_told_B64 a.1 a.2.1 a.2.2) (a1, a2 - a2 / o8.1 * o8.1, o8.2)).bind fun b9 =>
        fX8_told_L84 b9.1 b9.2
      else
        (fX8_hasForm a1 o4).bind fun o5 =>
        if o5.1 = 0 then
          fX8_told_L119 o5.2
        else
          chk (inb a1 30) <|
          if a2 < (o5.2 6 a1.toNatClampNeg) then
            fX8_told_L119 o5.2
          else
            (fX8_tells a1 a2.toInt64 o5.2).bind fun o6 =>
            fX8_told_L120 o6.1 o6.2
set_option maxHeartbeats 4000000 in
set_option maxRecDepth 100000 in
theorem mX8_told {l : Launch} {D : va_G} {cI : ClassId} {ad : Nat → Nat} {a1 : Int32} {a2 : Int32} {a3 : Int32} {a4 : Int32} {a5 : Int32} {σ : Mem} {out : Int32 × Mem} (h : fX8_told a1 a2 a3 a4 a5 σ = some out) : MI l D cI layM ad yX8_told cX8_told 8 .int rmX8_told [.ref (ad 0), .int a1, .int a2, .int a3, .int a4, .int a5] σ out := by
  refine met_i (by decide) (Nat.le_of_ble_eq_true rfl) (fun E C K0 => ?_)
  show G E rmX8_told cI layM ad 8 0 [(0, .ref (ad 0)), (1, .int a1), (2, .int a2), (3, .int a3), (4, .int a4), (5, .int a5)] [] σ
  unfold fX8_told at h
  refine g_aload_n 1 C dX8_told_0 rfl (j := 0) rfl rfl ?_
  refine g_iconst 2 (v := 0) C dX8_told_1 (by decide) rfl ?_
  refine g_puti 5 (j := 2) C rfl rfl wu_X8 (by decide) wf_X8_69 tyX8 tyX8_ok nmX8 rfl rfl rfl rfl dX8_told_2 rfl ?_
  refine g_aload_n 6 C dX8_told_5 rfl (j := 0) rfl rfl ?_
  refine g_iload_n 7 C dX8_told_6 rfl (j := 1) rfl rfl ?_
  refine g_cvi 10 C (As := [.int a1]) (fun _ h => mX8_isName (a1 := a1) (σ := up2 σ 0 2 0) h) wl_X8_95 wi_X8_isName wz_X8_isName wc_X8_isName wn_X8 qX8_isName rfl rfl ⟨Nat.le_of_ble_eq_true rfl, Nat.le_of_ble_eq_true rfl⟩ rfl rfl rfl rfl (Nat.le_of_ble_eq_true rfl) dX8_told_7 rfl h (fun o1 h => ?_)
  refine g_if_eq 23 13 C dX8_told_10 (by decide) rfl h (fun h => ?_) (fun h => ?_)
  · exact g_sub [] (tX8_told_L23 (σ := o1.2) C K0 h) rfl
  · refine g_iload_n 14 C dX8_told_13 rfl (j := 2) rfl rfl ?_
    refine g_iconst 15 (v := 0) C dX8_told_14 (by decide) rfl ?_
    refine g_ldc 17 (v := 1000000) C dX8_told_15 wk_X8_215 rfl ?_
    refine g_csi 20 C (As := [.int a2, .int 0, .int 1000000]) (fun _ h => mX8_isIn (a1 := a2) (a2 := 0) (a3 := 1000000) (σ := o1.2) h) wl_X8_75 ws_X8_isIn wc_X8_isIn wn_X8 qX8_isIn rfl rfl ⟨Nat.le_of_ble_eq_true rfl, Nat.le_of_ble_eq_true rfl⟩ rfl rfl (Nat.le_of_ble_eq_true rfl) dX8_told_17 rfl h (fun o2 h => ?_)
    refine g_if_ne 25 23 C dX8_told_20 (by decide) rfl h (fun h => ?_) (fun h => ?_)
    · exact g_sub [] (tX8_told_L23 (σ := o2.2) C K0 h) rfl
    · refine g_aload_n 26 C dX8_told_25 rfl (j := 0) rfl rfl ?_
      refine g_cvv 29 C (As := []) (fun _ h => mX8_lays (σ := o2.2) h) wl_X8_190 wi_X8_lays wz_X8_lays wc_X8_lays wn_X8 qX8_lays rfl rfl ⟨Nat.le_of_ble_eq_true rfl, Nat.le_of_ble_eq_true rfl⟩ rfl rfl rfl rfl (Nat.le_of_ble_eq_true rfl) dX8_told_26 rfl h (fun o3 h => ?_)
      refine g_aload_n 30 C dX8_told_29 rfl (j := 0) rfl rfl ?_
      refine g_iload_n 31 C dX8_told_30 rfl (j := 3) rfl rfl ?_
      refine g_iload 33 C dX8_told_31 (j := 4) rfl rfl ?_
      refine g_iload 35 C dX8_told_33 (j := 5) rfl rfl ?_
      refine g_cvv 38 C (As := [.int a3, .int a4, .int a5]) (fun _ h => mX8_gives (a1 := a3) (a2 := a4) (a3 := a5) (σ := o3) h) wl_X8_205 wi_X8_gives wz_X8_gives wc_X8_gives wn_X8 qX8_gives rfl rfl ⟨Nat.le_of_ble_eq_true rfl, Nat.le_of_ble_eq_true rfl⟩ rfl rfl rfl rfl (Nat.le_of_ble_eq_true rfl) dX8_told_35 rfl h (fun o4 h => ?_)
      refine g_aload_n 39 C dX8_told_38 rfl (j := 0) rfl rfl ?_
      refine g_getr 42 (j := 14) C rfl rfl wu_X8 (by decide) wf_X8_39 rfl dX8_told_39 rfl ?_
      refine g_iload_n 43 C dX8_told_42 rfl (j := 1) rfl rfl ?_
      refine g_iald 44 C rfl dX8_told_43 rfl h (fun h => ?_)
      refine g_iconst 45 (v := 3) C dX8_told_44 (by decide) rfl ?_
      refine g_icmp_ne 91 48 C dX8_told_45 (by decide) rfl h (fun h => ?_) (fun h => ?_)
      · refine g_iload_n 49 C dX8_told_48 rfl (j := 1) rfl rfl ?_
        refine g_istore 51 [(6, .int a1), (0, .ref (ad 0)), (1, .int a1), (2, .int a2), (3, .int a3), (4, .int a4), (5, .int a5)] C dX8_told_49 (by decide) rfl rfl ?_
        refine g_iload_n 52 C dX8_told_51 rfl (j := 3) rfl rfl ?_
        refine g_aload_n 53 C dX8_told_52 rfl (j := 1) rfl rfl ?_
        refine g_aload_n 54 C dX8_told_53 rfl (j := 1) rfl rfl ?_
        refine g_iload_n 55 C dX8_told_54 rfl (j := 2) rfl rfl ?_
        refine g_cvi 58 C (As := [.int a1]) (fun _ h => mX8_cycleOf (a1 := a1) (σ := o4) h) wl_X8_115 wi_X8_cycleOf wz_X8_cycleOf wc_X8_cycleOf wn_X8 qX8_cycleOf rfl rfl ⟨Nat.le_of_ble_eq_true rfl, Nat.le_of_ble_eq_true rfl⟩ rfl rfl rfl rfl (Nat.le_of_ble_eq_true rfl) dX8_told_55 rfl h (fun o7 h => ?_)
        refine g_cvi 61 C (As := [.int o7.1]) (fun _ h => mX8_bits (a1 := o7.1) (σ := o7.2) h) wl_X8_193 wi_X8_bits wz_X8_bits wc_X8_bits wn_X8 qX8_bits rfl rfl ⟨Nat.le_of_ble_eq_true rfl, Nat.le_of_ble_eq_true rfl⟩ rfl rfl rfl rfl (Nat.le_of_ble_eq_true rfl) dX8_told_58 rfl h (fun o8 h => ?_)
        obtain ⟨hne, h⟩ := chk_some h
        refine g_irem 62 C dX8_told_61 (by simpa using hne) rfl ?_
        refine g_istore 64 [(7, .int (a2 - a2 / o8.1 * o8.1)), (6, .int a1), (0, .ref (ad 0)), (1, .int a1), (2, .int a2), (3, .int a3), (4, .int a4), (5, .int a5)] C dX8_told_62 (by decide) rfl rfl ?_
        obtain ⟨b9, hb, h⟩ := bind_some h
        refine g_sub [2, 1, 0] (g_loop (a := (a1, a2 - a2 / o8.1 * o8.1, o8.2)) (fun a => G E rmX8_told cI layM ad 8 64 [(0, .ref (ad 0)), (6, .int a.1), (7, .int a.2.1)] [] a.2.2) (fun b => G E rmX8_told cI layM ad 8 84 [(0, .ref (ad 0)), (6, .int b.1)] [] b.2) hb (fun a res h K => tX8_told_B64 (l6 := a.1) (l7 := a.2.1) (σ := a.2.2) (res := res) C K0 h K) ?_) rfl
        show G E rmX8_told cI layM ad 8 84 [(0, .ref (ad 0)), (6, .int b9.1)] [] b9.2
        exact tX8_told_L84 (l6 := b9.1) (σ := b9.2) C K0 h
      · refine g_aload_n 92 C dX8_told_91 rfl (j := 0) rfl rfl ?_
        refine g_iload_n 93 C dX8_told_92 rfl (j := 1) rfl rfl ?_
        refine g_cvi 96 C (As := [.int a1]) (fun _ h => mX8_hasForm (a1 := a1) (σ := o4) h) wl_X8_159 wi_X8_hasForm wz_X8_hasForm wc_X8_hasForm wn_X8 qX8_hasForm rfl rfl ⟨Nat.le_of_ble_eq_true rfl, Nat.le_of_ble_eq_true rfl⟩ rfl rfl rfl rfl (Nat.le_of_ble_eq_true rfl) dX8_told_93 rfl h (fun o5 h => ?_)
        refine g_if_eq 119 99 C dX8_told_96 (by decide) rfl h (fun h => ?_) (fun h => ?_)
        · exact g_sub [] (tX8_told_L119 (σ := o5.2) C K0 h) rfl
        · refine g_iload_n 100 C dX8_told_99 rfl (j := 2) rfl rfl ?_
          refine g_aload_n 101 C dX8_told_100 rfl (j := 0) rfl rfl ?_
          refine g_getr 104 (j := 13) C rfl rfl wu_X8 (by decide) wf_X8_36 rfl dX8_told_101 rfl ?_
          refine g_iload_n 105 C dX8_told_104 rfl (j := 1) rfl rfl ?_
          refine g_iald 106 C rfl dX8_told_105 rfl h (fun h => ?_)
          refine g_icmp_lt 119 109 C dX8_told_106 (by decide) rfl h (fun h => ?_) (fun h => ?_)
          · exact g_sub [] (tX8_told_L119 (σ := o5.2) C K0 h) rfl
          · refine g_aload_n 110 C dX8_told_109 rfl (j := 0) rfl rfl ?_
            refine g_iload_n 111 C dX8_told_110 rfl (j := 1) rfl rfl ?_
            refine g_iload_n 112 C dX8_told_111 rfl (j := 2) rfl rfl ?_
            refine g_i2l 113 C dX8_told_112 rfl ?_
            refine g_cvi 116 C (As := [.int a1, .long a2.toInt64]) (fun _ h => mX8_tells (a1 := a1) (a2 := a2.toInt64) (σ := o5.2) h) wl_X8_219 wi_X8_tells wz_X8_tells wc_X8_tells wn_X8 qX8_tells rfl rfl ⟨Nat.le_of_ble_eq_true rfl, Nat.le_of_ble_eq_true rfl⟩ rfl rfl rfl rfl (Nat.le_of_ble_eq_true rfl) dX8_told_113 rfl h (fun o6 h => ?_)
            refine g_goto 120 C dX8_told_116 (by decide) ?_
            exact g_sub [] (tX8_told_L120 (s0 := o6.1) (σ := o6.2) C K0 h) rfl

/-! LoopReducerModel.reduces()V -/
abbrev rmX8_reduces : Room := { frames := 7, cells := 0, slots := 0, locals := 171 }
theorem qX8_reduces : yX8_reduces.cls ≠ "java/lang/invoke/MethodHandle" ∧ yX8_reduces.cls ≠ "java/lang/invoke/VarHandle" ∧ (parseMethodDescriptor yX8_reduces.desc).map (fun d => d.parameters.length) = some 0 := by decide +kernel
theorem DX8_reduces : ∀ q ∈ ([(0, .aload_n 0, 1), (1, .invokevirtual 190, 3), (4, .aload_n 0, 1), (5, .aload_n 0, 1), (6, .aload_n 0, 1), (7, .invokevirtual 230, 3), (10, .invokevirtual 234, 3), (13, .putfield 237, 3), (16, .aload_n 0, 1), (17, .aload_n 0, 1), (18, .getfield 237, 3), (21, .invokevirtual 240, 3), (24, .return_, 1)] : List (Nat × Instr × Nat)), decode cX8_reduces q.1 = .ok q.2 := by decide +kernel
theorem dX8_reduces_0 : decode cX8_reduces 0 = .ok (.aload_n 0, 1) := DX8_reduces (0, .aload_n 0, 1) (List.mem_of_getElem? (i := 0) rfl)
theorem dX8_reduces_1 : decode cX8_reduces 1 = .ok (.invokevirtual 190, 3) := DX8_reduces (1, .invokevirtual 190, 3) (List.mem_of_getElem? (i := 1) rfl)
theorem dX8_reduces_4 : decode cX8_reduces 4 = .ok (.aload_n 0, 1) := DX8_reduces (4, .aload_n 0, 1) (List.mem_of_getElem? (i := 2) rfl)
theorem dX8_reduces_5 : decode cX8_reduces 5 = .ok (.aload_n 0, 1) := DX8_reduces (5, .aload_n 0, 1) (List.mem_of_getElem? (i := 3) rfl)
theorem dX8_reduces_6 : decode cX8_reduces 6 = .ok (.aload_n 0, 1) := DX8_reduces (6, .aload_n 0, 1) (List.mem_of_getElem? (i := 4) rfl)
theorem dX8_reduces_7 : decode cX8_reduces 7 = .ok (.invokevirtual 230, 3) := DX8_reduces (7, .invokevirtual 230, 3) (List.mem_of_getElem? (i := 5) rfl)
theorem dX8_reduces_10 : decode cX8_reduces 10 = .ok (.invokevirtual 234, 3) := DX8_reduces (10, .invokevirtual 234, 3) (List.mem_of_getElem? (i := 6) rfl)
theorem dX8_reduces_13 : decode cX8_reduces 13 = .ok (.putfield 237, 3) := DX8_reduces (13, .putfield 237, 3) (List.mem_of_getElem? (i := 7) rfl)
theorem dX8_reduces_16 : decode cX8_reduces 16 = .ok (.aload_n 0, 1) := DX8_reduces (16, .aload_n 0, 1) (List.mem_of_getElem? (i := 8) rfl)
theorem dX8_reduces_17 : decode cX8_reduces 17 = .ok (.aload_n 0, 1) := DX8_reduces (17, .aload_n 0, 1) (List.mem_of_getElem? (i := 9) rfl)
theorem dX8_reduces_18 : decode cX8_reduces 18 = .ok (.getfield 237, 3) := DX8_reduces (18, .getfield 237, 3) (List.mem_of_getElem? (i := 10) rfl)
theorem dX8_reduces_21 : decode cX8_reduces 21 = .ok (.invokevirtual 240, 3) := DX8_reduces (21, .invokevirtual 240, 3) (List.mem_of_getElem? (i := 11) rfl)
theorem dX8_reduces_24 : decode cX8_reduces 24 = .ok (.return_, 1) := DX8_reduces (24, .return_, 1) (List.mem_of_getElem? (i := 12) rfl)
noncomputable def fX8_reduces (σ : Mem) : Option (Mem) :=
  (fX8_lays σ).bind fun o1 =>
  (fX8_asked o1).bind fun o2 =>
  (fX8_neededBy o2.1 o2.2).bind fun o3 =>
  (fX8_laysCells ((up2 o3.2 0 20 o3.1) 0 20) (up2 o3.2 0 20 o3.1)).bind fun o4 =>
  some o4
set_option maxHeartbeats 4000000 in
set_option maxRecDepth 100000 in
theorem mX8_reduces {l : Launch} {D : va_G} {cI : ClassId} {ad : Nat → Nat} {σ : Mem} {out : Mem} (h : fX8_reduces σ = some out) : MV l D cI layM ad yX8_reduces cX8_reduces 1 rmX8_reduces [.ref (ad 0)] σ out := by
  refine met_v (by decide) (Nat.le_of_ble_eq_true rfl) (fun E C K0 => ?_)
  show G E rmX8_reduces cI layM ad 1 0 [(0, .ref (ad 0))] [] σ
  unfold fX8_reduces at h
  refine g_aload_n 1 C dX8_reduces_0 rfl (j := 0) rfl rfl ?_
  refine g_cvv 4 C (As := []) (fun _ h => mX8_lays (σ := σ) h) wl_X8_190 wi_X8_lays wz_X8_lays wc_X8_lays wn_X8 qX8_lays rfl rfl ⟨Nat.le_of_ble_eq_true rfl, Nat.le_of_ble_eq_true rfl⟩ rfl rfl rfl rfl (Nat.le_of_ble_eq_true rfl) dX8_reduces_1 rfl h (fun o1 h => ?_)
  refine g_aload_n 5 C dX8_reduces_4 rfl (j := 0) rfl rfl ?_
  refine g_aload_n 6 C dX8_reduces_5 rfl (j := 0) rfl rfl ?_
  refine g_aload_n 7 C dX8_reduces_6 rfl (j := 0) rfl rfl ?_
  refine g_cvi 10 C (As := []) (fun _ h => mX8_asked (σ := o1) h) wl_X8_230 wi_X8_asked wz_X8_asked wc_X8_asked wn_X8 qX8_asked rfl rfl ⟨Nat.le_of_ble_eq_true rfl, Nat.le_of_ble_eq_true rfl⟩ rfl rfl rfl rfl (Nat.le_of_ble_eq_true rfl) dX8_reduces_7 rfl h (fun o2 h => ?_)
  refine g_cvi 13 C (As := [.int o2.1]) (fun _ h => mX8_neededBy (a1 := o2.1) (σ := o2.2) h) wl_X8_234 wi_X8_neededBy wz_X8_neededBy wc_X8_neededBy wn_X8 qX8_neededBy rfl rfl ⟨Nat.le_of_ble_eq_true rfl, Nat.le_of_ble_eq_true rfl⟩ rfl rfl rfl rfl (Nat.le_of_ble_eq_true rfl) dX8_reduces_10 rfl h (fun o3 h => ?_)
  refine g_puti 16 (j := 20) C rfl rfl wu_X8 (by decide) wf_X8_237 tyX8 tyX8_ok nmX8 rfl rfl rfl rfl dX8_reduces_13 rfl ?_
  refine g_aload_n 17 C dX8_reduces_16 rfl (j := 0) rfl rfl ?_
  refine g_aload_n 18 C dX8_reduces_17 rfl (j := 0) rfl rfl ?_
  refine g_geti 21 (j := 20) C rfl rfl wu_X8 (by decide) wf_X8_237 rfl dX8_reduces_18 rfl ?_
  refine g_cvv 24 C (As := [.int ((up2 o3.2 0 20 o3.1) 0 20)]) (fun _ h => mX8_laysCells (a1 := (up2 o3.2 0 20 o3.1) 0 20) (σ := up2 o3.2 0 20 o3.1) h) wl_X8_240 wi_X8_laysCells wz_X8_laysCells wc_X8_laysCells wn_X8 qX8_laysCells rfl rfl ⟨Nat.le_of_ble_eq_true rfl, Nat.le_of_ble_eq_true rfl⟩ rfl rfl rfl rfl (Nat.le_of_ble_eq_true rfl) dX8_reduces_21 rfl h (fun o4 h => ?_)
  cases h
  exact K0 _ _ dX8_reduces_24

/-! LoopReducerModel.reduced(I)I -/
abbrev rmX8_reduced : Room := { frames := 8, cells := 0, slots := 0, locals := 191 }
theorem qX8_reduced : yX8_reduced.cls ≠ "java/lang/invoke/MethodHandle" ∧ yX8_reduced.cls ≠ "java/lang/invoke/VarHandle" ∧ (parseMethodDescriptor yX8_reduced.desc).map (fun d => d.parameters.length) = some 1 := by decide +kernel
theorem DX8_reduced : ∀ q ∈ ([(0, .aload_n 0, 1), (1, .iconst 0, 1), (2, .putfield 69, 3), (5, .aload_n 0, 1), (6, .invokevirtual 243, 3), (9, .iload_n 1, 1), (10, .tableswitch 81 0 5 #[38, 43, 48, 55, 62, 74], 38), (48, .aload_n 0, 1), (49, .getfield 237, 3), (52, .ireturn, 1), (53, .aload_n 0, 1), (54, .getfield 223, 3), (57, .ireturn, 1), (58, .aload_n 0, 1), (59, .iconst 0, 1), (60, .iconst 0, 1), (61, .invokevirtual 246, 3), (64, .ireturn, 1), (65, .aload_n 0, 1), (66, .iconst 1, 1), (67, .iconst 0, 1), (68, .invokevirtual 246, 3), (71, .ireturn, 1), (72, .aload_n 0, 1), (73, .iconst 0, 1), (74, .iconst 1, 1), (75, .invokevirtual 246, 3), (78, .aload_n 0, 1), (79, .getfield 223, 3), (82, .iadd, 1), (83, .ireturn, 1), (84, .aload_n 0, 1), (85, .iconst 1, 1), (86, .iconst 1, 1), (87, .invokevirtual 246, 3), (90, .ireturn, 1), (91, .iconst (-1), 1), (92, .ireturn, 1)] : List (Nat × Instr × Nat)), decode cX8_reduced q.1 = .ok q.2 := by decide +kernel
theorem dX8_reduced_0 : decode cX8_reduced 0 = .ok (.aload_n 0, 1) := DX8_reduced (0, .aload_n 0, 1) (List.mem_of_getElem? (i := 0) rfl)
theorem dX8_reduced_1 : decode cX8_reduced 1 = .ok (.iconst 0, 1) := DX8_reduced (1, .iconst 0, 1) (List.mem_of_getElem? (i := 1) rfl)
theorem dX8_reduced_2 : decode cX8_reduced 2 = .ok (.putfield 69, 3) := DX8_reduced (2, .putfield 69, 3) (List.mem_of_getElem? (i := 2) rfl)
theorem dX8_reduced_5 : decode cX8_reduced 5 = .ok (.aload_n 0, 1) := DX8_reduced (5, .aload_n 0, 1) (List.mem_of_getElem? (i := 3) rfl)
theorem dX8_reduced_6 : decode cX8_reduced 6 = .ok (.invokevirtual 243, 3) := DX8_reduced (6, .invokevirtual 243, 3) (List.mem_of_getElem? (i := 4) rfl)
theorem dX8_reduced_9 : decode cX8_reduced 9 = .ok (.iload_n 1, 1) := DX8_reduced (9, .iload_n 1, 1) (List.mem_of_getElem? (i := 5) rfl)
theorem dX8_reduced_10 : decode cX8_reduced 10 = .ok (.tableswitch 81 0 5 #[38, 43, 48, 55, 62, 74], 38) := DX8_reduced (10, .tableswitch 81 0 5 #[38, 43, 48, 55, 62, 74], 38) (List.mem_of_getElem? (i := 6) rfl)
theorem dX8_reduced_48 : decode cX8_reduced 48 = .ok (.aload_n 0, 1) := DX8_reduced (48, .aload_n 0, 1) (List.mem_of_getElem? (i := 7) rfl)
theorem dX8_reduced_49 : decode cX8_reduced 49 = .ok (.getfield 237, 3) := DX8_reduced (49, .getfield 237, 3) (List.mem_of_getElem? (i := 8) rfl)
theorem dX8_reduced_52 : decode cX8_reduced 52 = .ok (.ireturn, 1) := DX8_reduced (52, .ireturn, 1) (List.mem_of_getElem? (i := 9) rfl)
theorem dX8_reduced_53 : decode cX8_reduced 53 = .ok (.aload_n 0, 1) := DX8_reduced (53, .aload_n 0, 1) (List.mem_of_getElem? (i := 10) rfl)
theorem dX8_reduced_54 : decode cX8_reduced 54 = .ok (.getfield 223, 3) := DX8_reduced (54, .getfield 223, 3) (List.mem_of_getElem? (i := 11) rfl)
theorem dX8_reduced_57 : decode cX8_reduced 57 = .ok (.ireturn, 1) := DX8_reduced (57, .ireturn, 1) (List.mem_of_getElem? (i := 12) rfl)
theorem dX8_reduced_58 : decode cX8_reduced 58 = .ok (.aload_n 0, 1) := DX8_reduced (58, .aload_n 0, 1) (List.mem_of_getElem? (i := 13) rfl)
theorem dX8_reduced_59 : decode cX8_reduced 59 = .ok (.iconst 0, 1) := DX8_reduced (59, .iconst 0, 1) (List.mem_of_getElem? (i := 14) rfl)
theorem dX8_reduced_60 : decode cX8_reduced 60 = .ok (.iconst 0, 1) := DX8_reduced (60, .iconst 0, 1) (List.mem_of_getElem? (i := 15) rfl)
theorem dX8_reduced_61 : decode cX8_reduced 61 = .ok (.invokevirtual 246, 3) := DX8_reduced (61, .invokevirtual 246, 3) (List.mem_of_getElem? (i := 16) rfl)
theorem dX8_reduced_64 : decode cX8_reduced 64 = .ok (.ireturn, 1) := DX8_reduced (64, .ireturn, 1) (List.mem_of_getElem? (i := 17) rfl)
theorem dX8_reduced_65 : decode cX8_reduced 65 = .ok (.aload_n 0, 1) := DX8_reduced (65, .aload_n 0, 1) (List.mem_of_getElem? (i := 18) rfl)
theorem dX8_reduced_66 : decode cX8_reduced 66 = .ok (.iconst 1, 1) := DX8_reduced (66, .iconst 1, 1) (List.mem_of_getElem? (i := 19) rfl)
theorem dX8_reduced_67 : decode cX8_reduced 67 = .ok (.iconst 0, 1) := DX8_reduced (67, .iconst 0, 1) (List.mem_of_getElem? (i := 20) rfl)
theorem dX8_reduced_68 : decode cX8_reduced 68 = .ok (.invokevirtual 246, 3) := DX8_reduced (68, .invokevirtual 246, 3) (List.mem_of_getElem? (i := 21) rfl)
theorem dX8_reduced_71 : decode cX8_reduced 71 = .ok (.ireturn, 1) := DX8_reduced (71, .ireturn, 1) (List.mem_of_getElem? (i := 22) rfl)
theorem dX8_reduced_72 : decode cX8_reduced 72 = .ok (.aload_n 0, 1) := DX8_reduced (72, .aload_n 0, 1) (List.mem_of_getElem? (i := 23) rfl)
theorem dX8_reduced_73 : decode cX8_reduced 73 = .ok (.iconst 0, 1) := DX8_reduced (73, .iconst 0, 1) (List.mem_of_getElem? (i := 24) rfl)
theorem dX8_reduced_74 : decode cX8_reduced 74 = .ok (.iconst 1, 1) := DX8_reduced (74, .iconst 1, 1) (List.mem_of_getElem? (i := 25) rfl)
theorem dX8_reduced_75 : decode cX8_reduced 75 = .ok (.invokevirtual 246, 3) := DX8_reduced (75, .invokevirtual 246, 3) (List.mem_of_getElem? (i := 26) rfl)
theorem dX8_reduced_78 : decode cX8_reduced 78 = .ok (.aload_n 0, 1) := DX8_reduced (78, .aload_n 0, 1) (List.mem_of_getElem? (i := 27) rfl)
theorem dX8_reduced_79 : decode cX8_reduced 79 = .ok (.getfield 223, 3) := DX8_reduced (79, .getfield 223, 3) (List.mem_of_getElem? (i := 28) rfl)
theorem dX8_reduced_82 : decode cX8_reduced 82 = .ok (.iadd, 1) := DX8_reduced (82, .iadd, 1) (List.mem_of_getElem? (i := 29) rfl)
theorem dX8_reduced_83 : decode cX8_reduced 83 = .ok (.ireturn, 1) := DX8_reduced (83, .ireturn, 1) (List.mem_of_getElem? (i := 30) rfl)
theorem dX8_reduced_84 : decode cX8_reduced 84 = .ok (.aload_n 0, 1) := DX8_reduced (84, .aload_n 0, 1) (List.mem_of_getElem? (i := 31) rfl)
theorem dX8_reduced_85 : decode cX8_reduced 85 = .ok (.iconst 1, 1) := DX8_reduced (85, .iconst 1, 1) (List.mem_of_getElem? (i := 32) rfl)
theorem dX8_reduced_86 : decode cX8_reduced 86 = .ok (.iconst 1, 1) := DX8_reduced (86, .iconst 1, 1) (List.mem_of_getElem? (i := 33) rfl)
theorem dX8_reduced_87 : decode cX8_reduced 87 = .ok (.invokevirtual 246, 3) := DX8_reduced (87, .invokevirtual 246, 3) (List.mem_of_getElem? (i := 34) rfl)
theorem dX8_reduced_90 : decode cX8_reduced 90 = .ok (.ireturn, 1) := DX8_reduced (90, .ireturn, 1) (List.mem_of_getElem? (i := 35) rfl)
theorem dX8_reduced_91 : decode cX8_reduced 91 = .ok (.iconst (-1), 1) := DX8_reduced (91, .iconst (-1), 1) (List.mem_of_getElem? (i := 36) rfl)
theorem dX8_reduced_92 : decode cX8_reduced 92 = .ok (.ireturn, 1) := DX8_reduced (92, .ireturn, 1) (List.mem_of_getElem? (i := 37) rfl)
noncomputable def fX8_reduced (a1 : Int32) (σ : Mem) : Option (Int32 × Mem) :=
  (fX8_reduces (up2 σ 0 2 0)).bind fun o1 =>
  if a1 = 0 then
    some (o1 0 20, o1)
  else if a1 = 1 then
    some (o1 0 17, o1)
  else if a1 = 2 then
    (fX8_manyOf 0 0 o1).bind fun o2 =>
    some (o2.1, o2.2)
  else if a1 = 3 then
    (fX8_manyOf 1 0 o1).bind fun o3 =>
    some (o3.1, o3.2)
  else if a1 = 4 then
    (fX8_manyOf 0 1 o1).bind fun o4 =>
    some (o4.1 + (o4.2 0 17), o4.2)
  else if a1 = 5 then
    (fX8_manyOf 1 1 o1).bind fun o5 =>
    some (o5.1, o5.2)
  else some ((-1), o1)
set_option maxHeartbeats 4000000 in
set_option maxRecDepth 100000 in
theorem mX8_reduced {l : Launch} {D : va_G} {cI : ClassId} {ad : Nat → Nat} {a1 : Int32} {σ : Mem} {out : Int32 × Mem} (h : fX8_reduced a1 σ = some out) : MI l D cI layM ad yX8_reduced cX8_reduced 2 .int rmX8_reduced [.ref (ad 0), .int a1] σ out := by
  refine met_i (by decide) (Nat.le_of_ble_eq_true rfl) (fun E C K0 => ?_)
  show G E rmX8_reduced cI layM ad 2 0 [(0, .ref (ad 0)), (1, .int a1)] [] σ
  unfold fX8_reduced at h
  refine g_aload_n 1 C dX8_reduced_0 rfl (j := 0) rfl rfl ?_
  refine g_iconst 2 (v := 0) C dX8_reduced_1 (by decide) rfl ?_
  refine g_puti 5 (j := 2) C rfl rfl wu_X8 (by decide) wf_X8_69 tyX8 tyX8_ok nmX8 rfl rfl rfl rfl dX8_reduced_2 rfl ?_
  refine g_aload_n 6 C dX8_reduced_5 rfl (j := 0) rfl rfl ?_
  refine g_cvv 9 C (As := []) (fun _ h => mX8_reduces (σ := up2 σ 0 2 0) h) wl_X8_243 wi_X8_reduces wz_X8_reduces wc_X8_reduces wn_X8 qX8_reduces rfl rfl ⟨Nat.le_of_ble_eq_true rfl, Nat.le_of_ble_eq_true rfl⟩ rfl rfl rfl rfl (Nat.le_of_ble_eq_true rfl) dX8_reduced_6 rfl h (fun o1 h => ?_)
  refine g_iload_n 10 C dX8_reduced_9 rfl (j := 1) rfl rfl ?_
  by_cases c0 : a1 = 0
  · rw [if_pos c0] at h
    refine g_tswC 48 (off := 38) C dX8_reduced_10 c0 (by decide) (by decide) (by decide) (by decide) ?_
    refine g_aload_n 49 C dX8_reduced_48 rfl (j := 0) rfl rfl ?_
    refine g_geti 52 (j := 20) C rfl rfl wu_X8 (by decide) wf_X8_237 rfl dX8_reduced_49 rfl ?_
    cases h
    exact K0 _ _ dX8_reduced_52 rfl
  rw [if_neg c0] at h
  by_cases c1 : a1 = 1
  · rw [if_pos c1] at h
    refine g_tswC 53 (off := 43) C dX8_reduced_10 c1 (by decide) (by decide) (by decide) (by decide) ?_
    refine g_aload_n 54 C dX8_reduced_53 rfl (j := 0) rfl rfl ?_
    refine g_geti 57 (j := 17) C rfl rfl wu_X8 (by decide) wf_X8_223 rfl dX8_reduced_54 rfl ?_
    cases h
    exact K0 _ _ dX8_reduced_57 rfl
  rw [if_neg c1] at h
  by_cases c2 : a1 = 2
  · rw [if_pos c2] at h
    refine g_tswC 58 (off := 48) C dX8_reduced_10 c2 (by decide) (by decide) (by decide) (by decide) ?_
    refine g_aload_n 59 C dX8_reduced_58 rfl (j := 0) rfl rfl ?_
    refine g_iconst 60 (v := 0) C dX8_reduced_59 (by decide) rfl ?_
    refine g_iconst 61 (v := 0) C dX8_reduced_60 (by decide) rfl ?_
    refine g_cvi 64 C (As := [.int 0, .int 0]) (fun _ h => mX8_manyOf (a1 := 0) (a2 := 0) (σ := o1) h) wl_X8_246 wi_X8_manyOf wz_X8_manyOf wc_X8_manyOf wn_X8 qX8_manyOf rfl rfl ⟨Nat.le_of_ble_eq_true rfl, Nat.le_of_ble_eq_true rfl⟩ rfl rfl rfl rfl (Nat.le_of_ble_eq_true rfl) dX8_reduced_61 rfl h (fun o2 h => ?_)
    cases h
    exact K0 _ _ dX8_reduced_64 rfl
  rw [if_neg c2] at h
  by_cases c3 : a1 = 3
  · rw [if_pos c3] at h
    refine g_tswC 65 (off := 55) C dX8_reduced_10 c3 (by decide) (by decide) (by decide) (by decide) ?_
    refine g_aload_n 66 C dX8_reduced_65 rfl (j := 0) rfl rfl ?_
    refine g_iconst 67 (v := 1) C dX8_reduced_66 (by decide) rfl ?_
    refine g_iconst 68 (v := 0) C dX8_reduced_67 (by decide) rfl ?_
    refine g_cvi 71 C (As := [.int 1, .int 0]) (fun _ h => mX8_manyOf (a1 := 1) (a2 := 0) (σ := o1) h) wl_X8_246 wi_X8_manyOf wz_X8_manyOf wc_X8_manyOf wn_X8 qX8_manyOf rfl rfl ⟨Nat.le_of_ble_eq_true rfl, Nat.le_of_ble_eq_true rfl⟩ rfl rfl rfl rfl (Nat.le_of_ble_eq_true rfl) dX8_reduced_68 rfl h (fun o3 h => ?_)
    cases h
    exact K0 _ _ dX8_reduced_71 rfl
  rw [if_neg c3] at h
  by_cases c4 : a1 = 4
  · rw [if_pos c4] at h
    refine g_tswC 72 (off := 62) C dX8_reduced_10 c4 (by decide) (by decide) (by decide) (by decide) ?_
    refine g_aload_n 73 C dX8_reduced_72 rfl (j := 0) rfl rfl ?_
    refine g_iconst 74 (v := 0) C dX8_reduced_73 (by decide) rfl ?_
    refine g_iconst 75 (v := 1) C dX8_reduced_74 (by decide) rfl ?_
    refine g_cvi 78 C (As := [.int 0, .int 1]) (fun _ h => mX8_manyOf (a1 := 0) (a2 := 1) (σ := o1) h) wl_X8_246 wi_X8_manyOf wz_X8_manyOf wc_X8_manyOf wn_X8 qX8_manyOf rfl rfl ⟨Nat.le_of_ble_eq_true rfl, Nat.le_of_ble_eq_true rfl⟩ rfl rfl rfl rfl (Nat.le_of_ble_eq_true rfl) dX8_reduced_75 rfl h (fun o4 h => ?_)
    refine g_aload_n 79 C dX8_reduced_78 rfl (j := 0) rfl rfl ?_
    refine g_geti 82 (j := 17) C rfl rfl wu_X8 (by decide) wf_X8_223 rfl dX8_reduced_79 rfl ?_
    refine g_iadd 83 C dX8_reduced_82 rfl ?_
    cases h
    exact K0 _ _ dX8_reduced_83 rfl
  rw [if_neg c4] at h
  by_cases c5 : a1 = 5
  · rw [if_pos c5] at h
    refine g_tswC 84 (off := 74) C dX8_reduced_10 c5 (by decide) (by decide) (by decide) (by decide) ?_
    refine g_aload_n 85 C dX8_reduced_84 rfl (j := 0) rfl rfl ?_
    refine g_iconst 86 (v := 1) C dX8_reduced_85 (by decide) rfl ?_
    refine g_iconst 87 (v := 1) C dX8_reduced_86 (by decide) rfl ?_
    refine g_cvi 90 C (As := [.int 1, .int 1]) (fun _ h => mX8_manyOf (a1 := 1) (a2 := 1) (σ := o1) h) wl_X8_246 wi_X8_manyOf wz_X8_manyOf wc_X8_manyOf wn_X8 qX8_manyOf rfl rfl ⟨Nat.le_of_ble_eq_true rfl, Nat.le_of_ble_eq_true rfl⟩ rfl rfl rfl rfl (Nat.le_of_ble_eq_true rfl) dX8_reduced_87 rfl h (fun o5 h => ?_)
    cases h
    exact K0 _ _ dX8_reduced_90 rfl
  rw [if_neg c5] at h
  have hout : a1.toInt < 0 ∨ 5 < a1.toInt := by
    have n0 : ¬ a1.toInt = 0 := ne_toInt c0
    have n1 : ¬ a1.toInt = 1 := ne_toInt c1
    have n2 : ¬ a1.toInt = 2 := ne_toInt c2
    have n3 : ¬ a1.toInt = 3 := ne_toInt c3
    have n4 : ¬ a1.toInt = 4 := ne_toInt c4
    have n5 : ¬ a1.toInt = 5 := ne_toInt c5
    omega
  refine g_tswD 91 C dX8_reduced_10 hout (by decide) ?_
  refine g_iconst 92 (v := (-1)) C dX8_reduced_91 (by decide) rfl ?_
  cases h
  exact K0 _ _ dX8_reduced_92 rfl

/-! LoopReducerModel.cell(II)I -/
abbrev rmX8_cell : Room := { frames := 8, cells := 0, slots := 0, locals := 191 }
theorem qX8_cell : yX8_cell.cls ≠ "java/lang/invoke/MethodHandle" ∧ yX8_cell.cls ≠ "java/lang/invoke/VarHandle" ∧ (parseMethodDescriptor yX8_cell.desc).map (fun d => d.parameters.length) = some 2 := by decide +kernel
theorem DX8_cell : ∀ q ∈ ([(0, .aload_n 0, 1), (1, .iconst 0, 1), (2, .putfield 69, 3), (5, .aload_n 0, 1), (6, .invokevirtual 243, 3), (9, .iload_n 1, 1), (10, .iconst 0, 1), (11, .aload_n 0, 1), (12, .getfield 223, 3), (15, .iconst 1, 1), (16, .isub, 1), (17, .invokestatic 75, 3), (20, .ifCond .ne 5, 3), (23, .iconst (-1), 1), (24, .ireturn, 1), (25, .iload_n 2, 1), (26, .ifCond .ne 14, 3), (29, .aload_n 0, 1), (30, .bipush 34, 2), (32, .iload_n 1, 1), (33, .iadd, 1), (34, .invokevirtual 124, 3), (37, .goto 32, 3), (40, .iload_n 2, 1), (41, .iconst 1, 1), (42, .if_icmp .ne 12, 3), (45, .aload_n 0, 1), (46, .getfield 51, 3), (49, .iload_n 1, 1), (50, .iaload, 1), (51, .goto 18, 3), (54, .iload_n 2, 1), (55, .iconst 2, 1), (56, .if_icmp .ne 12, 3), (59, .aload_n 0, 1), (60, .getfield 48, 3), (63, .iload_n 1, 1), (64, .iaload, 1), (65, .goto 4, 3), (68, .iconst (-1), 1), (69, .ireturn, 1)] : List (Nat × Instr × Nat)), decode cX8_cell q.1 = .ok q.2 := by decide +kernel
theorem dX8_cell_0 : decode cX8_cell 0 = .ok (.aload_n 0, 1) := DX8_cell (0, .aload_n 0, 1) (List.mem_of_getElem? (i := 0) rfl)
theorem dX8_cell_1 : decode cX8_cell 1 = .ok (.iconst 0, 1) := DX8_cell (1, .iconst 0, 1) (List.mem_of_getElem? (i := 1) rfl)
theorem dX8_cell_2 : decode cX8_cell 2 = .ok (.putfield 69, 3) := DX8_cell (2, .putfield 69, 3) (List.mem_of_getElem? (i := 2) rfl)
theorem dX8_cell_5 : decode cX8_cell 5 = .ok (.aload_n 0, 1) := DX8_cell (5, .aload_n 0, 1) (List.mem_of_getElem? (i := 3) rfl)
theorem dX8_cell_6 : decode cX8_cell 6 = .ok (.invokevirtual 243, 3) := DX8_cell (6, .invokevirtual 243, 3) (List.mem_of_getElem? (i := 4) rfl)
theorem dX8_cell_9 : decode cX8_cell 9 = .ok (.iload_n 1, 1) := DX8_cell (9, .iload_n 1, 1) (List.mem_of_getElem? (i := 5) rfl)
theorem dX8_cell_10 : decode cX8_cell 10 = .ok (.iconst 0, 1) := DX8_cell (10, .iconst 0, 1) (List.mem_of_getElem? (i := 6) rfl)
theorem dX8_cell_11 : decode cX8_cell 11 = .ok (.aload_n 0, 1) := DX8_cell (11, .aload_n 0, 1) (List.mem_of_getElem? (i := 7) rfl)
theorem dX8_cell_12 : decode cX8_cell 12 = .ok (.getfield 223, 3) := DX8_cell (12, .getfield 223, 3) (List.mem_of_getElem? (i := 8) rfl)
theorem dX8_cell_15 : decode cX8_cell 15 = .ok (.iconst 1, 1) := DX8_cell (15, .iconst 1, 1) (List.mem_of_getElem? (i := 9) rfl)
theorem dX8_cell_16 : decode cX8_cell 16 = .ok (.isub, 1) := DX8_cell (16, .isub, 1) (List.mem_of_getElem? (i := 10) rfl)
theorem dX8_cell_17 : decode cX8_cell 17 = .ok (.invokestatic 75, 3) := DX8_cell (17, .invokestatic 75, 3) (List.mem_of_getElem? (i := 11) rfl)
theorem dX8_cell_20 : decode cX8_cell 20 = .ok (.ifCond .ne 5, 3) := DX8_cell (20, .ifCond .ne 5, 3) (List.mem_of_getElem? (i := 12) rfl)
theorem dX8_cell_23 : decode cX8_cell 23 = .ok (.iconst (-1), 1) := DX8_cell (23, .iconst (-1), 1) (List.mem_of_getElem? (i := 13) rfl)
theorem dX8_cell_24 : decode cX8_cell 24 = .ok (.ireturn, 1) := DX8_cell (24, .ireturn, 1) (List.mem_of_getElem? (i := 14) rfl)
theorem dX8_cell_25 : decode cX8_cell 25 = .ok (.iload_n 2, 1) := DX8_cell (25, .iload_n 2, 1) (List.mem_of_getElem? (i := 15) rfl)
theorem dX8_cell_26 : decode cX8_cell 26 = .ok (.ifCond .ne 14, 3) := DX8_cell (26, .ifCond .ne 14, 3) (List.mem_of_getElem? (i := 16) rfl)
theorem dX8_cell_29 : decode cX8_cell 29 = .ok (.aload_n 0, 1) := DX8_cell (29, .aload_n 0, 1) (List.mem_of_getElem? (i := 17) rfl)
theorem dX8_cell_30 : decode cX8_cell 30 = .ok (.bipush 34, 2) := DX8_cell (30, .bipush 34, 2) (List.mem_of_getElem? (i := 18) rfl)
theorem dX8_cell_32 : decode cX8_cell 32 = .ok (.iload_n 1, 1) := DX8_cell (32, .iload_n 1, 1) (List.mem_of_getElem? (i := 19) rfl)
theorem dX8_cell_33 : decode cX8_cell 33 = .ok (.iadd, 1) := DX8_cell (33, .iadd, 1) (List.mem_of_getElem? (i := 20) rfl)
theorem dX8_cell_34 : decode cX8_cell 34 = .ok (.invokevirtual 124, 3) := DX8_cell (34, .invokevirtual 124, 3) (List.mem_of_getElem? (i := 21) rfl)
theorem dX8_cell_37 : decode cX8_cell 37 = .ok (.goto 32, 3) := DX8_cell (37, .goto 32, 3) (List.mem_of_getElem? (i := 22) rfl)
theorem dX8_cell_40 : decode cX8_cell 40 = .ok (.iload_n 2, 1) := DX8_cell (40, .iload_n 2, 1) (List.mem_of_getElem? (i := 23) rfl)
theorem dX8_cell_41 : decode cX8_cell 41 = .ok (.iconst 1, 1) := DX8_cell (41, .iconst 1, 1) (List.mem_of_getElem? (i := 24) rfl)
theorem dX8_cell_42 : decode cX8_cell 42 = .ok (.if_icmp .ne 12, 3) := DX8_cell (42, .if_icmp .ne 12, 3) (List.mem_of_getElem? (i := 25) rfl)
theorem dX8_cell_45 : decode cX8_cell 45 = .ok (.aload_n 0, 1) := DX8_cell (45, .aload_n 0, 1) (List.mem_of_getElem? (i := 26) rfl)
theorem dX8_cell_46 : decode cX8_cell 46 = .ok (.getfield 51, 3) := DX8_cell (46, .getfield 51, 3) (List.mem_of_getElem? (i := 27) rfl)
theorem dX8_cell_49 : decode cX8_cell 49 = .ok (.iload_n 1, 1) := DX8_cell (49, .iload_n 1, 1) (List.mem_of_getElem? (i := 28) rfl)
theorem dX8_cell_50 : decode cX8_cell 50 = .ok (.iaload, 1) := DX8_cell (50, .iaload, 1) (List.mem_of_getElem? (i := 29) rfl)
theorem dX8_cell_51 : decode cX8_cell 51 = .ok (.goto 18, 3) := DX8_cell (51, .goto 18, 3) (List.mem_of_getElem? (i := 30) rfl)
theorem dX8_cell_54 : decode cX8_cell 54 = .ok (.iload_n 2, 1) := DX8_cell (54, .iload_n 2, 1) (List.mem_of_getElem? (i := 31) rfl)
theorem dX8_cell_55 : decode cX8_cell 55 = .ok (.iconst 2, 1) := DX8_cell (55, .iconst 2, 1) (List.mem_of_getElem? (i := 32) rfl)
theorem dX8_cell_56 : decode cX8_cell 56 = .ok (.if_icmp .ne 12, 3) := DX8_cell (56, .if_icmp .ne 12, 3) (List.mem_of_getElem? (i := 33) rfl)
theorem dX8_cell_59 : decode cX8_cell 59 = .ok (.aload_n 0, 1) := DX8_cell (59, .aload_n 0, 1) (List.mem_of_getElem? (i := 34) rfl)
theorem dX8_cell_60 : decode cX8_cell 60 = .ok (.getfield 48, 3) := DX8_cell (60, .getfield 48, 3) (List.mem_of_getElem? (i := 35) rfl)
theorem dX8_cell_63 : decode cX8_cell 63 = .ok (.iload_n 1, 1) := DX8_cell (63, .iload_n 1, 1) (List.mem_of_getElem? (i := 36) rfl)
theorem dX8_cell_64 : decode cX8_cell 64 = .ok (.iaload, 1) := DX8_cell (64, .iaload, 1) (List.mem_of_getElem? (i := 37) rfl)
theorem dX8_cell_65 : decode cX8_cell 65 = .ok (.goto 4, 3) := DX8_cell (65, .goto 4, 3) (List.mem_of_getElem? (i := 38) rfl)
theorem dX8_cell_68 : decode cX8_cell 68 = .ok (.iconst (-1), 1) := DX8_cell (68, .iconst (-1), 1) (List.mem_of_getElem? (i := 39) rfl)
theorem dX8_cell_69 : decode cX8_cell 69 = .ok (.ireturn, 1) := DX8_cell (69, .ireturn, 1) (List.mem_of_getElem? (i := 40) rfl)
noncomputable def fX8_cell_L69 (s0 : Int32) (σ : Mem) : Option (Int32 × Mem) :=
  some (s0, σ)
set_option maxHeartbeats 4000000 in
set_option maxRecDepth 100000 in
theorem tX8_cell_L69 {E : Gx} {cI : ClassId} {ad : Nat → Nat} (C : Cx E rmX8_cell cI layM ad 3 RX8 cX8_cell) {out : Int32 × Mem} (K0 : KI E rmX8_cell cI layM ad 3 cX8_cell .int out) {s0 : Int32} {σ : Mem} (h : fX8_cell_L69 s0 σ = some out) : G E rmX8_cell cI layM ad 3 69 [] [.int s0] σ := by
  unfold fX8_cell_L69 at h
  cases h
  exact K0 _ _ dX8_cell_69 rfl
noncomputable def fX8_cell (a1 : Int32) (a2 : Int32) (σ : Mem) : Option (Int32 × Mem) :=
  (fX8_reduces (up2 σ 0 2 0)).bind fun o1 =>
  (fX8_isIn a1 0 ((o1 0 17) - 1) o1).bind fun o2 =>
  if o2.1 = 0 then
    some ((-1), o2.2)
  else
    if a2 = 0 then
      (fX8_degreeOf (34 + a1) o2.2).bind fun o3 =>
      fX8_cell_L69 o3.1 o3.2
    else
      if a2 = 1 then
        chk (inb a1 90) <|
        fX8_cell_L69 (o2.2 11 a1.toNatClampNeg) o2.2
      else
        if a2 = 2 then
          chk (inb a1 90) <|
          fX8_cell_L69 (o2.2 10 a1.toNatClampNeg) o2.2
        else
          fX8_cell_L69 (-1) o2.2
set_option maxHeartbeats 4000000 in
set_option maxRecDepth 100000 in
theorem mX8_cell {l : Launch} {D : va_G} {cI : ClassId} {ad : Nat → Nat} {a1 : Int32} {a2 : Int32} {σ : Mem} {out : Int32 × Mem} (h : fX8_cell a1 a2 σ = some out) : MI l D cI layM ad yX8_cell cX8_cell 3 .int rmX8_cell [.ref (ad 0), .int a1, .int a2] σ out := by
  refine met_i (by decide) (Nat.le_of_ble_eq_true rfl) (fun E C K0 => ?_)
  show G E rmX8_cell cI layM ad 3 0 [(0, .ref (ad 0)), (1, .int a1), (2, .int a2)] [] σ
  unfold fX8_cell at h
  refine g_aload_n 1 C dX8_cell_0 rfl (j := 0) rfl rfl ?_
  refine g_iconst 2 (v := 0) C dX8_cell_1 (by decide) rfl ?_
  refine g_puti 5 (j := 2) C rfl rfl wu_X8 (by decide) wf_X8_69 tyX8 tyX8_ok nmX8 rfl rfl rfl rfl dX8_cell_2 rfl ?_
  refine g_aload_n 6 C dX8_cell_5 rfl (j := 0) rfl rfl ?_
  refine g_cvv 9 C (As := []) (fun _ h => mX8_reduces (σ := up2 σ 0 2 0) h) wl_X8_243 wi_X8_reduces wz_X8_reduces wc_X8_reduces wn_X8 qX8_reduces rfl rfl ⟨Nat.le_of_ble_eq_true rfl, Nat.le_of_ble_eq_true rfl⟩ rfl rfl rfl rfl (Nat.le_of_ble_eq_true rfl) dX8_cell_6 rfl h (fun o1 h => ?_)
  refine g_iload_n 10 C dX8_cell_9 rfl (j := 1) rfl rfl ?_
  refine g_iconst 11 (v := 0) C dX8_cell_10 (by decide) rfl ?_
  refine g_aload_n 12 C dX8_cell_11 rfl (j := 0) rfl rfl ?_
  refine g_geti 15 (j := 17) C rfl rfl wu_X8 (by decide) wf_X8_223 rfl dX8_cell_12 rfl ?_
  refine g_iconst 16 (v := 1) C dX8_cell_15 (by decide) rfl ?_
  refine g_isub 17 C dX8_cell_16 rfl ?_
  refine g_csi 20 C (As := [.int a1, .int 0, .int ((o1 0 17) - 1)]) (fun _ h => mX8_isIn (a1 := a1) (a2 := 0) (a3 := (o1 0 17) - 1) (σ := o1) h) wl_X8_75 ws_X8_isIn wc_X8_isIn wn_X8 qX8_isIn rfl rfl ⟨Nat.le_of_ble_eq_true rfl, Nat.le_of_ble_eq_true rfl⟩ rfl rfl (Nat.le_of_ble_eq_true rfl) dX8_cell_17 rfl h (fun o2 h => ?_)
  refine g_if_ne 25 23 C dX8_cell_20 (by decide) rfl h (fun h => ?_) (fun h => ?_)
  · refine g_iconst 24 (v := (-1)) C dX8_cell_23 (by decide) rfl ?_
    cases h
    exact K0 _ _ dX8_cell_24 rfl
  · refine g_iload_n 26 C dX8_cell_25 rfl (j := 2) rfl rfl ?_
    refine g_if_ne 40 29 C dX8_cell_26 (by decide) rfl h (fun h => ?_) (fun h => ?_)
    · refine g_aload_n 30 C dX8_cell_29 rfl (j := 0) rfl rfl ?_
      refine g_bipush 32 (v := 34) C dX8_cell_30 (by decide) rfl ?_
      refine g_iload_n 33 C dX8_cell_32 rfl (j := 1) rfl rfl ?_
      refine g_iadd 34 C dX8_cell_33 rfl ?_
      refine g_cvi 37 C (As := [.int (34 + a1)]) (fun _ h => mX8_degreeOf (a1 := 34 + a1) (σ := o2.2) h) wl_X8_124 wi_X8_degreeOf wz_X8_degreeOf wc_X8_degreeOf wn_X8 qX8_degreeOf rfl rfl ⟨Nat.le_of_ble_eq_true rfl, Nat.le_of_ble_eq_true rfl⟩ rfl rfl rfl rfl (Nat.le_of_ble_eq_true rfl) dX8_cell_34 rfl h (fun o3 h => ?_)
      refine g_goto 69 C dX8_cell_37 (by decide) ?_
      exact g_sub [] (tX8_cell_L69 (s0 := o3.1) (σ := o3.2) C K0 h) rfl
    · refine g_iload_n 41 C dX8_cell_40 rfl (j := 2) rfl rfl ?_
      refine g_iconst 42 (v := 1) C dX8_cell_41 (by decide) rfl ?_
      refine g_icmp_ne 54 45 C dX8_cell_42 (by decide) rfl h (fun h => ?_) (fun h => ?_)
      · refine g_aload_n 46 C dX8_cell_45 rfl (j := 0) rfl rfl ?_
        refine g_getr 49 (j := 19) C rfl rfl wu_X8 (by decide) wf_X8_51 rfl dX8_cell_46 rfl ?_
        refine g_iload_n 50 C dX8_cell_49 rfl (j := 1) rfl rfl ?_
        refine g_iald 51 C rfl dX8_cell_50 rfl h (fun h => ?_)
        refine g_goto 69 C dX8_cell_51 (by decide) ?_
        exact g_sub [] (tX8_cell_L69 (s0 := (o2.2 11 a1.toNatClampNeg)) (σ := o2.2) C K0 h) rfl
      · refine g_iload_n 55 C dX8_cell_54 rfl (j := 2) rfl rfl ?_
        refine g_iconst 56 (v := 2) C dX8_cell_55 (by decide) rfl ?_
        refine g_icmp_ne 68 59 C dX8_cell_56 (by decide) rfl h (fun h => ?_) (fun h => ?_)
        · refine g_aload_n 60 C dX8_cell_59 rfl (j := 0) rfl rfl ?_
          refine g_getr 63 (j := 18) C rfl rfl wu_X8 (by decide) wf_X8_48 rfl dX8_cell_60 rfl ?_
          refine g_iload_n 64 C dX8_cell_63 rfl (j := 1) rfl rfl ?_
          refine g_iald 65 C rfl dX8_cell_64 rfl h (fun h => ?_)
          refine g_goto 69 C dX8_cell_65 (by decide) ?_
          exact g_sub [] (tX8_cell_L69 (s0 := (o2.2 10 a1.toNatClampNeg)) (σ := o2.2) C K0 h) rfl
        · refine g_iconst 69 (v := (-1)) C dX8_cell_68 (by decide) rfl ?_
          exact g_sub [] (tX8_cell_L69 (s0 := (-1)) (σ := o2.2) C K0 h) rfl

/-! LoopReducerModel.needed(I)I -/
abbrev rmX8_needed : Room := { frames := 7, cells := 0, slots := 0, locals := 171 }
theorem qX8_needed : yX8_needed.cls ≠ "java/lang/invoke/MethodHandle" ∧ yX8_needed.cls ≠ "java/lang/invoke/VarHandle" ∧ (parseMethodDescriptor yX8_needed.desc).map (fun d => d.parameters.length) = some 1 := by decide +kernel
theorem DX8_needed : ∀ q ∈ ([(0, .aload_n 0, 1), (1, .iconst 0, 1), (2, .putfield 69, 3), (5, .aload_n 0, 1), (6, .iload_n 1, 1), (7, .invokevirtual 95, 3), (10, .ifCond .eq 11, 3), (13, .aload_n 0, 1), (14, .getfield 23, 3), (17, .iconst (-1), 1), (18, .if_icmp .ne 5, 3), (21, .iconst (-1), 1), (22, .ireturn, 1), (23, .aload_n 0, 1), (24, .invokevirtual 190, 3), (27, .aload_n 0, 1), (28, .aload_n 0, 1), (29, .getfield 99, 3), (32, .iconst 1, 1), (33, .iload_n 1, 1), (34, .ishl, 1), (35, .ior, 1), (36, .invokevirtual 234, 3), (39, .ireturn, 1)] : List (Nat × Instr × Nat)), decode cX8_needed q.1 = .ok q.2 := by decide +kernel
theorem dX8_needed_0 : decode cX8_needed 0 = .ok (.aload_n 0, 1) := DX8_needed (0, .aload_n 0, 1) (List.mem_of_getElem? (i := 0) rfl)
theorem dX8_needed_1 : decode cX8_needed 1 = .ok (.iconst 0, 1) := DX8_needed (1, .iconst 0, 1) (List.mem_of_getElem? (i := 1) rfl)
theorem dX8_needed_2 : decode cX8_needed 2 = .ok (.putfield 69, 3) := DX8_needed (2, .putfield 69, 3) (List.mem_of_getElem? (i := 2) rfl)
theorem dX8_needed_5 : decode cX8_needed 5 = .ok (.aload_n 0, 1) := DX8_needed (5, .aload_n 0, 1) (List.mem_of_getElem? (i := 3) rfl)
theorem dX8_needed_6 : decode cX8_needed 6 = .ok (.iload_n 1, 1) := DX8_needed (6, .iload_n 1, 1) (List.mem_of_getElem? (i := 4) rfl)
theorem dX8_needed_7 : decode cX8_needed 7 = .ok (.invokevirtual 95, 3) := DX8_needed (7, .invokevirtual 95, 3) (List.mem_of_getElem? (i := 5) rfl)
theorem dX8_needed_10 : decode cX8_needed 10 = .ok (.ifCond .eq 11, 3) := DX8_needed (10, .ifCond .eq 11, 3) (List.mem_of_getElem? (i := 6) rfl)
theorem dX8_needed_13 : decode cX8_needed 13 = .ok (.aload_n 0, 1) := DX8_needed (13, .aload_n 0, 1) (List.mem_of_getElem? (i := 7) rfl)
theorem dX8_needed_14 : decode cX8_needed 14 = .ok (.getfield 23, 3) := DX8_needed (14, .getfield 23, 3) (List.mem_of_getElem? (i := 8) rfl)
theorem dX8_needed_17 : decode cX8_needed 17 = .ok (.iconst (-1), 1) := DX8_needed (17, .iconst (-1), 1) (List.mem_of_getElem? (i := 9) rfl)
theorem dX8_needed_18 : decode cX8_needed 18 = .ok (.if_icmp .ne 5, 3) := DX8_needed (18, .if_icmp .ne 5, 3) (List.mem_of_getElem? (i := 10) rfl)
theorem dX8_needed_21 : decode cX8_needed 21 = .ok (.iconst (-1), 1) := DX8_needed (21, .iconst (-1), 1) (List.mem_of_getElem? (i := 11) rfl)
theorem dX8_needed_22 : decode cX8_needed 22 = .ok (.ireturn, 1) := DX8_needed (22, .ireturn, 1) (List.mem_of_getElem? (i := 12) rfl)
theorem dX8_needed_23 : decode cX8_needed 23 = .ok (.aload_n 0, 1) := DX8_needed (23, .aload_n 0, 1) (List.mem_of_getElem? (i := 13) rfl)
theorem dX8_needed_24 : decode cX8_needed 24 = .ok (.invokevirtual 190, 3) := DX8_needed (24, .invokevirtual 190, 3) (List.mem_of_getElem? (i := 14) rfl)
theorem dX8_needed_27 : decode cX8_needed 27 = .ok (.aload_n 0, 1) := DX8_needed (27, .aload_n 0, 1) (List.mem_of_getElem? (i := 15) rfl)
theorem dX8_needed_28 : decode cX8_needed 28 = .ok (.aload_n 0, 1) := DX8_needed (28, .aload_n 0, 1) (List.mem_of_getElem? (i := 16) rfl)
theorem dX8_needed_29 : decode cX8_needed 29 = .ok (.getfield 99, 3) := DX8_needed (29, .getfield 99, 3) (List.mem_of_getElem? (i := 17) rfl)
theorem dX8_needed_32 : decode cX8_needed 32 = .ok (.iconst 1, 1) := DX8_needed (32, .iconst 1, 1) (List.mem_of_getElem? (i := 18) rfl)
theorem dX8_needed_33 : decode cX8_needed 33 = .ok (.iload_n 1, 1) := DX8_needed (33, .iload_n 1, 1) (List.mem_of_getElem? (i := 19) rfl)
theorem dX8_needed_34 : decode cX8_needed 34 = .ok (.ishl, 1) := DX8_needed (34, .ishl, 1) (List.mem_of_getElem? (i := 20) rfl)
theorem dX8_needed_35 : decode cX8_needed 35 = .ok (.ior, 1) := DX8_needed (35, .ior, 1) (List.mem_of_getElem? (i := 21) rfl)
theorem dX8_needed_36 : decode cX8_needed 36 = .ok (.invokevirtual 234, 3) := DX8_needed (36, .invokevirtual 234, 3) (List.mem_of_getElem? (i := 22) rfl)
theorem dX8_needed_39 : decode cX8_needed 39 = .ok (.ireturn, 1) := DX8_needed (39, .ireturn, 1) (List.mem_of_getElem? (i := 23) rfl)
noncomputable def fX8_needed_L21 (σ : Mem) : Option (Int32 × Mem) :=
  some ((-1), σ)
set_option maxHeartbeats 4000000 in
set_option maxRecDepth 100000 in
theorem tX8_needed_L21 {E : Gx} {cI : ClassId} {ad : Nat → Nat} (C : Cx E rmX8_needed cI layM ad 2 RX8 cX8_needed) {out : Int32 × Mem} (K0 : KI E rmX8_needed cI layM ad 2 cX8_needed .int out) {σ : Mem} (h : fX8_needed_L21 σ = some out) : G E rmX8_needed cI layM ad 2 21 [] [] σ := by
  unfold fX8_needed_L21 at h
  refine g_iconst 22 (v := (-1)) C dX8_needed_21 (by decide) rfl ?_
  cases h
  exact K0 _ _ dX8_needed_22 rfl
noncomputable def fX8_needed (a1 : Int32) (σ : Mem) : Option (Int32 × Mem) :=
  (fX8_isName a1 (up2 σ 0 2 0)).bind fun o1 =>
  if o1.1 = 0 then
    fX8_needed_L21 o1.2
  else
    if (o1.2 0 8) = (-1) then
      fX8_needed_L21 o1.2
    else
      (fX8_lays o1.2).bind fun o2 =>
      (fX8_neededBy ((o2 0 7) ||| (1 <<< (a1 &&& 31))) o2).bind fun o3 =>
      some (o3.1, o3.2)
set_option maxHeartbeats 4000000 in
set_option maxRecDepth 100000 in
theorem mX8_needed {l : Launch} {D : va_G} {cI : ClassId} {ad : Nat → Nat} {a1 : Int32} {σ : Mem} {out : Int32 × Mem} (h : fX8_needed a1 σ = some out) : MI l D cI layM ad yX8_needed cX8_needed 2 .int rmX8_needed [.ref (ad 0), .int a1] σ out := by
  refine met_i (by decide) (Nat.le_of_ble_eq_true rfl) (fun E C K0 => ?_)
  show G E rmX8_needed cI layM ad 2 0 [(0, .ref (ad 0)), (1, .int a1)] [] σ
  unfold fX8_needed at h
  refine g_aload_n 1 C dX8_needed_0 rfl (j := 0) rfl rfl ?_
  refine g_iconst 2 (v := 0) C dX8_needed_1 (by decide) rfl ?_
  refine g_puti 5 (j := 2) C rfl rfl wu_X8 (by decide) wf_X8_69 tyX8 tyX8_ok nmX8 rfl rfl rfl rfl dX8_needed_2 rfl ?_
  refine g_aload_n 6 C dX8_needed_5 rfl (j := 0) rfl rfl ?_
  refine g_iload_n 7 C dX8_needed_6 rfl (j := 1) rfl rfl ?_
  refine g_cvi 10 C (As := [.int a1]) (fun _ h => mX8_isName (a1 := a1) (σ := up2 σ 0 2 0) h) wl_X8_95 wi_X8_isName wz_X8_isName wc_X8_isName wn_X8 qX8_isName rfl rfl ⟨Nat.le_of_ble_eq_true rfl, Nat.le_of_ble_eq_true rfl⟩ rfl rfl rfl rfl (Nat.le_of_ble_eq_true rfl) dX8_needed_7 rfl h (fun o1 h => ?_)
  refine g_if_eq 21 13 C dX8_needed_10 (by decide) rfl h (fun h => ?_) (fun h => ?_)
  · exact g_sub [] (tX8_needed_L21 (σ := o1.2) C K0 h) rfl
  · refine g_aload_n 14 C dX8_needed_13 rfl (j := 0) rfl rfl ?_
    refine g_geti 17 (j := 8) C rfl rfl wu_X8 (by decide) wf_X8_23 rfl dX8_needed_14 rfl ?_
    refine g_iconst 18 (v := (-1)) C dX8_needed_17 (by decide) rfl ?_
    refine g_icmp_ne 23 21 C dX8_needed_18 (by decide) rfl h (fun h => ?_) (fun h => ?_)
    · exact g_sub [] (tX8_needed_L21 (σ := o1.2) C K0 h) rfl
    · refine g_aload_n 24 C dX8_needed_23 rfl (j := 0) rfl rfl ?_
      refine g_cvv 27 C (As := []) (fun _ h => mX8_lays (σ := o1.2) h) wl_X8_190 wi_X8_lays wz_X8_lays wc_X8_lays wn_X8 qX8_lays rfl rfl ⟨Nat.le_of_ble_eq_true rfl, Nat.le_of_ble_eq_true rfl⟩ rfl rfl rfl rfl (Nat.le_of_ble_eq_true rfl) dX8_needed_24 rfl h (fun o2 h => ?_)
      refine g_aload_n 28 C dX8_needed_27 rfl (j := 0) rfl rfl ?_
      refine g_aload_n 29 C dX8_needed_28 rfl (j := 0) rfl rfl ?_
      refine g_geti 32 (j := 7) C rfl rfl wu_X8 (by decide) wf_X8_99 rfl dX8_needed_29 rfl ?_
      refine g_iconst 33 (v := 1) C dX8_needed_32 (by decide) rfl ?_
      refine g_iload_n 34 C dX8_needed_33 rfl (j := 1) rfl rfl ?_
      refine g_ishl 35 C dX8_needed_34 rfl ?_
      refine g_ior 36 C dX8_needed_35 rfl ?_
      refine g_cvi 39 C (As := [.int ((o2 0 7) ||| (1 <<< (a1 &&& 31)))]) (fun _ h => mX8_neededBy (a1 := (o2 0 7) ||| (1 <<< (a1 &&& 31))) (σ := o2) h) wl_X8_234 wi_X8_neededBy wz_X8_neededBy wc_X8_neededBy wn_X8 qX8_neededBy rfl rfl ⟨Nat.le_of_ble_eq_true rfl, Nat.le_of_ble_eq_true rfl⟩ rfl rfl rfl rfl (Nat.le_of_ble_eq_true rfl) dX8_needed_36 rfl h (fun o3 h => ?_)
      cases h
      exact K0 _ _ dX8_needed_39 rfl

/-! LoopReducerModel.reckonsNeeded(Z)V -/
abbrev rmX8_reckonsNeeded : Room := { frames := 3, cells := 0, slots := 0, locals := 80 }
theorem qX8_reckonsNeeded : yX8_reckonsNeeded.cls ≠ "java/lang/invoke/MethodHandle" ∧ yX8_reckonsNeeded.cls ≠ "java/lang/invoke/VarHandle" ∧ (parseMethodDescriptor yX8_reckonsNeeded.desc).map (fun d => d.parameters.length) = some 1 := by decide +kernel
theorem DX8_reckonsNeeded : ∀ q ∈ ([(0, .iconst 0, 1), (1, .istore_n 2, 1), (2, .iload_n 2, 1), (3, .aload_n 0, 1), (4, .getfield 72, 3), (7, .if_icmp .ge 21, 3), (10, .aload_n 0, 1), (11, .getfield 57, 3), (14, .iload_n 2, 1), (15, .aload_n 0, 1), (16, .getfield 54, 3), (19, .iload_n 2, 1), (20, .iaload, 1), (21, .iastore, 1), (22, .iinc 2 1, 3), (25, .goto (-23), 3), (28, .iconst 0, 1), (29, .istore_n 2, 1), (30, .iload_n 2, 1), (31, .aload_n 0, 1), (32, .getfield 72, 3), (35, .if_icmp .ge 146, 3), (38, .aload_n 0, 1), (39, .getfield 237, 3), (42, .iload_n 2, 1), (43, .invokestatic 102, 3), (46, .ifCond .ne 13, 3), (49, .aload_n 0, 1), (50, .getfield 54, 3), (53, .iload_n 2, 1), (54, .iconst 0, 1), (55, .iastore, 1), (56, .goto 119, 3), (59, .aload_n 0, 1), (60, .getfield 39, 3), (63, .iload_n 2, 1), (64, .iaload, 1), (65, .ifCond .ne 18, 3), (68, .aload_n 0, 1), (69, .getfield 54, 3), (72, .iload_n 2, 1), (73, .aload_n 0, 1), (74, .iload_n 2, 1), (75, .iconst 0, 1), (76, .invokevirtual 208, 3), (79, .iastore, 1), (80, .goto 95, 3), (83, .aload_n 0, 1), (84, .getfield 14, 3), (87, .iload_n 2, 1), (88, .iaload, 1), (89, .iconst 5, 1), (90, .if_icmp .ne 35, 3), (93, .aload_n 0, 1), (94, .getfield 54, 3), (97, .iload_n 2, 1), (98, .iload_n 1, 1), (99, .ifCond .eq 11, 3), (102, .aload_n 0, 1), (103, .iload_n 2, 1), (104, .invokevirtual 216, 3), (107, .goto 14, 3), (110, .aload_n 0, 1), (111, .getfield 57, 3), (114, .aload_n 0, 1), (115, .getfield 20, 3), (118, .iload_n 2, 1), (119, .iaload, 1), (120, .iaload, 1), (121, .iastore, 1), (122, .goto 53, 3), (125, .aload_n 0, 1), (126, .getfield 14, 3), (129, .iload_n 2, 1), (130, .iaload, 1), (131, .iconst 4, 1), (132, .if_icmp .ne 32, 3), (135, .aload_n 0, 1), (136, .getfield 39, 3), (139, .iload_n 2, 1), (140, .iaload, 1), (141, .iconst 1, 1), (142, .if_icmp .ne 22, 3), (145, .aload_n 0, 1), (146, .getfield 54, 3), (149, .iload_n 2, 1), (150, .aload_n 0, 1), (151, .getfield 60, 3), (154, .aload_n 0, 1), (155, .iload_n 2, 1), (156, .invokevirtual 253, 3), (159, .iaload, 1), (160, .iastore, 1), (161, .goto 14, 3), (164, .aload_n 0, 1), (165, .getfield 54, 3), (168, .iload_n 2, 1), (169, .aload_n 0, 1), (170, .iload_n 2, 1), (171, .invokevirtual 250, 3), (174, .iastore, 1), (175, .iinc 2 1, 3), (178, .goto (-148), 3), (181, .return_, 1)] : List (Nat × Instr × Nat)), decode cX8_reckonsNeeded q.1 = .ok q.2 := by decide +kernel
theorem dX8_reckonsNeeded_0 : decode cX8_reckonsNeeded 0 = .ok (.iconst 0, 1) := DX8_reckonsNeeded (0, .iconst 0, 1) (List.mem_of_getElem? (i := 0) rfl)
theorem dX8_reckonsNeeded_1 : decode cX8_reckonsNeeded 1 = .ok (.istore_n 2, 1) := DX8_reckonsNeeded (1, .istore_n 2, 1) (List.mem_of_getElem? (i := 1) rfl)
theorem dX8_reckonsNeeded_2 : decode cX8_reckonsNeeded 2 = .ok (.iload_n 2, 1) := DX8_reckonsNeeded (2, .iload_n 2, 1) (List.mem_of_getElem? (i := 2) rfl)
theorem dX8_reckonsNeeded_3 : decode cX8_reckonsNeeded 3 = .ok (.aload_n 0, 1) := DX8_reckonsNeeded (3, .aload_n 0, 1) (List.mem_of_getElem? (i := 3) rfl)
theorem dX8_reckonsNeeded_4 : decode cX8_reckonsNeeded 4 = .ok (.getfield 72, 3) := DX8_reckonsNeeded (4, .getfield 72, 3) (List.mem_of_getElem? (i := 4) rfl)
theorem dX8_reckonsNeeded_7 : decode cX8_reckonsNeeded 7 = .ok (.if_icmp .ge 21, 3) := DX8_reckonsNeeded (7, .if_icmp .ge 21, 3) (List.mem_of_getElem? (i := 5) rfl)
theorem dX8_reckonsNeeded_10 : decode cX8_reckonsNeeded 10 = .ok (.aload_n 0, 1) := DX8_reckonsNeeded (10, .aload_n 0, 1) (List.mem_of_getElem? (i := 6) rfl)
theorem dX8_reckonsNeeded_11 : decode cX8_reckonsNeeded 11 = .ok (.getfield 57, 3) := DX8_reckonsNeeded (11, .getfield 57, 3) (List.mem_of_getElem? (i := 7) rfl)
theorem dX8_reckonsNeeded_14 : decode cX8_reckonsNeeded 14 = .ok (.iload_n 2, 1) := DX8_reckonsNeeded (14, .iload_n 2, 1) (List.mem_of_getElem? (i := 8) rfl)
theorem dX8_reckonsNeeded_15 : decode cX8_reckonsNeeded 15 = .ok (.aload_n 0, 1) := DX8_reckonsNeeded (15, .aload_n 0, 1) (List.mem_of_getElem? (i := 9) rfl)
theorem dX8_reckonsNeeded_16 : decode cX8_reckonsNeeded 16 = .ok (.getfield 54, 3) := DX8_reckonsNeeded (16, .getfield 54, 3) (List.mem_of_getElem? (i := 10) rfl)
theorem dX8_reckonsNeeded_19 : decode cX8_reckonsNeeded 19 = .ok (.iload_n 2, 1) := DX8_reckonsNeeded (19, .iload_n 2, 1) (List.mem_of_getElem? (i := 11) rfl)
theorem dX8_reckonsNeeded_20 : decode cX8_reckonsNeeded 20 = .ok (.iaload, 1) := DX8_reckonsNeeded (20, .iaload, 1) (List.mem_of_getElem? (i := 12) rfl)
theorem dX8_reckonsNeeded_21 : decode cX8_reckonsNeeded 21 = .ok (.iastore, 1) := DX8_reckonsNeeded (21, .iastore, 1) (List.mem_of_getElem? (i := 13) rfl)
theorem dX8_reckonsNeeded_22 : decode cX8_reckonsNeeded 22 = .ok (.iinc 2 1, 3) := DX8_reckonsNeeded (22, .iinc 2 1, 3) (List.mem_of_getElem? (i := 14) rfl)
theorem dX8_reckonsNeeded_25 : decode cX8_reckonsNeeded 25 = .ok (.goto (-23), 3) := DX8_reckonsNeeded (25, .goto (-23), 3) (List.mem_of_getElem? (i := 15) rfl)
theorem dX8_reckonsNeeded_28 : decode cX8_reckonsNeeded 28 = .ok (.iconst 0, 1) := DX8_reckonsNeeded (28, .iconst 0, 1) (List.mem_of_getElem? (i := 16) rfl)
theorem dX8_reckonsNeeded_29 : decode cX8_reckonsNeeded 29 = .ok (.istore_n 2, 1) := DX8_reckonsNeeded (29, .istore_n 2, 1) (List.mem_of_getElem? (i := 17) rfl)
theorem dX8_reckonsNeeded_30 : decode cX8_reckonsNeeded 30 = .ok (.iload_n 2, 1) := DX8_reckonsNeeded (30, .iload_n 2, 1) (List.mem_of_getElem? (i := 18) rfl)
theorem dX8_reckonsNeeded_31 : decode cX8_reckonsNeeded 31 = .ok (.aload_n 0, 1) := DX8_reckonsNeeded (31, .aload_n 0, 1) (List.mem_of_getElem? (i := 19) rfl)
theorem dX8_reckonsNeeded_32 : decode cX8_reckonsNeeded 32 = .ok (.getfield 72, 3) := DX8_reckonsNeeded (32, .getfield 72, 3) (List.mem_of_getElem? (i := 20) rfl)
theorem dX8_reckonsNeeded_35 : decode cX8_reckonsNeeded 35 = .ok (.if_icmp .ge 146, 3) := DX8_reckonsNeeded (35, .if_icmp .ge 146, 3) (List.mem_of_getElem? (i := 21) rfl)
theorem dX8_reckonsNeeded_38 : decode cX8_reckonsNeeded 38 = .ok (.aload_n 0, 1) := DX8_reckonsNeeded (38, .aload_n 0, 1) (List.mem_of_getElem? (i := 22) rfl)
theorem dX8_reckonsNeeded_39 : decode cX8_reckonsNeeded 39 = .ok (.getfield 237, 3) := DX8_reckonsNeeded (39, .getfield 237, 3) (List.mem_of_getElem? (i := 23) rfl)
theorem dX8_reckonsNeeded_42 : decode cX8_reckonsNeeded 42 = .ok (.iload_n 2, 1) := DX8_reckonsNeeded (42, .iload_n 2, 1) (List.mem_of_getElem? (i := 24) rfl)
theorem dX8_reckonsNeeded_43 : decode cX8_reckonsNeeded 43 = .ok (.invokestatic 102, 3) := DX8_reckonsNeeded (43, .invokestatic 102, 3) (List.mem_of_getElem? (i := 25) rfl)
theorem dX8_reckonsNeeded_46 : decode cX8_reckonsNeeded 46 = .ok (.ifCond .ne 13, 3) := DX8_reckonsNeeded (46, .ifCond .ne 13, 3) (List.mem_of_getElem? (i := 26) rfl)
theorem dX8_reckonsNeeded_49 : decode cX8_reckonsNeeded 49 = .ok (.aload_n 0, 1) := DX8_reckonsNeeded (49, .aload_n 0, 1) (List.mem_of_getElem? (i := 27) rfl)
theorem dX8_reckonsNeeded_50 : decode cX8_reckonsNeeded 50 = .ok (.getfield 54, 3) := DX8_reckonsNeeded (50, .getfield 54, 3) (List.mem_of_getElem? (i := 28) rfl)
theorem dX8_reckonsNeeded_53 : decode cX8_reckonsNeeded 53 = .ok (.iload_n 2, 1) := DX8_reckonsNeeded (53, .iload_n 2, 1) (List.mem_of_getElem? (i := 29) rfl)
theorem dX8_reckonsNeeded_54 : decode cX8_reckonsNeeded 54 = .ok (.iconst 0, 1) := DX8_reckonsNeeded (54, .iconst 0, 1) (List.mem_of_getElem? (i := 30) rfl)
theorem dX8_reckonsNeeded_55 : decode cX8_reckonsNeeded 55 = .ok (.iastore, 1) := DX8_reckonsNeeded (55, .iastore, 1) (List.mem_of_getElem? (i := 31) rfl)
theorem dX8_reckonsNeeded_56 : decode cX8_reckonsNeeded 56 = .ok (.goto 119, 3) := DX8_reckonsNeeded (56, .goto 119, 3) (List.mem_of_getElem? (i := 32) rfl)
theorem dX8_reckonsNeeded_59 : decode cX8_reckonsNeeded 59 = .ok (.aload_n 0, 1) := DX8_reckonsNeeded (59, .aload_n 0, 1) (List.mem_of_getElem? (i := 33) rfl)
theorem dX8_reckonsNeeded_60 : decode cX8_reckonsNeeded 60 = .ok (.getfield 39, 3) := DX8_reckonsNeeded (60, .getfield 39, 3) (List.mem_of_getElem? (i := 34) rfl)
theorem dX8_reckonsNeeded_63 : decode cX8_reckonsNeeded 63 = .ok (.iload_n 2, 1) := DX8_reckonsNeeded (63, .iload_n 2, 1) (List.mem_of_getElem? (i := 35) rfl)
theorem dX8_reckonsNeeded_64 : decode cX8_reckonsNeeded 64 = .ok (.iaload, 1) := DX8_reckonsNeeded (64, .iaload, 1) (List.mem_of_getElem? (i := 36) rfl)
theorem dX8_reckonsNeeded_65 : decode cX8_reckonsNeeded 65 = .ok (.ifCond .ne 18, 3) := DX8_reckonsNeeded (65, .ifCond .ne 18, 3) (List.mem_of_getElem? (i := 37) rfl)
theorem dX8_reckonsNeeded_68 : decode cX8_reckonsNeeded 68 = .ok (.aload_n 0, 1) := DX8_reckonsNeeded (68, .aload_n 0, 1) (List.mem_of_getElem? (i := 38) rfl)
theorem dX8_reckonsNeeded_69 : decode cX8_reckonsNeeded 69 = .ok (.getfield 54, 3) := DX8_reckonsNeeded (69, .getfield 54, 3) (List.mem_of_getElem? (i := 39) rfl)
theorem dX8_reckonsNeeded_72 : decode cX8_reckonsNeeded 72 = .ok (.iload_n 2, 1) := DX8_reckonsNeeded (72, .iload_n 2, 1) (List.mem_of_getElem? (i := 40) rfl)
theorem dX8_reckonsNeeded_73 : decode cX8_reckonsNeeded 73 = .ok (.aload_n 0, 1) := DX8_reckonsNeeded (73, .aload_n 0, 1) (List.mem_of_getElem? (i := 41) rfl)
theorem dX8_reckonsNeeded_74 : decode cX8_reckonsNeeded 74 = .ok (.iload_n 2, 1) := DX8_reckonsNeeded (74, .iload_n 2, 1) (List.mem_of_getElem? (i := 42) rfl)
theorem dX8_reckonsNeeded_75 : decode cX8_reckonsNeeded 75 = .ok (.iconst 0, 1) := DX8_reckonsNeeded (75, .iconst 0, 1) (List.mem_of_getElem? (i := 43) rfl)
theorem dX8_reckonsNeeded_76 : decode cX8_reckonsNeeded 76 = .ok (.invokevirtual 208, 3) := DX8_reckonsNeeded (76, .invokevirtual 208, 3) (List.mem_of_getElem? (i := 44) rfl)
theorem dX8_reckonsNeeded_79 : decode cX8_reckonsNeeded 79 = .ok (.iastore, 1) := DX8_reckonsNeeded (79, .iastore, 1) (List.mem_of_getElem? (i := 45) rfl)
theorem dX8_reckonsNeeded_80 : decode cX8_reckonsNeeded 80 = .ok (.goto 95, 3) := DX8_reckonsNeeded (80, .goto 95, 3) (List.mem_of_getElem? (i := 46) rfl)
theorem dX8_reckonsNeeded_83 : decode cX8_reckonsNeeded 83 = .ok (.aload_n 0, 1) := DX8_reckonsNeeded (83, .aload_n 0, 1) (List.mem_of_getElem? (i := 47) rfl)
theorem dX8_reckonsNeeded_84 : decode cX8_reckonsNeeded 84 = .ok (.getfield 14, 3) := DX8_reckonsNeeded (84, .getfield 14, 3) (List.mem_of_getElem? (i := 48) rfl)
theorem dX8_reckonsNeeded_87 : decode cX8_reckonsNeeded 87 = .ok (.iload_n 2, 1) := DX8_reckonsNeeded (87, .iload_n 2, 1) (List.mem_of_getElem? (i := 49) rfl)
theorem dX8_reckonsNeeded_88 : decode cX8_reckonsNeeded 88 = .ok (.iaload, 1) := DX8_reckonsNeeded (88, .iaload, 1) (List.mem_of_getElem? (i := 50) rfl)
theorem dX8_reckonsNeeded_89 : decode cX8_reckonsNeeded 89 = .ok (.iconst 5, 1) := DX8_reckonsNeeded (89, .iconst 5, 1) (List.mem_of_getElem? (i := 51) rfl)
theorem dX8_reckonsNeeded_90 : decode cX8_reckonsNeeded 90 = .ok (.if_icmp .ne 35, 3) := DX8_reckonsNeeded (90, .if_icmp .ne 35, 3) (List.mem_of_getElem? (i := 52) rfl)
theorem dX8_reckonsNeeded_93 : decode cX8_reckonsNeeded 93 = .ok (.aload_n 0, 1) := DX8_reckonsNeeded (93, .aload_n 0, 1) (List.mem_of_getElem? (i := 53) rfl)
theorem dX8_reckonsNeeded_94 : decode cX8_reckonsNeeded 94 = .ok (.getfield 54, 3) := DX8_reckonsNeeded (94, .getfield 54, 3) (List.mem_of_getElem? (i := 54) rfl)
theorem dX8_reckonsNeeded_97 : decode cX8_reckonsNeeded 97 = .ok (.iload_n 2, 1) := DX8_reckonsNeeded (97, .iload_n 2, 1) (List.mem_of_getElem? (i := 55) rfl)
theorem dX8_reckonsNeeded_98 : decode cX8_reckonsNeeded 98 = .ok (.iload_n 1, 1) := DX8_reckonsNeeded (98, .iload_n 1, 1) (List.mem_of_getElem? (i := 56) rfl)
theorem dX8_reckonsNeeded_99 : decode cX8_reckonsNeeded 99 = .ok (.ifCond .eq 11, 3) := DX8_reckonsNeeded (99, .ifCond .eq 11, 3) (List.mem_of_getElem? (i := 57) rfl)
theorem dX8_reckonsNeeded_102 : decode cX8_reckonsNeeded 102 = .ok (.aload_n 0, 1) := DX8_reckonsNeeded (102, .aload_n 0, 1) (List.mem_of_getElem? (i := 58) rfl)
theorem dX8_reckonsNeeded_103 : decode cX8_reckonsNeeded 103 = .ok (.iload_n 2, 1) := DX8_reckonsNeeded (103, .iload_n 2, 1) (List.mem_of_getElem? (i := 59) rfl)
theorem dX8_reckonsNeeded_104 : decode cX8_reckonsNeeded 104 = .ok (.invokevirtual 216, 3) := DX8_reckonsNeeded (104, .invokevirtual 216, 3) (List.mem_of_getElem? (i := 60) rfl)
theorem dX8_reckonsNeeded_107 : decode cX8_reckonsNeeded 107 = .ok (.goto 14, 3) := DX8_reckonsNeeded (107, .goto 14, 3) (List.mem_of_getElem? (i := 61) rfl)
theorem dX8_reckonsNeeded_110 : decode cX8_reckonsNeeded 110 = .ok (.aload_n 0, 1) := DX8_reckonsNeeded (110, .aload_n 0, 1) (List.mem_of_getElem? (i := 62) rfl)
theorem dX8_reckonsNeeded_111 : decode cX8_reckonsNeeded 111 = .ok (.getfield 57, 3) := DX8_reckonsNeeded (111, .getfield 57, 3) (List.mem_of_getElem? (i := 63) rfl)
theorem dX8_reckonsNeeded_114 : decode cX8_reckonsNeeded 114 = .ok (.aload_n 0, 1) := DX8_reckonsNeeded (114, .aload_n 0, 1) (List.mem_of_getElem? (i := 64) rfl)
theorem dX8_reckonsNeeded_115 : decode cX8_reckonsNeeded 115 = .ok (.getfield 20, 3) := DX8_reckonsNeeded (115, .getfield 20, 3) (List.mem_of_getElem? (i := 65) rfl)
theorem dX8_reckonsNeeded_118 : decode cX8_reckonsNeeded 118 = .ok (.iload_n 2, 1) := DX8_reckonsNeeded (118, .iload_n 2, 1) (List.mem_of_getElem? (i := 66) rfl)
theorem dX8_reckonsNeeded_119 : decode cX8_reckonsNeeded 119 = .ok (.iaload, 1) := DX8_reckonsNeeded (119, .iaload, 1) (List.mem_of_getElem? (i := 67) rfl)
theorem dX8_reckonsNeeded_120 : decode cX8_reckonsNeeded 120 = .ok (.iaload, 1) := DX8_reckonsNeeded (120, .iaload, 1) (List.mem_of_getElem? (i := 68) rfl)
theorem dX8_reckonsNeeded_121 : decode cX8_reckonsNeeded 121 = .ok (.iastore, 1) := DX8_reckonsNeeded (121, .iastore, 1) (List.mem_of_getElem? (i := 69) rfl)
theorem dX8_reckonsNeeded_122 : decode cX8_reckonsNeeded 122 = .ok (.goto 53, 3) := DX8_reckonsNeeded (122, .goto 53, 3) (List.mem_of_getElem? (i := 70) rfl)
theorem dX8_reckonsNeeded_125 : decode cX8_reckonsNeeded 125 = .ok (.aload_n 0, 1) := DX8_reckonsNeeded (125, .aload_n 0, 1) (List.mem_of_getElem? (i := 71) rfl)
theorem dX8_reckonsNeeded_126 : decode cX8_reckonsNeeded 126 = .ok (.getfield 14, 3) := DX8_reckonsNeeded (126, .getfield 14, 3) (List.mem_of_getElem? (i := 72) rfl)
theorem dX8_reckonsNeeded_129 : decode cX8_reckonsNeeded 129 = .ok (.iload_n 2, 1) := DX8_reckonsNeeded (129, .iload_n 2, 1) (List.mem_of_getElem? (i := 73) rfl)
theorem dX8_reckonsNeeded_130 : decode cX8_reckonsNeeded 130 = .ok (.iaload, 1) := DX8_reckonsNeeded (130, .iaload, 1) (List.mem_of_getElem? (i := 74) rfl)
theorem dX8_reckonsNeeded_131 : decode cX8_reckonsNeeded 131 = .ok (.iconst 4, 1) := DX8_reckonsNeeded (131, .iconst 4, 1) (List.mem_of_getElem? (i := 75) rfl)
theorem dX8_reckonsNeeded_132 : decode cX8_reckonsNeeded 132 = .ok (.if_icmp .ne 32, 3) := DX8_reckonsNeeded (132, .if_icmp .ne 32, 3) (List.mem_of_getElem? (i := 76) rfl)
theorem dX8_reckonsNeeded_135 : decode cX8_reckonsNeeded 135 = .ok (.aload_n 0, 1) := DX8_reckonsNeeded (135, .aload_n 0, 1) (List.mem_of_getElem? (i := 77) rfl)
theorem dX8_reckonsNeeded_136 : decode cX8_reckonsNeeded 136 = .ok (.getfield 39, 3) := DX8_reckonsNeeded (136, .getfield 39, 3) (List.mem_of_getElem? (i := 78) rfl)
theorem dX8_reckonsNeeded_139 : decode cX8_reckonsNeeded 139 = .ok (.iload_n 2, 1) := DX8_reckonsNeeded (139, .iload_n 2, 1) (List.mem_of_getElem? (i := 79) rfl)
theorem dX8_reckonsNeeded_140 : decode cX8_reckonsNeeded 140 = .ok (.iaload, 1) := DX8_reckonsNeeded (140, .iaload, 1) (List.mem_of_getElem? (i := 80) rfl)
theorem dX8_reckonsNeeded_141 : decode cX8_reckonsNeeded 141 = .ok (.iconst 1, 1) := DX8_reckonsNeeded (141, .iconst 1, 1) (List.mem_of_getElem? (i := 81) rfl)
theorem dX8_reckonsNeeded_142 : decode cX8_reckonsNeeded 142 = .ok (.if_icmp .ne 22, 3) := DX8_reckonsNeeded (142, .if_icmp .ne 22, 3) (List.mem_of_getElem? (i := 82) rfl)
theorem dX8_reckonsNeeded_145 : decode cX8_reckonsNeeded 145 = .ok (.aload_n 0, 1) := DX8_reckonsNeeded (145, .aload_n 0, 1) (List.mem_of_getElem? (i := 83) rfl)
theorem dX8_reckonsNeeded_146 : decode cX8_reckonsNeeded 146 = .ok (.getfield 54, 3) := DX8_reckonsNeeded (146, .getfield 54, 3) (List.mem_of_getElem? (i := 84) rfl)
theorem dX8_reckonsNeeded_149 : decode cX8_reckonsNeeded 149 = .ok (.iload_n 2, 1) := DX8_reckonsNeeded (149, .iload_n 2, 1) (List.mem_of_getElem? (i := 85) rfl)
theorem dX8_reckonsNeeded_150 : decode cX8_reckonsNeeded 150 = .ok (.aload_n 0, 1) := DX8_reckonsNeeded (150, .aload_n 0, 1) (List.mem_of_getElem? (i := 86) rfl)
theorem dX8_reckonsNeeded_151 : decode cX8_reckonsNeeded 151 = .ok (.getfield 60, 3) := DX8_reckonsNeeded (151, .getfield 60, 3) (List.mem_of_getElem? (i := 87) rfl)
theorem dX8_reckonsNeeded_154 : decode cX8_reckonsNeeded 154 = .ok (.aload_n 0, 1) := DX8_reckonsNeeded (154, .aload_n 0, 1) (List.mem_of_getElem? (i := 88) rfl)
theorem dX8_reckonsNeeded_155 : decode cX8_reckonsNeeded 155 = .ok (.iload_n 2, 1) := DX8_reckonsNeeded (155, .iload_n 2, 1) (List.mem_of_getElem? (i := 89) rfl)
theorem dX8_reckonsNeeded_156 : decode cX8_reckonsNeeded 156 = .ok (.invokevirtual 253, 3) := DX8_reckonsNeeded (156, .invokevirtual 253, 3) (List.mem_of_getElem? (i := 90) rfl)
theorem dX8_reckonsNeeded_159 : decode cX8_reckonsNeeded 159 = .ok (.iaload, 1) := DX8_reckonsNeeded (159, .iaload, 1) (List.mem_of_getElem? (i := 91) rfl)
theorem dX8_reckonsNeeded_160 : decode cX8_reckonsNeeded 160 = .ok (.iastore, 1) := DX8_reckonsNeeded (160, .iastore, 1) (List.mem_of_getElem? (i := 92) rfl)
theorem dX8_reckonsNeeded_161 : decode cX8_reckonsNeeded 161 = .ok (.goto 14, 3) := DX8_reckonsNeeded (161, .goto 14, 3) (List.mem_of_getElem? (i := 93) rfl)
theorem dX8_reckonsNeeded_164 : decode cX8_reckonsNeeded 164 = .ok (.aload_n 0, 1) := DX8_reckonsNeeded (164, .aload_n 0, 1) (List.mem_of_getElem? (i := 94) rfl)
theorem dX8_reckonsNeeded_165 : decode cX8_reckonsNeeded 165 = .ok (.getfield 54, 3) := DX8_reckonsNeeded (165, .getfield 54, 3) (List.mem_of_getElem? (i := 95) rfl)
theorem dX8_reckonsNeeded_168 : decode cX8_reckonsNeeded 168 = .ok (.iload_n 2, 1) := DX8_reckonsNeeded (168, .iload_n 2, 1) (List.mem_of_getElem? (i := 96) rfl)
theorem dX8_reckonsNeeded_169 : decode cX8_reckonsNeeded 169 = .ok (.aload_n 0, 1) := DX8_reckonsNeeded (169, .aload_n 0, 1) (List.mem_of_getElem? (i := 97) rfl)
theorem dX8_reckonsNeeded_170 : decode cX8_reckonsNeeded 170 = .ok (.iload_n 2, 1) := DX8_reckonsNeeded (170, .iload_n 2, 1) (List.mem_of_getElem? (i := 98) rfl)
theorem dX8_reckonsNeeded_171 : decode cX8_reckonsNeeded 171 = .ok (.invokevirtual 250, 3) := DX8_reckonsNeeded (171, .invokevirtual 250, 3) (List.mem_of_getElem? (i := 99) rfl)
theorem dX8_reckonsNeeded_174 : decode cX8_reckonsNeeded 174 = .ok (.iastore, 1) := DX8_reckonsNeeded (174, .iastore, 1) (List.mem_of_getElem? (i := 100) rfl)
theorem dX8_reckonsNeeded_175 : decode cX8_reckonsNeeded 175 = .ok (.iinc 2 1, 3) := DX8_reckonsNeeded (175, .iinc 2 1, 3) (List.mem_of_getElem? (i := 101) rfl)
theorem dX8_reckonsNeeded_178 : decode cX8_reckonsNeeded 178 = .ok (.goto (-148), 3) := DX8_reckonsNeeded (178, .goto (-148), 3) (List.mem_of_getElem? (i := 102) rfl)
theorem dX8_reckonsNeeded_181 : decode cX8_reckonsNeeded 181 = .ok (.return_, 1) := DX8_reckonsNeeded (181, .return_, 1) (List.mem_of_getElem? (i := 103) rfl)
noncomputable def fX8_reckonsNeeded_B2 (l1 : Int32) (l2 : Int32) (σ : Mem) : Option ((Int32 × Mem) ⊕ (Mem)) :=
  if (σ 0 6) ≤ l2 then
    some (.inr σ)
  else
    chk (inb l2 30) <|
    chk (inb l2 30) <|
    some (.inl (l2 + 1, up2 σ 13 l2.toNatClampNeg (σ 12 l2.toNatClampNeg)))
set_option maxHeartbeats 4000000 in
set_option maxRecDepth 100000 in
theorem tX8_reckonsNeeded_B2 {E : Gx} {cI : ClassId} {ad : Nat → Nat} (C : Cx E rmX8_reckonsNeeded cI layM ad 3 RX8 cX8_reckonsNeeded) {out : Mem} (K0 : KV E rmX8_reckonsNeeded cI layM ad 3 cX8_reckonsNeeded out) {l1 : Int32} {l2 : Int32} {σ : Mem} {res : (Int32 × Mem) ⊕ (Mem)} (h : fX8_reckonsNeeded_B2 l1 l2 σ = some res) (K : Sum.elim (fun a => G E rmX8_reckonsNeeded cI layM ad 3 2 [(0, .ref (ad 0)), (1, .int l1), (2, .int a.1)] [] a.2) (fun b => G E rmX8_reckonsNeeded cI layM ad 3 28 [(0, .ref (ad 0)), (1, .int l1)] [] b) res) : G E rmX8_reckonsNeeded cI layM ad 3 2 [(0, .ref (ad 0)), (1, .int l1), (2, .int l2)] [] σ := by
  unfold fX8_reckonsNeeded_B2 at h
  refine g_iload_n 3 C dX8_reckonsNeeded_2 rfl (j := 2) rfl rfl ?_
  refine g_aload_n 4 C dX8_reckonsNeeded_3 rfl (j := 0) rfl rfl ?_
  refine g_geti 7 (j := 6) C rfl rfl wu_X8 (by decide) wf_X8_72 rfl dX8_reckonsNeeded_4 rfl ?_
  refine g_icmp_ge 28 10 C dX8_reckonsNeeded_7 (by decide) rfl h (fun h => ?_) (fun h => ?_)
  · have hh := end_inr h K
    exact g_sub [0, 1] (hh) rfl
  · refine g_aload_n 11 C dX8_reckonsNeeded_10 rfl (j := 0) rfl rfl ?_
    refine g_getr 14 (j := 22) C rfl rfl wu_X8 (by decide) wf_X8_57 rfl dX8_reckonsNeeded_11 rfl ?_
    refine g_iload_n 15 C dX8_reckonsNeeded_14 rfl (j := 2) rfl rfl ?_
    refine g_aload_n 16 C dX8_reckonsNeeded_15 rfl (j := 0) rfl rfl ?_
    refine g_getr 19 (j := 21) C rfl rfl wu_X8 (by decide) wf_X8_54 rfl dX8_reckonsNeeded_16 rfl ?_
    refine g_iload_n 20 C dX8_reckonsNeeded_19 rfl (j := 2) rfl rfl ?_
    refine g_iald 21 C rfl dX8_reckonsNeeded_20 rfl h (fun h => ?_)
    refine g_iast 22 C rfl dX8_reckonsNeeded_21 rfl h (fun h => ?_)
    refine g_iinc 25 [(2, .int (l2 + 1)), (0, .ref (ad 0)), (1, .int l1)] C dX8_reckonsNeeded_22 (j := 2) rfl (by rfl) (by decide) rfl rfl ?_
    refine g_goto 2 C dX8_reckonsNeeded_25 (by decide) ?_
    have hh := end_inl h K
    exact g_sub [1, 2, 0] (hh) rfl
noncomputable def fX8_reckonsNeeded_L175 (l1 : Int32) (l2 : Int32) (σ : Mem) : Option ((Int32 × Mem) ⊕ (Mem)) :=
  some (.inl (l2 + 1, σ))
set_option maxHeartbeats 4000000 in
set_option maxRecDepth 100000 in
theorem tX8_reckonsNeeded_L175 {E : Gx} {cI : ClassId} {ad : Nat → Nat} (C : Cx E rmX8_reckonsNeeded cI layM ad 3 RX8 cX8_reckonsNeeded) {out : Mem} (K0 : KV E rmX8_reckonsNeeded cI layM ad 3 cX8_reckonsNeeded out) {l1 : Int32} {l2 : Int32} {σ : Mem} {res : (Int32 × Mem) ⊕ (Mem)} (h : fX8_reckonsNeeded_L175 l1 l2 σ = some res) (K : Sum.elim (fun a => G E rmX8_reckonsNeeded cI layM ad 3 30 [(0, .ref (ad 0)), (1, .int l1), (2, .int a.1)] [] a.2) (fun b => G E rmX8_reckonsNeeded cI layM ad 3 181 [] [] b) res) : G E rmX8_reckonsNeeded cI layM ad 3 175 [(0, .ref (ad 0)), (1, .int l1), (2, .int l2)] [] σ := by
  unfold fX8_reckonsNeeded_L175 at h
  refine g_iinc 178 [(2, .int (l2 + 1)), (0, .ref (ad 0)), (1, .int l1)] C dX8_reckonsNeeded_175 (j := 2) rfl (by rfl) (by decide) rfl rfl ?_
  refine g_goto 30 C dX8_reckonsNeeded_178 (by decide) ?_
  have hh := end_inl h K
  exact g_sub [1, 2, 0] (hh) rfl
noncomputable def fX8_reckonsNeeded_L164 (l1 : Int32) (l2 : Int32) (σ : Mem) : Option ((Int32 × Mem) ⊕ (Mem)) :=
  (fX8_worked l2 σ).bind fun o3 =>
  chk (inb l2 30) <|
  fX8_reckonsNeeded_L175 l1 l2 (up2 o3.2 12 l2.toNatClampNeg o3.1)
set_option maxHeartbeats 4000000 in
set_option maxRecDepth 100000 in
theorem tX8_reckonsNeeded_L164 {E : Gx} {cI : ClassId} {ad : Nat → Nat} (C : Cx E rmX8_reckonsNeeded cI layM ad 3 RX8 cX8_reckonsNeeded) {out : Mem} (K0 : KV E rmX8_reckonsNeeded cI layM ad 3 cX8_reckonsNeeded out) {l1 : Int32} {l2 : Int32} {σ : Mem} {res : (Int32 × Mem) ⊕ (Mem)} (h : fX8_reckonsNeeded_L164 l1 l2 σ = some res) (K : Sum.elim (fun a => G E rmX8_reckonsNeeded cI layM ad 3 30 [(0, .ref (ad 0)), (1, .int l1), (2, .int a.1)] [] a.2) (fun b => G E rmX8_reckonsNeeded cI layM ad 3 181 [] [] b) res) : G E rmX8_reckonsNeeded cI layM ad 3 164 [(0, .ref (ad 0)), (1, .int l1), (2, .int l2)] [] σ := by
  unfold fX8_reckonsNeeded_L164 at h
  refine g_aload_n 165 C dX8_reckonsNeeded_164 rfl (j := 0) rfl rfl ?_
  refine g_getr 168 (j := 21) C rfl rfl wu_X8 (by decide) wf_X8_54 rfl dX8_reckonsNeeded_165 rfl ?_
  refine g_iload_n 169 C dX8_reckonsNeeded_168 rfl (j := 2) rfl rfl ?_
  refine g_aload_n 170 C dX8_reckonsNeeded_169 rfl (j := 0) rfl rfl ?_
  refine g_iload_n 171 C dX8_reckonsNeeded_170 rfl (j := 2) rfl rfl ?_
  refine g_cvi 174 C (As := [.int l2]) (fun _ h => mX8_worked (a1 := l2) (σ := σ) h) wl_X8_250 wi_X8_worked wz_X8_worked wc_X8_worked wn_X8 qX8_worked rfl rfl ⟨Nat.le_of_ble_eq_true rfl, Nat.le_of_ble_eq_true rfl⟩ rfl rfl rfl rfl (Nat.le_of_ble_eq_true rfl) dX8_reckonsNeeded_171 rfl h (fun o3 h => ?_)
  refine g_iast 175 C rfl dX8_reckonsNeeded_174 rfl h (fun h => ?_)
  exact tX8_reckonsNeeded_L175 (l1 := l1) (l2 := l2) (σ := up2 o3.2 12 l2.toNatClampNeg o3.1) C K0 h K
noncomputable def fX8_reckonsNeeded_L121 (l1 : Int32) (l2 : Int32) (s1 : Int32) (s2 : Int32) (σ : Mem) : Option ((Int32 × Mem) ⊕ (Mem)) :=
  chk (inb s1 30) <|
  fX8_reckonsNeeded_L175 l1 l2 (up2 σ 12 s1.toNatClampNeg s2)
set_option maxHeartbeats 4000000 in
set_option maxRecDepth 100000 in
theorem tX8_reckonsNeeded_L121 {E : Gx} {cI : ClassId} {ad : Nat → Nat} (C : Cx E rmX8_reckonsNeeded cI layM ad 3 RX8 cX8_reckonsNeeded) {out : Mem} (K0 : KV E rmX8_reckonsNeeded cI layM ad 3 cX8_reckonsNeeded out) {l1 : Int32} {l2 : Int32} {s1 : Int32} {s2 : Int32} {σ : Mem} {res : (Int32 × Mem) ⊕ (Mem)} (h : fX8_reckonsNeeded_L121 l1 l2 s1 s2 σ = some res) (K : Sum.elim (fun a => G E rmX8_reckonsNeeded cI layM ad 3 30 [(0, .ref (ad 0)), (1, .int l1), (2, .int a.1)] [] a.2) (fun b => G E rmX8_reckonsNeeded cI layM ad 3 181 [] [] b) res) : G E rmX8_reckonsNeeded cI layM ad 3 121 [(0, .ref (ad 0)), (1, .int l1), (2, .int l2)] [.int s2, .int s1, .ref (ad 12)] σ := by
  unfold fX8_reckonsNeeded_L121 at h
  refine g_iast 122 C rfl dX8_reckonsNeeded_121 rfl h (fun h => ?_)
  refine g_goto 175 C dX8_reckonsNeeded_122 (by decide) ?_
  exact tX8_reckonsNeeded_L175 (l1 := l1) (l2 := l2) (σ := up2 σ 12 s1.toNatClampNeg s2) C K0 h K
noncomputable def fX8_reckonsNeeded_B30 (l1 : Int32) (l2 : Int32) (σ : Mem) : Option ((Int32 × Mem) ⊕ (Mem)) :=
  if (σ 0 6) ≤ l2 then
    some (.inr σ)
  else
    (fX8_has (σ 0 20) l2 σ).bind fun o2 =>
    if o2.1 = 0 then
      chk (inb l2 30) <|
      fX8_reckonsNeeded_L175 l1 l2 (up2 o2.2 12 l2.toNatClampNeg 0)
    else
      chk (inb l2 30) <|
      if (o2.2 7 l2.toNatClampNeg) = 0 then
        (fX8_valueOf l2 0 o2.2).bind fun o6 =>
        chk (inb l2 30) <|
        fX8_reckonsNeeded_L175 l1 l2 (up2 o6.2 12 l2.toNatClampNeg o6.1)
      else
        chk (inb l2 30) <|
        if (o2.2 2 l2.toNatClampNeg) = 5 then
          if l1 = 0 then
            chk (inb l2 30) <|
            chk (inb (o2.2 4 l2.toNatClampNeg) 30) <|
            fX8_reckonsNeeded_L121 l1 l2 l2 (o2.2 13 (o2.2 4 l2.toNatClampNeg).toNatClampNeg) o2.2
          else
            (fX8_startOf l2 o2.2).bind fun o5 =>
            fX8_reckonsNeeded_L121 l1 l2 l2 o5.1 o5.2
        else
          chk (inb l2 30) <|
          if (o2.2 2 l2.toNatClampNeg) = 4 then
            chk (inb l2 30) <|
            if (o2.2 7 l2.toNatClampNeg) = 1 then
              (fX8_cellFor l2 o2.2).bind fun o4 =>
              chk (inb o4.1 90) <|
              chk (inb l2 30) <|
              fX8_reckonsNeeded_L175 l1 l2 (up2 o4.2 12 l2.toNatClampNeg (o4.2 14 o4.1.toNatClampNeg))
            else
              fX8_reckonsNeeded_L164 l1 l2 o2.2
          else
            fX8_reckonsNeeded_L164 l1 l2 o2.2
set_option maxHeartbeats 4000000 in
set_option maxRecDepth 100000 in
theorem tX8_reckonsNeeded_B30 {E : Gx} {cI : ClassId} {ad : Nat → Nat} (C : Cx E rmX8_reckonsNeeded cI layM ad 3 RX8 cX8_reckonsNeeded) {out : Mem} (K0 : KV E rmX8_reckonsNeeded cI layM ad 3 cX8_reckonsNeeded out) {l1 : Int32} {l2 : Int32} {σ : Mem} {res : (Int32 × Mem) ⊕ (Mem)} (h : fX8_reckonsNeeded_B30 l1 l2 σ = some res) (K : Sum.elim (fun a => G E rmX8_reckonsNeeded cI layM ad 3 30 [(0, .ref (ad 0)), (1, .int l1), (2, .int a.1)] [] a.2) (fun b => G E rmX8_reckonsNeeded cI layM ad 3 181 [] [] b) res) : G E rmX8_reckonsNeeded cI layM ad 3 30 [(0, .ref (ad 0)), (1, .int l1), (2, .int l2)] [] σ := by
  unfold fX8_reckonsNeeded_B30 at h
  refine g_iload_n 31 C dX8_reckonsNeeded_30 rfl (j := 2) rfl rfl ?_
  refine g_aload_n 32 C dX8_reckonsNeeded_31 rfl (j := 0) rfl rfl ?_
  refine g_geti 35 (j := 6) C rfl rfl wu_X8 (by decide) wf_X8_72 rfl dX8_reckonsNeeded_32 rfl ?_
  refine g_icmp_ge 181 38 C dX8_reckonsNeeded_35 (by decide) rfl h (fun h => ?_) (fun h => ?_)
  · have hh := end_inr h K
    exact g_sub [] (hh) rfl
  · refine g_aload_n 39 C dX8_reckonsNeeded_38 rfl (j := 0) rfl rfl ?_
    refine g_geti 42 (j := 20) C rfl rfl wu_X8 (by decide) wf_X8_237 rfl dX8_reckonsNeeded_39 rfl ?_
    refine g_iload_n 43 C dX8_reckonsNeeded_42 rfl (j := 2) rfl rfl ?_
    refine g_csi 46 C (As := [.int (σ 0 20), .int l2]) (fun _ h => mX8_has (a1 := σ 0 20) (a2 := l2) (σ := σ) h) wl_X8_102 ws_X8_has wc_X8_has wn_X8 qX8_has rfl rfl ⟨Nat.le_of_ble_eq_true rfl, Nat.le_of_ble_eq_true rfl⟩ rfl rfl (Nat.le_of_ble_eq_true rfl) dX8_reckonsNeeded_43 rfl h (fun o2 h => ?_)
    refine g_if_ne 59 49 C dX8_reckonsNeeded_46 (by decide) rfl h (fun h => ?_) (fun h => ?_)
    · refine g_aload_n 50 C dX8_reckonsNeeded_49 rfl (j := 0) rfl rfl ?_
      refine g_getr 53 (j := 21) C rfl rfl wu_X8 (by decide) wf_X8_54 rfl dX8_reckonsNeeded_50 rfl ?_
      refine g_iload_n 54 C dX8_reckonsNeeded_53 rfl (j := 2) rfl rfl ?_
      refine g_iconst 55 (v := 0) C dX8_reckonsNeeded_54 (by decide) rfl ?_
      refine g_iast 56 C rfl dX8_reckonsNeeded_55 rfl h (fun h => ?_)
      refine g_goto 175 C dX8_reckonsNeeded_56 (by decide) ?_
      exact tX8_reckonsNeeded_L175 (l1 := l1) (l2 := l2) (σ := up2 o2.2 12 l2.toNatClampNeg 0) C K0 h K
    · refine g_aload_n 60 C dX8_reckonsNeeded_59 rfl (j := 0) rfl rfl ?_
      refine g_getr 63 (j := 14) C rfl rfl wu_X8 (by decide) wf_X8_39 rfl dX8_reckonsNeeded_60 rfl ?_
      refine g_iload_n 64 C dX8_reckonsNeeded_63 rfl (j := 2) rfl rfl ?_
      refine g_iald 65 C rfl dX8_reckonsNeeded_64 rfl h (fun h => ?_)
      refine g_if_ne 83 68 C dX8_reckonsNeeded_65 (by decide) rfl h (fun h => ?_) (fun h => ?_)
      · refine g_aload_n 69 C dX8_reckonsNeeded_68 rfl (j := 0) rfl rfl ?_
        refine g_getr 72 (j := 21) C rfl rfl wu_X8 (by decide) wf_X8_54 rfl dX8_reckonsNeeded_69 rfl ?_
        refine g_iload_n 73 C dX8_reckonsNeeded_72 rfl (j := 2) rfl rfl ?_
        refine g_aload_n 74 C dX8_reckonsNeeded_73 rfl (j := 0) rfl rfl ?_
        refine g_iload_n 75 C dX8_reckonsNeeded_74 rfl (j := 2) rfl rfl ?_
        refine g_iconst 76 (v := 0) C dX8_reckonsNeeded_75 (by decide) rfl ?_
        refine g_cvi 79 C (As := [.int l2, .int 0]) (fun _ h => mX8_valueOf (a1 := l2) (a2 := 0) (σ := o2.2) h) wl_X8_208 wi_X8_valueOf wz_X8_valueOf wc_X8_valueOf wn_X8 qX8_valueOf rfl rfl ⟨Nat.le_of_ble_eq_true rfl, Nat.le_of_ble_eq_true rfl⟩ rfl rfl rfl rfl (Nat.le_of_ble_eq_true rfl) dX8_reckonsNeeded_76 rfl h (fun o6 h => ?_)
        refine g_iast 80 C rfl dX8_reckonsNeeded_79 rfl h (fun h => ?_)
        refine g_goto 175 C dX8_reckonsNeeded_80 (by decide) ?_
        exact tX8_reckonsNeeded_L175 (l1 := l1) (l2 := l2) (σ := up2 o6.2 12 l2.toNatClampNeg o6.1) C K0 h K
      · refine g_aload_n 84 C dX8_reckonsNeeded_83 rfl (j := 0) rfl rfl ?_
        refine g_getr 87 (j := 3) C rfl rfl wu_X8 (by decide) wf_X8_14 rfl dX8_reckonsNeeded_84 rfl ?_
        refine g_iload_n 88 C dX8_reckonsNeeded_87 rfl (j := 2) rfl rfl ?_
        refine g_iald 89 C rfl dX8_reckonsNeeded_88 rfl h (fun h => ?_)
        refine g_iconst 90 (v := 5) C dX8_reckonsNeeded_89 (by decide) rfl ?_
        refine g_icmp_ne 125 93 C dX8_reckonsNeeded_90 (by decide) rfl h (fun h => ?_) (fun h => ?_)
        · refine g_aload_n 94 C dX8_reckonsNeeded_93 rfl (j := 0) rfl rfl ?_
          refine g_getr 97 (j := 21) C rfl rfl wu_X8 (by decide) wf_X8_54 rfl dX8_reckonsNeeded_94 rfl ?_
          refine g_iload_n 98 C dX8_reckonsNeeded_97 rfl (j := 2) rfl rfl ?_
          refine g_iload_n 99 C dX8_reckonsNeeded_98 rfl (j := 1) rfl rfl ?_
          refine g_if_eq 110 102 C dX8_reckonsNeeded_99 (by decide) rfl h (fun h => ?_) (fun h => ?_)
          · refine g_aload_n 111 C dX8_reckonsNeeded_110 rfl (j := 0) rfl rfl ?_
            refine g_getr 114 (j := 22) C rfl rfl wu_X8 (by decide) wf_X8_57 rfl dX8_reckonsNeeded_111 rfl ?_
            refine g_aload_n 115 C dX8_reckonsNeeded_114 rfl (j := 0) rfl rfl ?_
            refine g_getr 118 (j := 5) C rfl rfl wu_X8 (by decide) wf_X8_20 rfl dX8_reckonsNeeded_115 rfl ?_
            refine g_iload_n 119 C dX8_reckonsNeeded_118 rfl (j := 2) rfl rfl ?_
            refine g_iald 120 C rfl dX8_reckonsNeeded_119 rfl h (fun h => ?_)
            refine g_iald 121 C rfl dX8_reckonsNeeded_120 rfl h (fun h => ?_)
            exact tX8_reckonsNeeded_L121 (l1 := l1) (l2 := l2) (s1 := l2) (s2 := (o2.2 13 (o2.2 4 l2.toNatClampNeg).toNatClampNeg)) (σ := o2.2) C K0 h K
          · refine g_aload_n 103 C dX8_reckonsNeeded_102 rfl (j := 0) rfl rfl ?_
            refine g_iload_n 104 C dX8_reckonsNeeded_103 rfl (j := 2) rfl rfl ?_
            refine g_cvi 107 C (As := [.int l2]) (fun _ h => mX8_startOf (a1 := l2) (σ := o2.2) h) wl_X8_216 wi_X8_startOf wz_X8_startOf wc_X8_startOf wn_X8 qX8_startOf rfl rfl ⟨Nat.le_of_ble_eq_true rfl, Nat.le_of_ble_eq_true rfl⟩ rfl rfl rfl rfl (Nat.le_of_ble_eq_true rfl) dX8_reckonsNeeded_104 rfl h (fun o5 h => ?_)
            refine g_goto 121 C dX8_reckonsNeeded_107 (by decide) ?_
            exact tX8_reckonsNeeded_L121 (l1 := l1) (l2 := l2) (s1 := l2) (s2 := o5.1) (σ := o5.2) C K0 h K
        · refine g_aload_n 126 C dX8_reckonsNeeded_125 rfl (j := 0) rfl rfl ?_
          refine g_getr 129 (j := 3) C rfl rfl wu_X8 (by decide) wf_X8_14 rfl dX8_reckonsNeeded_126 rfl ?_
          refine g_iload_n 130 C dX8_reckonsNeeded_129 rfl (j := 2) rfl rfl ?_
          refine g_iald 131 C rfl dX8_reckonsNeeded_130 rfl h (fun h => ?_)
          refine g_iconst 132 (v := 4) C dX8_reckonsNeeded_131 (by decide) rfl ?_
          refine g_icmp_ne 164 135 C dX8_reckonsNeeded_132 (by decide) rfl h (fun h => ?_) (fun h => ?_)
          · refine g_aload_n 136 C dX8_reckonsNeeded_135 rfl (j := 0) rfl rfl ?_
            refine g_getr 139 (j := 14) C rfl rfl wu_X8 (by decide) wf_X8_39 rfl dX8_reckonsNeeded_136 rfl ?_
            refine g_iload_n 140 C dX8_reckonsNeeded_139 rfl (j := 2) rfl rfl ?_
            refine g_iald 141 C rfl dX8_reckonsNeeded_140 rfl h (fun h => ?_)
            refine g_iconst 142 (v := 1) C dX8_reckonsNeeded_141 (by decide) rfl ?_
            refine g_icmp_ne 164 145 C dX8_reckonsNeeded_142 (by decide) rfl h (fun h => ?_) (fun h => ?_)
            · refine g_aload_n 146 C dX8_reckonsNeeded_145 rfl (j := 0) rfl rfl ?_
              refine g_getr 149 (j := 21) C rfl rfl wu_X8 (by decide) wf_X8_54 rfl dX8_reckonsNeeded_146 rfl ?_
              refine g_iload_n 150 C dX8_reckonsNeeded_149 rfl (j := 2) rfl rfl ?_
              refine g_aload_n 151 C dX8_reckonsNeeded_150 rfl (j := 0) rfl rfl ?_
              refine g_getr 154 (j := 23) C rfl rfl wu_X8 (by decide) wf_X8_60 rfl dX8_reckonsNeeded_151 rfl ?_
              refine g_aload_n 155 C dX8_reckonsNeeded_154 rfl (j := 0) rfl rfl ?_
              refine g_iload_n 156 C dX8_reckonsNeeded_155 rfl (j := 2) rfl rfl ?_
              refine g_cvi 159 C (As := [.int l2]) (fun _ h => mX8_cellFor (a1 := l2) (σ := o2.2) h) wl_X8_253 wi_X8_cellFor wz_X8_cellFor wc_X8_cellFor wn_X8 qX8_cellFor rfl rfl ⟨Nat.le_of_ble_eq_true rfl, Nat.le_of_ble_eq_true rfl⟩ rfl rfl rfl rfl (Nat.le_of_ble_eq_true rfl) dX8_reckonsNeeded_156 rfl h (fun o4 h => ?_)
              refine g_iald 160 C rfl dX8_reckonsNeeded_159 rfl h (fun h => ?_)
              refine g_iast 161 C rfl dX8_reckonsNeeded_160 rfl h (fun h => ?_)
              refine g_goto 175 C dX8_reckonsNeeded_161 (by decide) ?_
              exact tX8_reckonsNeeded_L175 (l1 := l1) (l2 := l2) (σ := up2 o4.2 12 l2.toNatClampNeg (o4.2 14 o4.1.toNatClampNeg)) C K0 h K
            · exact tX8_reckonsNeeded_L164 (l1 := l1) (l2 := l2) (σ := o2.2) C K0 h K
          · exact tX8_reckonsNeeded_L164 (l1 := l1) (l2 := l2) (σ := o2.2) C K0 h K
noncomputable def fX8_reckonsNeeded_L181 (σ : Mem) : Option (Mem) :=
  some σ
set_option maxHeartbeats 4000000 in
set_option maxRecDepth 100000 in
theorem tX8_reckonsNeeded_L181 {E : Gx} {cI : ClassId} {ad : Nat → Nat} (C : Cx E rmX8_reckonsNeeded cI layM ad 3 RX8 cX8_reckonsNeeded) {out : Mem} (K0 : KV E rmX8_reckonsNeeded cI layM ad 3 cX8_reckonsNeeded out) {σ : Mem} (h : fX8_reckonsNeeded_L181 σ = some out) : G E rmX8_reckonsNeeded cI layM ad 3 181 [] [] σ := by
  unfold fX8_reckonsNeeded_L181 at h
  cases h
  exact K0 _ _ dX8_reckonsNeeded_181
noncomputable def fX8_reckonsNeeded_L28 (l1 : Int32) (σ : Mem) : Option (Mem) :=
  (loop (fun a => fX8_reckonsNeeded_B30 l1 a.1 a.2) (0, σ)).bind fun b7 =>
  fX8_reckonsNeeded_L181 b7
set_option maxHeartbeats 4000000 in
set_option maxRecDepth 100000 in
theorem tX8_reckonsNeeded_L28 {E : Gx} {cI : ClassId} {ad : Nat → Nat} (C : Cx E rmX8_reckonsNeeded cI layM ad 3 RX8 cX8_reckonsNeeded) {out : Mem} (K0 : KV E rmX8_reckonsNeeded cI layM ad 3 cX8_reckonsNeeded out) {l1 : Int32} {σ : Mem} (h : fX8_reckonsNeeded_L28 l1 σ = some out) : G E rmX8_reckonsNeeded cI layM ad 3 28 [(0, .ref (ad 0)), (1, .int l1)] [] σ := by
  unfold fX8_reckonsNeeded_L28 at h
  refine g_iconst 29 (v := 0) C dX8_reckonsNeeded_28 (by decide) rfl ?_
  refine g_istore_n 30 [(2, .int 0), (0, .ref (ad 0)), (1, .int l1)] C dX8_reckonsNeeded_29 rfl (by decide) rfl rfl ?_
  obtain ⟨b7, hb, h⟩ := bind_some h
  refine g_sub [1, 2, 0] (g_loop (a := (0, σ)) (fun a => G E rmX8_reckonsNeeded cI layM ad 3 30 [(0, .ref (ad 0)), (1, .int l1), (2, .int a.1)] [] a.2) (fun b => G E rmX8_reckonsNeeded cI layM ad 3 181 [] [] b) hb (fun a res h K => tX8_reckonsNeeded_B30 (l1 := l1) (l2 := a.1) (σ := a.2) (res := res) C K0 h K) ?_) rfl
  show G E rmX8_reckonsNeeded cI layM ad 3 181 [] [] b7
  exact tX8_reckonsNeeded_L181 (σ := b7) C K0 h
noncomputable def fX8_reckonsNeeded (a1 : Int32) (σ : Mem) : Option (Mem) :=
  (loop (fun a => fX8_reckonsNeeded_B2 a1 a.1 a.2) (0, σ)).bind fun b1 =>
  fX8_reckonsNeeded_L28 a1 b1
set_option maxHeartbeats 4000000 in
set_option maxRecDepth 100000 in
theorem mX8_reckonsNeeded {l : Launch} {D : va_G} {cI : ClassId} {ad : Nat → Nat} {a1 : Int32} {σ : Mem} {out : Mem} (h : fX8_reckonsNeeded a1 σ = some out) : MV l D cI layM ad yX8_reckonsNeeded cX8_reckonsNeeded 3 rmX8_reckonsNeeded [.ref (ad 0), .int a1] σ out := by
  refine met_v (by decide) (Nat.le_of_ble_eq_true rfl) (fun E C K0 => ?_)
  show G E rmX8_reckonsNeeded cI layM ad 3 0 [(0, .ref (ad 0)), (1, .int a1)] [] σ
  unfold fX8_reckonsNeeded at h
  refine g_iconst 1 (v := 0) C dX8_reckonsNeeded_0 (by decide) rfl ?_
  refine g_istore_n 2 [(2, .int 0), (0, .ref (ad 0)), (1, .int a1)] C dX8_reckonsNeeded_1 rfl (by decide) rfl rfl ?_
  obtain ⟨b1, hb, h⟩ := bind_some h
  refine g_sub [1, 2, 0] (g_loop (a := (0, σ)) (fun a => G E rmX8_reckonsNeeded cI layM ad 3 2 [(0, .ref (ad 0)), (1, .int a1), (2, .int a.1)] [] a.2) (fun b => G E rmX8_reckonsNeeded cI layM ad 3 28 [(0, .ref (ad 0)), (1, .int a1)] [] b) hb (fun a res h K => tX8_reckonsNeeded_B2 (l1 := a1) (l2 := a.1) (σ := a.2) (res := res) C K0 h K) ?_) rfl
  show G E rmX8_reckonsNeeded cI layM ad 3 28 [(0, .ref (ad 0)), (1, .int a1)] [] b1
  exact tX8_reckonsNeeded_L28 (l1 := a1) (σ := b1) C K0 h

/-! LoopReducerModel.runs(Z)I -/
abbrev rmX8_runs : Room := { frames := 8, cells := 0, slots := 0, locals := 191 }
theorem qX8_runs : yX8_runs.cls ≠ "java/lang/invoke/MethodHandle" ∧ yX8_runs.cls ≠ "java/lang/invoke/VarHandle" ∧ (parseMethodDescriptor yX8_runs.desc).map (fun d => d.parameters.length) = some 1 := by decide +kernel
theorem DX8_runs : ∀ q ∈ ([(0, .aload_n 0, 1), (1, .getfield 23, 3), (4, .iconst (-1), 1), (5, .if_icmp .ne 5, 3), (8, .iconst (-1), 1), (9, .ireturn, 1), (10, .iload_n 1, 1), (11, .ifCond .eq 38, 3), (14, .aload_n 0, 1), (15, .invokevirtual 243, 3), (18, .iconst 0, 1), (19, .istore_n 2, 1), (20, .iload_n 2, 1), (21, .aload_n 0, 1), (22, .getfield 223, 3), (25, .if_icmp .ge 24, 3), (28, .aload_n 0, 1), (29, .getfield 60, 3), (32, .iload_n 2, 1), (33, .aload_n 0, 1), (34, .bipush 34, 2), (36, .iload_n 2, 1), (37, .iadd, 1), (38, .iconst 0, 1), (39, .invokevirtual 208, 3), (42, .iastore, 1), (43, .iinc 2 1, 3), (46, .goto (-26), 3), (49, .aload_n 0, 1), (50, .iconst 0, 1), (51, .putfield 256, 3), (54, .iconst 0, 1), (55, .istore_n 2, 1), (56, .iload_n 2, 1), (57, .sipush 300, 3), (60, .if_icmp .ge 128, 3), (63, .iload_n 1, 1), (64, .ifCond .eq 11, 3), (67, .iload_n 2, 1), (68, .ifCond .le 7, 3), (71, .aload_n 0, 1), (72, .invokevirtual 259, 3), (75, .iload_n 1, 1), (76, .ifCond .eq 19, 3), (79, .aload_n 0, 1), (80, .iload_n 2, 1), (81, .ifCond .ne 7, 3), (84, .iconst 1, 1), (85, .goto 4, 3), (88, .iconst 0, 1), (89, .invokevirtual 262, 3), (92, .goto 16, 3), (95, .aload_n 0, 1), (96, .iload_n 2, 1), (97, .ifCond .ne 7, 3), (100, .iconst 1, 1), (101, .goto 4, 3), (104, .iconst 0, 1), (105, .invokevirtual 266, 3), (108, .aload_n 0, 1), (109, .invokevirtual 269, 3), (112, .ifCond .ne 5, 3), (115, .iload_n 2, 1), (116, .ireturn, 1), (117, .iconst 0, 1), (118, .istore_n 3, 1), (119, .iload_n 3, 1), (120, .aload_n 0, 1), (121, .getfield 72, 3), (124, .if_icmp .ge 58, 3), (127, .aload_n 0, 1), (128, .getfield 99, 3), (131, .iload_n 3, 1), (132, .invokestatic 102, 3), (135, .ifCond .eq 41, 3), (138, .aload_n 0, 1), (139, .getfield 256, 3), (142, .sipush 400, 3), (145, .if_icmp .ne 6, 3), (148, .goto 28, 3), (151, .aload_n 0, 1), (152, .getfield 63, 3), (155, .aload_n 0, 1), (156, .getfield 256, 3), (159, .aload_n 0, 1), (160, .getfield 54, 3), (163, .iload_n 3, 1), (164, .iaload, 1), (165, .iastore, 1), (166, .aload_n 0, 1), (167, .dup, 1), (168, .getfield 256, 3), (171, .iconst 1, 1), (172, .iadd, 1), (173, .putfield 256, 3), (176, .iinc 3 1, 3), (179, .goto (-60), 3), (182, .iinc 2 1, 3), (185, .goto (-129), 3), (188, .bipush (-2), 2), (190, .ireturn, 1)] : List (Nat × Instr × Nat)), decode cX8_runs q.1 = .ok q.2 := by decide +kernel
theorem dX8_runs_0 : decode cX8_runs 0 = .ok (.aload_n 0, 1) := DX8_runs (0, .aload_n 0, 1) (List.mem_of_getElem? (i := 0) rfl)
theorem dX8_runs_1 : decode cX8_runs 1 = .ok (.getfield 23, 3) := DX8_runs (1, .getfield 23, 3) (List.mem_of_getElem? (i := 1) rfl)
theorem dX8_runs_4 : decode cX8_runs 4 = .ok (.iconst (-1), 1) := DX8_runs (4, .iconst (-1), 1) (List.mem_of_getElem? (i := 2) rfl)
theorem dX8_runs_5 : decode cX8_runs 5 = .ok (.if_icmp .ne 5, 3) := DX8_runs (5, .if_icmp .ne 5, 3) (List.mem_of_getElem? (i := 3) rfl)
theorem dX8_runs_8 : decode cX8_runs 8 = .ok (.iconst (-1), 1) := DX8_runs (8, .iconst (-1), 1) (List.mem_of_getElem? (i := 4) rfl)
theorem dX8_runs_9 : decode cX8_runs 9 = .ok (.ireturn, 1) := DX8_runs (9, .ireturn, 1) (List.mem_of_getElem? (i := 5) rfl)
theorem dX8_runs_10 : decode cX8_runs 10 = .ok (.iload_n 1, 1) := DX8_runs (10, .iload_n 1, 1) (List.mem_of_getElem? (i := 6) rfl)
theorem dX8_runs_11 : decode cX8_runs 11 = .ok (.ifCond .eq 38, 3) := DX8_runs (11, .ifCond .eq 38, 3) (List.mem_of_getElem? (i := 7) rfl)
theorem dX8_runs_14 : decode cX8_runs 14 = .ok (.aload_n 0, 1) := DX8_runs (14, .aload_n 0, 1) (List.mem_of_getElem? (i := 8) rfl)
theorem dX8_runs_15 : decode cX8_runs 15 = .ok (.invokevirtual 243, 3) := DX8_runs (15, .invokevirtual 243, 3) (List.mem_of_getElem? (i := 9) rfl)
theorem dX8_runs_18 : decode cX8_runs 18 = .ok (.iconst 0, 1) := DX8_runs (18, .iconst 0, 1) (List.mem_of_getElem? (i := 10) rfl)
theorem dX8_runs_19 : decode cX8_runs 19 = .ok (.istore_n 2, 1) := DX8_runs (19, .istore_n 2, 1) (List.mem_of_getElem? (i := 11) rfl)
theorem dX8_runs_20 : decode cX8_runs 20 = .ok (.iload_n 2, 1) := DX8_runs (20, .iload_n 2, 1) (List.mem_of_getElem? (i := 12) rfl)
theorem dX8_runs_21 : decode cX8_runs 21 = .ok (.aload_n 0, 1) := DX8_runs (21, .aload_n 0, 1) (List.mem_of_getElem? (i := 13) rfl)
theorem dX8_runs_22 : decode cX8_runs 22 = .ok (.getfield 223, 3) := DX8_runs (22, .getfield 223, 3) (List.mem_of_getElem? (i := 14) rfl)
theorem dX8_runs_25 : decode cX8_runs 25 = .ok (.if_icmp .ge 24, 3) := DX8_runs (25, .if_icmp .ge 24, 3) (List.mem_of_getElem? (i := 15) rfl)
theorem dX8_runs_28 : decode cX8_runs 28 = .ok (.aload_n 0, 1) := DX8_runs (28, .aload_n 0, 1) (List.mem_of_getElem? (i := 16) rfl)
theorem dX8_runs_29 : decode cX8_runs 29 = .ok (.getfield 60, 3) := DX8_runs (29, .getfield 60, 3) (List.mem_of_getElem? (i := 17) rfl)
theorem dX8_runs_32 : decode cX8_runs 32 = .ok (.iload_n 2, 1) := DX8_runs (32, .iload_n 2, 1) (List.mem_of_getElem? (i := 18) rfl)
theorem dX8_runs_33 : decode cX8_runs 33 = .ok (.aload_n 0, 1) := DX8_runs (33, .aload_n 0, 1) (List.mem_of_getElem? (i := 19) rfl)
theorem dX8_runs_34 : decode cX8_runs 34 = .ok (.bipush 34, 2) := DX8_runs (34, .bipush 34, 2) (List.mem_of_getElem? (i := 20) rfl)
theorem dX8_runs_36 : decode cX8_runs 36 = .ok (.iload_n 2, 1) := DX8_runs (36, .iload_n 2, 1) (List.mem_of_getElem? (i := 21) rfl)
theorem dX8_runs_37 : decode cX8_runs 37 = .ok (.iadd, 1) := DX8_runs (37, .iadd, 1) (List.mem_of_getElem? (i := 22) rfl)
theorem dX8_runs_38 : decode cX8_runs 38 = .ok (.iconst 0, 1) := DX8_runs (38, .iconst 0, 1) (List.mem_of_getElem? (i := 23) rfl)
theorem dX8_runs_39 : decode cX8_runs 39 = .ok (.invokevirtual 208, 3) := DX8_runs (39, .invokevirtual 208, 3) (List.mem_of_getElem? (i := 24) rfl)
theorem dX8_runs_42 : decode cX8_runs 42 = .ok (.iastore, 1) := DX8_runs (42, .iastore, 1) (List.mem_of_getElem? (i := 25) rfl)
theorem dX8_runs_43 : decode cX8_runs 43 = .ok (.iinc 2 1, 3) := DX8_runs (43, .iinc 2 1, 3) (List.mem_of_getElem? (i := 26) rfl)
theorem dX8_runs_46 : decode cX8_runs 46 = .ok (.goto (-26), 3) := DX8_runs (46, .goto (-26), 3) (List.mem_of_getElem? (i := 27) rfl)
theorem dX8_runs_49 : decode cX8_runs 49 = .ok (.aload_n 0, 1) := DX8_runs (49, .aload_n 0, 1) (List.mem_of_getElem? (i := 28) rfl)
theorem dX8_runs_50 : decode cX8_runs 50 = .ok (.iconst 0, 1) := DX8_runs (50, .iconst 0, 1) (List.mem_of_getElem? (i := 29) rfl)
theorem dX8_runs_51 : decode cX8_runs 51 = .ok (.putfield 256, 3) := DX8_runs (51, .putfield 256, 3) (List.mem_of_getElem? (i := 30) rfl)
theorem dX8_runs_54 : decode cX8_runs 54 = .ok (.iconst 0, 1) := DX8_runs (54, .iconst 0, 1) (List.mem_of_getElem? (i := 31) rfl)
theorem dX8_runs_55 : decode cX8_runs 55 = .ok (.istore_n 2, 1) := DX8_runs (55, .istore_n 2, 1) (List.mem_of_getElem? (i := 32) rfl)
theorem dX8_runs_56 : decode cX8_runs 56 = .ok (.iload_n 2, 1) := DX8_runs (56, .iload_n 2, 1) (List.mem_of_getElem? (i := 33) rfl)
theorem dX8_runs_57 : decode cX8_runs 57 = .ok (.sipush 300, 3) := DX8_runs (57, .sipush 300, 3) (List.mem_of_getElem? (i := 34) rfl)
theorem dX8_runs_60 : decode cX8_runs 60 = .ok (.if_icmp .ge 128, 3) := DX8_runs (60, .if_icmp .ge 128, 3) (List.mem_of_getElem? (i := 35) rfl)
theorem dX8_runs_63 : decode cX8_runs 63 = .ok (.iload_n 1, 1) := DX8_runs (63, .iload_n 1, 1) (List.mem_of_getElem? (i := 36) rfl)
theorem dX8_runs_64 : decode cX8_runs 64 = .ok (.ifCond .eq 11, 3) := DX8_runs (64, .ifCond .eq 11, 3) (List.mem_of_getElem? (i := 37) rfl)
theorem dX8_runs_67 : decode cX8_runs 67 = .ok (.iload_n 2, 1) := DX8_runs (67, .iload_n 2, 1) (List.mem_of_getElem? (i := 38) rfl)
theorem dX8_runs_68 : decode cX8_runs 68 = .ok (.ifCond .le 7, 3) := DX8_runs (68, .ifCond .le 7, 3) (List.mem_of_getElem? (i := 39) rfl)
theorem dX8_runs_71 : decode cX8_runs 71 = .ok (.aload_n 0, 1) := DX8_runs (71, .aload_n 0, 1) (List.mem_of_getElem? (i := 40) rfl)
theorem dX8_runs_72 : decode cX8_runs 72 = .ok (.invokevirtual 259, 3) := DX8_runs (72, .invokevirtual 259, 3) (List.mem_of_getElem? (i := 41) rfl)
theorem dX8_runs_75 : decode cX8_runs 75 = .ok (.iload_n 1, 1) := DX8_runs (75, .iload_n 1, 1) (List.mem_of_getElem? (i := 42) rfl)
theorem dX8_runs_76 : decode cX8_runs 76 = .ok (.ifCond .eq 19, 3) := DX8_runs (76, .ifCond .eq 19, 3) (List.mem_of_getElem? (i := 43) rfl)
theorem dX8_runs_79 : decode cX8_runs 79 = .ok (.aload_n 0, 1) := DX8_runs (79, .aload_n 0, 1) (List.mem_of_getElem? (i := 44) rfl)
theorem dX8_runs_80 : decode cX8_runs 80 = .ok (.iload_n 2, 1) := DX8_runs (80, .iload_n 2, 1) (List.mem_of_getElem? (i := 45) rfl)
theorem dX8_runs_81 : decode cX8_runs 81 = .ok (.ifCond .ne 7, 3) := DX8_runs (81, .ifCond .ne 7, 3) (List.mem_of_getElem? (i := 46) rfl)
theorem dX8_runs_84 : decode cX8_runs 84 = .ok (.iconst 1, 1) := DX8_runs (84, .iconst 1, 1) (List.mem_of_getElem? (i := 47) rfl)
theorem dX8_runs_85 : decode cX8_runs 85 = .ok (.goto 4, 3) := DX8_runs (85, .goto 4, 3) (List.mem_of_getElem? (i := 48) rfl)
theorem dX8_runs_88 : decode cX8_runs 88 = .ok (.iconst 0, 1) := DX8_runs (88, .iconst 0, 1) (List.mem_of_getElem? (i := 49) rfl)
theorem dX8_runs_89 : decode cX8_runs 89 = .ok (.invokevirtual 262, 3) := DX8_runs (89, .invokevirtual 262, 3) (List.mem_of_getElem? (i := 50) rfl)
theorem dX8_runs_92 : decode cX8_runs 92 = .ok (.goto 16, 3) := DX8_runs (92, .goto 16, 3) (List.mem_of_getElem? (i := 51) rfl)
theorem dX8_runs_95 : decode cX8_runs 95 = .ok (.aload_n 0, 1) := DX8_runs (95, .aload_n 0, 1) (List.mem_of_getElem? (i := 52) rfl)
theorem dX8_runs_96 : decode cX8_runs 96 = .ok (.iload_n 2, 1) := DX8_runs (96, .iload_n 2, 1) (List.mem_of_getElem? (i := 53) rfl)
theorem dX8_runs_97 : decode cX8_runs 97 = .ok (.ifCond .ne 7, 3) := DX8_runs (97, .ifCond .ne 7, 3) (List.mem_of_getElem? (i := 54) rfl)
theorem dX8_runs_100 : decode cX8_runs 100 = .ok (.iconst 1, 1) := DX8_runs (100, .iconst 1, 1) (List.mem_of_getElem? (i := 55) rfl)
theorem dX8_runs_101 : decode cX8_runs 101 = .ok (.goto 4, 3) := DX8_runs (101, .goto 4, 3) (List.mem_of_getElem? (i := 56) rfl)
theorem dX8_runs_104 : decode cX8_runs 104 = .ok (.iconst 0, 1) := DX8_runs (104, .iconst 0, 1) (List.mem_of_getElem? (i := 57) rfl)
theorem dX8_runs_105 : decode cX8_runs 105 = .ok (.invokevirtual 266, 3) := DX8_runs (105, .invokevirtual 266, 3) (List.mem_of_getElem? (i := 58) rfl)
theorem dX8_runs_108 : decode cX8_runs 108 = .ok (.aload_n 0, 1) := DX8_runs (108, .aload_n 0, 1) (List.mem_of_getElem? (i := 59) rfl)
theorem dX8_runs_109 : decode cX8_runs 109 = .ok (.invokevirtual 269, 3) := DX8_runs (109, .invokevirtual 269, 3) (List.mem_of_getElem? (i := 60) rfl)
theorem dX8_runs_112 : decode cX8_runs 112 = .ok (.ifCond .ne 5, 3) := DX8_runs (112, .ifCond .ne 5, 3) (List.mem_of_getElem? (i := 61) rfl)
theorem dX8_runs_115 : decode cX8_runs 115 = .ok (.iload_n 2, 1) := DX8_runs (115, .iload_n 2, 1) (List.mem_of_getElem? (i := 62) rfl)
theorem dX8_runs_116 : decode cX8_runs 116 = .ok (.ireturn, 1) := DX8_runs (116, .ireturn, 1) (List.mem_of_getElem? (i := 63) rfl)
theorem dX8_runs_117 : decode cX8_runs 117 = .ok (.iconst 0, 1) := DX8_runs (117, .iconst 0, 1) (List.mem_of_getElem? (i := 64) rfl)
theorem dX8_runs_118 : decode cX8_runs 118 = .ok (.istore_n 3, 1) := DX8_runs (118, .istore_n 3, 1) (List.mem_of_getElem? (i := 65) rfl)
theorem dX8_runs_119 : decode cX8_runs 119 = .ok (.iload_n 3, 1) := DX8_runs (119, .iload_n 3, 1) (List.mem_of_getElem? (i := 66) rfl)
theorem dX8_runs_120 : decode cX8_runs 120 = .ok (.aload_n 0, 1) := DX8_runs (120, .aload_n 0, 1) (List.mem_of_getElem? (i := 67) rfl)
theorem dX8_runs_121 : decode cX8_runs 121 = .ok (.getfield 72, 3) := DX8_runs (121, .getfield 72, 3) (List.mem_of_getElem? (i := 68) rfl)
theorem dX8_runs_124 : decode cX8_runs 124 = .ok (.if_icmp .ge 58, 3) := DX8_runs (124, .if_icmp .ge 58, 3) (List.mem_of_getElem? (i := 69) rfl)
theorem dX8_runs_127 : decode cX8_runs 127 = .ok (.aload_n 0, 1) := DX8_runs (127, .aload_n 0, 1) (List.mem_of_getElem? (i := 70) rfl)
theorem dX8_runs_128 : decode cX8_runs 128 = .ok (.getfield 99, 3) := DX8_runs (128, .getfield 99, 3) (List.mem_of_getElem? (i := 71) rfl)
theorem dX8_runs_131 : decode cX8_runs 131 = .ok (.iload_n 3, 1) := DX8_runs (131, .iload_n 3, 1) (List.mem_of_getElem? (i := 72) rfl)
theorem dX8_runs_132 : decode cX8_runs 132 = .ok (.invokestatic 102, 3) := DX8_runs (132, .invokestatic 102, 3) (List.mem_of_getElem? (i := 73) rfl)
theorem dX8_runs_135 : decode cX8_runs 135 = .ok (.ifCond .eq 41, 3) := DX8_runs (135, .ifCond .eq 41, 3) (List.mem_of_getElem? (i := 74) rfl)
theorem dX8_runs_138 : decode cX8_runs 138 = .ok (.aload_n 0, 1) := DX8_runs (138, .aload_n 0, 1) (List.mem_of_getElem? (i := 75) rfl)
theorem dX8_runs_139 : decode cX8_runs 139 = .ok (.getfield 256, 3) := DX8_runs (139, .getfield 256, 3) (List.mem_of_getElem? (i := 76) rfl)
theorem dX8_runs_142 : decode cX8_runs 142 = .ok (.sipush 400, 3) := DX8_runs (142, .sipush 400, 3) (List.mem_of_getElem? (i := 77) rfl)
theorem dX8_runs_145 : decode cX8_runs 145 = .ok (.if_icmp .ne 6, 3) := DX8_runs (145, .if_icmp .ne 6, 3) (List.mem_of_getElem? (i := 78) rfl)
theorem dX8_runs_148 : decode cX8_runs 148 = .ok (.goto 28, 3) := DX8_runs (148, .goto 28, 3) (List.mem_of_getElem? (i := 79) rfl)
theorem dX8_runs_151 : decode cX8_runs 151 = .ok (.aload_n 0, 1) := DX8_runs (151, .aload_n 0, 1) (List.mem_of_getElem? (i := 80) rfl)
theorem dX8_runs_152 : decode cX8_runs 152 = .ok (.getfield 63, 3) := DX8_runs (152, .getfield 63, 3) (List.mem_of_getElem? (i := 81) rfl)
theorem dX8_runs_155 : decode cX8_runs 155 = .ok (.aload_n 0, 1) := DX8_runs (155, .aload_n 0, 1) (List.mem_of_getElem? (i := 82) rfl)
theorem dX8_runs_156 : decode cX8_runs 156 = .ok (.getfield 256, 3) := DX8_runs (156, .getfield 256, 3) (List.mem_of_getElem? (i := 83) rfl)
theorem dX8_runs_159 : decode cX8_runs 159 = .ok (.aload_n 0, 1) := DX8_runs (159, .aload_n 0, 1) (List.mem_of_getElem? (i := 84) rfl)
theorem dX8_runs_160 : decode cX8_runs 160 = .ok (.getfield 54, 3) := DX8_runs (160, .getfield 54, 3) (List.mem_of_getElem? (i := 85) rfl)
theorem dX8_runs_163 : decode cX8_runs 163 = .ok (.iload_n 3, 1) := DX8_runs (163, .iload_n 3, 1) (List.mem_of_getElem? (i := 86) rfl)
theorem dX8_runs_164 : decode cX8_runs 164 = .ok (.iaload, 1) := DX8_runs (164, .iaload, 1) (List.mem_of_getElem? (i := 87) rfl)
theorem dX8_runs_165 : decode cX8_runs 165 = .ok (.iastore, 1) := DX8_runs (165, .iastore, 1) (List.mem_of_getElem? (i := 88) rfl)
theorem dX8_runs_166 : decode cX8_runs 166 = .ok (.aload_n 0, 1) := DX8_runs (166, .aload_n 0, 1) (List.mem_of_getElem? (i := 89) rfl)
theorem dX8_runs_167 : decode cX8_runs 167 = .ok (.dup, 1) := DX8_runs (167, .dup, 1) (List.mem_of_getElem? (i := 90) rfl)
theorem dX8_runs_168 : decode cX8_runs 168 = .ok (.getfield 256, 3) := DX8_runs (168, .getfield 256, 3) (List.mem_of_getElem? (i := 91) rfl)
theorem dX8_runs_171 : decode cX8_runs 171 = .ok (.iconst 1, 1) := DX8_runs (171, .iconst 1, 1) (List.mem_of_getElem? (i := 92) rfl)
theorem dX8_runs_172 : decode cX8_runs 172 = .ok (.iadd, 1) := DX8_runs (172, .iadd, 1) (List.mem_of_getElem? (i := 93) rfl)
theorem dX8_runs_173 : decode cX8_runs 173 = .ok (.putfield 256, 3) := DX8_runs (173, .putfield 256, 3) (List.mem_of_getElem? (i := 94) rfl)
theorem dX8_runs_176 : decode cX8_runs 176 = .ok (.iinc 3 1, 3) := DX8_runs (176, .iinc 3 1, 3) (List.mem_of_getElem? (i := 95) rfl)
theorem dX8_runs_179 : decode cX8_runs 179 = .ok (.goto (-60), 3) := DX8_runs (179, .goto (-60), 3) (List.mem_of_getElem? (i := 96) rfl)
theorem dX8_runs_182 : decode cX8_runs 182 = .ok (.iinc 2 1, 3) := DX8_runs (182, .iinc 2 1, 3) (List.mem_of_getElem? (i := 97) rfl)
theorem dX8_runs_185 : decode cX8_runs 185 = .ok (.goto (-129), 3) := DX8_runs (185, .goto (-129), 3) (List.mem_of_getElem? (i := 98) rfl)
theorem dX8_runs_188 : decode cX8_runs 188 = .ok (.bipush (-2), 2) := DX8_runs (188, .bipush (-2), 2) (List.mem_of_getElem? (i := 99) rfl)
theorem dX8_runs_190 : decode cX8_runs 190 = .ok (.ireturn, 1) := DX8_runs (190, .ireturn, 1) (List.mem_of_getElem? (i := 100) rfl)
noncomputable def fX8_runs_L176 (l1 : Int32) (l2 : Int32) (l3 : Int32) (σ : Mem) : Option ((Int32 × Mem) ⊕ (Mem)) :=
  some (.inl (l3 + 1, σ))
set_option maxHeartbeats 4000000 in
set_option maxRecDepth 100000 in
theorem tX8_runs_L176 {E : Gx} {cI : ClassId} {ad : Nat → Nat} (C : Cx E rmX8_runs cI layM ad 4 RX8 cX8_runs) {out : Int32 × Mem} (K0 : KI E rmX8_runs cI layM ad 4 cX8_runs .int out) {l1 : Int32} {l2 : Int32} {l3 : Int32} {σ : Mem} {res : (Int32 × Mem) ⊕ (Mem)} (h : fX8_runs_L176 l1 l2 l3 σ = some res) (K : Sum.elim (fun a => G E rmX8_runs cI layM ad 4 119 [(0, .ref (ad 0)), (1, .int l1), (2, .int l2), (3, .int a.1)] [] a.2) (fun b => G E rmX8_runs cI layM ad 4 182 [(0, .ref (ad 0)), (1, .int l1), (2, .int l2)] [] b) res) : G E rmX8_runs cI layM ad 4 176 [(0, .ref (ad 0)), (1, .int l1), (2, .int l2), (3, .int l3)] [] σ := by
  unfold fX8_runs_L176 at h
  refine g_iinc 179 [(3, .int (l3 + 1)), (0, .ref (ad 0)), (1, .int l1), (2, .int l2)] C dX8_runs_176 (j := 3) rfl (by rfl) (by decide) rfl rfl ?_
  refine g_goto 119 C dX8_runs_179 (by decide) ?_
  have hh := end_inl h K
  exact g_sub [1, 2, 3, 0] (hh) rfl
noncomputable def fX8_runs_B119 (l1 : Int32) (l2 : Int32) (l3 : Int32) (σ : Mem) : Option ((Int32 × Mem) ⊕ (Mem)) :=
  if (σ 0 6) ≤ l3 then
    some (.inr σ)
  else
    (fX8_has (σ 0 7) l3 σ).bind fun o3 =>
    if o3.1 = 0 then
      fX8_runs_L176 l1 l2 l3 o3.2
    else
      if (o3.2 0 25) = 400 then
        fX8_runs_L176 l1 l2 l3 o3.2
      else
        chk (inb l3 30) <|
        chk (inb (o3.2 0 25) 400) <|
        fX8_runs_L176 l1 l2 l3 (up2 (up2 o3.2 15 (o3.2 0 25).toNatClampNeg (o3.2 12 l3.toNatClampNeg)) 0 25 (((up2 o3.2 15 (o3.2 0 25).toNatClampNeg (o3.2 12 l3.toNatClampNeg)) 0 25) + 1))
set_option maxHeartbeats 4000000 in
set_option maxRecDepth 100000 in
theorem tX8_runs_B119 {E : Gx} {cI : ClassId} {ad : Nat → Nat} (C : Cx E rmX8_runs cI layM ad 4 RX8 cX8_runs) {out : Int32 × Mem} (K0 : KI E rmX8_runs cI layM ad 4 cX8_runs .int out) {l1 : Int32} {l2 : Int32} {l3 : Int32} {σ : Mem} {res : (Int32 × Mem) ⊕ (Mem)} (h : fX8_runs_B119 l1 l2 l3 σ = some res) (K : Sum.elim (fun a => G E rmX8_runs cI layM ad 4 119 [(0, .ref (ad 0)), (1, .int l1), (2, .int l2), (3, .int a.1)] [] a.2) (fun b => G E rmX8_runs cI layM ad 4 182 [(0, .ref (ad 0)), (1, .int l1), (2, .int l2)] [] b) res) : G E rmX8_runs cI layM ad 4 119 [(0, .ref (ad 0)), (1, .int l1), (2, .int l2), (3, .int l3)] [] σ := by
  unfold fX8_runs_B119 at h
  refine g_iload_n 120 C dX8_runs_119 rfl (j := 3) rfl rfl ?_
  refine g_aload_n 121 C dX8_runs_120 rfl (j := 0) rfl rfl ?_
  refine g_geti 124 (j := 6) C rfl rfl wu_X8 (by decide) wf_X8_72 rfl dX8_runs_121 rfl ?_
  refine g_icmp_ge 182 127 C dX8_runs_124 (by decide) rfl h (fun h => ?_) (fun h => ?_)
  · have hh := end_inr h K
    exact g_sub [0, 1, 2] (hh) rfl
  · refine g_aload_n 128 C dX8_runs_127 rfl (j := 0) rfl rfl ?_
    refine g_geti 131 (j := 7) C rfl rfl wu_X8 (by decide) wf_X8_99 rfl dX8_runs_128 rfl ?_
    refine g_iload_n 132 C dX8_runs_131 rfl (j := 3) rfl rfl ?_
    refine g_csi 135 C (As := [.int (σ 0 7), .int l3]) (fun _ h => mX8_has (a1 := σ 0 7) (a2 := l3) (σ := σ) h) wl_X8_102 ws_X8_has wc_X8_has wn_X8 qX8_has rfl rfl ⟨Nat.le_of_ble_eq_true rfl, Nat.le_of_ble_eq_true rfl⟩ rfl rfl (Nat.le_of_ble_eq_true rfl) dX8_runs_132 rfl h (fun o3 h => ?_)
    refine g_if_eq 176 138 C dX8_runs_135 (by decide) rfl h (fun h => ?_) (fun h => ?_)
    · exact tX8_runs_L176 (l1 := l1) (l2 := l2) (l3 := l3) (σ := o3.2) C K0 h K
    · refine g_aload_n 139 C dX8_runs_138 rfl (j := 0) rfl rfl ?_
      refine g_geti 142 (j := 25) C rfl rfl wu_X8 (by decide) wf_X8_256 rfl dX8_runs_139 rfl ?_
      refine g_sipush 145 (v := 400) C dX8_runs_142 (by decide) rfl ?_
      refine g_icmp_ne 151 148 C dX8_runs_145 (by decide) rfl h (fun h => ?_) (fun h => ?_)
      · refine g_goto 176 C dX8_runs_148 (by decide) ?_
        exact tX8_runs_L176 (l1 := l1) (l2 := l2) (l3 := l3) (σ := o3.2) C K0 h K
      · refine g_aload_n 152 C dX8_runs_151 rfl (j := 0) rfl rfl ?_
        refine g_getr 155 (j := 24) C rfl rfl wu_X8 (by decide) wf_X8_63 rfl dX8_runs_152 rfl ?_
        refine g_aload_n 156 C dX8_runs_155 rfl (j := 0) rfl rfl ?_
        refine g_geti 159 (j := 25) C rfl rfl wu_X8 (by decide) wf_X8_256 rfl dX8_runs_156 rfl ?_
        refine g_aload_n 160 C dX8_runs_159 rfl (j := 0) rfl rfl ?_
        refine g_getr 163 (j := 21) C rfl rfl wu_X8 (by decide) wf_X8_54 rfl dX8_runs_160 rfl ?_
        refine g_iload_n 164 C dX8_runs_163 rfl (j := 3) rfl rfl ?_
        refine g_iald 165 C rfl dX8_runs_164 rfl h (fun h => ?_)
        refine g_iast 166 C rfl dX8_runs_165 rfl h (fun h => ?_)
        refine g_aload_n 167 C dX8_runs_166 rfl (j := 0) rfl rfl ?_
        refine g_dup 168 C dX8_runs_167 rfl rfl ?_
        refine g_geti 171 (j := 25) C rfl rfl wu_X8 (by decide) wf_X8_256 rfl dX8_runs_168 rfl ?_
        refine g_iconst 172 (v := 1) C dX8_runs_171 (by decide) rfl ?_
        refine g_iadd 173 C dX8_runs_172 rfl ?_
        refine g_puti 176 (j := 25) C rfl rfl wu_X8 (by decide) wf_X8_256 tyX8 tyX8_ok nmX8 rfl rfl rfl rfl dX8_runs_173 rfl ?_
        exact tX8_runs_L176 (l1 := l1) (l2 := l2) (l3 := l3) (σ := up2 (up2 o3.2 15 (o3.2 0 25).toNatClampNeg (o3.2 12 l3.toNatClampNeg)) 0 25 (((up2 o3.2 15 (o3.2 0 25).toNatClampNeg (o3.2 12 l3.toNatClampNeg)) 0 25) + 1)) C K0 h K
noncomputable def fX8_runs_L182 (l1 : Int32) (l2 : Int32) (σ : Mem) : Option ((Int32 × Mem) ⊕ ((Mem) ⊕ (Int32 × Mem))) :=
  some (.inl (l2 + 1, σ))
set_option maxHeartbeats 4000000 in
set_option maxRecDepth 100000 in
theorem tX8_runs_L182 {E : Gx} {cI : ClassId} {ad : Nat → Nat} (C : Cx E rmX8_runs cI layM ad 4 RX8 cX8_runs) {out : Int32 × Mem} (K0 : KI E rmX8_runs cI layM ad 4 cX8_runs .int out) {l1 : Int32} {l2 : Int32} {σ : Mem} {res : (Int32 × Mem) ⊕ ((Mem) ⊕ (Int32 × Mem))} (h : fX8_runs_L182 l1 l2 σ = some res) (K : Sum.elim (fun a => G E rmX8_runs cI layM ad 4 56 [(0, .ref (ad 0)), (1, .int l1), (2, .int a.1)] [] a.2) (Sum.elim (fun b => G E rmX8_runs cI layM ad 4 188 [] [] b) (fun b => b = out)) res) : G E rmX8_runs cI layM ad 4 182 [(0, .ref (ad 0)), (1, .int l1), (2, .int l2)] [] σ := by
  unfold fX8_runs_L182 at h
  refine g_iinc 185 [(2, .int (l2 + 1)), (0, .ref (ad 0)), (1, .int l1)] C dX8_runs_182 (j := 2) rfl (by rfl) (by decide) rfl rfl ?_
  refine g_goto 56 C dX8_runs_185 (by decide) ?_
  have hh := end_inl h K
  exact g_sub [1, 2, 0] (hh) rfl
noncomputable def fX8_runs_L108 (l1 : Int32) (l2 : Int32) (σ : Mem) : Option ((Int32 × Mem) ⊕ ((Mem) ⊕ (Int32 × Mem))) :=
  (fX8_holds σ).bind fun o2 =>
  if o2.1 = 0 then
    some (.inr (.inr (l2, o2.2)))
  else
    (loop (fun a => fX8_runs_B119 l1 l2 a.1 a.2) (0, o2.2)).bind fun b4 =>
    fX8_runs_L182 l1 l2 b4
set_option maxHeartbeats 4000000 in
set_option maxRecDepth 100000 in
theorem tX8_runs_L108 {E : Gx} {cI : ClassId} {ad : Nat → Nat} (C : Cx E rmX8_runs cI layM ad 4 RX8 cX8_runs) {out : Int32 × Mem} (K0 : KI E rmX8_runs cI layM ad 4 cX8_runs .int out) {l1 : Int32} {l2 : Int32} {σ : Mem} {res : (Int32 × Mem) ⊕ ((Mem) ⊕ (Int32 × Mem))} (h : fX8_runs_L108 l1 l2 σ = some res) (K : Sum.elim (fun a => G E rmX8_runs cI layM ad 4 56 [(0, .ref (ad 0)), (1, .int l1), (2, .int a.1)] [] a.2) (Sum.elim (fun b => G E rmX8_runs cI layM ad 4 188 [] [] b) (fun b => b = out)) res) : G E rmX8_runs cI layM ad 4 108 [(0, .ref (ad 0)), (1, .int l1), (2, .int l2)] [] σ := by
  unfold fX8_runs_L108 at h
  refine g_aload_n 109 C dX8_runs_108 rfl (j := 0) rfl rfl ?_
  refine g_cvi 112 C (As := []) (fun _ h => mX8_holds (σ := σ) h) wl_X8_269 wi_X8_holds wz_X8_holds wc_X8_holds wn_X8 qX8_holds rfl rfl ⟨Nat.le_of_ble_eq_true rfl, Nat.le_of_ble_eq_true rfl⟩ rfl rfl rfl rfl (Nat.le_of_ble_eq_true rfl) dX8_runs_109 rfl h (fun o2 h => ?_)
  refine g_if_ne 117 115 C dX8_runs_112 (by decide) rfl h (fun h => ?_) (fun h => ?_)
  · refine g_iload_n 116 C dX8_runs_115 rfl (j := 2) rfl rfl ?_
    have ho := end_alt1_2 h K
    replace ho : (l2, o2.2) = out := ho
    subst ho
    exact K0 _ _ dX8_runs_116 rfl
  · refine g_iconst 118 (v := 0) C dX8_runs_117 (by decide) rfl ?_
    refine g_istore_n 119 [(3, .int 0), (0, .ref (ad 0)), (1, .int l1), (2, .int l2)] C dX8_runs_118 rfl (by decide) rfl rfl ?_
    obtain ⟨b4, hb, h⟩ := bind_some h
    refine g_sub [1, 2, 3, 0] (g_loop (a := (0, o2.2)) (fun a => G E rmX8_runs cI layM ad 4 119 [(0, .ref (ad 0)), (1, .int l1), (2, .int l2), (3, .int a.1)] [] a.2) (fun b => G E rmX8_runs cI layM ad 4 182 [(0, .ref (ad 0)), (1, .int l1), (2, .int l2)] [] b) hb (fun a res h K => tX8_runs_B119 (l1 := l1) (l2 := l2) (l3 := a.1) (σ := a.2) (res := res) C K0 h K) ?_) rfl
    show G E rmX8_runs cI layM ad 4 182 [(0, .ref (ad 0)), (1, .int l1), (2, .int l2)] [] b4
    exact tX8_runs_L182 (l1 := l1) (l2 := l2) (σ := b4) C K0 h K
noncomputable def fX8_runs_L105 (l1 : Int32) (l2 : Int32) (s1 : Int32) (σ : Mem) : Option ((Int32 × Mem) ⊕ ((Mem) ⊕ (Int32 × Mem))) :=
  (fX8_reckons s1 σ).bind fun o1 =>
  fX8_runs_L108 l1 l2 o1
set_option maxHeartbeats 4000000 in
set_option maxRecDepth 100000 in
theorem tX8_runs_L105 {E : Gx} {cI : ClassId} {ad : Nat → Nat} (C : Cx E rmX8_runs cI layM ad 4 RX8 cX8_runs) {out : Int32 × Mem} (K0 : KI E rmX8_runs cI layM ad 4 cX8_runs .int out) {l1 : Int32} {l2 : Int32} {s1 : Int32} {σ : Mem} {res : (Int32 × Mem) ⊕ ((Mem) ⊕ (Int32 × Mem))} (h : fX8_runs_L105 l1 l2 s1 σ = some res) (K : Sum.elim (fun a => G E rmX8_runs cI layM ad 4 56 [(0, .ref (ad 0)), (1, .int l1), (2, .int a.1)] [] a.2) (Sum.elim (fun b => G E rmX8_runs cI layM ad 4 188 [] [] b) (fun b => b = out)) res) : G E rmX8_runs cI layM ad 4 105 [(0, .ref (ad 0)), (1, .int l1), (2, .int l2)] [.int s1, .ref (ad 0)] σ := by
  unfold fX8_runs_L105 at h
  refine g_cvv 108 C (As := [.int s1]) (fun _ h => mX8_reckons (a1 := s1) (σ := σ) h) wl_X8_266 wi_X8_reckons wz_X8_reckons wc_X8_reckons wn_X8 qX8_reckons rfl rfl ⟨Nat.le_of_ble_eq_true rfl, Nat.le_of_ble_eq_true rfl⟩ rfl rfl rfl rfl (Nat.le_of_ble_eq_true rfl) dX8_runs_105 rfl h (fun o1 h => ?_)
  exact tX8_runs_L108 (l1 := l1) (l2 := l2) (σ := o1) C K0 h K
noncomputable def fX8_runs_L89 (l1 : Int32) (l2 : Int32) (s1 : Int32) (σ : Mem) : Option ((Int32 × Mem) ⊕ ((Mem) ⊕ (Int32 × Mem))) :=
  (fX8_reckonsNeeded s1 σ).bind fun o5 =>
  fX8_runs_L108 l1 l2 o5
set_option maxHeartbeats 4000000 in
set_option maxRecDepth 100000 in
theorem tX8_runs_L89 {E : Gx} {cI : ClassId} {ad : Nat → Nat} (C : Cx E rmX8_runs cI layM ad 4 RX8 cX8_runs) {out : Int32 × Mem} (K0 : KI E rmX8_runs cI layM ad 4 cX8_runs .int out) {l1 : Int32} {l2 : Int32} {s1 : Int32} {σ : Mem} {res : (Int32 × Mem) ⊕ ((Mem) ⊕ (Int32 × Mem))} (h : fX8_runs_L89 l1 l2 s1 σ = some res) (K : Sum.elim (fun a => G E rmX8_runs cI layM ad 4 56 [(0, .ref (ad 0)), (1, .int l1), (2, .int a.1)] [] a.2) (Sum.elim (fun b => G E rmX8_runs cI layM ad 4 188 [] [] b) (fun b => b = out)) res) : G E rmX8_runs cI layM ad 4 89 [(0, .ref (ad 0)), (1, .int l1), (2, .int l2)] [.int s1, .ref (ad 0)] σ := by
  unfold fX8_runs_L89 at h
  refine g_cvv 92 C (As := [.int s1]) (fun _ h => mX8_reckonsNeeded (a1 := s1) (σ := σ) h) wl_X8_262 wi_X8_reckonsNeeded wz_X8_reckonsNeeded wc_X8_reckonsNeeded wn_X8 qX8_reckonsNeeded rfl rfl ⟨Nat.le_of_ble_eq_true rfl, Nat.le_of_ble_eq_true rfl⟩ rfl rfl rfl rfl (Nat.le_of_ble_eq_true rfl) dX8_runs_89 rfl h (fun o5 h => ?_)
  refine g_goto 108 C dX8_runs_92 (by decide) ?_
  exact tX8_runs_L108 (l1 := l1) (l2 := l2) (σ := o5) C K0 h K
noncomputable def fX8_runs_L75 (l1 : Int32) (l2 : Int32) (σ : Mem) : Option ((Int32 × Mem) ⊕ ((Mem) ⊕ (Int32 × Mem))) :=
  if l1 = 0 then
    if l2 = 0 then
      fX8_runs_L105 l1 l2 1 σ
    else
      fX8_runs_L105 l1 l2 0 σ
  else
    if l2 = 0 then
      fX8_runs_L89 l1 l2 1 σ
    else
      fX8_runs_L89 l1 l2 0 σ
set_option maxHeartbeats 4000000 in
set_option maxRecDepth 100000 in
theorem tX8_runs_L75 {E : Gx} {cI : ClassId} {ad : Nat → Nat} (C : Cx E rmX8_runs cI layM ad 4 RX8 cX8_runs) {out : Int32 × Mem} (K0 : KI E rmX8_runs cI layM ad 4 cX8_runs .int out) {l1 : Int32} {l2 : Int32} {σ : Mem} {res : (Int32 × Mem) ⊕ ((Mem) ⊕ (Int32 × Mem))} (h : fX8_runs_L75 l1 l2 σ = some res) (K : Sum.elim (fun a => G E rmX8_runs cI layM ad 4 56 [(0, .ref (ad 0)), (1, .int l1), (2, .int a.1)] [] a.2) (Sum.elim (fun b => G E rmX8_runs cI layM ad 4 188 [] [] b) (fun b => b = out)) res) : G E rmX8_runs cI layM ad 4 75 [(0, .ref (ad 0)), (1, .int l1), (2, .int l2)] [] σ := by
  unfold fX8_runs_L75 at h
  refine g_iload_n 76 C dX8_runs_75 rfl (j := 1) rfl rfl ?_
  refine g_if_eq 95 79 C dX8_runs_76 (by decide) rfl h (fun h => ?_) (fun h => ?_)
  · refine g_aload_n 96 C dX8_runs_95 rfl (j := 0) rfl rfl ?_
    refine g_iload_n 97 C dX8_runs_96 rfl (j := 2) rfl rfl ?_
    refine g_if_ne 104 100 C dX8_runs_97 (by decide) rfl h (fun h => ?_) (fun h => ?_)
    · refine g_iconst 101 (v := 1) C dX8_runs_100 (by decide) rfl ?_
      refine g_goto 105 C dX8_runs_101 (by decide) ?_
      exact tX8_runs_L105 (l1 := l1) (l2 := l2) (s1 := 1) (σ := σ) C K0 h K
    · refine g_iconst 105 (v := 0) C dX8_runs_104 (by decide) rfl ?_
      exact tX8_runs_L105 (l1 := l1) (l2 := l2) (s1 := 0) (σ := σ) C K0 h K
  · refine g_aload_n 80 C dX8_runs_79 rfl (j := 0) rfl rfl ?_
    refine g_iload_n 81 C dX8_runs_80 rfl (j := 2) rfl rfl ?_
    refine g_if_ne 88 84 C dX8_runs_81 (by decide) rfl h (fun h => ?_) (fun h => ?_)
    · refine g_iconst 85 (v := 1) C dX8_runs_84 (by decide) rfl ?_
      refine g_goto 89 C dX8_runs_85 (by decide) ?_
      exact tX8_runs_L89 (l1 := l1) (l2 := l2) (s1 := 1) (σ := σ) C K0 h K
    · refine g_iconst 89 (v := 0) C dX8_runs_88 (by decide) rfl ?_
      exact tX8_runs_L89 (l1 := l1) (l2 := l2) (s1 := 0) (σ := σ) C K0 h K
noncomputable def fX8_runs_B56 (l1 : Int32) (l2 : Int32) (σ : Mem) : Option ((Int32 × Mem) ⊕ ((Mem) ⊕ (Int32 × Mem))) :=
  if 300 ≤ l2 then
    some (.inr (.inl σ))
  else
    if l1 = 0 then
      fX8_runs_L75 l1 l2 σ
    else
      if l2 ≤ 0 then
        fX8_runs_L75 l1 l2 σ
      else
        (fX8_addsCells σ).bind fun o6 =>
        fX8_runs_L75 l1 l2 o6
set_option maxHeartbeats 4000000 in
set_option maxRecDepth 100000 in
theorem tX8_runs_B56 {E : Gx} {cI : ClassId} {ad : Nat → Nat} (C : Cx E rmX8_runs cI layM ad 4 RX8 cX8_runs) {out : Int32 × Mem} (K0 : KI E rmX8_runs cI layM ad 4 cX8_runs .int out) {l1 : Int32} {l2 : Int32} {σ : Mem} {res : (Int32 × Mem) ⊕ ((Mem) ⊕ (Int32 × Mem))} (h : fX8_runs_B56 l1 l2 σ = some res) (K : Sum.elim (fun a => G E rmX8_runs cI layM ad 4 56 [(0, .ref (ad 0)), (1, .int l1), (2, .int a.1)] [] a.2) (Sum.elim (fun b => G E rmX8_runs cI layM ad 4 188 [] [] b) (fun b => b = out)) res) : G E rmX8_runs cI layM ad 4 56 [(0, .ref (ad 0)), (1, .int l1), (2, .int l2)] [] σ := by
  unfold fX8_runs_B56 at h
  refine g_iload_n 57 C dX8_runs_56 rfl (j := 2) rfl rfl ?_
  refine g_sipush 60 (v := 300) C dX8_runs_57 (by decide) rfl ?_
  refine g_icmp_ge 188 63 C dX8_runs_60 (by decide) rfl h (fun h => ?_) (fun h => ?_)
  · have hh := end_alt0_2 h K
    exact g_sub [] (hh) rfl
  · refine g_iload_n 64 C dX8_runs_63 rfl (j := 1) rfl rfl ?_
    refine g_if_eq 75 67 C dX8_runs_64 (by decide) rfl h (fun h => ?_) (fun h => ?_)
    · exact tX8_runs_L75 (l1 := l1) (l2 := l2) (σ := σ) C K0 h K
    · refine g_iload_n 68 C dX8_runs_67 rfl (j := 2) rfl rfl ?_
      refine g_if_le 75 71 C dX8_runs_68 (by decide) rfl h (fun h => ?_) (fun h => ?_)
      · exact tX8_runs_L75 (l1 := l1) (l2 := l2) (σ := σ) C K0 h K
      · refine g_aload_n 72 C dX8_runs_71 rfl (j := 0) rfl rfl ?_
        refine g_cvv 75 C (As := []) (fun _ h => mX8_addsCells (σ := σ) h) wl_X8_259 wi_X8_addsCells wz_X8_addsCells wc_X8_addsCells wn_X8 qX8_addsCells rfl rfl ⟨Nat.le_of_ble_eq_true rfl, Nat.le_of_ble_eq_true rfl⟩ rfl rfl rfl rfl (Nat.le_of_ble_eq_true rfl) dX8_runs_72 rfl h (fun o6 h => ?_)
        exact tX8_runs_L75 (l1 := l1) (l2 := l2) (σ := o6) C K0 h K
noncomputable def fX8_runs_L188 (σ : Mem) : Option (Int32 × Mem) :=
  some ((-2), σ)
set_option maxHeartbeats 4000000 in
set_option maxRecDepth 100000 in
theorem tX8_runs_L188 {E : Gx} {cI : ClassId} {ad : Nat → Nat} (C : Cx E rmX8_runs cI layM ad 4 RX8 cX8_runs) {out : Int32 × Mem} (K0 : KI E rmX8_runs cI layM ad 4 cX8_runs .int out) {σ : Mem} (h : fX8_runs_L188 σ = some out) : G E rmX8_runs cI layM ad 4 188 [] [] σ := by
  unfold fX8_runs_L188 at h
  refine g_bipush 190 (v := (-2)) C dX8_runs_188 (by decide) rfl ?_
  cases h
  exact K0 _ _ dX8_runs_190 rfl
noncomputable def fX8_runs_L49 (l1 : Int32) (σ : Mem) : Option (Int32 × Mem) :=
  (loop (fun a => fX8_runs_B56 l1 a.1 a.2) (0, up2 σ 0 25 0)).bind (Sum.elim (fun b7x0 => fX8_runs_L188 b7x0) (fun b7r => some b7r))
set_option maxHeartbeats 4000000 in
set_option maxRecDepth 100000 in
theorem tX8_runs_L49 {E : Gx} {cI : ClassId} {ad : Nat → Nat} (C : Cx E rmX8_runs cI layM ad 4 RX8 cX8_runs) {out : Int32 × Mem} (K0 : KI E rmX8_runs cI layM ad 4 cX8_runs .int out) {l1 : Int32} {σ : Mem} (h : fX8_runs_L49 l1 σ = some out) : G E rmX8_runs cI layM ad 4 49 [(0, .ref (ad 0)), (1, .int l1)] [] σ := by
  unfold fX8_runs_L49 at h
  refine g_aload_n 50 C dX8_runs_49 rfl (j := 0) rfl rfl ?_
  refine g_iconst 51 (v := 0) C dX8_runs_50 (by decide) rfl ?_
  refine g_puti 54 (j := 25) C rfl rfl wu_X8 (by decide) wf_X8_256 tyX8 tyX8_ok nmX8 rfl rfl rfl rfl dX8_runs_51 rfl ?_
  refine g_iconst 55 (v := 0) C dX8_runs_54 (by decide) rfl ?_
  refine g_istore_n 56 [(2, .int 0), (0, .ref (ad 0)), (1, .int l1)] C dX8_runs_55 rfl (by decide) rfl rfl ?_
  obtain ⟨b7, hb, h⟩ := bind_some h
  refine g_sub [1, 2, 0] (g_loop (a := (0, up2 σ 0 25 0)) (fun a => G E rmX8_runs cI layM ad 4 56 [(0, .ref (ad 0)), (1, .int l1), (2, .int a.1)] [] a.2) (Sum.elim (fun b => G E rmX8_runs cI layM ad 4 188 [] [] b) (fun b => b = out)) hb (fun a res h K => tX8_runs_B56 (l1 := l1) (l2 := a.1) (σ := a.2) (res := res) C K0 h K) ?_) rfl
  rcases b7 with b7x0 | b7r
  · show G E rmX8_runs cI layM ad 4 188 [] [] b7x0
    exact tX8_runs_L188 (σ := b7x0) C K0 h
  · exact end_top h
noncomputable def fX8_runs_B20 (l1 : Int32) (l2 : Int32) (σ : Mem) : Option ((Int32 × Mem) ⊕ (Mem)) :=
  if (σ 0 17) ≤ l2 then
    some (.inr σ)
  else
    (fX8_valueOf (34 + l2) 0 σ).bind fun o9 =>
    chk (inb l2 90) <|
    some (.inl (l2 + 1, up2 o9.2 14 l2.toNatClampNeg o9.1))
set_option maxHeartbeats 4000000 in
set_option maxRecDepth 100000 in
theorem tX8_runs_B20 {E : Gx} {cI : ClassId} {ad : Nat → Nat} (C : Cx E rmX8_runs cI layM ad 4 RX8 cX8_runs) {out : Int32 × Mem} (K0 : KI E rmX8_runs cI layM ad 4 cX8_runs .int out) {l1 : Int32} {l2 : Int32} {σ : Mem} {res : (Int32 × Mem) ⊕ (Mem)} (h : fX8_runs_B20 l1 l2 σ = some res) (K : Sum.elim (fun a => G E rmX8_runs cI layM ad 4 20 [(0, .ref (ad 0)), (1, .int l1), (2, .int a.1)] [] a.2) (fun b => G E rmX8_runs cI layM ad 4 49 [(0, .ref (ad 0)), (1, .int l1)] [] b) res) : G E rmX8_runs cI layM ad 4 20 [(0, .ref (ad 0)), (1, .int l1), (2, .int l2)] [] σ := by
  unfold fX8_runs_B20 at h
  refine g_iload_n 21 C dX8_runs_20 rfl (j := 2) rfl rfl ?_
  refine g_aload_n 22 C dX8_runs_21 rfl (j := 0) rfl rfl ?_
  refine g_geti 25 (j := 17) C rfl rfl wu_X8 (by decide) wf_X8_223 rfl dX8_runs_22 rfl ?_
  refine g_icmp_ge 49 28 C dX8_runs_25 (by decide) rfl h (fun h => ?_) (fun h => ?_)
  · have hh := end_inr h K
    exact g_sub [0, 1] (hh) rfl
  · refine g_aload_n 29 C dX8_runs_28 rfl (j := 0) rfl rfl ?_
    refine g_getr 32 (j := 23) C rfl rfl wu_X8 (by decide) wf_X8_60 rfl dX8_runs_29 rfl ?_
    refine g_iload_n 33 C dX8_runs_32 rfl (j := 2) rfl rfl ?_
    refine g_aload_n 34 C dX8_runs_33 rfl (j := 0) rfl rfl ?_
    refine g_bipush 36 (v := 34) C dX8_runs_34 (by decide) rfl ?_
    refine g_iload_n 37 C dX8_runs_36 rfl (j := 2) rfl rfl ?_
    refine g_iadd 38 C dX8_runs_37 rfl ?_
    refine g_iconst 39 (v := 0) C dX8_runs_38 (by decide) rfl ?_
    refine g_cvi 42 C (As := [.int (34 + l2), .int 0]) (fun _ h => mX8_valueOf (a1 := 34 + l2) (a2 := 0) (σ := σ) h) wl_X8_208 wi_X8_valueOf wz_X8_valueOf wc_X8_valueOf wn_X8 qX8_valueOf rfl rfl ⟨Nat.le_of_ble_eq_true rfl, Nat.le_of_ble_eq_true rfl⟩ rfl rfl rfl rfl (Nat.le_of_ble_eq_true rfl) dX8_runs_39 rfl h (fun o9 h => ?_)
    refine g_iast 43 C rfl dX8_runs_42 rfl h (fun h => ?_)
    refine g_iinc 46 [(2, .int (l2 + 1)), (0, .ref (ad 0)), (1, .int l1)] C dX8_runs_43 (j := 2) rfl (by rfl) (by decide) rfl rfl ?_
    refine g_goto 20 C dX8_runs_46 (by decide) ?_
    have hh := end_inl h K
    exact g_sub [1, 2, 0] (hh) rfl
noncomputable def fX8_runs (a1 : Int32) (σ : Mem) : Option (Int32 × Mem) :=
  if (σ 0 8) = (-1) then
    some ((-1), σ)
  else
    if a1 = 0 then
      fX8_runs_L49 a1 σ
    else
      (fX8_reduces σ).bind fun o8 =>
      (loop (fun a => fX8_runs_B20 a1 a.1 a.2) (0, o8)).bind fun b10 =>
      fX8_runs_L49 a1 b10
set_option maxHeartbeats 4000000 in
set_option maxRecDepth 100000 in
theorem mX8_runs {l : Launch} {D : va_G} {cI : ClassId} {ad : Nat → Nat} {a1 : Int32} {σ : Mem} {out : Int32 × Mem} (h : fX8_runs a1 σ = some out) : MI l D cI layM ad yX8_runs cX8_runs 4 .int rmX8_runs [.ref (ad 0), .int a1] σ out := by
  refine met_i (by decide) (Nat.le_of_ble_eq_true rfl) (fun E C K0 => ?_)
  show G E rmX8_runs cI layM ad 4 0 [(0, .ref (ad 0)), (1, .int a1)] [] σ
  unfold fX8_runs at h
  refine g_aload_n 1 C dX8_runs_0 rfl (j := 0) rfl rfl ?_
  refine g_geti 4 (j := 8) C rfl rfl wu_X8 (by decide) wf_X8_23 rfl dX8_runs_1 rfl ?_
  refine g_iconst 5 (v := (-1)) C dX8_runs_4 (by decide) rfl ?_
  refine g_icmp_ne 10 8 C dX8_runs_5 (by decide) rfl h (fun h => ?_) (fun h => ?_)
  · refine g_iconst 9 (v := (-1)) C dX8_runs_8 (by decide) rfl ?_
    cases h
    exact K0 _ _ dX8_runs_9 rfl
  · refine g_iload_n 11 C dX8_runs_10 rfl (j := 1) rfl rfl ?_
    refine g_if_eq 49 14 C dX8_runs_11 (by decide) rfl h (fun h => ?_) (fun h => ?_)
    · exact tX8_runs_L49 (l1 := a1) (σ := σ) C K0 h
    · refine g_aload_n 15 C dX8_runs_14 rfl (j := 0) rfl rfl ?_
      refine g_cvv 18 C (As := []) (fun _ h => mX8_reduces (σ := σ) h) wl_X8_243 wi_X8_reduces wz_X8_reduces wc_X8_reduces wn_X8 qX8_reduces rfl rfl ⟨Nat.le_of_ble_eq_true rfl, Nat.le_of_ble_eq_true rfl⟩ rfl rfl rfl rfl (Nat.le_of_ble_eq_true rfl) dX8_runs_15 rfl h (fun o8 h => ?_)
      refine g_iconst 19 (v := 0) C dX8_runs_18 (by decide) rfl ?_
      refine g_istore_n 20 [(2, .int 0), (0, .ref (ad 0)), (1, .int a1)] C dX8_runs_19 rfl (by decide) rfl rfl ?_
      obtain ⟨b10, hb, h⟩ := bind_some h
      refine g_sub [1, 2, 0] (g_loop (a := (0, o8)) (fun a => G E rmX8_runs cI layM ad 4 20 [(0, .ref (ad 0)), (1, .int a1), (2, .int a.1)] [] a.2) (fun b => G E rmX8_runs cI layM ad 4 49 [(0, .ref (ad 0)), (1, .int a1)] [] b) hb (fun a res h K => tX8_runs_B20 (l1 := a1) (l2 := a.1) (σ := a.2) (res := res) C K0 h K) ?_) rfl
      show G E rmX8_runs cI layM ad 4 49 [(0, .ref (ad 0)), (1, .int a1)] [] b10
      exact tX8_runs_L49 (l1 := a1) (σ := b10) C K0 h

/-! LoopReducerModel.run(III)I -/
abbrev rmX8_run : Room := { frames := 9, cells := 0, slots := 0, locals := 214 }
theorem qX8_run : yX8_run.cls ≠ "java/lang/invoke/MethodHandle" ∧ yX8_run.cls ≠ "java/lang/invoke/VarHandle" ∧ (parseMethodDescriptor yX8_run.desc).map (fun d => d.parameters.length) = some 3 := by decide +kernel
theorem DX8_run : ∀ q ∈ ([(0, .aload_n 0, 1), (1, .iconst 0, 1), (2, .putfield 69, 3), (5, .aload_n 0, 1), (6, .iload_n 1, 1), (7, .iload_n 2, 1), (8, .iload_n 3, 1), (9, .invokevirtual 205, 3), (12, .aload_n 0, 1), (13, .iconst 0, 1), (14, .invokevirtual 273, 3), (17, .ireturn, 1)] : List (Nat × Instr × Nat)), decode cX8_run q.1 = .ok q.2 := by decide +kernel
theorem dX8_run_0 : decode cX8_run 0 = .ok (.aload_n 0, 1) := DX8_run (0, .aload_n 0, 1) (List.mem_of_getElem? (i := 0) rfl)
theorem dX8_run_1 : decode cX8_run 1 = .ok (.iconst 0, 1) := DX8_run (1, .iconst 0, 1) (List.mem_of_getElem? (i := 1) rfl)
theorem dX8_run_2 : decode cX8_run 2 = .ok (.putfield 69, 3) := DX8_run (2, .putfield 69, 3) (List.mem_of_getElem? (i := 2) rfl)
theorem dX8_run_5 : decode cX8_run 5 = .ok (.aload_n 0, 1) := DX8_run (5, .aload_n 0, 1) (List.mem_of_getElem? (i := 3) rfl)
theorem dX8_run_6 : decode cX8_run 6 = .ok (.iload_n 1, 1) := DX8_run (6, .iload_n 1, 1) (List.mem_of_getElem? (i := 4) rfl)
theorem dX8_run_7 : decode cX8_run 7 = .ok (.iload_n 2, 1) := DX8_run (7, .iload_n 2, 1) (List.mem_of_getElem? (i := 5) rfl)
theorem dX8_run_8 : decode cX8_run 8 = .ok (.iload_n 3, 1) := DX8_run (8, .iload_n 3, 1) (List.mem_of_getElem? (i := 6) rfl)
theorem dX8_run_9 : decode cX8_run 9 = .ok (.invokevirtual 205, 3) := DX8_run (9, .invokevirtual 205, 3) (List.mem_of_getElem? (i := 7) rfl)
theorem dX8_run_12 : decode cX8_run 12 = .ok (.aload_n 0, 1) := DX8_run (12, .aload_n 0, 1) (List.mem_of_getElem? (i := 8) rfl)
theorem dX8_run_13 : decode cX8_run 13 = .ok (.iconst 0, 1) := DX8_run (13, .iconst 0, 1) (List.mem_of_getElem? (i := 9) rfl)
theorem dX8_run_14 : decode cX8_run 14 = .ok (.invokevirtual 273, 3) := DX8_run (14, .invokevirtual 273, 3) (List.mem_of_getElem? (i := 10) rfl)
theorem dX8_run_17 : decode cX8_run 17 = .ok (.ireturn, 1) := DX8_run (17, .ireturn, 1) (List.mem_of_getElem? (i := 11) rfl)
noncomputable def fX8_run (a1 : Int32) (a2 : Int32) (a3 : Int32) (σ : Mem) : Option (Int32 × Mem) :=
  (fX8_gives a1 a2 a3 (up2 σ 0 2 0)).bind fun o1 =>
  (fX8_runs 0 o1).bind fun o2 =>
  some (o2.1, o2.2)
set_option maxHeartbeats 4000000 in
set_option maxRecDepth 100000 in
theorem mX8_run {l : Launch} {D : va_G} {cI : ClassId} {ad : Nat → Nat} {a1 : Int32} {a2 : Int32} {a3 : Int32} {σ : Mem} {out : Int32 × Mem} (h : fX8_run a1 a2 a3 σ = some out) : MI l D cI layM ad yX8_run cX8_run 4 .int rmX8_run [.ref (ad 0), .int a1, .int a2, .int a3] σ out := by
  refine met_i (by decide) (Nat.le_of_ble_eq_true rfl) (fun E C K0 => ?_)
  show G E rmX8_run cI layM ad 4 0 [(0, .ref (ad 0)), (1, .int a1), (2, .int a2), (3, .int a3)] [] σ
  unfold fX8_run at h
  refine g_aload_n 1 C dX8_run_0 rfl (j := 0) rfl rfl ?_
  refine g_iconst 2 (v := 0) C dX8_run_1 (by decide) rfl ?_
  refine g_puti 5 (j := 2) C rfl rfl wu_X8 (by decide) wf_X8_69 tyX8 tyX8_ok nmX8 rfl rfl rfl rfl dX8_run_2 rfl ?_
  refine g_aload_n 6 C dX8_run_5 rfl (j := 0) rfl rfl ?_
  refine g_iload_n 7 C dX8_run_6 rfl (j := 1) rfl rfl ?_
  refine g_iload_n 8 C dX8_run_7 rfl (j := 2) rfl rfl ?_
  refine g_iload_n 9 C dX8_run_8 rfl (j := 3) rfl rfl ?_
  refine g_cvv 12 C (As := [.int a1, .int a2, .int a3]) (fun _ h => mX8_gives (a1 := a1) (a2 := a2) (a3 := a3) (σ := up2 σ 0 2 0) h) wl_X8_205 wi_X8_gives wz_X8_gives wc_X8_gives wn_X8 qX8_gives rfl rfl ⟨Nat.le_of_ble_eq_true rfl, Nat.le_of_ble_eq_true rfl⟩ rfl rfl rfl rfl (Nat.le_of_ble_eq_true rfl) dX8_run_9 rfl h (fun o1 h => ?_)
  refine g_aload_n 13 C dX8_run_12 rfl (j := 0) rfl rfl ?_
  refine g_iconst 14 (v := 0) C dX8_run_13 (by decide) rfl ?_
  refine g_cvi 17 C (As := [.int 0]) (fun _ h => mX8_runs (a1 := 0) (σ := o1) h) wl_X8_273 wi_X8_runs wz_X8_runs wc_X8_runs wn_X8 qX8_runs rfl rfl ⟨Nat.le_of_ble_eq_true rfl, Nat.le_of_ble_eq_true rfl⟩ rfl rfl rfl rfl (Nat.le_of_ble_eq_true rfl) dX8_run_14 rfl h (fun o2 h => ?_)
  cases h
  exact K0 _ _ dX8_run_17 rfl

/-! LoopReducerModel.runReduced(III)I -/
abbrev rmX8_runReduced : Room := { frames := 9, cells := 0, slots := 0, locals := 214 }
theorem qX8_runReduced : yX8_runReduced.cls ≠ "java/lang/invoke/MethodHandle" ∧ yX8_runReduced.cls ≠ "java/lang/invoke/VarHandle" ∧ (parseMethodDescriptor yX8_runReduced.desc).map (fun d => d.parameters.length) = some 3 := by decide +kernel
theorem DX8_runReduced : ∀ q ∈ ([(0, .aload_n 0, 1), (1, .iconst 0, 1), (2, .putfield 69, 3), (5, .aload_n 0, 1), (6, .iload_n 1, 1), (7, .iload_n 2, 1), (8, .iload_n 3, 1), (9, .invokevirtual 205, 3), (12, .aload_n 0, 1), (13, .iconst 1, 1), (14, .invokevirtual 273, 3), (17, .ireturn, 1)] : List (Nat × Instr × Nat)), decode cX8_runReduced q.1 = .ok q.2 := by decide +kernel
theorem dX8_runReduced_0 : decode cX8_runReduced 0 = .ok (.aload_n 0, 1) := DX8_runReduced (0, .aload_n 0, 1) (List.mem_of_getElem? (i := 0) rfl)
theorem dX8_runReduced_1 : decode cX8_runReduced 1 = .ok (.iconst 0, 1) := DX8_runReduced (1, .iconst 0, 1) (List.mem_of_getElem? (i := 1) rfl)
theorem dX8_runReduced_2 : decode cX8_runReduced 2 = .ok (.putfield 69, 3) := DX8_runReduced (2, .putfield 69, 3) (List.mem_of_getElem? (i := 2) rfl)
theorem dX8_runReduced_5 : decode cX8_runReduced 5 = .ok (.aload_n 0, 1) := DX8_runReduced (5, .aload_n 0, 1) (List.mem_of_getElem? (i := 3) rfl)
theorem dX8_runReduced_6 : decode cX8_runReduced 6 = .ok (.iload_n 1, 1) := DX8_runReduced (6, .iload_n 1, 1) (List.mem_of_getElem? (i := 4) rfl)
theorem dX8_runReduced_7 : decode cX8_runReduced 7 = .ok (.iload_n 2, 1) := DX8_runReduced (7, .iload_n 2, 1) (List.mem_of_getElem? (i := 5) rfl)
theorem dX8_runReduced_8 : decode cX8_runReduced 8 = .ok (.iload_n 3, 1) := DX8_runReduced (8, .iload_n 3, 1) (List.mem_of_getElem? (i := 6) rfl)
theorem dX8_runReduced_9 : decode cX8_runReduced 9 = .ok (.invokevirtual 205, 3) := DX8_runReduced (9, .invokevirtual 205, 3) (List.mem_of_getElem? (i := 7) rfl)
theorem dX8_runReduced_12 : decode cX8_runReduced 12 = .ok (.aload_n 0, 1) := DX8_runReduced (12, .aload_n 0, 1) (List.mem_of_getElem? (i := 8) rfl)
theorem dX8_runReduced_13 : decode cX8_runReduced 13 = .ok (.iconst 1, 1) := DX8_runReduced (13, .iconst 1, 1) (List.mem_of_getElem? (i := 9) rfl)
theorem dX8_runReduced_14 : decode cX8_runReduced 14 = .ok (.invokevirtual 273, 3) := DX8_runReduced (14, .invokevirtual 273, 3) (List.mem_of_getElem? (i := 10) rfl)
theorem dX8_runReduced_17 : decode cX8_runReduced 17 = .ok (.ireturn, 1) := DX8_runReduced (17, .ireturn, 1) (List.mem_of_getElem? (i := 11) rfl)
noncomputable def fX8_runReduced (a1 : Int32) (a2 : Int32) (a3 : Int32) (σ : Mem) : Option (Int32 × Mem) :=
  (fX8_gives a1 a2 a3 (up2 σ 0 2 0)).bind fun o1 =>
  (fX8_runs 1 o1).bind fun o2 =>
  some (o2.1, o2.2)
set_option maxHeartbeats 4000000 in
set_option maxRecDepth 100000 in
theorem mX8_runReduced {l : Launch} {D : va_G} {cI : ClassId} {ad : Nat → Nat} {a1 : Int32} {a2 : Int32} {a3 : Int32} {σ : Mem} {out : Int32 × Mem} (h : fX8_runReduced a1 a2 a3 σ = some out) : MI l D cI layM ad yX8_runReduced cX8_runReduced 4 .int rmX8_runReduced [.ref (ad 0), .int a1, .int a2, .int a3] σ out := by
  refine met_i (by decide) (Nat.le_of_ble_eq_true rfl) (fun E C K0 => ?_)
  show G E rmX8_runReduced cI layM ad 4 0 [(0, .ref (ad 0)), (1, .int a1), (2, .int a2), (3, .int a3)] [] σ
  unfold fX8_runReduced at h
  refine g_aload_n 1 C dX8_runReduced_0 rfl (j := 0) rfl rfl ?_
  refine g_iconst 2 (v := 0) C dX8_runReduced_1 (by decide) rfl ?_
  refine g_puti 5 (j := 2) C rfl rfl wu_X8 (by decide) wf_X8_69 tyX8 tyX8_ok nmX8 rfl rfl rfl rfl dX8_runReduced_2 rfl ?_
  refine g_aload_n 6 C dX8_runReduced_5 rfl (j := 0) rfl rfl ?_
  refine g_iload_n 7 C dX8_runReduced_6 rfl (j := 1) rfl rfl ?_
  refine g_iload_n 8 C dX8_runReduced_7 rfl (j := 2) rfl rfl ?_
  refine g_iload_n 9 C dX8_runReduced_8 rfl (j := 3) rfl rfl ?_
  refine g_cvv 12 C (As := [.int a1, .int a2, .int a3]) (fun _ h => mX8_gives (a1 := a1) (a2 := a2) (a3 := a3) (σ := up2 σ 0 2 0) h) wl_X8_205 wi_X8_gives wz_X8_gives wc_X8_gives wn_X8 qX8_gives rfl rfl ⟨Nat.le_of_ble_eq_true rfl, Nat.le_of_ble_eq_true rfl⟩ rfl rfl rfl rfl (Nat.le_of_ble_eq_true rfl) dX8_runReduced_9 rfl h (fun o1 h => ?_)
  refine g_aload_n 13 C dX8_runReduced_12 rfl (j := 0) rfl rfl ?_
  refine g_iconst 14 (v := 1) C dX8_runReduced_13 (by decide) rfl ?_
  refine g_cvi 17 C (As := [.int 1]) (fun _ h => mX8_runs (a1 := 1) (σ := o1) h) wl_X8_273 wi_X8_runs wz_X8_runs wc_X8_runs wn_X8 qX8_runs rfl rfl ⟨Nat.le_of_ble_eq_true rfl, Nat.le_of_ble_eq_true rfl⟩ rfl rfl rfl rfl (Nat.le_of_ble_eq_true rfl) dX8_runReduced_14 rfl h (fun o2 h => ?_)
  cases h
  exact K0 _ _ dX8_runReduced_17 rfl

/-! LoopReducerModel.aheadOf()I -/
abbrev rmX8_aheadOf : Room := { frames := 7, cells := 0, slots := 0, locals := 171 }
theorem qX8_aheadOf : yX8_aheadOf.cls ≠ "java/lang/invoke/MethodHandle" ∧ yX8_aheadOf.cls ≠ "java/lang/invoke/VarHandle" ∧ (parseMethodDescriptor yX8_aheadOf.desc).map (fun d => d.parameters.length) = some 0 := by decide +kernel
theorem DX8_aheadOf : ∀ q ∈ ([(0, .aload_n 0, 1), (1, .getfield 23, 3), (4, .ifCond .eq 6, 3), (7, .bipush (-2), 2), (9, .ireturn, 1), (10, .aload_n 0, 1), (11, .invokevirtual 190, 3), (14, .aload_n 0, 1), (15, .getfield 36, 3), (18, .aload_n 0, 1), (19, .getfield 27, 3), (22, .iaload, 1), (23, .ifCond .ne 15, 3), (26, .aload_n 0, 1), (27, .getfield 36, 3), (30, .aload_n 0, 1), (31, .getfield 30, 3), (34, .iaload, 1), (35, .ifCond .eq 6, 3), (38, .bipush (-2), 2), (40, .ireturn, 1), (41, .aload_n 0, 1), (42, .bipush 32, 2), (44, .aload_n 0, 1), (45, .getfield 27, 3), (48, .iconst 1, 1), (49, .aload_n 0, 1), (50, .getfield 30, 3), (53, .iconst (-1), 1), (54, .invokevirtual 162, 3), (57, .aload_n 0, 1), (58, .bipush 32, 2), (60, .invokevirtual 124, 3), (63, .iconst 1, 1), (64, .if_icmp .le 6, 3), (67, .bipush (-2), 2), (69, .ireturn, 1), (70, .aload_n 0, 1), (71, .aload_n 0, 1), (72, .bipush 32, 2), (74, .iconst 0, 1), (75, .invokevirtual 208, 3), (78, .aload_n 0, 1), (79, .bipush 32, 2), (81, .iconst 1, 1), (82, .invokevirtual 208, 3), (85, .invokevirtual 277, 3), (88, .ireturn, 1)] : List (Nat × Instr × Nat)), decode cX8_aheadOf q.1 = .ok q.2 := by decide +kernel
theorem dX8_aheadOf_0 : decode cX8_aheadOf 0 = .ok (.aload_n 0, 1) := DX8_aheadOf (0, .aload_n 0, 1) (List.mem_of_getElem? (i := 0) rfl)
theorem dX8_aheadOf_1 : decode cX8_aheadOf 1 = .ok (.getfield 23, 3) := DX8_aheadOf (1, .getfield 23, 3) (List.mem_of_getElem? (i := 1) rfl)
theorem dX8_aheadOf_4 : decode cX8_aheadOf 4 = .ok (.ifCond .eq 6, 3) := DX8_aheadOf (4, .ifCond .eq 6, 3) (List.mem_of_getElem? (i := 2) rfl)
theorem dX8_aheadOf_7 : decode cX8_aheadOf 7 = .ok (.bipush (-2), 2) := DX8_aheadOf (7, .bipush (-2), 2) (List.mem_of_getElem? (i := 3) rfl)
theorem dX8_aheadOf_9 : decode cX8_aheadOf 9 = .ok (.ireturn, 1) := DX8_aheadOf (9, .ireturn, 1) (List.mem_of_getElem? (i := 4) rfl)
theorem dX8_aheadOf_10 : decode cX8_aheadOf 10 = .ok (.aload_n 0, 1) := DX8_aheadOf (10, .aload_n 0, 1) (List.mem_of_getElem? (i := 5) rfl)
theorem dX8_aheadOf_11 : decode cX8_aheadOf 11 = .ok (.invokevirtual 190, 3) := DX8_aheadOf (11, .invokevirtual 190, 3) (List.mem_of_getElem? (i := 6) rfl)
theorem dX8_aheadOf_14 : decode cX8_aheadOf 14 = .ok (.aload_n 0, 1) := DX8_aheadOf (14, .aload_n 0, 1) (List.mem_of_getElem? (i := 7) rfl)
theorem dX8_aheadOf_15 : decode cX8_aheadOf 15 = .ok (.getfield 36, 3) := DX8_aheadOf (15, .getfield 36, 3) (List.mem_of_getElem? (i := 8) rfl)
theorem dX8_aheadOf_18 : decode cX8_aheadOf 18 = .ok (.aload_n 0, 1) := DX8_aheadOf (18, .aload_n 0, 1) (List.mem_of_getElem? (i := 9) rfl)
theorem dX8_aheadOf_19 : decode cX8_aheadOf 19 = .ok (.getfield 27, 3) := DX8_aheadOf (19, .getfield 27, 3) (List.mem_of_getElem? (i := 10) rfl)
theorem dX8_aheadOf_22 : decode cX8_aheadOf 22 = .ok (.iaload, 1) := DX8_aheadOf (22, .iaload, 1) (List.mem_of_getElem? (i := 11) rfl)
theorem dX8_aheadOf_23 : decode cX8_aheadOf 23 = .ok (.ifCond .ne 15, 3) := DX8_aheadOf (23, .ifCond .ne 15, 3) (List.mem_of_getElem? (i := 12) rfl)
theorem dX8_aheadOf_26 : decode cX8_aheadOf 26 = .ok (.aload_n 0, 1) := DX8_aheadOf (26, .aload_n 0, 1) (List.mem_of_getElem? (i := 13) rfl)
theorem dX8_aheadOf_27 : decode cX8_aheadOf 27 = .ok (.getfield 36, 3) := DX8_aheadOf (27, .getfield 36, 3) (List.mem_of_getElem? (i := 14) rfl)
theorem dX8_aheadOf_30 : decode cX8_aheadOf 30 = .ok (.aload_n 0, 1) := DX8_aheadOf (30, .aload_n 0, 1) (List.mem_of_getElem? (i := 15) rfl)
theorem dX8_aheadOf_31 : decode cX8_aheadOf 31 = .ok (.getfield 30, 3) := DX8_aheadOf (31, .getfield 30, 3) (List.mem_of_getElem? (i := 16) rfl)
theorem dX8_aheadOf_34 : decode cX8_aheadOf 34 = .ok (.iaload, 1) := DX8_aheadOf (34, .iaload, 1) (List.mem_of_getElem? (i := 17) rfl)
theorem dX8_aheadOf_35 : decode cX8_aheadOf 35 = .ok (.ifCond .eq 6, 3) := DX8_aheadOf (35, .ifCond .eq 6, 3) (List.mem_of_getElem? (i := 18) rfl)
theorem dX8_aheadOf_38 : decode cX8_aheadOf 38 = .ok (.bipush (-2), 2) := DX8_aheadOf (38, .bipush (-2), 2) (List.mem_of_getElem? (i := 19) rfl)
theorem dX8_aheadOf_40 : decode cX8_aheadOf 40 = .ok (.ireturn, 1) := DX8_aheadOf (40, .ireturn, 1) (List.mem_of_getElem? (i := 20) rfl)
theorem dX8_aheadOf_41 : decode cX8_aheadOf 41 = .ok (.aload_n 0, 1) := DX8_aheadOf (41, .aload_n 0, 1) (List.mem_of_getElem? (i := 21) rfl)
theorem dX8_aheadOf_42 : decode cX8_aheadOf 42 = .ok (.bipush 32, 2) := DX8_aheadOf (42, .bipush 32, 2) (List.mem_of_getElem? (i := 22) rfl)
theorem dX8_aheadOf_44 : decode cX8_aheadOf 44 = .ok (.aload_n 0, 1) := DX8_aheadOf (44, .aload_n 0, 1) (List.mem_of_getElem? (i := 23) rfl)
theorem dX8_aheadOf_45 : decode cX8_aheadOf 45 = .ok (.getfield 27, 3) := DX8_aheadOf (45, .getfield 27, 3) (List.mem_of_getElem? (i := 24) rfl)
theorem dX8_aheadOf_48 : decode cX8_aheadOf 48 = .ok (.iconst 1, 1) := DX8_aheadOf (48, .iconst 1, 1) (List.mem_of_getElem? (i := 25) rfl)
theorem dX8_aheadOf_49 : decode cX8_aheadOf 49 = .ok (.aload_n 0, 1) := DX8_aheadOf (49, .aload_n 0, 1) (List.mem_of_getElem? (i := 26) rfl)
theorem dX8_aheadOf_50 : decode cX8_aheadOf 50 = .ok (.getfield 30, 3) := DX8_aheadOf (50, .getfield 30, 3) (List.mem_of_getElem? (i := 27) rfl)
theorem dX8_aheadOf_53 : decode cX8_aheadOf 53 = .ok (.iconst (-1), 1) := DX8_aheadOf (53, .iconst (-1), 1) (List.mem_of_getElem? (i := 28) rfl)
theorem dX8_aheadOf_54 : decode cX8_aheadOf 54 = .ok (.invokevirtual 162, 3) := DX8_aheadOf (54, .invokevirtual 162, 3) (List.mem_of_getElem? (i := 29) rfl)
theorem dX8_aheadOf_57 : decode cX8_aheadOf 57 = .ok (.aload_n 0, 1) := DX8_aheadOf (57, .aload_n 0, 1) (List.mem_of_getElem? (i := 30) rfl)
theorem dX8_aheadOf_58 : decode cX8_aheadOf 58 = .ok (.bipush 32, 2) := DX8_aheadOf (58, .bipush 32, 2) (List.mem_of_getElem? (i := 31) rfl)
theorem dX8_aheadOf_60 : decode cX8_aheadOf 60 = .ok (.invokevirtual 124, 3) := DX8_aheadOf (60, .invokevirtual 124, 3) (List.mem_of_getElem? (i := 32) rfl)
theorem dX8_aheadOf_63 : decode cX8_aheadOf 63 = .ok (.iconst 1, 1) := DX8_aheadOf (63, .iconst 1, 1) (List.mem_of_getElem? (i := 33) rfl)
theorem dX8_aheadOf_64 : decode cX8_aheadOf 64 = .ok (.if_icmp .le 6, 3) := DX8_aheadOf (64, .if_icmp .le 6, 3) (List.mem_of_getElem? (i := 34) rfl)
theorem dX8_aheadOf_67 : decode cX8_aheadOf 67 = .ok (.bipush (-2), 2) := DX8_aheadOf (67, .bipush (-2), 2) (List.mem_of_getElem? (i := 35) rfl)
theorem dX8_aheadOf_69 : decode cX8_aheadOf 69 = .ok (.ireturn, 1) := DX8_aheadOf (69, .ireturn, 1) (List.mem_of_getElem? (i := 36) rfl)
theorem dX8_aheadOf_70 : decode cX8_aheadOf 70 = .ok (.aload_n 0, 1) := DX8_aheadOf (70, .aload_n 0, 1) (List.mem_of_getElem? (i := 37) rfl)
theorem dX8_aheadOf_71 : decode cX8_aheadOf 71 = .ok (.aload_n 0, 1) := DX8_aheadOf (71, .aload_n 0, 1) (List.mem_of_getElem? (i := 38) rfl)
theorem dX8_aheadOf_72 : decode cX8_aheadOf 72 = .ok (.bipush 32, 2) := DX8_aheadOf (72, .bipush 32, 2) (List.mem_of_getElem? (i := 39) rfl)
theorem dX8_aheadOf_74 : decode cX8_aheadOf 74 = .ok (.iconst 0, 1) := DX8_aheadOf (74, .iconst 0, 1) (List.mem_of_getElem? (i := 40) rfl)
theorem dX8_aheadOf_75 : decode cX8_aheadOf 75 = .ok (.invokevirtual 208, 3) := DX8_aheadOf (75, .invokevirtual 208, 3) (List.mem_of_getElem? (i := 41) rfl)
theorem dX8_aheadOf_78 : decode cX8_aheadOf 78 = .ok (.aload_n 0, 1) := DX8_aheadOf (78, .aload_n 0, 1) (List.mem_of_getElem? (i := 42) rfl)
theorem dX8_aheadOf_79 : decode cX8_aheadOf 79 = .ok (.bipush 32, 2) := DX8_aheadOf (79, .bipush 32, 2) (List.mem_of_getElem? (i := 43) rfl)
theorem dX8_aheadOf_81 : decode cX8_aheadOf 81 = .ok (.iconst 1, 1) := DX8_aheadOf (81, .iconst 1, 1) (List.mem_of_getElem? (i := 44) rfl)
theorem dX8_aheadOf_82 : decode cX8_aheadOf 82 = .ok (.invokevirtual 208, 3) := DX8_aheadOf (82, .invokevirtual 208, 3) (List.mem_of_getElem? (i := 45) rfl)
theorem dX8_aheadOf_85 : decode cX8_aheadOf 85 = .ok (.invokevirtual 277, 3) := DX8_aheadOf (85, .invokevirtual 277, 3) (List.mem_of_getElem? (i := 46) rfl)
theorem dX8_aheadOf_88 : decode cX8_aheadOf 88 = .ok (.ireturn, 1) := DX8_aheadOf (88, .ireturn, 1) (List.mem_of_getElem? (i := 47) rfl)
noncomputable def fX8_aheadOf_L38 (σ : Mem) : Option (Int32 × Mem) :=
  some ((-2), σ)
set_option maxHeartbeats 4000000 in
set_option maxRecDepth 100000 in
theorem tX8_aheadOf_L38 {E : Gx} {cI : ClassId} {ad : Nat → Nat} (C : Cx E rmX8_aheadOf cI layM ad 1 RX8 cX8_aheadOf) {out : Int32 × Mem} (K0 : KI E rmX8_aheadOf cI layM ad 1 cX8_aheadOf .int out) {σ : Mem} (h : fX8_aheadOf_L38 σ = some out) : G E rmX8_aheadOf cI layM ad 1 38 [] [] σ := by
  unfold fX8_aheadOf_L38 at h
  refine g_bipush 40 (v := (-2)) C dX8_aheadOf_38 (by decide) rfl ?_
  cases h
  exact K0 _ _ dX8_aheadOf_40 rfl
noncomputable def fX8_aheadOf (σ : Mem) : Option (Int32 × Mem) :=
  if (σ 0 8) = 0 then
    (fX8_lays σ).bind fun o1 =>
    chk (inb (o1 0 9) 30) <|
    if (o1 6 (o1 0 9).toNatClampNeg) = 0 then
      chk (inb (o1 0 10) 30) <|
      if (o1 6 (o1 0 10).toNatClampNeg) = 0 then
        (fX8_joins 32 (o1 0 9) 1 (o1 0 10) (-1) o1).bind fun o2 =>
        (fX8_degreeOf 32 o2).bind fun o3 =>
        if o3.1 ≤ 1 then
          (fX8_valueOf 32 0 o3.2).bind fun o4 =>
          (fX8_valueOf 32 1 o4.2).bind fun o5 =>
          (fX8_firstNought o4.1 o5.1 o5.2).bind fun o6 =>
          some (o6.1, o6.2)
        else
          some ((-2), o3.2)
      else
        fX8_aheadOf_L38 o1
    else
      fX8_aheadOf_L38 o1
  else
    some ((-2), σ)
set_option maxHeartbeats 4000000 in
set_option maxRecDepth 100000 in
theorem mX8_aheadOf {l : Launch} {D : va_G} {cI : ClassId} {ad : Nat → Nat} {σ : Mem} {out : Int32 × Mem} (h : fX8_aheadOf σ = some out) : MI l D cI layM ad yX8_aheadOf cX8_aheadOf 1 .int rmX8_aheadOf [.ref (ad 0)] σ out := by
  refine met_i (by decide) (Nat.le_of_ble_eq_true rfl) (fun E C K0 => ?_)
  show G E rmX8_aheadOf cI layM ad 1 0 [(0, .ref (ad 0))] [] σ
  unfold fX8_aheadOf at h
  refine g_aload_n 1 C dX8_aheadOf_0 rfl (j := 0) rfl rfl ?_
  refine g_geti 4 (j := 8) C rfl rfl wu_X8 (by decide) wf_X8_23 rfl dX8_aheadOf_1 rfl ?_
  refine g_if_eq 10 7 C dX8_aheadOf_4 (by decide) rfl h (fun h => ?_) (fun h => ?_)
  · refine g_aload_n 11 C dX8_aheadOf_10 rfl (j := 0) rfl rfl ?_
    refine g_cvv 14 C (As := []) (fun _ h => mX8_lays (σ := σ) h) wl_X8_190 wi_X8_lays wz_X8_lays wc_X8_lays wn_X8 qX8_lays rfl rfl ⟨Nat.le_of_ble_eq_true rfl, Nat.le_of_ble_eq_true rfl⟩ rfl rfl rfl rfl (Nat.le_of_ble_eq_true rfl) dX8_aheadOf_11 rfl h (fun o1 h => ?_)
    refine g_aload_n 15 C dX8_aheadOf_14 rfl (j := 0) rfl rfl ?_
    refine g_getr 18 (j := 13) C rfl rfl wu_X8 (by decide) wf_X8_36 rfl dX8_aheadOf_15 rfl ?_
    refine g_aload_n 19 C dX8_aheadOf_18 rfl (j := 0) rfl rfl ?_
    refine g_geti 22 (j := 9) C rfl rfl wu_X8 (by decide) wf_X8_27 rfl dX8_aheadOf_19 rfl ?_
    refine g_iald 23 C rfl dX8_aheadOf_22 rfl h (fun h => ?_)
    refine g_if_ne 38 26 C dX8_aheadOf_23 (by decide) rfl h (fun h => ?_) (fun h => ?_)
    · refine g_aload_n 27 C dX8_aheadOf_26 rfl (j := 0) rfl rfl ?_
      refine g_getr 30 (j := 13) C rfl rfl wu_X8 (by decide) wf_X8_36 rfl dX8_aheadOf_27 rfl ?_
      refine g_aload_n 31 C dX8_aheadOf_30 rfl (j := 0) rfl rfl ?_
      refine g_geti 34 (j := 10) C rfl rfl wu_X8 (by decide) wf_X8_30 rfl dX8_aheadOf_31 rfl ?_
      refine g_iald 35 C rfl dX8_aheadOf_34 rfl h (fun h => ?_)
      refine g_if_eq 41 38 C dX8_aheadOf_35 (by decide) rfl h (fun h => ?_) (fun h => ?_)
      · refine g_aload_n 42 C dX8_aheadOf_41 rfl (j := 0) rfl rfl ?_
        refine g_bipush 44 (v := 32) C dX8_aheadOf_42 (by decide) rfl ?_
        refine g_aload_n 45 C dX8_aheadOf_44 rfl (j := 0) rfl rfl ?_
        refine g_geti 48 (j := 9) C rfl rfl wu_X8 (by decide) wf_X8_27 rfl dX8_aheadOf_45 rfl ?_
        refine g_iconst 49 (v := 1) C dX8_aheadOf_48 (by decide) rfl ?_
        refine g_aload_n 50 C dX8_aheadOf_49 rfl (j := 0) rfl rfl ?_
        refine g_geti 53 (j := 10) C rfl rfl wu_X8 (by decide) wf_X8_30 rfl dX8_aheadOf_50 rfl ?_
        refine g_iconst 54 (v := (-1)) C dX8_aheadOf_53 (by decide) rfl ?_
        refine g_cvv 57 C (As := [.int 32, .int (o1 0 9), .int 1, .int (o1 0 10), .int (-1)]) (fun _ h => mX8_joins (a1 := 32) (a2 := o1 0 9) (a3 := 1) (a4 := o1 0 10) (a5 := (-1)) (σ := o1) h) wl_X8_162 wi_X8_joins wz_X8_joins wc_X8_joins wn_X8 qX8_joins rfl rfl ⟨Nat.le_of_ble_eq_true rfl, Nat.le_of_ble_eq_true rfl⟩ rfl rfl rfl rfl (Nat.le_of_ble_eq_true rfl) dX8_aheadOf_54 rfl h (fun o2 h => ?_)
        refine g_aload_n 58 C dX8_aheadOf_57 rfl (j := 0) rfl rfl ?_
        refine g_bipush 60 (v := 32) C dX8_aheadOf_58 (by decide) rfl ?_
        refine g_cvi 63 C (As := [.int 32]) (fun _ h => mX8_degreeOf (a1 := 32) (σ := o2) h) wl_X8_124 wi_X8_degreeOf wz_X8_degreeOf wc_X8_degreeOf wn_X8 qX8_degreeOf rfl rfl ⟨Nat.le_of_ble_eq_true rfl, Nat.le_of_ble_eq_true rfl⟩ rfl rfl rfl rfl (Nat.le_of_ble_eq_true rfl) dX8_aheadOf_60 rfl h (fun o3 h => ?_)
        refine g_iconst 64 (v := 1) C dX8_aheadOf_63 (by decide) rfl ?_
        refine g_icmp_le 70 67 C dX8_aheadOf_64 (by decide) rfl h (fun h => ?_) (fun h => ?_)
        · refine g_aload_n 71 C dX8_aheadOf_70 rfl (j := 0) rfl rfl ?_
          refine g_aload_n 72 C dX8_aheadOf_71 rfl (j := 0) rfl rfl ?_
          refine g_bipush 74 (v := 32) C dX8_aheadOf_72 (by decide) rfl ?_
          refine g_iconst 75 (v := 0) C dX8_aheadOf_74 (by decide) rfl ?_
          refine g_cvi 78 C (As := [.int 32, .int 0]) (fun _ h => mX8_valueOf (a1 := 32) (a2 := 0) (σ := o3.2) h) wl_X8_208 wi_X8_valueOf wz_X8_valueOf wc_X8_valueOf wn_X8 qX8_valueOf rfl rfl ⟨Nat.le_of_ble_eq_true rfl, Nat.le_of_ble_eq_true rfl⟩ rfl rfl rfl rfl (Nat.le_of_ble_eq_true rfl) dX8_aheadOf_75 rfl h (fun o4 h => ?_)
          refine g_aload_n 79 C dX8_aheadOf_78 rfl (j := 0) rfl rfl ?_
          refine g_bipush 81 (v := 32) C dX8_aheadOf_79 (by decide) rfl ?_
          refine g_iconst 82 (v := 1) C dX8_aheadOf_81 (by decide) rfl ?_
          refine g_cvi 85 C (As := [.int 32, .int 1]) (fun _ h => mX8_valueOf (a1 := 32) (a2 := 1) (σ := o4.2) h) wl_X8_208 wi_X8_valueOf wz_X8_valueOf wc_X8_valueOf wn_X8 qX8_valueOf rfl rfl ⟨Nat.le_of_ble_eq_true rfl, Nat.le_of_ble_eq_true rfl⟩ rfl rfl rfl rfl (Nat.le_of_ble_eq_true rfl) dX8_aheadOf_82 rfl h (fun o5 h => ?_)
          refine g_cvi 88 C (As := [.int o4.1, .int o5.1]) (fun _ h => mX8_firstNought (a1 := o4.1) (a2 := o5.1) (σ := o5.2) h) wl_X8_277 wi_X8_firstNought wz_X8_firstNought wc_X8_firstNought wn_X8 qX8_firstNought rfl rfl ⟨Nat.le_of_ble_eq_true rfl, Nat.le_of_ble_eq_true rfl⟩ rfl rfl rfl rfl (Nat.le_of_ble_eq_true rfl) dX8_aheadOf_85 rfl h (fun o6 h => ?_)
          cases h
          exact K0 _ _ dX8_aheadOf_88 rfl
        · refine g_bipush 69 (v := (-2)) C dX8_aheadOf_67 (by decide) rfl ?_
          cases h
          exact K0 _ _ dX8_aheadOf_69 rfl
      · exact g_sub [] (tX8_aheadOf_L38 (σ := o1) C K0 h) rfl
    · exact g_sub [] (tX8_aheadOf_L38 (σ := o1) C K0 h) rfl
  · refine g_bipush 9 (v := (-2)) C dX8_aheadOf_7 (by decide) rfl ?_
    cases h
    exact K0 _ _ dX8_aheadOf_9 rfl

/-! LoopReducerModel.ahead(III)I -/
abbrev rmX8_ahead : Room := { frames := 8, cells := 0, slots := 0, locals := 191 }
theorem qX8_ahead : yX8_ahead.cls ≠ "java/lang/invoke/MethodHandle" ∧ yX8_ahead.cls ≠ "java/lang/invoke/VarHandle" ∧ (parseMethodDescriptor yX8_ahead.desc).map (fun d => d.parameters.length) = some 3 := by decide +kernel
theorem DX8_ahead : ∀ q ∈ ([(0, .aload_n 0, 1), (1, .iconst 0, 1), (2, .putfield 69, 3), (5, .aload_n 0, 1), (6, .iload_n 1, 1), (7, .iload_n 2, 1), (8, .iload_n 3, 1), (9, .invokevirtual 205, 3), (12, .aload_n 0, 1), (13, .invokevirtual 280, 3), (16, .ireturn, 1)] : List (Nat × Instr × Nat)), decode cX8_ahead q.1 = .ok q.2 := by decide +kernel
theorem dX8_ahead_0 : decode cX8_ahead 0 = .ok (.aload_n 0, 1) := DX8_ahead (0, .aload_n 0, 1) (List.mem_of_getElem? (i := 0) rfl)
theorem dX8_ahead_1 : decode cX8_ahead 1 = .ok (.iconst 0, 1) := DX8_ahead (1, .iconst 0, 1) (List.mem_of_getElem? (i := 1) rfl)
theorem dX8_ahead_2 : decode cX8_ahead 2 = .ok (.putfield 69, 3) := DX8_ahead (2, .putfield 69, 3) (List.mem_of_getElem? (i := 2) rfl)
theorem dX8_ahead_5 : decode cX8_ahead 5 = .ok (.aload_n 0, 1) := DX8_ahead (5, .aload_n 0, 1) (List.mem_of_getElem? (i := 3) rfl)
theorem dX8_ahead_6 : decode cX8_ahead 6 = .ok (.iload_n 1, 1) := DX8_ahead (6, .iload_n 1, 1) (List.mem_of_getElem? (i := 4) rfl)
theorem dX8_ahead_7 : decode cX8_ahead 7 = .ok (.iload_n 2, 1) := DX8_ahead (7, .iload_n 2, 1) (List.mem_of_getElem? (i := 5) rfl)
theorem dX8_ahead_8 : decode cX8_ahead 8 = .ok (.iload_n 3, 1) := DX8_ahead (8, .iload_n 3, 1) (List.mem_of_getElem? (i := 6) rfl)
theorem dX8_ahead_9 : decode cX8_ahead 9 = .ok (.invokevirtual 205, 3) := DX8_ahead (9, .invokevirtual 205, 3) (List.mem_of_getElem? (i := 7) rfl)
theorem dX8_ahead_12 : decode cX8_ahead 12 = .ok (.aload_n 0, 1) := DX8_ahead (12, .aload_n 0, 1) (List.mem_of_getElem? (i := 8) rfl)
theorem dX8_ahead_13 : decode cX8_ahead 13 = .ok (.invokevirtual 280, 3) := DX8_ahead (13, .invokevirtual 280, 3) (List.mem_of_getElem? (i := 9) rfl)
theorem dX8_ahead_16 : decode cX8_ahead 16 = .ok (.ireturn, 1) := DX8_ahead (16, .ireturn, 1) (List.mem_of_getElem? (i := 10) rfl)
noncomputable def fX8_ahead (a1 : Int32) (a2 : Int32) (a3 : Int32) (σ : Mem) : Option (Int32 × Mem) :=
  (fX8_gives a1 a2 a3 (up2 σ 0 2 0)).bind fun o1 =>
  (fX8_aheadOf o1).bind fun o2 =>
  some (o2.1, o2.2)
set_option maxHeartbeats 4000000 in
set_option maxRecDepth 100000 in
theorem mX8_ahead {l : Launch} {D : va_G} {cI : ClassId} {ad : Nat → Nat} {a1 : Int32} {a2 : Int32} {a3 : Int32} {σ : Mem} {out : Int32 × Mem} (h : fX8_ahead a1 a2 a3 σ = some out) : MI l D cI layM ad yX8_ahead cX8_ahead 4 .int rmX8_ahead [.ref (ad 0), .int a1, .int a2, .int a3] σ out := by
  refine met_i (by decide) (Nat.le_of_ble_eq_true rfl) (fun E C K0 => ?_)
  show G E rmX8_ahead cI layM ad 4 0 [(0, .ref (ad 0)), (1, .int a1), (2, .int a2), (3, .int a3)] [] σ
  unfold fX8_ahead at h
  refine g_aload_n 1 C dX8_ahead_0 rfl (j := 0) rfl rfl ?_
  refine g_iconst 2 (v := 0) C dX8_ahead_1 (by decide) rfl ?_
  refine g_puti 5 (j := 2) C rfl rfl wu_X8 (by decide) wf_X8_69 tyX8 tyX8_ok nmX8 rfl rfl rfl rfl dX8_ahead_2 rfl ?_
  refine g_aload_n 6 C dX8_ahead_5 rfl (j := 0) rfl rfl ?_
  refine g_iload_n 7 C dX8_ahead_6 rfl (j := 1) rfl rfl ?_
  refine g_iload_n 8 C dX8_ahead_7 rfl (j := 2) rfl rfl ?_
  refine g_iload_n 9 C dX8_ahead_8 rfl (j := 3) rfl rfl ?_
  refine g_cvv 12 C (As := [.int a1, .int a2, .int a3]) (fun _ h => mX8_gives (a1 := a1) (a2 := a2) (a3 := a3) (σ := up2 σ 0 2 0) h) wl_X8_205 wi_X8_gives wz_X8_gives wc_X8_gives wn_X8 qX8_gives rfl rfl ⟨Nat.le_of_ble_eq_true rfl, Nat.le_of_ble_eq_true rfl⟩ rfl rfl rfl rfl (Nat.le_of_ble_eq_true rfl) dX8_ahead_9 rfl h (fun o1 h => ?_)
  refine g_aload_n 13 C dX8_ahead_12 rfl (j := 0) rfl rfl ?_
  refine g_cvi 16 C (As := []) (fun _ h => mX8_aheadOf (σ := o1) h) wl_X8_280 wi_X8_aheadOf wz_X8_aheadOf wc_X8_aheadOf wn_X8 qX8_aheadOf rfl rfl ⟨Nat.le_of_ble_eq_true rfl, Nat.le_of_ble_eq_true rfl⟩ rfl rfl rfl rfl (Nat.le_of_ble_eq_true rfl) dX8_ahead_13 rfl h (fun o2 h => ?_)
  cases h
  exact K0 _ _ dX8_ahead_16 rfl

/-! LoopReducerModel.swapped(IIII)I -/
abbrev rmX8_swapped : Room := { frames := 8, cells := 0, slots := 0, locals := 191 }
theorem qX8_swapped : yX8_swapped.cls ≠ "java/lang/invoke/MethodHandle" ∧ yX8_swapped.cls ≠ "java/lang/invoke/VarHandle" ∧ (parseMethodDescriptor yX8_swapped.desc).map (fun d => d.parameters.length) = some 4 := by decide +kernel
theorem DX8_swapped : ∀ q ∈ ([(0, .aload_n 0, 1), (1, .iconst 0, 1), (2, .putfield 69, 3), (5, .aload_n 0, 1), (6, .iload_n 2, 1), (7, .iload_n 3, 1), (8, .iload 4, 2), (10, .invokevirtual 205, 3), (13, .aload_n 0, 1), (14, .invokevirtual 280, 3), (17, .istore 5, 2), (19, .iload 5, 2), (21, .ifCond .lt 30, 3), (24, .aload_n 0, 1), (25, .iload_n 1, 1), (26, .invokevirtual 95, 3), (29, .ifCond .eq 22, 3), (32, .aload_n 0, 1), (33, .getfield 39, 3), (36, .iload_n 1, 1), (37, .iaload, 1), (38, .iconst 1, 1), (39, .if_icmp .ne 12, 3), (42, .aload_n 0, 1), (43, .iload_n 1, 1), (44, .invokevirtual 124, 3), (47, .iconst 1, 1), (48, .if_icmp .eq 6, 3), (51, .bipush (-2), 2), (53, .ireturn, 1), (54, .aload_n 0, 1), (55, .aload_n 0, 1), (56, .iload 5, 2), (58, .i2l, 1), (59, .lneg, 1), (60, .aload_n 0, 1), (61, .iload_n 1, 1), (62, .iconst 1, 1), (63, .invokevirtual 208, 3), (66, .i2l, 1), (67, .lmul, 1), (68, .invokevirtual 83, 3), (71, .aload_n 0, 1), (72, .iload_n 1, 1), (73, .iconst 1, 1), (74, .invokevirtual 208, 3), (77, .invokevirtual 277, 3), (80, .istore 6, 2), (82, .iload 6, 2), (84, .iload 5, 2), (86, .if_icmp .ge 8, 3), (89, .iload 6, 2), (91, .goto 4, 3), (94, .iconst (-1), 1), (95, .ireturn, 1)] : List (Nat × Instr × Nat)), decode cX8_swapped q.1 = .ok q.2 := by decide +kernel
theorem dX8_swapped_0 : decode cX8_swapped 0 = .ok (.aload_n 0, 1) := DX8_swapped (0, .aload_n 0, 1) (List.mem_of_getElem? (i := 0) rfl)
theorem dX8_swapped_1 : decode cX8_swapped 1 = .ok (.iconst 0, 1) := DX8_swapped (1, .iconst 0, 1) (List.mem_of_getElem? (i := 1) rfl)
theorem dX8_swapped_2 : decode cX8_swapped 2 = .ok (.putfield 69, 3) := DX8_swapped (2, .putfield 69, 3) (List.mem_of_getElem? (i := 2) rfl)
theorem dX8_swapped_5 : decode cX8_swapped 5 = .ok (.aload_n 0, 1) := DX8_swapped (5, .aload_n 0, 1) (List.mem_of_getElem? (i := 3) rfl)
theorem dX8_swapped_6 : decode cX8_swapped 6 = .ok (.iload_n 2, 1) := DX8_swapped (6, .iload_n 2, 1) (List.mem_of_getElem? (i := 4) rfl)
theorem dX8_swapped_7 : decode cX8_swapped 7 = .ok (.iload_n 3, 1) := DX8_swapped (7, .iload_n 3, 1) (List.mem_of_getElem? (i := 5) rfl)
theorem dX8_swapped_8 : decode cX8_swapped 8 = .ok (.iload 4, 2) := DX8_swapped (8, .iload 4, 2) (List.mem_of_getElem? (i := 6) rfl)
theorem dX8_swapped_10 : decode cX8_swapped 10 = .ok (.invokevirtual 205, 3) := DX8_swapped (10, .invokevirtual 205, 3) (List.mem_of_getElem? (i := 7) rfl)
theorem dX8_swapped_13 : decode cX8_swapped 13 = .ok (.aload_n 0, 1) := DX8_swapped (13, .aload_n 0, 1) (List.mem_of_getElem? (i := 8) rfl)
theorem dX8_swapped_14 : decode cX8_swapped 14 = .ok (.invokevirtual 280, 3) := DX8_swapped (14, .invokevirtual 280, 3) (List.mem_of_getElem? (i := 9) rfl)
theorem dX8_swapped_17 : decode cX8_swapped 17 = .ok (.istore 5, 2) := DX8_swapped (17, .istore 5, 2) (List.mem_of_getElem? (i := 10) rfl)
theorem dX8_swapped_19 : decode cX8_swapped 19 = .ok (.iload 5, 2) := DX8_swapped (19, .iload 5, 2) (List.mem_of_getElem? (i := 11) rfl)
theorem dX8_swapped_21 : decode cX8_swapped 21 = .ok (.ifCond .lt 30, 3) := DX8_swapped (21, .ifCond .lt 30, 3) (List.mem_of_getElem? (i := 12) rfl)
theorem dX8_swapped_24 : decode cX8_swapped 24 = .ok (.aload_n 0, 1) := DX8_swapped (24, .aload_n 0, 1) (List.mem_of_getElem? (i := 13) rfl)
theorem dX8_swapped_25 : decode cX8_swapped 25 = .ok (.iload_n 1, 1) := DX8_swapped (25, .iload_n 1, 1) (List.mem_of_getElem? (i := 14) rfl)
theorem dX8_swapped_26 : decode cX8_swapped 26 = .ok (.invokevirtual 95, 3) := DX8_swapped (26, .invokevirtual 95, 3) (List.mem_of_getElem? (i := 15) rfl)
theorem dX8_swapped_29 : decode cX8_swapped 29 = .ok (.ifCond .eq 22, 3) := DX8_swapped (29, .ifCond .eq 22, 3) (List.mem_of_getElem? (i := 16) rfl)
theorem dX8_swapped_32 : decode cX8_swapped 32 = .ok (.aload_n 0, 1) := DX8_swapped (32, .aload_n 0, 1) (List.mem_of_getElem? (i := 17) rfl)
theorem dX8_swapped_33 : decode cX8_swapped 33 = .ok (.getfield 39, 3) := DX8_swapped (33, .getfield 39, 3) (List.mem_of_getElem? (i := 18) rfl)
theorem dX8_swapped_36 : decode cX8_swapped 36 = .ok (.iload_n 1, 1) := DX8_swapped (36, .iload_n 1, 1) (List.mem_of_getElem? (i := 19) rfl)
theorem dX8_swapped_37 : decode cX8_swapped 37 = .ok (.iaload, 1) := DX8_swapped (37, .iaload, 1) (List.mem_of_getElem? (i := 20) rfl)
theorem dX8_swapped_38 : decode cX8_swapped 38 = .ok (.iconst 1, 1) := DX8_swapped (38, .iconst 1, 1) (List.mem_of_getElem? (i := 21) rfl)
theorem dX8_swapped_39 : decode cX8_swapped 39 = .ok (.if_icmp .ne 12, 3) := DX8_swapped (39, .if_icmp .ne 12, 3) (List.mem_of_getElem? (i := 22) rfl)
theorem dX8_swapped_42 : decode cX8_swapped 42 = .ok (.aload_n 0, 1) := DX8_swapped (42, .aload_n 0, 1) (List.mem_of_getElem? (i := 23) rfl)
theorem dX8_swapped_43 : decode cX8_swapped 43 = .ok (.iload_n 1, 1) := DX8_swapped (43, .iload_n 1, 1) (List.mem_of_getElem? (i := 24) rfl)
theorem dX8_swapped_44 : decode cX8_swapped 44 = .ok (.invokevirtual 124, 3) := DX8_swapped (44, .invokevirtual 124, 3) (List.mem_of_getElem? (i := 25) rfl)
theorem dX8_swapped_47 : decode cX8_swapped 47 = .ok (.iconst 1, 1) := DX8_swapped (47, .iconst 1, 1) (List.mem_of_getElem? (i := 26) rfl)
theorem dX8_swapped_48 : decode cX8_swapped 48 = .ok (.if_icmp .eq 6, 3) := DX8_swapped (48, .if_icmp .eq 6, 3) (List.mem_of_getElem? (i := 27) rfl)
theorem dX8_swapped_51 : decode cX8_swapped 51 = .ok (.bipush (-2), 2) := DX8_swapped (51, .bipush (-2), 2) (List.mem_of_getElem? (i := 28) rfl)
theorem dX8_swapped_53 : decode cX8_swapped 53 = .ok (.ireturn, 1) := DX8_swapped (53, .ireturn, 1) (List.mem_of_getElem? (i := 29) rfl)
theorem dX8_swapped_54 : decode cX8_swapped 54 = .ok (.aload_n 0, 1) := DX8_swapped (54, .aload_n 0, 1) (List.mem_of_getElem? (i := 30) rfl)
theorem dX8_swapped_55 : decode cX8_swapped 55 = .ok (.aload_n 0, 1) := DX8_swapped (55, .aload_n 0, 1) (List.mem_of_getElem? (i := 31) rfl)
theorem dX8_swapped_56 : decode cX8_swapped 56 = .ok (.iload 5, 2) := DX8_swapped (56, .iload 5, 2) (List.mem_of_getElem? (i := 32) rfl)
theorem dX8_swapped_58 : decode cX8_swapped 58 = .ok (.i2l, 1) := DX8_swapped (58, .i2l, 1) (List.mem_of_getElem? (i := 33) rfl)
theorem dX8_swapped_59 : decode cX8_swapped 59 = .ok (.lneg, 1) := DX8_swapped (59, .lneg, 1) (List.mem_of_getElem? (i := 34) rfl)
theorem dX8_swapped_60 : decode cX8_swapped 60 = .ok (.aload_n 0, 1) := DX8_swapped (60, .aload_n 0, 1) (List.mem_of_getElem? (i := 35) rfl)
theorem dX8_swapped_61 : decode cX8_swapped 61 = .ok (.iload_n 1, 1) := DX8_swapped (61, .iload_n 1, 1) (List.mem_of_getElem? (i := 36) rfl)
theorem dX8_swapped_62 : decode cX8_swapped 62 = .ok (.iconst 1, 1) := DX8_swapped (62, .iconst 1, 1) (List.mem_of_getElem? (i := 37) rfl)
theorem dX8_swapped_63 : decode cX8_swapped 63 = .ok (.invokevirtual 208, 3) := DX8_swapped (63, .invokevirtual 208, 3) (List.mem_of_getElem? (i := 38) rfl)
theorem dX8_swapped_66 : decode cX8_swapped 66 = .ok (.i2l, 1) := DX8_swapped (66, .i2l, 1) (List.mem_of_getElem? (i := 39) rfl)
theorem dX8_swapped_67 : decode cX8_swapped 67 = .ok (.lmul, 1) := DX8_swapped (67, .lmul, 1) (List.mem_of_getElem? (i := 40) rfl)
theorem dX8_swapped_68 : decode cX8_swapped 68 = .ok (.invokevirtual 83, 3) := DX8_swapped (68, .invokevirtual 83, 3) (List.mem_of_getElem? (i := 41) rfl)
theorem dX8_swapped_71 : decode cX8_swapped 71 = .ok (.aload_n 0, 1) := DX8_swapped (71, .aload_n 0, 1) (List.mem_of_getElem? (i := 42) rfl)
theorem dX8_swapped_72 : decode cX8_swapped 72 = .ok (.iload_n 1, 1) := DX8_swapped (72, .iload_n 1, 1) (List.mem_of_getElem? (i := 43) rfl)
theorem dX8_swapped_73 : decode cX8_swapped 73 = .ok (.iconst 1, 1) := DX8_swapped (73, .iconst 1, 1) (List.mem_of_getElem? (i := 44) rfl)
theorem dX8_swapped_74 : decode cX8_swapped 74 = .ok (.invokevirtual 208, 3) := DX8_swapped (74, .invokevirtual 208, 3) (List.mem_of_getElem? (i := 45) rfl)
theorem dX8_swapped_77 : decode cX8_swapped 77 = .ok (.invokevirtual 277, 3) := DX8_swapped (77, .invokevirtual 277, 3) (List.mem_of_getElem? (i := 46) rfl)
theorem dX8_swapped_80 : decode cX8_swapped 80 = .ok (.istore 6, 2) := DX8_swapped (80, .istore 6, 2) (List.mem_of_getElem? (i := 47) rfl)
theorem dX8_swapped_82 : decode cX8_swapped 82 = .ok (.iload 6, 2) := DX8_swapped (82, .iload 6, 2) (List.mem_of_getElem? (i := 48) rfl)
theorem dX8_swapped_84 : decode cX8_swapped 84 = .ok (.iload 5, 2) := DX8_swapped (84, .iload 5, 2) (List.mem_of_getElem? (i := 49) rfl)
theorem dX8_swapped_86 : decode cX8_swapped 86 = .ok (.if_icmp .ge 8, 3) := DX8_swapped (86, .if_icmp .ge 8, 3) (List.mem_of_getElem? (i := 50) rfl)
theorem dX8_swapped_89 : decode cX8_swapped 89 = .ok (.iload 6, 2) := DX8_swapped (89, .iload 6, 2) (List.mem_of_getElem? (i := 51) rfl)
theorem dX8_swapped_91 : decode cX8_swapped 91 = .ok (.goto 4, 3) := DX8_swapped (91, .goto 4, 3) (List.mem_of_getElem? (i := 52) rfl)
theorem dX8_swapped_94 : decode cX8_swapped 94 = .ok (.iconst (-1), 1) := DX8_swapped (94, .iconst (-1), 1) (List.mem_of_getElem? (i := 53) rfl)
theorem dX8_swapped_95 : decode cX8_swapped 95 = .ok (.ireturn, 1) := DX8_swapped (95, .ireturn, 1) (List.mem_of_getElem? (i := 54) rfl)
noncomputable def fX8_swapped_L51 (σ : Mem) : Option (Int32 × Mem) :=
  some ((-2), σ)
set_option maxHeartbeats 4000000 in
set_option maxRecDepth 100000 in
theorem tX8_swapped_L51 {E : Gx} {cI : ClassId} {ad : Nat → Nat} (C : Cx E rmX8_swapped cI layM ad 7 RX8 cX8_swapped) {out : Int32 × Mem} (K0 : KI E rmX8_swapped cI layM ad 7 cX8_swapped .int out) {σ : Mem} (h : fX8_swapped_L51 σ = some out) : G E rmX8_swapped cI layM ad 7 51 [] [] σ := by
  unfold fX8_swapped_L51 at h
  refine g_bipush 53 (v := (-2)) C dX8_swapped_51 (by decide) rfl ?_
  cases h
  exact K0 _ _ dX8_swapped_53 rfl
noncomputable def fX8_swapped_L95 (s0 : Int32) (σ : Mem) : Option (Int32 × Mem) :=
  some (s0, σ)
set_option maxHeartbeats 4000000 in
set_option maxRecDepth 100000 in
theorem tX8_swapped_L95 {E : Gx} {cI : ClassId} {ad : Nat → Nat} (C : Cx E rmX8_swapped cI layM ad 7 RX8 cX8_swapped) {out : Int32 × Mem} (K0 : KI E rmX8_swapped cI layM ad 7 cX8_swapped .int out) {s0 : Int32} {σ : Mem} (h : fX8_swapped_L95 s0 σ = some out) : G E rmX8_swapped cI layM ad 7 95 [] [.int s0] σ := by
  unfold fX8_swapped_L95 at h
  cases h
  exact K0 _ _ dX8_swapped_95 rfl
noncomputable def fX8_swapped (a1 : Int32) (a2 : Int32) (a3 : Int32) (a4 : Int32) (σ : Mem) : Option (Int32 × Mem) :=
  (fX8_gives a2 a3 a4 (up2 σ 0 2 0)).bind fun o1 =>
  (fX8_aheadOf o1).bind fun o2 =>
  if o2.1 < 0 then
    fX8_swapped_L51 o2.2
  else
    (fX8_isName a1 o2.2).bind fun o3 =>
    if o3.1 = 0 then
      fX8_swapped_L51 o3.2
    else
      chk (inb a1 30) <|
      if (o3.2 7 a1.toNatClampNeg) = 1 then
        (fX8_degreeOf a1 o3.2).bind fun o4 =>
        if o4.1 = 1 then
          (fX8_valueOf a1 1 o4.2).bind fun o5 =>
          (fX8_cut ((-((o2.1).toInt64)) * ((o5.1).toInt64)) o5.2).bind fun o6 =>
          (fX8_valueOf a1 1 o6.2).bind fun o7 =>
          (fX8_firstNought o6.1 o7.1 o7.2).bind fun o8 =>
          if o2.1 ≤ o8.1 then
            fX8_swapped_L95 (-1) o8.2
          else
            fX8_swapped_L95 o8.1 o8.2
        else
          fX8_swapped_L51 o4.2
      else
        fX8_swapped_L51 o3.2
set_option maxHeartbeats 4000000 in
set_option maxRecDepth 100000 in
theorem mX8_swapped {l : Launch} {D : va_G} {cI : ClassId} {ad : Nat → Nat} {a1 : Int32} {a2 : Int32} {a3 : Int32} {a4 : Int32} {σ : Mem} {out : Int32 × Mem} (h : fX8_swapped a1 a2 a3 a4 σ = some out) : MI l D cI layM ad yX8_swapped cX8_swapped 7 .int rmX8_swapped [.ref (ad 0), .int a1, .int a2, .int a3, .int a4] σ out := by
  refine met_i (by decide) (Nat.le_of_ble_eq_true rfl) (fun E C K0 => ?_)
  show G E rmX8_swapped cI layM ad 7 0 [(0, .ref (ad 0)), (1, .int a1), (2, .int a2), (3, .int a3), (4, .int a4)] [] σ
  unfold fX8_swapped at h
  refine g_aload_n 1 C dX8_swapped_0 rfl (j := 0) rfl rfl ?_
  refine g_iconst 2 (v := 0) C dX8_swapped_1 (by decide) rfl ?_
  refine g_puti 5 (j := 2) C rfl rfl wu_X8 (by decide) wf_X8_69 tyX8 tyX8_ok nmX8 rfl rfl rfl rfl dX8_swapped_2 rfl ?_
  refine g_aload_n 6 C dX8_swapped_5 rfl (j := 0) rfl rfl ?_
  refine g_iload_n 7 C dX8_swapped_6 rfl (j := 2) rfl rfl ?_
  refine g_iload_n 8 C dX8_swapped_7 rfl (j := 3) rfl rfl ?_
  refine g_iload 10 C dX8_swapped_8 (j := 4) rfl rfl ?_
  refine g_cvv 13 C (As := [.int a2, .int a3, .int a4]) (fun _ h => mX8_gives (a1 := a2) (a2 := a3) (a3 := a4) (σ := up2 σ 0 2 0) h) wl_X8_205 wi_X8_gives wz_X8_gives wc_X8_gives wn_X8 qX8_gives rfl rfl ⟨Nat.le_of_ble_eq_true rfl, Nat.le_of_ble_eq_true rfl⟩ rfl rfl rfl rfl (Nat.le_of_ble_eq_true rfl) dX8_swapped_10 rfl h (fun o1 h => ?_)
  refine g_aload_n 14 C dX8_swapped_13 rfl (j := 0) rfl rfl ?_
  refine g_cvi 17 C (As := []) (fun _ h => mX8_aheadOf (σ := o1) h) wl_X8_280 wi_X8_aheadOf wz_X8_aheadOf wc_X8_aheadOf wn_X8 qX8_aheadOf rfl rfl ⟨Nat.le_of_ble_eq_true rfl, Nat.le_of_ble_eq_true rfl⟩ rfl rfl rfl rfl (Nat.le_of_ble_eq_true rfl) dX8_swapped_14 rfl h (fun o2 h => ?_)
  refine g_istore 19 [(5, .int o2.1), (0, .ref (ad 0)), (1, .int a1), (2, .int a2), (3, .int a3), (4, .int a4)] C dX8_swapped_17 (by decide) rfl rfl ?_
  refine g_iload 21 C dX8_swapped_19 (j := 0) rfl rfl ?_
  refine g_if_lt 51 24 C dX8_swapped_21 (by decide) rfl h (fun h => ?_) (fun h => ?_)
  · exact g_sub [] (tX8_swapped_L51 (σ := o2.2) C K0 h) rfl
  · refine g_aload_n 25 C dX8_swapped_24 rfl (j := 1) rfl rfl ?_
    refine g_iload_n 26 C dX8_swapped_25 rfl (j := 2) rfl rfl ?_
    refine g_cvi 29 C (As := [.int a1]) (fun _ h => mX8_isName (a1 := a1) (σ := o2.2) h) wl_X8_95 wi_X8_isName wz_X8_isName wc_X8_isName wn_X8 qX8_isName rfl rfl ⟨Nat.le_of_ble_eq_true rfl, Nat.le_of_ble_eq_true rfl⟩ rfl rfl rfl rfl (Nat.le_of_ble_eq_true rfl) dX8_swapped_26 rfl h (fun o3 h => ?_)
    refine g_if_eq 51 32 C dX8_swapped_29 (by decide) rfl h (fun h => ?_) (fun h => ?_)
    · exact g_sub [] (tX8_swapped_L51 (σ := o3.2) C K0 h) rfl
    · refine g_aload_n 33 C dX8_swapped_32 rfl (j := 1) rfl rfl ?_
      refine g_getr 36 (j := 14) C rfl rfl wu_X8 (by decide) wf_X8_39 rfl dX8_swapped_33 rfl ?_
      refine g_iload_n 37 C dX8_swapped_36 rfl (j := 2) rfl rfl ?_
      refine g_iald 38 C rfl dX8_swapped_37 rfl h (fun h => ?_)
      refine g_iconst 39 (v := 1) C dX8_swapped_38 (by decide) rfl ?_
      refine g_icmp_ne 51 42 C dX8_swapped_39 (by decide) rfl h (fun h => ?_) (fun h => ?_)
      · refine g_aload_n 43 C dX8_swapped_42 rfl (j := 1) rfl rfl ?_
        refine g_iload_n 44 C dX8_swapped_43 rfl (j := 2) rfl rfl ?_
        refine g_cvi 47 C (As := [.int a1]) (fun _ h => mX8_degreeOf (a1 := a1) (σ := o3.2) h) wl_X8_124 wi_X8_degreeOf wz_X8_degreeOf wc_X8_degreeOf wn_X8 qX8_degreeOf rfl rfl ⟨Nat.le_of_ble_eq_true rfl, Nat.le_of_ble_eq_true rfl⟩ rfl rfl rfl rfl (Nat.le_of_ble_eq_true rfl) dX8_swapped_44 rfl h (fun o4 h => ?_)
        refine g_iconst 48 (v := 1) C dX8_swapped_47 (by decide) rfl ?_
        refine g_icmp_eq 54 51 C dX8_swapped_48 (by decide) rfl h (fun h => ?_) (fun h => ?_)
        · refine g_aload_n 55 C dX8_swapped_54 rfl (j := 1) rfl rfl ?_
          refine g_aload_n 56 C dX8_swapped_55 rfl (j := 1) rfl rfl ?_
          refine g_iload 58 C dX8_swapped_56 (j := 0) rfl rfl ?_
          refine g_i2l 59 C dX8_swapped_58 rfl ?_
          refine g_lneg 60 C dX8_swapped_59 rfl ?_
          refine g_aload_n 61 C dX8_swapped_60 rfl (j := 1) rfl rfl ?_
          refine g_iload_n 62 C dX8_swapped_61 rfl (j := 2) rfl rfl ?_
          refine g_iconst 63 (v := 1) C dX8_swapped_62 (by decide) rfl ?_
          refine g_cvi 66 C (As := [.int a1, .int 1]) (fun _ h => mX8_valueOf (a1 := a1) (a2 := 1) (σ := o4.2) h) wl_X8_208 wi_X8_valueOf wz_X8_valueOf wc_X8_valueOf wn_X8 qX8_valueOf rfl rfl ⟨Nat.le_of_ble_eq_true rfl, Nat.le_of_ble_eq_true rfl⟩ rfl rfl rfl rfl (Nat.le_of_ble_eq_true rfl) dX8_swapped_63 rfl h (fun o5 h => ?_)
          refine g_i2l 67 C dX8_swapped_66 rfl ?_
          refine g_lmul 68 C dX8_swapped_67 rfl ?_
          refine g_cvi 71 C (As := [.long ((-((o2.1).toInt64)) * ((o5.1).toInt64))]) (fun _ h => mX8_cut (a1 := (-((o2.1).toInt64)) * ((o5.1).toInt64)) (σ := o5.2) h) wl_X8_83 wi_X8_cut wz_X8_cut wc_X8_cut wn_X8 qX8_cut rfl rfl ⟨Nat.le_of_ble_eq_true rfl, Nat.le_of_ble_eq_true rfl⟩ rfl rfl rfl rfl (Nat.le_of_ble_eq_true rfl) dX8_swapped_68 rfl h (fun o6 h => ?_)
          refine g_aload_n 72 C dX8_swapped_71 rfl (j := 1) rfl rfl ?_
          refine g_iload_n 73 C dX8_swapped_72 rfl (j := 2) rfl rfl ?_
          refine g_iconst 74 (v := 1) C dX8_swapped_73 (by decide) rfl ?_
          refine g_cvi 77 C (As := [.int a1, .int 1]) (fun _ h => mX8_valueOf (a1 := a1) (a2 := 1) (σ := o6.2) h) wl_X8_208 wi_X8_valueOf wz_X8_valueOf wc_X8_valueOf wn_X8 qX8_valueOf rfl rfl ⟨Nat.le_of_ble_eq_true rfl, Nat.le_of_ble_eq_true rfl⟩ rfl rfl rfl rfl (Nat.le_of_ble_eq_true rfl) dX8_swapped_74 rfl h (fun o7 h => ?_)
          refine g_cvi 80 C (As := [.int o6.1, .int o7.1]) (fun _ h => mX8_firstNought (a1 := o6.1) (a2 := o7.1) (σ := o7.2) h) wl_X8_277 wi_X8_firstNought wz_X8_firstNought wc_X8_firstNought wn_X8 qX8_firstNought rfl rfl ⟨Nat.le_of_ble_eq_true rfl, Nat.le_of_ble_eq_true rfl⟩ rfl rfl rfl rfl (Nat.le_of_ble_eq_true rfl) dX8_swapped_77 rfl h (fun o8 h => ?_)
          refine g_istore 82 [(6, .int o8.1), (5, .int o2.1), (0, .ref (ad 0)), (1, .int a1), (2, .int a2), (3, .int a3), (4, .int a4)] C dX8_swapped_80 (by decide) rfl rfl ?_
          refine g_iload 84 C dX8_swapped_82 (j := 0) rfl rfl ?_
          refine g_iload 86 C dX8_swapped_84 (j := 1) rfl rfl ?_
          refine g_icmp_ge 94 89 C dX8_swapped_86 (by decide) rfl h (fun h => ?_) (fun h => ?_)
          · refine g_iconst 95 (v := (-1)) C dX8_swapped_94 (by decide) rfl ?_
            exact g_sub [] (tX8_swapped_L95 (s0 := (-1)) (σ := o8.2) C K0 h) rfl
          · refine g_iload 91 C dX8_swapped_89 (j := 0) rfl rfl ?_
            refine g_goto 95 C dX8_swapped_91 (by decide) ?_
            exact g_sub [] (tX8_swapped_L95 (s0 := o8.1) (σ := o8.2) C K0 h) rfl
        · exact g_sub [] (tX8_swapped_L51 (σ := o4.2) C K0 h) rfl
      · exact g_sub [] (tX8_swapped_L51 (σ := o3.2) C K0 h) rfl
