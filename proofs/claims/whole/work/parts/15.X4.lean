/-! LoopReducer$Plan.isOfCells(I)Z -/
abbrev rmX4_isOfCells : Room := { frames := 0, cells := 0, slots := 0, locals := 0 }
theorem qX4_isOfCells : yX4_isOfCells.cls ≠ "java/lang/invoke/MethodHandle" ∧ yX4_isOfCells.cls ≠ "java/lang/invoke/VarHandle" ∧ (parseMethodDescriptor yX4_isOfCells.desc).map (fun d => d.parameters.length) = some 1 := by decide +kernel
theorem DX4_isOfCells : ∀ q ∈ ([(0, .aload_n 0, 1), (1, .getfield 24, 3), (4, .getfield 84, 3), (7, .iload_n 1, 1), (8, .iaload, 1), (9, .iconst 4, 1), (10, .if_icmp .ne 20, 3), (13, .aload_n 0, 1), (14, .getfield 28, 3), (17, .getfield 76, 3), (20, .iload_n 1, 1), (21, .iaload, 1), (22, .iconst 1, 1), (23, .if_icmp .ne 7, 3), (26, .iconst 1, 1), (27, .goto 4, 3), (30, .iconst 0, 1), (31, .ireturn, 1)] : List (Nat × Instr × Nat)), decode cX4_isOfCells q.1 = .ok q.2 := by decide +kernel
theorem dX4_isOfCells_0 : decode cX4_isOfCells 0 = .ok (.aload_n 0, 1) := DX4_isOfCells (0, .aload_n 0, 1) (List.mem_of_getElem? (i := 0) rfl)
theorem dX4_isOfCells_1 : decode cX4_isOfCells 1 = .ok (.getfield 24, 3) := DX4_isOfCells (1, .getfield 24, 3) (List.mem_of_getElem? (i := 1) rfl)
theorem dX4_isOfCells_4 : decode cX4_isOfCells 4 = .ok (.getfield 84, 3) := DX4_isOfCells (4, .getfield 84, 3) (List.mem_of_getElem? (i := 2) rfl)
theorem dX4_isOfCells_7 : decode cX4_isOfCells 7 = .ok (.iload_n 1, 1) := DX4_isOfCells (7, .iload_n 1, 1) (List.mem_of_getElem? (i := 3) rfl)
theorem dX4_isOfCells_8 : decode cX4_isOfCells 8 = .ok (.iaload, 1) := DX4_isOfCells (8, .iaload, 1) (List.mem_of_getElem? (i := 4) rfl)
theorem dX4_isOfCells_9 : decode cX4_isOfCells 9 = .ok (.iconst 4, 1) := DX4_isOfCells (9, .iconst 4, 1) (List.mem_of_getElem? (i := 5) rfl)
theorem dX4_isOfCells_10 : decode cX4_isOfCells 10 = .ok (.if_icmp .ne 20, 3) := DX4_isOfCells (10, .if_icmp .ne 20, 3) (List.mem_of_getElem? (i := 6) rfl)
theorem dX4_isOfCells_13 : decode cX4_isOfCells 13 = .ok (.aload_n 0, 1) := DX4_isOfCells (13, .aload_n 0, 1) (List.mem_of_getElem? (i := 7) rfl)
theorem dX4_isOfCells_14 : decode cX4_isOfCells 14 = .ok (.getfield 28, 3) := DX4_isOfCells (14, .getfield 28, 3) (List.mem_of_getElem? (i := 8) rfl)
theorem dX4_isOfCells_17 : decode cX4_isOfCells 17 = .ok (.getfield 76, 3) := DX4_isOfCells (17, .getfield 76, 3) (List.mem_of_getElem? (i := 9) rfl)
theorem dX4_isOfCells_20 : decode cX4_isOfCells 20 = .ok (.iload_n 1, 1) := DX4_isOfCells (20, .iload_n 1, 1) (List.mem_of_getElem? (i := 10) rfl)
theorem dX4_isOfCells_21 : decode cX4_isOfCells 21 = .ok (.iaload, 1) := DX4_isOfCells (21, .iaload, 1) (List.mem_of_getElem? (i := 11) rfl)
theorem dX4_isOfCells_22 : decode cX4_isOfCells 22 = .ok (.iconst 1, 1) := DX4_isOfCells (22, .iconst 1, 1) (List.mem_of_getElem? (i := 12) rfl)
theorem dX4_isOfCells_23 : decode cX4_isOfCells 23 = .ok (.if_icmp .ne 7, 3) := DX4_isOfCells (23, .if_icmp .ne 7, 3) (List.mem_of_getElem? (i := 13) rfl)
theorem dX4_isOfCells_26 : decode cX4_isOfCells 26 = .ok (.iconst 1, 1) := DX4_isOfCells (26, .iconst 1, 1) (List.mem_of_getElem? (i := 14) rfl)
theorem dX4_isOfCells_27 : decode cX4_isOfCells 27 = .ok (.goto 4, 3) := DX4_isOfCells (27, .goto 4, 3) (List.mem_of_getElem? (i := 15) rfl)
theorem dX4_isOfCells_30 : decode cX4_isOfCells 30 = .ok (.iconst 0, 1) := DX4_isOfCells (30, .iconst 0, 1) (List.mem_of_getElem? (i := 16) rfl)
theorem dX4_isOfCells_31 : decode cX4_isOfCells 31 = .ok (.ireturn, 1) := DX4_isOfCells (31, .ireturn, 1) (List.mem_of_getElem? (i := 17) rfl)
noncomputable def fX4_isOfCells_L31 (s0 : Int32) (σ : Mem) : Option (Int32 × Mem) :=
  chk (s0 == 0 || s0 == 1) <|
  some (s0, σ)
set_option maxHeartbeats 4000000 in
set_option maxRecDepth 100000 in
theorem tX4_isOfCells_L31 {E : Gx} {cI : ClassId} {ad : Nat → Nat} (C : Cx E rmX4_isOfCells cI layX ad 2 RX4 cX4_isOfCells) {out : Int32 × Mem} (K0 : KI E rmX4_isOfCells cI layX ad 2 cX4_isOfCells .boolean out) {s0 : Int32} {σ : Mem} (h : fX4_isOfCells_L31 s0 σ = some out) : G E rmX4_isOfCells cI layX ad 2 31 [] [.int s0] σ := by
  unfold fX4_isOfCells_L31 at h
  obtain ⟨hz, h⟩ := chk_some h
  cases h
  exact K0 _ _ dX4_isOfCells_31 (zb_nar hz)
noncomputable def fX4_isOfCells_L30 (σ : Mem) : Option (Int32 × Mem) :=
  fX4_isOfCells_L31 0 σ
set_option maxHeartbeats 4000000 in
set_option maxRecDepth 100000 in
theorem tX4_isOfCells_L30 {E : Gx} {cI : ClassId} {ad : Nat → Nat} (C : Cx E rmX4_isOfCells cI layX ad 2 RX4 cX4_isOfCells) {out : Int32 × Mem} (K0 : KI E rmX4_isOfCells cI layX ad 2 cX4_isOfCells .boolean out) {σ : Mem} (h : fX4_isOfCells_L30 σ = some out) : G E rmX4_isOfCells cI layX ad 2 30 [] [] σ := by
  unfold fX4_isOfCells_L30 at h
  refine g_iconst 31 (v := 0) C dX4_isOfCells_30 (by decide) rfl ?_
  exact tX4_isOfCells_L31 (s0 := 0) (σ := σ) C K0 h
noncomputable def fX4_isOfCells (a1 : Int32) (σ : Mem) : Option (Int32 × Mem) :=
  chk (inb a1 30) <|
  if (σ 8 a1.toNatClampNeg) = 4 then
    chk (inb a1 30) <|
    if (σ 20 a1.toNatClampNeg) = 1 then
      fX4_isOfCells_L31 1 σ
    else
      fX4_isOfCells_L30 σ
  else
    fX4_isOfCells_L30 σ
set_option maxHeartbeats 4000000 in
set_option maxRecDepth 100000 in
theorem mX4_isOfCells {l : Launch} {D : va_G} {cI : ClassId} {ad : Nat → Nat} {a1 : Int32} {σ : Mem} {out : Int32 × Mem} (h : fX4_isOfCells a1 σ = some out) : MI l D cI layX ad yX4_isOfCells cX4_isOfCells 2 .boolean rmX4_isOfCells [.ref (ad 4), .int a1] σ out := by
  refine met_i (by decide) (Nat.le_of_ble_eq_true rfl) (fun E C K0 => ?_)
  show G E rmX4_isOfCells cI layX ad 2 0 [(0, .ref (ad 4)), (1, .int a1)] [] σ
  unfold fX4_isOfCells at h
  refine g_aload_n 1 C dX4_isOfCells_0 rfl (j := 0) rfl rfl ?_
  refine g_getr 4 (j := 0) C rfl rfl wu_X4 (by decide) wf_X4_24 rfl dX4_isOfCells_1 rfl ?_
  refine g_getrN 7 (j := 1) C rfl rfl wu_X3 (by decide) (List.mem_of_getElem? (i := 4) rfl) rfl dX4_isOfCells_4 rfl ?_
  refine g_iload_n 8 C dX4_isOfCells_7 rfl (j := 1) rfl rfl ?_
  refine g_iald 9 C rfl dX4_isOfCells_8 rfl h (fun h => ?_)
  refine g_iconst 10 (v := 4) C dX4_isOfCells_9 (by decide) rfl ?_
  refine g_icmp_ne 30 13 C dX4_isOfCells_10 (by decide) rfl h (fun h => ?_) (fun h => ?_)
  · refine g_aload_n 14 C dX4_isOfCells_13 rfl (j := 0) rfl rfl ?_
    refine g_getr 17 (j := 1) C rfl rfl wu_X4 (by decide) wf_X4_28 rfl dX4_isOfCells_14 rfl ?_
    refine g_getrN 20 (j := 4) C rfl rfl wu_X0 (by decide) (List.mem_of_getElem? (i := 37) rfl) rfl dX4_isOfCells_17 rfl ?_
    refine g_iload_n 21 C dX4_isOfCells_20 rfl (j := 1) rfl rfl ?_
    refine g_iald 22 C rfl dX4_isOfCells_21 rfl h (fun h => ?_)
    refine g_iconst 23 (v := 1) C dX4_isOfCells_22 (by decide) rfl ?_
    refine g_icmp_ne 30 26 C dX4_isOfCells_23 (by decide) rfl h (fun h => ?_) (fun h => ?_)
    · refine g_iconst 27 (v := 1) C dX4_isOfCells_26 (by decide) rfl ?_
      refine g_goto 31 C dX4_isOfCells_27 (by decide) ?_
      exact g_sub [] (tX4_isOfCells_L31 (s0 := 1) (σ := σ) C K0 h) rfl
    · exact g_sub [] (tX4_isOfCells_L30 (σ := σ) C K0 h) rfl
  · exact g_sub [] (tX4_isOfCells_L30 (σ := σ) C K0 h) rfl

/-! LoopReducer$Plan.degree(I)I -/
abbrev rmX4_degree : Room := { frames := 1, cells := 0, slots := 0, locals := 22 }
theorem qX4_degree : yX4_degree.cls ≠ "java/lang/invoke/MethodHandle" ∧ yX4_degree.cls ≠ "java/lang/invoke/VarHandle" ∧ (parseMethodDescriptor yX4_degree.desc).map (fun d => d.parameters.length) = some 1 := by decide +kernel
theorem DX4_degree : ∀ q ∈ ([(0, .aload_n 0, 1), (1, .getfield 32, 3), (4, .aload_n 0, 1), (5, .getfield 9, 3), (8, .iload_n 1, 1), (9, .iaload, 1), (10, .invokevirtual 87, 3), (13, .aload_n 0, 1), (14, .getfield 15, 3), (17, .iload_n 1, 1), (18, .iaload, 1), (19, .isub, 1), (20, .ireturn, 1)] : List (Nat × Instr × Nat)), decode cX4_degree q.1 = .ok q.2 := by decide +kernel
theorem dX4_degree_0 : decode cX4_degree 0 = .ok (.aload_n 0, 1) := DX4_degree (0, .aload_n 0, 1) (List.mem_of_getElem? (i := 0) rfl)
theorem dX4_degree_1 : decode cX4_degree 1 = .ok (.getfield 32, 3) := DX4_degree (1, .getfield 32, 3) (List.mem_of_getElem? (i := 1) rfl)
theorem dX4_degree_4 : decode cX4_degree 4 = .ok (.aload_n 0, 1) := DX4_degree (4, .aload_n 0, 1) (List.mem_of_getElem? (i := 2) rfl)
theorem dX4_degree_5 : decode cX4_degree 5 = .ok (.getfield 9, 3) := DX4_degree (5, .getfield 9, 3) (List.mem_of_getElem? (i := 3) rfl)
theorem dX4_degree_8 : decode cX4_degree 8 = .ok (.iload_n 1, 1) := DX4_degree (8, .iload_n 1, 1) (List.mem_of_getElem? (i := 4) rfl)
theorem dX4_degree_9 : decode cX4_degree 9 = .ok (.iaload, 1) := DX4_degree (9, .iaload, 1) (List.mem_of_getElem? (i := 5) rfl)
theorem dX4_degree_10 : decode cX4_degree 10 = .ok (.invokevirtual 87, 3) := DX4_degree (10, .invokevirtual 87, 3) (List.mem_of_getElem? (i := 6) rfl)
theorem dX4_degree_13 : decode cX4_degree 13 = .ok (.aload_n 0, 1) := DX4_degree (13, .aload_n 0, 1) (List.mem_of_getElem? (i := 7) rfl)
theorem dX4_degree_14 : decode cX4_degree 14 = .ok (.getfield 15, 3) := DX4_degree (14, .getfield 15, 3) (List.mem_of_getElem? (i := 8) rfl)
theorem dX4_degree_17 : decode cX4_degree 17 = .ok (.iload_n 1, 1) := DX4_degree (17, .iload_n 1, 1) (List.mem_of_getElem? (i := 9) rfl)
theorem dX4_degree_18 : decode cX4_degree 18 = .ok (.iaload, 1) := DX4_degree (18, .iaload, 1) (List.mem_of_getElem? (i := 10) rfl)
theorem dX4_degree_19 : decode cX4_degree 19 = .ok (.isub, 1) := DX4_degree (19, .isub, 1) (List.mem_of_getElem? (i := 11) rfl)
theorem dX4_degree_20 : decode cX4_degree 20 = .ok (.ireturn, 1) := DX4_degree (20, .ireturn, 1) (List.mem_of_getElem? (i := 12) rfl)
noncomputable def fX4_degree (a1 : Int32) (σ : Mem) : Option (Int32 × Mem) :=
  chk (inb a1 90) <|
  (fX1_degree (σ 22 a1.toNatClampNeg) σ).bind fun o1 =>
  chk (inb a1 90) <|
  some (o1.1 - (o1.2 23 a1.toNatClampNeg), o1.2)
set_option maxHeartbeats 4000000 in
set_option maxRecDepth 100000 in
theorem mX4_degree {l : Launch} {D : va_G} {cI : ClassId} {ad : Nat → Nat} {a1 : Int32} {σ : Mem} {out : Int32 × Mem} (h : fX4_degree a1 σ = some out) : MI l D cI layX ad yX4_degree cX4_degree 2 .int rmX4_degree [.ref (ad 4), .int a1] σ out := by
  refine met_i (by decide) (Nat.le_of_ble_eq_true rfl) (fun E C K0 => ?_)
  show G E rmX4_degree cI layX ad 2 0 [(0, .ref (ad 4)), (1, .int a1)] [] σ
  unfold fX4_degree at h
  refine g_aload_n 1 C dX4_degree_0 rfl (j := 0) rfl rfl ?_
  refine g_getr 4 (j := 2) C rfl rfl wu_X4 (by decide) wf_X4_32 rfl dX4_degree_1 rfl ?_
  refine g_aload_n 5 C dX4_degree_4 rfl (j := 0) rfl rfl ?_
  refine g_getr 8 (j := 5) C rfl rfl wu_X4 (by decide) wf_X4_9 rfl dX4_degree_5 rfl ?_
  refine g_iload_n 9 C dX4_degree_8 rfl (j := 1) rfl rfl ?_
  refine g_iald 10 C rfl dX4_degree_9 rfl h (fun h => ?_)
  refine g_cni 13 C (As := [.int (σ 22 a1.toNatClampNeg)]) (fun _ h => mX1_degree (a1 := σ 22 a1.toNatClampNeg) (σ := σ) h) (List.mem_of_getElem? (i := 51) rfl) wi_X1_degree wz_X1_degree wc_X1_degree wn_X1 qX1_degree rfl rfl ⟨Nat.le_of_ble_eq_true rfl, Nat.le_of_ble_eq_true rfl⟩ rfl rfl rfl rfl (Nat.le_of_ble_eq_true rfl) dX4_degree_10 rfl h (fun o1 h => ?_)
  refine g_aload_n 14 C dX4_degree_13 rfl (j := 0) rfl rfl ?_
  refine g_getr 17 (j := 6) C rfl rfl wu_X4 (by decide) wf_X4_15 rfl dX4_degree_14 rfl ?_
  refine g_iload_n 18 C dX4_degree_17 rfl (j := 1) rfl rfl ?_
  refine g_iald 19 C rfl dX4_degree_18 rfl h (fun h => ?_)
  refine g_isub 20 C dX4_degree_19 rfl ?_
  cases h
  exact K0 _ _ dX4_degree_20 rfl

/-! LoopReducer$Plan.neededFor(I)I -/
abbrev rmX4_neededFor : Room := { frames := 2, cells := 0, slots := 0, locals := 42 }
theorem qX4_neededFor : yX4_neededFor.cls ≠ "java/lang/invoke/MethodHandle" ∧ yX4_neededFor.cls ≠ "java/lang/invoke/VarHandle" ∧ (parseMethodDescriptor yX4_neededFor.desc).map (fun d => d.parameters.length) = some 1 := by decide +kernel
theorem DX4_neededFor : ∀ q ∈ ([(0, .iload_n 1, 1), (1, .istore_n 2, 1), (2, .iconst 0, 1), (3, .istore_n 3, 1), (4, .iload_n 3, 1), (5, .aload_n 0, 1), (6, .getfield 24, 3), (9, .getfield 61, 3), (12, .if_icmp .ge 91, 3), (15, .iload_n 2, 1), (16, .istore 4, 2), (18, .iconst 0, 1), (19, .istore 5, 2), (21, .iload 5, 2), (23, .aload_n 0, 1), (24, .getfield 24, 3), (27, .getfield 61, 3), (30, .if_icmp .ge 55, 3), (33, .iload 4, 2), (35, .iload 5, 2), (37, .invokestatic 64, 3), (40, .ifCond .eq 39, 3), (43, .aload_n 0, 1), (44, .getfield 28, 3), (47, .getfield 76, 3), (50, .iload 5, 2), (52, .iaload, 1), (53, .ifCond .eq 26, 3), (56, .aload_n 0, 1), (57, .iload 5, 2), (59, .invokevirtual 68, 3), (62, .ifCond .ne 17, 3), (65, .iload 4, 2), (67, .aload_n 0, 1), (68, .getfield 24, 3), (71, .iload 5, 2), (73, .invokevirtual 81, 3), (76, .ior, 1), (77, .istore 4, 2), (79, .iinc 5 1, 3), (82, .goto (-61), 3), (85, .iload 4, 2), (87, .iload_n 2, 1), (88, .if_icmp .ne 6, 3), (91, .goto 12, 3), (94, .iload 4, 2), (96, .istore_n 2, 1), (97, .iinc 3 1, 3), (100, .goto (-96), 3), (103, .iload_n 2, 1), (104, .ireturn, 1)] : List (Nat × Instr × Nat)), decode cX4_neededFor q.1 = .ok q.2 := by decide +kernel
theorem dX4_neededFor_0 : decode cX4_neededFor 0 = .ok (.iload_n 1, 1) := DX4_neededFor (0, .iload_n 1, 1) (List.mem_of_getElem? (i := 0) rfl)
theorem dX4_neededFor_1 : decode cX4_neededFor 1 = .ok (.istore_n 2, 1) := DX4_neededFor (1, .istore_n 2, 1) (List.mem_of_getElem? (i := 1) rfl)
theorem dX4_neededFor_2 : decode cX4_neededFor 2 = .ok (.iconst 0, 1) := DX4_neededFor (2, .iconst 0, 1) (List.mem_of_getElem? (i := 2) rfl)
theorem dX4_neededFor_3 : decode cX4_neededFor 3 = .ok (.istore_n 3, 1) := DX4_neededFor (3, .istore_n 3, 1) (List.mem_of_getElem? (i := 3) rfl)
theorem dX4_neededFor_4 : decode cX4_neededFor 4 = .ok (.iload_n 3, 1) := DX4_neededFor (4, .iload_n 3, 1) (List.mem_of_getElem? (i := 4) rfl)
theorem dX4_neededFor_5 : decode cX4_neededFor 5 = .ok (.aload_n 0, 1) := DX4_neededFor (5, .aload_n 0, 1) (List.mem_of_getElem? (i := 5) rfl)
theorem dX4_neededFor_6 : decode cX4_neededFor 6 = .ok (.getfield 24, 3) := DX4_neededFor (6, .getfield 24, 3) (List.mem_of_getElem? (i := 6) rfl)
theorem dX4_neededFor_9 : decode cX4_neededFor 9 = .ok (.getfield 61, 3) := DX4_neededFor (9, .getfield 61, 3) (List.mem_of_getElem? (i := 7) rfl)
theorem dX4_neededFor_12 : decode cX4_neededFor 12 = .ok (.if_icmp .ge 91, 3) := DX4_neededFor (12, .if_icmp .ge 91, 3) (List.mem_of_getElem? (i := 8) rfl)
theorem dX4_neededFor_15 : decode cX4_neededFor 15 = .ok (.iload_n 2, 1) := DX4_neededFor (15, .iload_n 2, 1) (List.mem_of_getElem? (i := 9) rfl)
theorem dX4_neededFor_16 : decode cX4_neededFor 16 = .ok (.istore 4, 2) := DX4_neededFor (16, .istore 4, 2) (List.mem_of_getElem? (i := 10) rfl)
theorem dX4_neededFor_18 : decode cX4_neededFor 18 = .ok (.iconst 0, 1) := DX4_neededFor (18, .iconst 0, 1) (List.mem_of_getElem? (i := 11) rfl)
theorem dX4_neededFor_19 : decode cX4_neededFor 19 = .ok (.istore 5, 2) := DX4_neededFor (19, .istore 5, 2) (List.mem_of_getElem? (i := 12) rfl)
theorem dX4_neededFor_21 : decode cX4_neededFor 21 = .ok (.iload 5, 2) := DX4_neededFor (21, .iload 5, 2) (List.mem_of_getElem? (i := 13) rfl)
theorem dX4_neededFor_23 : decode cX4_neededFor 23 = .ok (.aload_n 0, 1) := DX4_neededFor (23, .aload_n 0, 1) (List.mem_of_getElem? (i := 14) rfl)
theorem dX4_neededFor_24 : decode cX4_neededFor 24 = .ok (.getfield 24, 3) := DX4_neededFor (24, .getfield 24, 3) (List.mem_of_getElem? (i := 15) rfl)
theorem dX4_neededFor_27 : decode cX4_neededFor 27 = .ok (.getfield 61, 3) := DX4_neededFor (27, .getfield 61, 3) (List.mem_of_getElem? (i := 16) rfl)
theorem dX4_neededFor_30 : decode cX4_neededFor 30 = .ok (.if_icmp .ge 55, 3) := DX4_neededFor (30, .if_icmp .ge 55, 3) (List.mem_of_getElem? (i := 17) rfl)
theorem dX4_neededFor_33 : decode cX4_neededFor 33 = .ok (.iload 4, 2) := DX4_neededFor (33, .iload 4, 2) (List.mem_of_getElem? (i := 18) rfl)
theorem dX4_neededFor_35 : decode cX4_neededFor 35 = .ok (.iload 5, 2) := DX4_neededFor (35, .iload 5, 2) (List.mem_of_getElem? (i := 19) rfl)
theorem dX4_neededFor_37 : decode cX4_neededFor 37 = .ok (.invokestatic 64, 3) := DX4_neededFor (37, .invokestatic 64, 3) (List.mem_of_getElem? (i := 20) rfl)
theorem dX4_neededFor_40 : decode cX4_neededFor 40 = .ok (.ifCond .eq 39, 3) := DX4_neededFor (40, .ifCond .eq 39, 3) (List.mem_of_getElem? (i := 21) rfl)
theorem dX4_neededFor_43 : decode cX4_neededFor 43 = .ok (.aload_n 0, 1) := DX4_neededFor (43, .aload_n 0, 1) (List.mem_of_getElem? (i := 22) rfl)
theorem dX4_neededFor_44 : decode cX4_neededFor 44 = .ok (.getfield 28, 3) := DX4_neededFor (44, .getfield 28, 3) (List.mem_of_getElem? (i := 23) rfl)
theorem dX4_neededFor_47 : decode cX4_neededFor 47 = .ok (.getfield 76, 3) := DX4_neededFor (47, .getfield 76, 3) (List.mem_of_getElem? (i := 24) rfl)
theorem dX4_neededFor_50 : decode cX4_neededFor 50 = .ok (.iload 5, 2) := DX4_neededFor (50, .iload 5, 2) (List.mem_of_getElem? (i := 25) rfl)
theorem dX4_neededFor_52 : decode cX4_neededFor 52 = .ok (.iaload, 1) := DX4_neededFor (52, .iaload, 1) (List.mem_of_getElem? (i := 26) rfl)
theorem dX4_neededFor_53 : decode cX4_neededFor 53 = .ok (.ifCond .eq 26, 3) := DX4_neededFor (53, .ifCond .eq 26, 3) (List.mem_of_getElem? (i := 27) rfl)
theorem dX4_neededFor_56 : decode cX4_neededFor 56 = .ok (.aload_n 0, 1) := DX4_neededFor (56, .aload_n 0, 1) (List.mem_of_getElem? (i := 28) rfl)
theorem dX4_neededFor_57 : decode cX4_neededFor 57 = .ok (.iload 5, 2) := DX4_neededFor (57, .iload 5, 2) (List.mem_of_getElem? (i := 29) rfl)
theorem dX4_neededFor_59 : decode cX4_neededFor 59 = .ok (.invokevirtual 68, 3) := DX4_neededFor (59, .invokevirtual 68, 3) (List.mem_of_getElem? (i := 30) rfl)
theorem dX4_neededFor_62 : decode cX4_neededFor 62 = .ok (.ifCond .ne 17, 3) := DX4_neededFor (62, .ifCond .ne 17, 3) (List.mem_of_getElem? (i := 31) rfl)
theorem dX4_neededFor_65 : decode cX4_neededFor 65 = .ok (.iload 4, 2) := DX4_neededFor (65, .iload 4, 2) (List.mem_of_getElem? (i := 32) rfl)
theorem dX4_neededFor_67 : decode cX4_neededFor 67 = .ok (.aload_n 0, 1) := DX4_neededFor (67, .aload_n 0, 1) (List.mem_of_getElem? (i := 33) rfl)
theorem dX4_neededFor_68 : decode cX4_neededFor 68 = .ok (.getfield 24, 3) := DX4_neededFor (68, .getfield 24, 3) (List.mem_of_getElem? (i := 34) rfl)
theorem dX4_neededFor_71 : decode cX4_neededFor 71 = .ok (.iload 5, 2) := DX4_neededFor (71, .iload 5, 2) (List.mem_of_getElem? (i := 35) rfl)
theorem dX4_neededFor_73 : decode cX4_neededFor 73 = .ok (.invokevirtual 81, 3) := DX4_neededFor (73, .invokevirtual 81, 3) (List.mem_of_getElem? (i := 36) rfl)
theorem dX4_neededFor_76 : decode cX4_neededFor 76 = .ok (.ior, 1) := DX4_neededFor (76, .ior, 1) (List.mem_of_getElem? (i := 37) rfl)
theorem dX4_neededFor_77 : decode cX4_neededFor 77 = .ok (.istore 4, 2) := DX4_neededFor (77, .istore 4, 2) (List.mem_of_getElem? (i := 38) rfl)
theorem dX4_neededFor_79 : decode cX4_neededFor 79 = .ok (.iinc 5 1, 3) := DX4_neededFor (79, .iinc 5 1, 3) (List.mem_of_getElem? (i := 39) rfl)
theorem dX4_neededFor_82 : decode cX4_neededFor 82 = .ok (.goto (-61), 3) := DX4_neededFor (82, .goto (-61), 3) (List.mem_of_getElem? (i := 40) rfl)
theorem dX4_neededFor_85 : decode cX4_neededFor 85 = .ok (.iload 4, 2) := DX4_neededFor (85, .iload 4, 2) (List.mem_of_getElem? (i := 41) rfl)
theorem dX4_neededFor_87 : decode cX4_neededFor 87 = .ok (.iload_n 2, 1) := DX4_neededFor (87, .iload_n 2, 1) (List.mem_of_getElem? (i := 42) rfl)
theorem dX4_neededFor_88 : decode cX4_neededFor 88 = .ok (.if_icmp .ne 6, 3) := DX4_neededFor (88, .if_icmp .ne 6, 3) (List.mem_of_getElem? (i := 43) rfl)
theorem dX4_neededFor_91 : decode cX4_neededFor 91 = .ok (.goto 12, 3) := DX4_neededFor (91, .goto 12, 3) (List.mem_of_getElem? (i := 44) rfl)
theorem dX4_neededFor_94 : decode cX4_neededFor 94 = .ok (.iload 4, 2) := DX4_neededFor (94, .iload 4, 2) (List.mem_of_getElem? (i := 45) rfl)
theorem dX4_neededFor_96 : decode cX4_neededFor 96 = .ok (.istore_n 2, 1) := DX4_neededFor (96, .istore_n 2, 1) (List.mem_of_getElem? (i := 46) rfl)
theorem dX4_neededFor_97 : decode cX4_neededFor 97 = .ok (.iinc 3 1, 3) := DX4_neededFor (97, .iinc 3 1, 3) (List.mem_of_getElem? (i := 47) rfl)
theorem dX4_neededFor_100 : decode cX4_neededFor 100 = .ok (.goto (-96), 3) := DX4_neededFor (100, .goto (-96), 3) (List.mem_of_getElem? (i := 48) rfl)
theorem dX4_neededFor_103 : decode cX4_neededFor 103 = .ok (.iload_n 2, 1) := DX4_neededFor (103, .iload_n 2, 1) (List.mem_of_getElem? (i := 49) rfl)
theorem dX4_neededFor_104 : decode cX4_neededFor 104 = .ok (.ireturn, 1) := DX4_neededFor (104, .ireturn, 1) (List.mem_of_getElem? (i := 50) rfl)
noncomputable def fX4_neededFor_L79 (l2 : Int32) (l3 : Int32) (l4 : Int32) (l5 : Int32) (σ : Mem) : Option ((Int32 × Int32 × Mem) ⊕ (Int32 × Mem)) :=
  some (.inl (l4, l5 + 1, σ))
set_option maxHeartbeats 4000000 in
set_option maxRecDepth 100000 in
theorem tX4_neededFor_L79 {E : Gx} {cI : ClassId} {ad : Nat → Nat} (C : Cx E rmX4_neededFor cI layX ad 6 RX4 cX4_neededFor) {out : Int32 × Mem} (K0 : KI E rmX4_neededFor cI layX ad 6 cX4_neededFor .int out) {l2 : Int32} {l3 : Int32} {l4 : Int32} {l5 : Int32} {σ : Mem} {res : (Int32 × Int32 × Mem) ⊕ (Int32 × Mem)} (h : fX4_neededFor_L79 l2 l3 l4 l5 σ = some res) (K : Sum.elim (fun a => G E rmX4_neededFor cI layX ad 6 21 [(0, .ref (ad 4)), (2, .int l2), (3, .int l3), (4, .int a.1), (5, .int a.2.1)] [] a.2.2) (fun b => G E rmX4_neededFor cI layX ad 6 85 [(0, .ref (ad 4)), (2, .int l2), (3, .int l3), (4, .int b.1)] [] b.2) res) : G E rmX4_neededFor cI layX ad 6 79 [(0, .ref (ad 4)), (2, .int l2), (3, .int l3), (4, .int l4), (5, .int l5)] [] σ := by
  unfold fX4_neededFor_L79 at h
  refine g_iinc 82 [(5, .int (l5 + 1)), (0, .ref (ad 4)), (2, .int l2), (3, .int l3), (4, .int l4)] C dX4_neededFor_79 (j := 4) rfl (by rfl) (by decide) rfl rfl ?_
  refine g_goto 21 C dX4_neededFor_82 (by decide) ?_
  have hh := end_inl h K
  exact g_sub [1, 2, 3, 4, 0] (hh) rfl
noncomputable def fX4_neededFor_B21 (l2 : Int32) (l3 : Int32) (l4 : Int32) (l5 : Int32) (σ : Mem) : Option ((Int32 × Int32 × Mem) ⊕ (Int32 × Mem)) :=
  if (σ 3 4) ≤ l5 then
    some (.inr (l4, σ))
  else
    (fX7_isIn l4 l5 σ).bind fun o1 =>
    if o1.1 = 0 then
      fX4_neededFor_L79 l2 l3 l4 l5 o1.2
    else
      chk (inb l5 30) <|
      if (o1.2 20 l5.toNatClampNeg) = 0 then
        fX4_neededFor_L79 l2 l3 l4 l5 o1.2
      else
        (fX4_isOfCells l5 o1.2).bind fun o2 =>
        if o2.1 = 0 then
          (fX3_parts l5 o2.2).bind fun o3 =>
          fX4_neededFor_L79 l2 l3 (l4 ||| o3.1) l5 o3.2
        else
          fX4_neededFor_L79 l2 l3 l4 l5 o2.2
set_option maxHeartbeats 4000000 in
set_option maxRecDepth 100000 in
theorem tX4_neededFor_B21 {E : Gx} {cI : ClassId} {ad : Nat → Nat} (C : Cx E rmX4_neededFor cI layX ad 6 RX4 cX4_neededFor) {out : Int32 × Mem} (K0 : KI E rmX4_neededFor cI layX ad 6 cX4_neededFor .int out) {l2 : Int32} {l3 : Int32} {l4 : Int32} {l5 : Int32} {σ : Mem} {res : (Int32 × Int32 × Mem) ⊕ (Int32 × Mem)} (h : fX4_neededFor_B21 l2 l3 l4 l5 σ = some res) (K : Sum.elim (fun a => G E rmX4_neededFor cI layX ad 6 21 [(0, .ref (ad 4)), (2, .int l2), (3, .int l3), (4, .int a.1), (5, .int a.2.1)] [] a.2.2) (fun b => G E rmX4_neededFor cI layX ad 6 85 [(0, .ref (ad 4)), (2, .int l2), (3, .int l3), (4, .int b.1)] [] b.2) res) : G E rmX4_neededFor cI layX ad 6 21 [(0, .ref (ad 4)), (2, .int l2), (3, .int l3), (4, .int l4), (5, .int l5)] [] σ := by
  unfold fX4_neededFor_B21 at h
  refine g_iload 23 C dX4_neededFor_21 (j := 4) rfl rfl ?_
  refine g_aload_n 24 C dX4_neededFor_23 rfl (j := 0) rfl rfl ?_
  refine g_getr 27 (j := 0) C rfl rfl wu_X4 (by decide) wf_X4_24 rfl dX4_neededFor_24 rfl ?_
  refine g_getiN 30 (j := 4) C rfl rfl wu_X3 (by decide) (List.mem_of_getElem? (i := 14) rfl) rfl dX4_neededFor_27 rfl ?_
  refine g_icmp_ge 85 33 C dX4_neededFor_30 (by decide) rfl h (fun h => ?_) (fun h => ?_)
  · have hh := end_inr h K
    exact g_sub [0, 1, 2, 3] (hh) rfl
  · refine g_iload 35 C dX4_neededFor_33 (j := 3) rfl rfl ?_
    refine g_iload 37 C dX4_neededFor_35 (j := 4) rfl rfl ?_
    refine g_cti 40 C (As := [.int l4, .int l5]) (fun _ h => mX7_isIn (a1 := l4) (a2 := l5) (σ := σ) h) (List.mem_of_getElem? (i := 49) rfl) ws_X7_isIn wc_X7_isIn wn_X7 qX7_isIn rfl rfl ⟨Nat.le_of_ble_eq_true rfl, Nat.le_of_ble_eq_true rfl⟩ rfl rfl (Nat.le_of_ble_eq_true rfl) dX4_neededFor_37 rfl h (fun o1 h => ?_)
    refine g_if_eq 79 43 C dX4_neededFor_40 (by decide) rfl h (fun h => ?_) (fun h => ?_)
    · exact tX4_neededFor_L79 (l2 := l2) (l3 := l3) (l4 := l4) (l5 := l5) (σ := o1.2) C K0 h K
    · refine g_aload_n 44 C dX4_neededFor_43 rfl (j := 0) rfl rfl ?_
      refine g_getr 47 (j := 1) C rfl rfl wu_X4 (by decide) wf_X4_28 rfl dX4_neededFor_44 rfl ?_
      refine g_getrN 50 (j := 4) C rfl rfl wu_X0 (by decide) (List.mem_of_getElem? (i := 37) rfl) rfl dX4_neededFor_47 rfl ?_
      refine g_iload 52 C dX4_neededFor_50 (j := 4) rfl rfl ?_
      refine g_iald 53 C rfl dX4_neededFor_52 rfl h (fun h => ?_)
      refine g_if_eq 79 56 C dX4_neededFor_53 (by decide) rfl h (fun h => ?_) (fun h => ?_)
      · exact tX4_neededFor_L79 (l2 := l2) (l3 := l3) (l4 := l4) (l5 := l5) (σ := o1.2) C K0 h K
      · refine g_aload_n 57 C dX4_neededFor_56 rfl (j := 0) rfl rfl ?_
        refine g_iload 59 C dX4_neededFor_57 (j := 4) rfl rfl ?_
        refine g_cvi 62 C (As := [.int l5]) (fun _ h => mX4_isOfCells (a1 := l5) (σ := o1.2) h) wl_X4_68 wi_X4_isOfCells wz_X4_isOfCells wc_X4_isOfCells wn_X4 qX4_isOfCells rfl rfl ⟨Nat.le_of_ble_eq_true rfl, Nat.le_of_ble_eq_true rfl⟩ rfl rfl rfl rfl (Nat.le_of_ble_eq_true rfl) dX4_neededFor_59 rfl h (fun o2 h => ?_)
        refine g_if_ne 79 65 C dX4_neededFor_62 (by decide) rfl h (fun h => ?_) (fun h => ?_)
        · refine g_iload 67 C dX4_neededFor_65 (j := 3) rfl rfl ?_
          refine g_aload_n 68 C dX4_neededFor_67 rfl (j := 0) rfl rfl ?_
          refine g_getr 71 (j := 0) C rfl rfl wu_X4 (by decide) wf_X4_24 rfl dX4_neededFor_68 rfl ?_
          refine g_iload 73 C dX4_neededFor_71 (j := 4) rfl rfl ?_
          refine g_cni 76 C (As := [.int l5]) (fun _ h => mX3_parts (a1 := l5) (σ := o2.2) h) (List.mem_of_getElem? (i := 50) rfl) wi_X3_parts wz_X3_parts wc_X3_parts wn_X3 qX3_parts rfl rfl ⟨Nat.le_of_ble_eq_true rfl, Nat.le_of_ble_eq_true rfl⟩ rfl rfl rfl rfl (Nat.le_of_ble_eq_true rfl) dX4_neededFor_73 rfl h (fun o3 h => ?_)
          refine g_ior 77 C dX4_neededFor_76 rfl ?_
          refine g_istore 79 [(4, .int (l4 ||| o3.1)), (0, .ref (ad 4)), (2, .int l2), (3, .int l3), (5, .int l5)] C dX4_neededFor_77 (by decide) rfl rfl ?_
          exact g_sub [1, 2, 3, 0, 4] (tX4_neededFor_L79 (l2 := l2) (l3 := l3) (l4 := (l4 ||| o3.1)) (l5 := l5) (σ := o3.2) C K0 h K) rfl
        · exact tX4_neededFor_L79 (l2 := l2) (l3 := l3) (l4 := l4) (l5 := l5) (σ := o2.2) C K0 h K
noncomputable def fX4_neededFor_L85 (l2 : Int32) (l3 : Int32) (l4 : Int32) (σ : Mem) : Option ((Int32 × Int32 × Mem) ⊕ (Int32 × Mem)) :=
  if l4 = l2 then
    some (.inr (l2, σ))
  else
    some (.inl (l4, l3 + 1, σ))
set_option maxHeartbeats 4000000 in
set_option maxRecDepth 100000 in
theorem tX4_neededFor_L85 {E : Gx} {cI : ClassId} {ad : Nat → Nat} (C : Cx E rmX4_neededFor cI layX ad 6 RX4 cX4_neededFor) {out : Int32 × Mem} (K0 : KI E rmX4_neededFor cI layX ad 6 cX4_neededFor .int out) {l2 : Int32} {l3 : Int32} {l4 : Int32} {σ : Mem} {res : (Int32 × Int32 × Mem) ⊕ (Int32 × Mem)} (h : fX4_neededFor_L85 l2 l3 l4 σ = some res) (K : Sum.elim (fun a => G E rmX4_neededFor cI layX ad 6 4 [(0, .ref (ad 4)), (2, .int a.1), (3, .int a.2.1)] [] a.2.2) (fun b => G E rmX4_neededFor cI layX ad 6 103 [(2, .int b.1)] [] b.2) res) : G E rmX4_neededFor cI layX ad 6 85 [(0, .ref (ad 4)), (2, .int l2), (3, .int l3), (4, .int l4)] [] σ := by
  unfold fX4_neededFor_L85 at h
  refine g_iload 87 C dX4_neededFor_85 (j := 3) rfl rfl ?_
  refine g_iload_n 88 C dX4_neededFor_87 rfl (j := 1) rfl rfl ?_
  refine g_icmp_ne 94 91 C dX4_neededFor_88 (by decide) rfl h (fun h => ?_) (fun h => ?_)
  · refine g_goto 103 C dX4_neededFor_91 (by decide) ?_
    have hh := end_inr h K
    exact g_sub [1] (hh) rfl
  · refine g_iload 96 C dX4_neededFor_94 (j := 3) rfl rfl ?_
    refine g_istore_n 97 [(2, .int l4), (0, .ref (ad 4)), (3, .int l3), (4, .int l4)] C dX4_neededFor_96 rfl (by decide) rfl rfl ?_
    refine g_iinc 100 [(3, .int (l3 + 1)), (2, .int l4), (0, .ref (ad 4)), (4, .int l4)] C dX4_neededFor_97 (j := 2) rfl (by rfl) (by decide) rfl rfl ?_
    refine g_goto 4 C dX4_neededFor_100 (by decide) ?_
    have hh := end_inl h K
    exact g_sub [2, 1, 0] (hh) rfl
noncomputable def fX4_neededFor_B4 (l2 : Int32) (l3 : Int32) (σ : Mem) : Option ((Int32 × Int32 × Mem) ⊕ (Int32 × Mem)) :=
  if (σ 3 4) ≤ l3 then
    some (.inr (l2, σ))
  else
    (loop (fun a => fX4_neededFor_B21 l2 l3 a.1 a.2.1 a.2.2) (l2, 0, σ)).bind fun b4 =>
    fX4_neededFor_L85 l2 l3 b4.1 b4.2
set_option maxHeartbeats 4000000 in
set_option maxRecDepth 100000 in
theorem tX4_neededFor_B4 {E : Gx} {cI : ClassId} {ad : Nat → Nat} (C : Cx E rmX4_neededFor cI layX ad 6 RX4 cX4_neededFor) {out : Int32 × Mem} (K0 : KI E rmX4_neededFor cI layX ad 6 cX4_neededFor .int out) {l2 : Int32} {l3 : Int32} {σ : Mem} {res : (Int32 × Int32 × Mem) ⊕ (Int32 × Mem)} (h : fX4_neededFor_B4 l2 l3 σ = some res) (K : Sum.elim (fun a => G E rmX4_neededFor cI layX ad 6 4 [(0, .ref (ad 4)), (2, .int a.1), (3, .int a.2.1)] [] a.2.2) (fun b => G E rmX4_neededFor cI layX ad 6 103 [(2, .int b.1)] [] b.2) res) : G E rmX4_neededFor cI layX ad 6 4 [(0, .ref (ad 4)), (2, .int l2), (3, .int l3)] [] σ := by
  unfold fX4_neededFor_B4 at h
  refine g_iload_n 5 C dX4_neededFor_4 rfl (j := 2) rfl rfl ?_
  refine g_aload_n 6 C dX4_neededFor_5 rfl (j := 0) rfl rfl ?_
  refine g_getr 9 (j := 0) C rfl rfl wu_X4 (by decide) wf_X4_24 rfl dX4_neededFor_6 rfl ?_
  refine g_getiN 12 (j := 4) C rfl rfl wu_X3 (by decide) (List.mem_of_getElem? (i := 14) rfl) rfl dX4_neededFor_9 rfl ?_
  refine g_icmp_ge 103 15 C dX4_neededFor_12 (by decide) rfl h (fun h => ?_) (fun h => ?_)
  · have hh := end_inr h K
    exact g_sub [1] (hh) rfl
  · refine g_iload_n 16 C dX4_neededFor_15 rfl (j := 1) rfl rfl ?_
    refine g_istore 18 [(4, .int l2), (0, .ref (ad 4)), (2, .int l2), (3, .int l3)] C dX4_neededFor_16 (by decide) rfl rfl ?_
    refine g_iconst 19 (v := 0) C dX4_neededFor_18 (by decide) rfl ?_
    refine g_istore 21 [(5, .int 0), (4, .int l2), (0, .ref (ad 4)), (2, .int l2), (3, .int l3)] C dX4_neededFor_19 (by decide) rfl rfl ?_
    obtain ⟨b4, hb, h⟩ := bind_some h
    refine g_sub [2, 3, 4, 1, 0] (g_loop (a := (l2, 0, σ)) (fun a => G E rmX4_neededFor cI layX ad 6 21 [(0, .ref (ad 4)), (2, .int l2), (3, .int l3), (4, .int a.1), (5, .int a.2.1)] [] a.2.2) (fun b => G E rmX4_neededFor cI layX ad 6 85 [(0, .ref (ad 4)), (2, .int l2), (3, .int l3), (4, .int b.1)] [] b.2) hb (fun a res h K => tX4_neededFor_B21 (l2 := l2) (l3 := l3) (l4 := a.1) (l5 := a.2.1) (σ := a.2.2) (res := res) C K0 h K) ?_) rfl
    show G E rmX4_neededFor cI layX ad 6 85 [(0, .ref (ad 4)), (2, .int l2), (3, .int l3), (4, .int b4.1)] [] b4.2
    exact tX4_neededFor_L85 (l2 := l2) (l3 := l3) (l4 := b4.1) (σ := b4.2) C K0 h K
noncomputable def fX4_neededFor_L103 (l2 : Int32) (σ : Mem) : Option (Int32 × Mem) :=
  some (l2, σ)
set_option maxHeartbeats 4000000 in
set_option maxRecDepth 100000 in
theorem tX4_neededFor_L103 {E : Gx} {cI : ClassId} {ad : Nat → Nat} (C : Cx E rmX4_neededFor cI layX ad 6 RX4 cX4_neededFor) {out : Int32 × Mem} (K0 : KI E rmX4_neededFor cI layX ad 6 cX4_neededFor .int out) {l2 : Int32} {σ : Mem} (h : fX4_neededFor_L103 l2 σ = some out) : G E rmX4_neededFor cI layX ad 6 103 [(2, .int l2)] [] σ := by
  unfold fX4_neededFor_L103 at h
  refine g_iload_n 104 C dX4_neededFor_103 rfl (j := 0) rfl rfl ?_
  cases h
  exact K0 _ _ dX4_neededFor_104 rfl
noncomputable def fX4_neededFor (a1 : Int32) (σ : Mem) : Option (Int32 × Mem) :=
  (loop (fun a => fX4_neededFor_B4 a.1 a.2.1 a.2.2) (a1, 0, σ)).bind fun b5 =>
  fX4_neededFor_L103 b5.1 b5.2
set_option maxHeartbeats 4000000 in
set_option maxRecDepth 100000 in
theorem mX4_neededFor {l : Launch} {D : va_G} {cI : ClassId} {ad : Nat → Nat} {a1 : Int32} {σ : Mem} {out : Int32 × Mem} (h : fX4_neededFor a1 σ = some out) : MI l D cI layX ad yX4_neededFor cX4_neededFor 6 .int rmX4_neededFor [.ref (ad 4), .int a1] σ out := by
  refine met_i (by decide) (Nat.le_of_ble_eq_true rfl) (fun E C K0 => ?_)
  show G E rmX4_neededFor cI layX ad 6 0 [(0, .ref (ad 4)), (1, .int a1)] [] σ
  unfold fX4_neededFor at h
  refine g_iload_n 1 C dX4_neededFor_0 rfl (j := 1) rfl rfl ?_
  refine g_istore_n 2 [(2, .int a1), (0, .ref (ad 4)), (1, .int a1)] C dX4_neededFor_1 rfl (by decide) rfl rfl ?_
  refine g_iconst 3 (v := 0) C dX4_neededFor_2 (by decide) rfl ?_
  refine g_istore_n 4 [(3, .int 0), (2, .int a1), (0, .ref (ad 4)), (1, .int a1)] C dX4_neededFor_3 rfl (by decide) rfl rfl ?_
  obtain ⟨b5, hb, h⟩ := bind_some h
  refine g_sub [2, 1, 0] (g_loop (a := (a1, 0, σ)) (fun a => G E rmX4_neededFor cI layX ad 6 4 [(0, .ref (ad 4)), (2, .int a.1), (3, .int a.2.1)] [] a.2.2) (fun b => G E rmX4_neededFor cI layX ad 6 103 [(2, .int b.1)] [] b.2) hb (fun a res h K => tX4_neededFor_B4 (l2 := a.1) (l3 := a.2.1) (σ := a.2.2) (res := res) C K0 h K) ?_) rfl
  show G E rmX4_neededFor cI layX ad 6 103 [(2, .int b5.1)] [] b5.2
  exact tX4_neededFor_L103 (l2 := b5.1) (σ := b5.2) C K0 h

/-! LoopReducer$Plan.placeOf(II)I -/
abbrev rmX4_placeOf : Room := { frames := 2, cells := 0, slots := 0, locals := 48 }
theorem qX4_placeOf : yX4_placeOf.cls ≠ "java/lang/invoke/MethodHandle" ∧ yX4_placeOf.cls ≠ "java/lang/invoke/VarHandle" ∧ (parseMethodDescriptor yX4_placeOf.desc).map (fun d => d.parameters.length) = some 2 := by decide +kernel
theorem DX4_placeOf : ∀ q ∈ ([(0, .iconst 0, 1), (1, .istore_n 3, 1), (2, .iload_n 3, 1), (3, .aload_n 0, 1), (4, .getfield 58, 3), (7, .if_icmp .ge 35, 3), (10, .aload_n 0, 1), (11, .getfield 32, 3), (14, .aload_n 0, 1), (15, .getfield 9, 3), (18, .iload_n 3, 1), (19, .iaload, 1), (20, .aload_n 0, 1), (21, .getfield 15, 3), (24, .iload_n 3, 1), (25, .iaload, 1), (26, .iload_n 1, 1), (27, .iload_n 2, 1), (28, .invokevirtual 96, 3), (31, .ifCond .eq 5, 3), (34, .iload_n 3, 1), (35, .ireturn, 1), (36, .iinc 3 1, 3), (39, .goto (-37), 3), (42, .aload_n 0, 1), (43, .getfield 9, 3), (46, .aload_n 0, 1), (47, .getfield 58, 3), (50, .iload_n 1, 1), (51, .iastore, 1), (52, .aload_n 0, 1), (53, .getfield 15, 3), (56, .aload_n 0, 1), (57, .getfield 58, 3), (60, .iload_n 2, 1), (61, .iastore, 1), (62, .aload_n 0, 1), (63, .getfield 18, 3), (66, .aload_n 0, 1), (67, .getfield 58, 3), (70, .bipush (-2), 2), (72, .iastore, 1), (73, .aload_n 0, 1), (74, .dup, 1), (75, .getfield 58, 3), (78, .iconst 1, 1), (79, .iadd, 1), (80, .putfield 58, 3), (83, .aload_n 0, 1), (84, .getfield 58, 3), (87, .iconst 1, 1), (88, .isub, 1), (89, .ireturn, 1)] : List (Nat × Instr × Nat)), decode cX4_placeOf q.1 = .ok q.2 := by decide +kernel
theorem dX4_placeOf_0 : decode cX4_placeOf 0 = .ok (.iconst 0, 1) := DX4_placeOf (0, .iconst 0, 1) (List.mem_of_getElem? (i := 0) rfl)
theorem dX4_placeOf_1 : decode cX4_placeOf 1 = .ok (.istore_n 3, 1) := DX4_placeOf (1, .istore_n 3, 1) (List.mem_of_getElem? (i := 1) rfl)
theorem dX4_placeOf_2 : decode cX4_placeOf 2 = .ok (.iload_n 3, 1) := DX4_placeOf (2, .iload_n 3, 1) (List.mem_of_getElem? (i := 2) rfl)
theorem dX4_placeOf_3 : decode cX4_placeOf 3 = .ok (.aload_n 0, 1) := DX4_placeOf (3, .aload_n 0, 1) (List.mem_of_getElem? (i := 3) rfl)
theorem dX4_placeOf_4 : decode cX4_placeOf 4 = .ok (.getfield 58, 3) := DX4_placeOf (4, .getfield 58, 3) (List.mem_of_getElem? (i := 4) rfl)
theorem dX4_placeOf_7 : decode cX4_placeOf 7 = .ok (.if_icmp .ge 35, 3) := DX4_placeOf (7, .if_icmp .ge 35, 3) (List.mem_of_getElem? (i := 5) rfl)
theorem dX4_placeOf_10 : decode cX4_placeOf 10 = .ok (.aload_n 0, 1) := DX4_placeOf (10, .aload_n 0, 1) (List.mem_of_getElem? (i := 6) rfl)
theorem dX4_placeOf_11 : decode cX4_placeOf 11 = .ok (.getfield 32, 3) := DX4_placeOf (11, .getfield 32, 3) (List.mem_of_getElem? (i := 7) rfl)
theorem dX4_placeOf_14 : decode cX4_placeOf 14 = .ok (.aload_n 0, 1) := DX4_placeOf (14, .aload_n 0, 1) (List.mem_of_getElem? (i := 8) rfl)
theorem dX4_placeOf_15 : decode cX4_placeOf 15 = .ok (.getfield 9, 3) := DX4_placeOf (15, .getfield 9, 3) (List.mem_of_getElem? (i := 9) rfl)
theorem dX4_placeOf_18 : decode cX4_placeOf 18 = .ok (.iload_n 3, 1) := DX4_placeOf (18, .iload_n 3, 1) (List.mem_of_getElem? (i := 10) rfl)
theorem dX4_placeOf_19 : decode cX4_placeOf 19 = .ok (.iaload, 1) := DX4_placeOf (19, .iaload, 1) (List.mem_of_getElem? (i := 11) rfl)
theorem dX4_placeOf_20 : decode cX4_placeOf 20 = .ok (.aload_n 0, 1) := DX4_placeOf (20, .aload_n 0, 1) (List.mem_of_getElem? (i := 12) rfl)
theorem dX4_placeOf_21 : decode cX4_placeOf 21 = .ok (.getfield 15, 3) := DX4_placeOf (21, .getfield 15, 3) (List.mem_of_getElem? (i := 13) rfl)
theorem dX4_placeOf_24 : decode cX4_placeOf 24 = .ok (.iload_n 3, 1) := DX4_placeOf (24, .iload_n 3, 1) (List.mem_of_getElem? (i := 14) rfl)
theorem dX4_placeOf_25 : decode cX4_placeOf 25 = .ok (.iaload, 1) := DX4_placeOf (25, .iaload, 1) (List.mem_of_getElem? (i := 15) rfl)
theorem dX4_placeOf_26 : decode cX4_placeOf 26 = .ok (.iload_n 1, 1) := DX4_placeOf (26, .iload_n 1, 1) (List.mem_of_getElem? (i := 16) rfl)
theorem dX4_placeOf_27 : decode cX4_placeOf 27 = .ok (.iload_n 2, 1) := DX4_placeOf (27, .iload_n 2, 1) (List.mem_of_getElem? (i := 17) rfl)
theorem dX4_placeOf_28 : decode cX4_placeOf 28 = .ok (.invokevirtual 96, 3) := DX4_placeOf (28, .invokevirtual 96, 3) (List.mem_of_getElem? (i := 18) rfl)
theorem dX4_placeOf_31 : decode cX4_placeOf 31 = .ok (.ifCond .eq 5, 3) := DX4_placeOf (31, .ifCond .eq 5, 3) (List.mem_of_getElem? (i := 19) rfl)
theorem dX4_placeOf_34 : decode cX4_placeOf 34 = .ok (.iload_n 3, 1) := DX4_placeOf (34, .iload_n 3, 1) (List.mem_of_getElem? (i := 20) rfl)
theorem dX4_placeOf_35 : decode cX4_placeOf 35 = .ok (.ireturn, 1) := DX4_placeOf (35, .ireturn, 1) (List.mem_of_getElem? (i := 21) rfl)
theorem dX4_placeOf_36 : decode cX4_placeOf 36 = .ok (.iinc 3 1, 3) := DX4_placeOf (36, .iinc 3 1, 3) (List.mem_of_getElem? (i := 22) rfl)
theorem dX4_placeOf_39 : decode cX4_placeOf 39 = .ok (.goto (-37), 3) := DX4_placeOf (39, .goto (-37), 3) (List.mem_of_getElem? (i := 23) rfl)
theorem dX4_placeOf_42 : decode cX4_placeOf 42 = .ok (.aload_n 0, 1) := DX4_placeOf (42, .aload_n 0, 1) (List.mem_of_getElem? (i := 24) rfl)
theorem dX4_placeOf_43 : decode cX4_placeOf 43 = .ok (.getfield 9, 3) := DX4_placeOf (43, .getfield 9, 3) (List.mem_of_getElem? (i := 25) rfl)
theorem dX4_placeOf_46 : decode cX4_placeOf 46 = .ok (.aload_n 0, 1) := DX4_placeOf (46, .aload_n 0, 1) (List.mem_of_getElem? (i := 26) rfl)
theorem dX4_placeOf_47 : decode cX4_placeOf 47 = .ok (.getfield 58, 3) := DX4_placeOf (47, .getfield 58, 3) (List.mem_of_getElem? (i := 27) rfl)
theorem dX4_placeOf_50 : decode cX4_placeOf 50 = .ok (.iload_n 1, 1) := DX4_placeOf (50, .iload_n 1, 1) (List.mem_of_getElem? (i := 28) rfl)
theorem dX4_placeOf_51 : decode cX4_placeOf 51 = .ok (.iastore, 1) := DX4_placeOf (51, .iastore, 1) (List.mem_of_getElem? (i := 29) rfl)
theorem dX4_placeOf_52 : decode cX4_placeOf 52 = .ok (.aload_n 0, 1) := DX4_placeOf (52, .aload_n 0, 1) (List.mem_of_getElem? (i := 30) rfl)
theorem dX4_placeOf_53 : decode cX4_placeOf 53 = .ok (.getfield 15, 3) := DX4_placeOf (53, .getfield 15, 3) (List.mem_of_getElem? (i := 31) rfl)
theorem dX4_placeOf_56 : decode cX4_placeOf 56 = .ok (.aload_n 0, 1) := DX4_placeOf (56, .aload_n 0, 1) (List.mem_of_getElem? (i := 32) rfl)
theorem dX4_placeOf_57 : decode cX4_placeOf 57 = .ok (.getfield 58, 3) := DX4_placeOf (57, .getfield 58, 3) (List.mem_of_getElem? (i := 33) rfl)
theorem dX4_placeOf_60 : decode cX4_placeOf 60 = .ok (.iload_n 2, 1) := DX4_placeOf (60, .iload_n 2, 1) (List.mem_of_getElem? (i := 34) rfl)
theorem dX4_placeOf_61 : decode cX4_placeOf 61 = .ok (.iastore, 1) := DX4_placeOf (61, .iastore, 1) (List.mem_of_getElem? (i := 35) rfl)
theorem dX4_placeOf_62 : decode cX4_placeOf 62 = .ok (.aload_n 0, 1) := DX4_placeOf (62, .aload_n 0, 1) (List.mem_of_getElem? (i := 36) rfl)
theorem dX4_placeOf_63 : decode cX4_placeOf 63 = .ok (.getfield 18, 3) := DX4_placeOf (63, .getfield 18, 3) (List.mem_of_getElem? (i := 37) rfl)
theorem dX4_placeOf_66 : decode cX4_placeOf 66 = .ok (.aload_n 0, 1) := DX4_placeOf (66, .aload_n 0, 1) (List.mem_of_getElem? (i := 38) rfl)
theorem dX4_placeOf_67 : decode cX4_placeOf 67 = .ok (.getfield 58, 3) := DX4_placeOf (67, .getfield 58, 3) (List.mem_of_getElem? (i := 39) rfl)
theorem dX4_placeOf_70 : decode cX4_placeOf 70 = .ok (.bipush (-2), 2) := DX4_placeOf (70, .bipush (-2), 2) (List.mem_of_getElem? (i := 40) rfl)
theorem dX4_placeOf_72 : decode cX4_placeOf 72 = .ok (.iastore, 1) := DX4_placeOf (72, .iastore, 1) (List.mem_of_getElem? (i := 41) rfl)
theorem dX4_placeOf_73 : decode cX4_placeOf 73 = .ok (.aload_n 0, 1) := DX4_placeOf (73, .aload_n 0, 1) (List.mem_of_getElem? (i := 42) rfl)
theorem dX4_placeOf_74 : decode cX4_placeOf 74 = .ok (.dup, 1) := DX4_placeOf (74, .dup, 1) (List.mem_of_getElem? (i := 43) rfl)
theorem dX4_placeOf_75 : decode cX4_placeOf 75 = .ok (.getfield 58, 3) := DX4_placeOf (75, .getfield 58, 3) (List.mem_of_getElem? (i := 44) rfl)
theorem dX4_placeOf_78 : decode cX4_placeOf 78 = .ok (.iconst 1, 1) := DX4_placeOf (78, .iconst 1, 1) (List.mem_of_getElem? (i := 45) rfl)
theorem dX4_placeOf_79 : decode cX4_placeOf 79 = .ok (.iadd, 1) := DX4_placeOf (79, .iadd, 1) (List.mem_of_getElem? (i := 46) rfl)
theorem dX4_placeOf_80 : decode cX4_placeOf 80 = .ok (.putfield 58, 3) := DX4_placeOf (80, .putfield 58, 3) (List.mem_of_getElem? (i := 47) rfl)
theorem dX4_placeOf_83 : decode cX4_placeOf 83 = .ok (.aload_n 0, 1) := DX4_placeOf (83, .aload_n 0, 1) (List.mem_of_getElem? (i := 48) rfl)
theorem dX4_placeOf_84 : decode cX4_placeOf 84 = .ok (.getfield 58, 3) := DX4_placeOf (84, .getfield 58, 3) (List.mem_of_getElem? (i := 49) rfl)
theorem dX4_placeOf_87 : decode cX4_placeOf 87 = .ok (.iconst 1, 1) := DX4_placeOf (87, .iconst 1, 1) (List.mem_of_getElem? (i := 50) rfl)
theorem dX4_placeOf_88 : decode cX4_placeOf 88 = .ok (.isub, 1) := DX4_placeOf (88, .isub, 1) (List.mem_of_getElem? (i := 51) rfl)
theorem dX4_placeOf_89 : decode cX4_placeOf 89 = .ok (.ireturn, 1) := DX4_placeOf (89, .ireturn, 1) (List.mem_of_getElem? (i := 52) rfl)
noncomputable def fX4_placeOf_B2 (l1 : Int32) (l2 : Int32) (l3 : Int32) (σ : Mem) : Option ((Int32 × Mem) ⊕ ((Mem) ⊕ (Int32 × Mem))) :=
  if (σ 4 4) ≤ l3 then
    some (.inr (.inl σ))
  else
    chk (inb l3 90) <|
    chk (inb l3 90) <|
    (fX1_isSame (σ 22 l3.toNatClampNeg) (σ 23 l3.toNatClampNeg) l1 l2 σ).bind fun o1 =>
    if o1.1 = 0 then
      some (.inl (l3 + 1, o1.2))
    else
      some (.inr (.inr (l3, o1.2)))
set_option maxHeartbeats 4000000 in
set_option maxRecDepth 100000 in
theorem tX4_placeOf_B2 {E : Gx} {cI : ClassId} {ad : Nat → Nat} (C : Cx E rmX4_placeOf cI layX ad 4 RX4 cX4_placeOf) {out : Int32 × Mem} (K0 : KI E rmX4_placeOf cI layX ad 4 cX4_placeOf .int out) {l1 : Int32} {l2 : Int32} {l3 : Int32} {σ : Mem} {res : (Int32 × Mem) ⊕ ((Mem) ⊕ (Int32 × Mem))} (h : fX4_placeOf_B2 l1 l2 l3 σ = some res) (K : Sum.elim (fun a => G E rmX4_placeOf cI layX ad 4 2 [(0, .ref (ad 4)), (1, .int l1), (2, .int l2), (3, .int a.1)] [] a.2) (Sum.elim (fun b => G E rmX4_placeOf cI layX ad 4 42 [(0, .ref (ad 4)), (1, .int l1), (2, .int l2)] [] b) (fun b => b = out)) res) : G E rmX4_placeOf cI layX ad 4 2 [(0, .ref (ad 4)), (1, .int l1), (2, .int l2), (3, .int l3)] [] σ := by
  unfold fX4_placeOf_B2 at h
  refine g_iload_n 3 C dX4_placeOf_2 rfl (j := 3) rfl rfl ?_
  refine g_aload_n 4 C dX4_placeOf_3 rfl (j := 0) rfl rfl ?_
  refine g_geti 7 (j := 4) C rfl rfl wu_X4 (by decide) wf_X4_58 rfl dX4_placeOf_4 rfl ?_
  refine g_icmp_ge 42 10 C dX4_placeOf_7 (by decide) rfl h (fun h => ?_) (fun h => ?_)
  · have hh := end_alt0_2 h K
    exact g_sub [0, 1, 2] (hh) rfl
  · refine g_aload_n 11 C dX4_placeOf_10 rfl (j := 0) rfl rfl ?_
    refine g_getr 14 (j := 2) C rfl rfl wu_X4 (by decide) wf_X4_32 rfl dX4_placeOf_11 rfl ?_
    refine g_aload_n 15 C dX4_placeOf_14 rfl (j := 0) rfl rfl ?_
    refine g_getr 18 (j := 5) C rfl rfl wu_X4 (by decide) wf_X4_9 rfl dX4_placeOf_15 rfl ?_
    refine g_iload_n 19 C dX4_placeOf_18 rfl (j := 3) rfl rfl ?_
    refine g_iald 20 C rfl dX4_placeOf_19 rfl h (fun h => ?_)
    refine g_aload_n 21 C dX4_placeOf_20 rfl (j := 0) rfl rfl ?_
    refine g_getr 24 (j := 6) C rfl rfl wu_X4 (by decide) wf_X4_15 rfl dX4_placeOf_21 rfl ?_
    refine g_iload_n 25 C dX4_placeOf_24 rfl (j := 3) rfl rfl ?_
    refine g_iald 26 C rfl dX4_placeOf_25 rfl h (fun h => ?_)
    refine g_iload_n 27 C dX4_placeOf_26 rfl (j := 1) rfl rfl ?_
    refine g_iload_n 28 C dX4_placeOf_27 rfl (j := 2) rfl rfl ?_
    refine g_cni 31 C (As := [.int (σ 22 l3.toNatClampNeg), .int (σ 23 l3.toNatClampNeg), .int l1, .int l2]) (fun _ h => mX1_isSame (a1 := σ 22 l3.toNatClampNeg) (a2 := σ 23 l3.toNatClampNeg) (a3 := l1) (a4 := l2) (σ := σ) h) (List.mem_of_getElem? (i := 52) rfl) wi_X1_isSame wz_X1_isSame wc_X1_isSame wn_X1 qX1_isSame rfl rfl ⟨Nat.le_of_ble_eq_true rfl, Nat.le_of_ble_eq_true rfl⟩ rfl rfl rfl rfl (Nat.le_of_ble_eq_true rfl) dX4_placeOf_28 rfl h (fun o1 h => ?_)
    refine g_if_eq 36 34 C dX4_placeOf_31 (by decide) rfl h (fun h => ?_) (fun h => ?_)
    · refine g_iinc 39 [(3, .int (l3 + 1)), (0, .ref (ad 4)), (1, .int l1), (2, .int l2)] C dX4_placeOf_36 (j := 3) rfl (by rfl) (by decide) rfl rfl ?_
      refine g_goto 2 C dX4_placeOf_39 (by decide) ?_
      have hh := end_inl h K
      exact g_sub [1, 2, 3, 0] (hh) rfl
    · refine g_iload_n 35 C dX4_placeOf_34 rfl (j := 3) rfl rfl ?_
      have ho := end_alt1_2 h K
      replace ho : (l3, o1.2) = out := ho
      subst ho
      exact K0 _ _ dX4_placeOf_35 rfl
noncomputable def fX4_placeOf_L42 (l1 : Int32) (l2 : Int32) (σ : Mem) : Option (Int32 × Mem) :=
  chk (inb (σ 4 4) 90) <|
  chk (inb ((up2 σ 22 (σ 4 4).toNatClampNeg l1) 4 4) 90) <|
  chk (inb ((up2 (up2 σ 22 (σ 4 4).toNatClampNeg l1) 23 ((up2 σ 22 (σ 4 4).toNatClampNeg l1) 4 4).toNatClampNeg l2) 4 4) 90) <|
  some (((up2 (up2 (up2 (up2 σ 22 (σ 4 4).toNatClampNeg l1) 23 ((up2 σ 22 (σ 4 4).toNatClampNeg l1) 4 4).toNatClampNeg l2) 24 ((up2 (up2 σ 22 (σ 4 4).toNatClampNeg l1) 23 ((up2 σ 22 (σ 4 4).toNatClampNeg l1) 4 4).toNatClampNeg l2) 4 4).toNatClampNeg (-2)) 4 4 (((up2 (up2 (up2 σ 22 (σ 4 4).toNatClampNeg l1) 23 ((up2 σ 22 (σ 4 4).toNatClampNeg l1) 4 4).toNatClampNeg l2) 24 ((up2 (up2 σ 22 (σ 4 4).toNatClampNeg l1) 23 ((up2 σ 22 (σ 4 4).toNatClampNeg l1) 4 4).toNatClampNeg l2) 4 4).toNatClampNeg (-2)) 4 4) + 1)) 4 4) - 1, up2 (up2 (up2 (up2 σ 22 (σ 4 4).toNatClampNeg l1) 23 ((up2 σ 22 (σ 4 4).toNatClampNeg l1) 4 4).toNatClampNeg l2) 24 ((up2 (up2 σ 22 (σ 4 4).toNatClampNeg l1) 23 ((up2 σ 22 (σ 4 4).toNatClampNeg l1) 4 4).toNatClampNeg l2) 4 4).toNatClampNeg (-2)) 4 4 (((up2 (up2 (up2 σ 22 (σ 4 4).toNatClampNeg l1) 23 ((up2 σ 22 (σ 4 4).toNatClampNeg l1) 4 4).toNatClampNeg l2) 24 ((up2 (up2 σ 22 (σ 4 4).toNatClampNeg l1) 23 ((up2 σ 22 (σ 4 4).toNatClampNeg l1) 4 4).toNatClampNeg l2) 4 4).toNatClampNeg (-2)) 4 4) + 1))
set_option maxHeartbeats 4000000 in
set_option maxRecDepth 100000 in
theorem tX4_placeOf_L42 {E : Gx} {cI : ClassId} {ad : Nat → Nat} (C : Cx E rmX4_placeOf cI layX ad 4 RX4 cX4_placeOf) {out : Int32 × Mem} (K0 : KI E rmX4_placeOf cI layX ad 4 cX4_placeOf .int out) {l1 : Int32} {l2 : Int32} {σ : Mem} (h : fX4_placeOf_L42 l1 l2 σ = some out) : G E rmX4_placeOf cI layX ad 4 42 [(0, .ref (ad 4)), (1, .int l1), (2, .int l2)] [] σ := by
  unfold fX4_placeOf_L42 at h
  refine g_aload_n 43 C dX4_placeOf_42 rfl (j := 0) rfl rfl ?_
  refine g_getr 46 (j := 5) C rfl rfl wu_X4 (by decide) wf_X4_9 rfl dX4_placeOf_43 rfl ?_
  refine g_aload_n 47 C dX4_placeOf_46 rfl (j := 0) rfl rfl ?_
  refine g_geti 50 (j := 4) C rfl rfl wu_X4 (by decide) wf_X4_58 rfl dX4_placeOf_47 rfl ?_
  refine g_iload_n 51 C dX4_placeOf_50 rfl (j := 1) rfl rfl ?_
  refine g_iast 52 C rfl dX4_placeOf_51 rfl h (fun h => ?_)
  refine g_aload_n 53 C dX4_placeOf_52 rfl (j := 0) rfl rfl ?_
  refine g_getr 56 (j := 6) C rfl rfl wu_X4 (by decide) wf_X4_15 rfl dX4_placeOf_53 rfl ?_
  refine g_aload_n 57 C dX4_placeOf_56 rfl (j := 0) rfl rfl ?_
  refine g_geti 60 (j := 4) C rfl rfl wu_X4 (by decide) wf_X4_58 rfl dX4_placeOf_57 rfl ?_
  refine g_iload_n 61 C dX4_placeOf_60 rfl (j := 2) rfl rfl ?_
  refine g_iast 62 C rfl dX4_placeOf_61 rfl h (fun h => ?_)
  refine g_aload_n 63 C dX4_placeOf_62 rfl (j := 0) rfl rfl ?_
  refine g_getr 66 (j := 7) C rfl rfl wu_X4 (by decide) wf_X4_18 rfl dX4_placeOf_63 rfl ?_
  refine g_aload_n 67 C dX4_placeOf_66 rfl (j := 0) rfl rfl ?_
  refine g_geti 70 (j := 4) C rfl rfl wu_X4 (by decide) wf_X4_58 rfl dX4_placeOf_67 rfl ?_
  refine g_bipush 72 (v := (-2)) C dX4_placeOf_70 (by decide) rfl ?_
  refine g_iast 73 C rfl dX4_placeOf_72 rfl h (fun h => ?_)
  refine g_aload_n 74 C dX4_placeOf_73 rfl (j := 0) rfl rfl ?_
  refine g_dup 75 C dX4_placeOf_74 rfl rfl ?_
  refine g_geti 78 (j := 4) C rfl rfl wu_X4 (by decide) wf_X4_58 rfl dX4_placeOf_75 rfl ?_
  refine g_iconst 79 (v := 1) C dX4_placeOf_78 (by decide) rfl ?_
  refine g_iadd 80 C dX4_placeOf_79 rfl ?_
  refine g_puti 83 (j := 4) C rfl rfl wu_X4 (by decide) wf_X4_58 tyX4 tyX4_ok nmX4 rfl rfl rfl rfl dX4_placeOf_80 rfl ?_
  refine g_aload_n 84 C dX4_placeOf_83 rfl (j := 0) rfl rfl ?_
  refine g_geti 87 (j := 4) C rfl rfl wu_X4 (by decide) wf_X4_58 rfl dX4_placeOf_84 rfl ?_
  refine g_iconst 88 (v := 1) C dX4_placeOf_87 (by decide) rfl ?_
  refine g_isub 89 C dX4_placeOf_88 rfl ?_
  cases h
  exact K0 _ _ dX4_placeOf_89 rfl
noncomputable def fX4_placeOf (a1 : Int32) (a2 : Int32) (σ : Mem) : Option (Int32 × Mem) :=
  (loop (fun a => fX4_placeOf_B2 a1 a2 a.1 a.2) (0, σ)).bind (Sum.elim (fun b2x0 => fX4_placeOf_L42 a1 a2 b2x0) (fun b2r => some b2r))
set_option maxHeartbeats 4000000 in
set_option maxRecDepth 100000 in
theorem mX4_placeOf {l : Launch} {D : va_G} {cI : ClassId} {ad : Nat → Nat} {a1 : Int32} {a2 : Int32} {σ : Mem} {out : Int32 × Mem} (h : fX4_placeOf a1 a2 σ = some out) : MI l D cI layX ad yX4_placeOf cX4_placeOf 4 .int rmX4_placeOf [.ref (ad 4), .int a1, .int a2] σ out := by
  refine met_i (by decide) (Nat.le_of_ble_eq_true rfl) (fun E C K0 => ?_)
  show G E rmX4_placeOf cI layX ad 4 0 [(0, .ref (ad 4)), (1, .int a1), (2, .int a2)] [] σ
  unfold fX4_placeOf at h
  refine g_iconst 1 (v := 0) C dX4_placeOf_0 (by decide) rfl ?_
  refine g_istore_n 2 [(3, .int 0), (0, .ref (ad 4)), (1, .int a1), (2, .int a2)] C dX4_placeOf_1 rfl (by decide) rfl rfl ?_
  obtain ⟨b2, hb, h⟩ := bind_some h
  refine g_sub [1, 2, 3, 0] (g_loop (a := (0, σ)) (fun a => G E rmX4_placeOf cI layX ad 4 2 [(0, .ref (ad 4)), (1, .int a1), (2, .int a2), (3, .int a.1)] [] a.2) (Sum.elim (fun b => G E rmX4_placeOf cI layX ad 4 42 [(0, .ref (ad 4)), (1, .int a1), (2, .int a2)] [] b) (fun b => b = out)) hb (fun a res h K => tX4_placeOf_B2 (l1 := a1) (l2 := a2) (l3 := a.1) (σ := a.2) (res := res) C K0 h K) ?_) rfl
  rcases b2 with b2x0 | b2r
  · show G E rmX4_placeOf cI layX ad 4 42 [(0, .ref (ad 4)), (1, .int a1), (2, .int a2)] [] b2x0
    exact tX4_placeOf_L42 (l1 := a1) (l2 := a2) (σ := b2x0) C K0 h
  · exact end_top h

/-! LoopReducer$Plan.sumsLeft()I -/
abbrev rmX4_sumsLeft : Room := { frames := 1, cells := 0, slots := 0, locals := 21 }
theorem qX4_sumsLeft : yX4_sumsLeft.cls ≠ "java/lang/invoke/MethodHandle" ∧ yX4_sumsLeft.cls ≠ "java/lang/invoke/VarHandle" ∧ (parseMethodDescriptor yX4_sumsLeft.desc).map (fun d => d.parameters.length) = some 0 := by decide +kernel
theorem DX4_sumsLeft : ∀ q ∈ ([(0, .iconst 0, 1), (1, .istore_n 1, 1), (2, .iconst 0, 1), (3, .istore_n 2, 1), (4, .iload_n 2, 1), (5, .aload_n 0, 1), (6, .getfield 24, 3), (9, .getfield 61, 3), (12, .if_icmp .ge 71, 3), (15, .aload_n 0, 1), (16, .getfield 24, 3), (19, .getfield 84, 3), (22, .iload_n 2, 1), (23, .iaload, 1), (24, .iconst 2, 1), (25, .if_icmp .eq 16, 3), (28, .aload_n 0, 1), (29, .getfield 24, 3), (32, .getfield 84, 3), (35, .iload_n 2, 1), (36, .iaload, 1), (37, .iconst 3, 1), (38, .if_icmp .ne 7, 3), (41, .iconst 1, 1), (42, .goto 4, 3), (45, .iconst 0, 1), (46, .istore_n 3, 1), (47, .iload_n 3, 1), (48, .ifCond .eq 29, 3), (51, .aload_n 0, 1), (52, .getfield 55, 3), (55, .iload_n 2, 1), (56, .invokestatic 64, 3), (59, .ifCond .eq 18, 3), (62, .aload_n 0, 1), (63, .getfield 28, 3), (66, .getfield 76, 3), (69, .iload_n 2, 1), (70, .iaload, 1), (71, .ifCond .eq 6, 3), (74, .iinc 1 1, 3), (77, .iinc 2 1, 3), (80, .goto (-76), 3), (83, .iload_n 1, 1), (84, .ireturn, 1)] : List (Nat × Instr × Nat)), decode cX4_sumsLeft q.1 = .ok q.2 := by decide +kernel
theorem dX4_sumsLeft_0 : decode cX4_sumsLeft 0 = .ok (.iconst 0, 1) := DX4_sumsLeft (0, .iconst 0, 1) (List.mem_of_getElem? (i := 0) rfl)
theorem dX4_sumsLeft_1 : decode cX4_sumsLeft 1 = .ok (.istore_n 1, 1) := DX4_sumsLeft (1, .istore_n 1, 1) (List.mem_of_getElem? (i := 1) rfl)
theorem dX4_sumsLeft_2 : decode cX4_sumsLeft 2 = .ok (.iconst 0, 1) := DX4_sumsLeft (2, .iconst 0, 1) (List.mem_of_getElem? (i := 2) rfl)
theorem dX4_sumsLeft_3 : decode cX4_sumsLeft 3 = .ok (.istore_n 2, 1) := DX4_sumsLeft (3, .istore_n 2, 1) (List.mem_of_getElem? (i := 3) rfl)
theorem dX4_sumsLeft_4 : decode cX4_sumsLeft 4 = .ok (.iload_n 2, 1) := DX4_sumsLeft (4, .iload_n 2, 1) (List.mem_of_getElem? (i := 4) rfl)
theorem dX4_sumsLeft_5 : decode cX4_sumsLeft 5 = .ok (.aload_n 0, 1) := DX4_sumsLeft (5, .aload_n 0, 1) (List.mem_of_getElem? (i := 5) rfl)
theorem dX4_sumsLeft_6 : decode cX4_sumsLeft 6 = .ok (.getfield 24, 3) := DX4_sumsLeft (6, .getfield 24, 3) (List.mem_of_getElem? (i := 6) rfl)
theorem dX4_sumsLeft_9 : decode cX4_sumsLeft 9 = .ok (.getfield 61, 3) := DX4_sumsLeft (9, .getfield 61, 3) (List.mem_of_getElem? (i := 7) rfl)
theorem dX4_sumsLeft_12 : decode cX4_sumsLeft 12 = .ok (.if_icmp .ge 71, 3) := DX4_sumsLeft (12, .if_icmp .ge 71, 3) (List.mem_of_getElem? (i := 8) rfl)
theorem dX4_sumsLeft_15 : decode cX4_sumsLeft 15 = .ok (.aload_n 0, 1) := DX4_sumsLeft (15, .aload_n 0, 1) (List.mem_of_getElem? (i := 9) rfl)
theorem dX4_sumsLeft_16 : decode cX4_sumsLeft 16 = .ok (.getfield 24, 3) := DX4_sumsLeft (16, .getfield 24, 3) (List.mem_of_getElem? (i := 10) rfl)
theorem dX4_sumsLeft_19 : decode cX4_sumsLeft 19 = .ok (.getfield 84, 3) := DX4_sumsLeft (19, .getfield 84, 3) (List.mem_of_getElem? (i := 11) rfl)
theorem dX4_sumsLeft_22 : decode cX4_sumsLeft 22 = .ok (.iload_n 2, 1) := DX4_sumsLeft (22, .iload_n 2, 1) (List.mem_of_getElem? (i := 12) rfl)
theorem dX4_sumsLeft_23 : decode cX4_sumsLeft 23 = .ok (.iaload, 1) := DX4_sumsLeft (23, .iaload, 1) (List.mem_of_getElem? (i := 13) rfl)
theorem dX4_sumsLeft_24 : decode cX4_sumsLeft 24 = .ok (.iconst 2, 1) := DX4_sumsLeft (24, .iconst 2, 1) (List.mem_of_getElem? (i := 14) rfl)
theorem dX4_sumsLeft_25 : decode cX4_sumsLeft 25 = .ok (.if_icmp .eq 16, 3) := DX4_sumsLeft (25, .if_icmp .eq 16, 3) (List.mem_of_getElem? (i := 15) rfl)
theorem dX4_sumsLeft_28 : decode cX4_sumsLeft 28 = .ok (.aload_n 0, 1) := DX4_sumsLeft (28, .aload_n 0, 1) (List.mem_of_getElem? (i := 16) rfl)
theorem dX4_sumsLeft_29 : decode cX4_sumsLeft 29 = .ok (.getfield 24, 3) := DX4_sumsLeft (29, .getfield 24, 3) (List.mem_of_getElem? (i := 17) rfl)
theorem dX4_sumsLeft_32 : decode cX4_sumsLeft 32 = .ok (.getfield 84, 3) := DX4_sumsLeft (32, .getfield 84, 3) (List.mem_of_getElem? (i := 18) rfl)
theorem dX4_sumsLeft_35 : decode cX4_sumsLeft 35 = .ok (.iload_n 2, 1) := DX4_sumsLeft (35, .iload_n 2, 1) (List.mem_of_getElem? (i := 19) rfl)
theorem dX4_sumsLeft_36 : decode cX4_sumsLeft 36 = .ok (.iaload, 1) := DX4_sumsLeft (36, .iaload, 1) (List.mem_of_getElem? (i := 20) rfl)
theorem dX4_sumsLeft_37 : decode cX4_sumsLeft 37 = .ok (.iconst 3, 1) := DX4_sumsLeft (37, .iconst 3, 1) (List.mem_of_getElem? (i := 21) rfl)
theorem dX4_sumsLeft_38 : decode cX4_sumsLeft 38 = .ok (.if_icmp .ne 7, 3) := DX4_sumsLeft (38, .if_icmp .ne 7, 3) (List.mem_of_getElem? (i := 22) rfl)
theorem dX4_sumsLeft_41 : decode cX4_sumsLeft 41 = .ok (.iconst 1, 1) := DX4_sumsLeft (41, .iconst 1, 1) (List.mem_of_getElem? (i := 23) rfl)
theorem dX4_sumsLeft_42 : decode cX4_sumsLeft 42 = .ok (.goto 4, 3) := DX4_sumsLeft (42, .goto 4, 3) (List.mem_of_getElem? (i := 24) rfl)
theorem dX4_sumsLeft_45 : decode cX4_sumsLeft 45 = .ok (.iconst 0, 1) := DX4_sumsLeft (45, .iconst 0, 1) (List.mem_of_getElem? (i := 25) rfl)
theorem dX4_sumsLeft_46 : decode cX4_sumsLeft 46 = .ok (.istore_n 3, 1) := DX4_sumsLeft (46, .istore_n 3, 1) (List.mem_of_getElem? (i := 26) rfl)
theorem dX4_sumsLeft_47 : decode cX4_sumsLeft 47 = .ok (.iload_n 3, 1) := DX4_sumsLeft (47, .iload_n 3, 1) (List.mem_of_getElem? (i := 27) rfl)
theorem dX4_sumsLeft_48 : decode cX4_sumsLeft 48 = .ok (.ifCond .eq 29, 3) := DX4_sumsLeft (48, .ifCond .eq 29, 3) (List.mem_of_getElem? (i := 28) rfl)
theorem dX4_sumsLeft_51 : decode cX4_sumsLeft 51 = .ok (.aload_n 0, 1) := DX4_sumsLeft (51, .aload_n 0, 1) (List.mem_of_getElem? (i := 29) rfl)
theorem dX4_sumsLeft_52 : decode cX4_sumsLeft 52 = .ok (.getfield 55, 3) := DX4_sumsLeft (52, .getfield 55, 3) (List.mem_of_getElem? (i := 30) rfl)
theorem dX4_sumsLeft_55 : decode cX4_sumsLeft 55 = .ok (.iload_n 2, 1) := DX4_sumsLeft (55, .iload_n 2, 1) (List.mem_of_getElem? (i := 31) rfl)
theorem dX4_sumsLeft_56 : decode cX4_sumsLeft 56 = .ok (.invokestatic 64, 3) := DX4_sumsLeft (56, .invokestatic 64, 3) (List.mem_of_getElem? (i := 32) rfl)
theorem dX4_sumsLeft_59 : decode cX4_sumsLeft 59 = .ok (.ifCond .eq 18, 3) := DX4_sumsLeft (59, .ifCond .eq 18, 3) (List.mem_of_getElem? (i := 33) rfl)
theorem dX4_sumsLeft_62 : decode cX4_sumsLeft 62 = .ok (.aload_n 0, 1) := DX4_sumsLeft (62, .aload_n 0, 1) (List.mem_of_getElem? (i := 34) rfl)
theorem dX4_sumsLeft_63 : decode cX4_sumsLeft 63 = .ok (.getfield 28, 3) := DX4_sumsLeft (63, .getfield 28, 3) (List.mem_of_getElem? (i := 35) rfl)
theorem dX4_sumsLeft_66 : decode cX4_sumsLeft 66 = .ok (.getfield 76, 3) := DX4_sumsLeft (66, .getfield 76, 3) (List.mem_of_getElem? (i := 36) rfl)
theorem dX4_sumsLeft_69 : decode cX4_sumsLeft 69 = .ok (.iload_n 2, 1) := DX4_sumsLeft (69, .iload_n 2, 1) (List.mem_of_getElem? (i := 37) rfl)
theorem dX4_sumsLeft_70 : decode cX4_sumsLeft 70 = .ok (.iaload, 1) := DX4_sumsLeft (70, .iaload, 1) (List.mem_of_getElem? (i := 38) rfl)
theorem dX4_sumsLeft_71 : decode cX4_sumsLeft 71 = .ok (.ifCond .eq 6, 3) := DX4_sumsLeft (71, .ifCond .eq 6, 3) (List.mem_of_getElem? (i := 39) rfl)
theorem dX4_sumsLeft_74 : decode cX4_sumsLeft 74 = .ok (.iinc 1 1, 3) := DX4_sumsLeft (74, .iinc 1 1, 3) (List.mem_of_getElem? (i := 40) rfl)
theorem dX4_sumsLeft_77 : decode cX4_sumsLeft 77 = .ok (.iinc 2 1, 3) := DX4_sumsLeft (77, .iinc 2 1, 3) (List.mem_of_getElem? (i := 41) rfl)
theorem dX4_sumsLeft_80 : decode cX4_sumsLeft 80 = .ok (.goto (-76), 3) := DX4_sumsLeft (80, .goto (-76), 3) (List.mem_of_getElem? (i := 42) rfl)
theorem dX4_sumsLeft_83 : decode cX4_sumsLeft 83 = .ok (.iload_n 1, 1) := DX4_sumsLeft (83, .iload_n 1, 1) (List.mem_of_getElem? (i := 43) rfl)
theorem dX4_sumsLeft_84 : decode cX4_sumsLeft 84 = .ok (.ireturn, 1) := DX4_sumsLeft (84, .ireturn, 1) (List.mem_of_getElem? (i := 44) rfl)
noncomputable def fX4_sumsLeft_L77 (l1 : Int32) (l2 : Int32) (σ : Mem) : Option ((Int32 × Int32 × Mem) ⊕ (Int32 × Mem)) :=
  some (.inl (l1, l2 + 1, σ))
set_option maxHeartbeats 4000000 in
set_option maxRecDepth 100000 in
theorem tX4_sumsLeft_L77 {E : Gx} {cI : ClassId} {ad : Nat → Nat} (C : Cx E rmX4_sumsLeft cI layX ad 4 RX4 cX4_sumsLeft) {out : Int32 × Mem} (K0 : KI E rmX4_sumsLeft cI layX ad 4 cX4_sumsLeft .int out) {l1 : Int32} {l2 : Int32} {σ : Mem} {res : (Int32 × Int32 × Mem) ⊕ (Int32 × Mem)} (h : fX4_sumsLeft_L77 l1 l2 σ = some res) (K : Sum.elim (fun a => G E rmX4_sumsLeft cI layX ad 4 4 [(0, .ref (ad 4)), (1, .int a.1), (2, .int a.2.1)] [] a.2.2) (fun b => G E rmX4_sumsLeft cI layX ad 4 83 [(1, .int b.1)] [] b.2) res) : G E rmX4_sumsLeft cI layX ad 4 77 [(0, .ref (ad 4)), (1, .int l1), (2, .int l2)] [] σ := by
  unfold fX4_sumsLeft_L77 at h
  refine g_iinc 80 [(2, .int (l2 + 1)), (0, .ref (ad 4)), (1, .int l1)] C dX4_sumsLeft_77 (j := 2) rfl (by rfl) (by decide) rfl rfl ?_
  refine g_goto 4 C dX4_sumsLeft_80 (by decide) ?_
  have hh := end_inl h K
  exact g_sub [1, 2, 0] (hh) rfl
noncomputable def fX4_sumsLeft_L46 (l1 : Int32) (l2 : Int32) (s0 : Int32) (σ : Mem) : Option ((Int32 × Int32 × Mem) ⊕ (Int32 × Mem)) :=
  if s0 = 0 then
    fX4_sumsLeft_L77 l1 l2 σ
  else
    (fX7_isIn (σ 4 3) l2 σ).bind fun o1 =>
    if o1.1 = 0 then
      fX4_sumsLeft_L77 l1 l2 o1.2
    else
      chk (inb l2 30) <|
      if (o1.2 20 l2.toNatClampNeg) = 0 then
        fX4_sumsLeft_L77 l1 l2 o1.2
      else
        fX4_sumsLeft_L77 (l1 + 1) l2 o1.2
set_option maxHeartbeats 4000000 in
set_option maxRecDepth 100000 in
theorem tX4_sumsLeft_L46 {E : Gx} {cI : ClassId} {ad : Nat → Nat} (C : Cx E rmX4_sumsLeft cI layX ad 4 RX4 cX4_sumsLeft) {out : Int32 × Mem} (K0 : KI E rmX4_sumsLeft cI layX ad 4 cX4_sumsLeft .int out) {l1 : Int32} {l2 : Int32} {s0 : Int32} {σ : Mem} {res : (Int32 × Int32 × Mem) ⊕ (Int32 × Mem)} (h : fX4_sumsLeft_L46 l1 l2 s0 σ = some res) (K : Sum.elim (fun a => G E rmX4_sumsLeft cI layX ad 4 4 [(0, .ref (ad 4)), (1, .int a.1), (2, .int a.2.1)] [] a.2.2) (fun b => G E rmX4_sumsLeft cI layX ad 4 83 [(1, .int b.1)] [] b.2) res) : G E rmX4_sumsLeft cI layX ad 4 46 [(0, .ref (ad 4)), (1, .int l1), (2, .int l2)] [.int s0] σ := by
  unfold fX4_sumsLeft_L46 at h
  refine g_istore_n 47 [(3, .int s0), (0, .ref (ad 4)), (1, .int l1), (2, .int l2)] C dX4_sumsLeft_46 rfl (by decide) rfl rfl ?_
  refine g_iload_n 48 C dX4_sumsLeft_47 rfl (j := 0) rfl rfl ?_
  refine g_if_eq 77 51 C dX4_sumsLeft_48 (by decide) rfl h (fun h => ?_) (fun h => ?_)
  · exact g_sub [1, 2, 3] (tX4_sumsLeft_L77 (l1 := l1) (l2 := l2) (σ := σ) C K0 h K) rfl
  · refine g_aload_n 52 C dX4_sumsLeft_51 rfl (j := 1) rfl rfl ?_
    refine g_geti 55 (j := 3) C rfl rfl wu_X4 (by decide) wf_X4_55 rfl dX4_sumsLeft_52 rfl ?_
    refine g_iload_n 56 C dX4_sumsLeft_55 rfl (j := 3) rfl rfl ?_
    refine g_cti 59 C (As := [.int (σ 4 3), .int l2]) (fun _ h => mX7_isIn (a1 := σ 4 3) (a2 := l2) (σ := σ) h) (List.mem_of_getElem? (i := 49) rfl) ws_X7_isIn wc_X7_isIn wn_X7 qX7_isIn rfl rfl ⟨Nat.le_of_ble_eq_true rfl, Nat.le_of_ble_eq_true rfl⟩ rfl rfl (Nat.le_of_ble_eq_true rfl) dX4_sumsLeft_56 rfl h (fun o1 h => ?_)
    refine g_if_eq 77 62 C dX4_sumsLeft_59 (by decide) rfl h (fun h => ?_) (fun h => ?_)
    · exact g_sub [1, 2, 3] (tX4_sumsLeft_L77 (l1 := l1) (l2 := l2) (σ := o1.2) C K0 h K) rfl
    · refine g_aload_n 63 C dX4_sumsLeft_62 rfl (j := 1) rfl rfl ?_
      refine g_getr 66 (j := 1) C rfl rfl wu_X4 (by decide) wf_X4_28 rfl dX4_sumsLeft_63 rfl ?_
      refine g_getrN 69 (j := 4) C rfl rfl wu_X0 (by decide) (List.mem_of_getElem? (i := 37) rfl) rfl dX4_sumsLeft_66 rfl ?_
      refine g_iload_n 70 C dX4_sumsLeft_69 rfl (j := 3) rfl rfl ?_
      refine g_iald 71 C rfl dX4_sumsLeft_70 rfl h (fun h => ?_)
      refine g_if_eq 77 74 C dX4_sumsLeft_71 (by decide) rfl h (fun h => ?_) (fun h => ?_)
      · exact g_sub [1, 2, 3] (tX4_sumsLeft_L77 (l1 := l1) (l2 := l2) (σ := o1.2) C K0 h K) rfl
      · refine g_iinc 77 [(1, .int (l1 + 1)), (3, .int s0), (0, .ref (ad 4)), (2, .int l2)] C dX4_sumsLeft_74 (j := 2) rfl (by rfl) (by decide) rfl rfl ?_
        exact g_sub [2, 0, 3] (tX4_sumsLeft_L77 (l1 := (l1 + 1)) (l2 := l2) (σ := o1.2) C K0 h K) rfl
noncomputable def fX4_sumsLeft_L41 (l1 : Int32) (l2 : Int32) (σ : Mem) : Option ((Int32 × Int32 × Mem) ⊕ (Int32 × Mem)) :=
  fX4_sumsLeft_L46 l1 l2 1 σ
set_option maxHeartbeats 4000000 in
set_option maxRecDepth 100000 in
theorem tX4_sumsLeft_L41 {E : Gx} {cI : ClassId} {ad : Nat → Nat} (C : Cx E rmX4_sumsLeft cI layX ad 4 RX4 cX4_sumsLeft) {out : Int32 × Mem} (K0 : KI E rmX4_sumsLeft cI layX ad 4 cX4_sumsLeft .int out) {l1 : Int32} {l2 : Int32} {σ : Mem} {res : (Int32 × Int32 × Mem) ⊕ (Int32 × Mem)} (h : fX4_sumsLeft_L41 l1 l2 σ = some res) (K : Sum.elim (fun a => G E rmX4_sumsLeft cI layX ad 4 4 [(0, .ref (ad 4)), (1, .int a.1), (2, .int a.2.1)] [] a.2.2) (fun b => G E rmX4_sumsLeft cI layX ad 4 83 [(1, .int b.1)] [] b.2) res) : G E rmX4_sumsLeft cI layX ad 4 41 [(0, .ref (ad 4)), (1, .int l1), (2, .int l2)] [] σ := by
  unfold fX4_sumsLeft_L41 at h
  refine g_iconst 42 (v := 1) C dX4_sumsLeft_41 (by decide) rfl ?_
  refine g_goto 46 C dX4_sumsLeft_42 (by decide) ?_
  exact tX4_sumsLeft_L46 (l1 := l1) (l2 := l2) (s0 := 1) (σ := σ) C K0 h K
noncomputable def fX4_sumsLeft_B4 (l1 : Int32) (l2 : Int32) (σ : Mem) : Option ((Int32 × Int32 × Mem) ⊕ (Int32 × Mem)) :=
  if (σ 3 4) ≤ l2 then
    some (.inr (l1, σ))
  else
    chk (inb l2 30) <|
    if (σ 8 l2.toNatClampNeg) = 2 then
      fX4_sumsLeft_L41 l1 l2 σ
    else
      chk (inb l2 30) <|
      if (σ 8 l2.toNatClampNeg) = 3 then
        fX4_sumsLeft_L41 l1 l2 σ
      else
        fX4_sumsLeft_L46 l1 l2 0 σ
set_option maxHeartbeats 4000000 in
set_option maxRecDepth 100000 in
theorem tX4_sumsLeft_B4 {E : Gx} {cI : ClassId} {ad : Nat → Nat} (C : Cx E rmX4_sumsLeft cI layX ad 4 RX4 cX4_sumsLeft) {out : Int32 × Mem} (K0 : KI E rmX4_sumsLeft cI layX ad 4 cX4_sumsLeft .int out) {l1 : Int32} {l2 : Int32} {σ : Mem} {res : (Int32 × Int32 × Mem) ⊕ (Int32 × Mem)} (h : fX4_sumsLeft_B4 l1 l2 σ = some res) (K : Sum.elim (fun a => G E rmX4_sumsLeft cI layX ad 4 4 [(0, .ref (ad 4)), (1, .int a.1), (2, .int a.2.1)] [] a.2.2) (fun b => G E rmX4_sumsLeft cI layX ad 4 83 [(1, .int b.1)] [] b.2) res) : G E rmX4_sumsLeft cI layX ad 4 4 [(0, .ref (ad 4)), (1, .int l1), (2, .int l2)] [] σ := by
  unfold fX4_sumsLeft_B4 at h
  refine g_iload_n 5 C dX4_sumsLeft_4 rfl (j := 2) rfl rfl ?_
  refine g_aload_n 6 C dX4_sumsLeft_5 rfl (j := 0) rfl rfl ?_
  refine g_getr 9 (j := 0) C rfl rfl wu_X4 (by decide) wf_X4_24 rfl dX4_sumsLeft_6 rfl ?_
  refine g_getiN 12 (j := 4) C rfl rfl wu_X3 (by decide) (List.mem_of_getElem? (i := 14) rfl) rfl dX4_sumsLeft_9 rfl ?_
  refine g_icmp_ge 83 15 C dX4_sumsLeft_12 (by decide) rfl h (fun h => ?_) (fun h => ?_)
  · have hh := end_inr h K
    exact g_sub [1] (hh) rfl
  · refine g_aload_n 16 C dX4_sumsLeft_15 rfl (j := 0) rfl rfl ?_
    refine g_getr 19 (j := 0) C rfl rfl wu_X4 (by decide) wf_X4_24 rfl dX4_sumsLeft_16 rfl ?_
    refine g_getrN 22 (j := 1) C rfl rfl wu_X3 (by decide) (List.mem_of_getElem? (i := 4) rfl) rfl dX4_sumsLeft_19 rfl ?_
    refine g_iload_n 23 C dX4_sumsLeft_22 rfl (j := 2) rfl rfl ?_
    refine g_iald 24 C rfl dX4_sumsLeft_23 rfl h (fun h => ?_)
    refine g_iconst 25 (v := 2) C dX4_sumsLeft_24 (by decide) rfl ?_
    refine g_icmp_eq 41 28 C dX4_sumsLeft_25 (by decide) rfl h (fun h => ?_) (fun h => ?_)
    · exact tX4_sumsLeft_L41 (l1 := l1) (l2 := l2) (σ := σ) C K0 h K
    · refine g_aload_n 29 C dX4_sumsLeft_28 rfl (j := 0) rfl rfl ?_
      refine g_getr 32 (j := 0) C rfl rfl wu_X4 (by decide) wf_X4_24 rfl dX4_sumsLeft_29 rfl ?_
      refine g_getrN 35 (j := 1) C rfl rfl wu_X3 (by decide) (List.mem_of_getElem? (i := 4) rfl) rfl dX4_sumsLeft_32 rfl ?_
      refine g_iload_n 36 C dX4_sumsLeft_35 rfl (j := 2) rfl rfl ?_
      refine g_iald 37 C rfl dX4_sumsLeft_36 rfl h (fun h => ?_)
      refine g_iconst 38 (v := 3) C dX4_sumsLeft_37 (by decide) rfl ?_
      refine g_icmp_ne 45 41 C dX4_sumsLeft_38 (by decide) rfl h (fun h => ?_) (fun h => ?_)
      · exact tX4_sumsLeft_L41 (l1 := l1) (l2 := l2) (σ := σ) C K0 h K
      · refine g_iconst 46 (v := 0) C dX4_sumsLeft_45 (by decide) rfl ?_
        exact tX4_sumsLeft_L46 (l1 := l1) (l2 := l2) (s0 := 0) (σ := σ) C K0 h K
noncomputable def fX4_sumsLeft_L83 (l1 : Int32) (σ : Mem) : Option (Int32 × Mem) :=
  some (l1, σ)
set_option maxHeartbeats 4000000 in
set_option maxRecDepth 100000 in
theorem tX4_sumsLeft_L83 {E : Gx} {cI : ClassId} {ad : Nat → Nat} (C : Cx E rmX4_sumsLeft cI layX ad 4 RX4 cX4_sumsLeft) {out : Int32 × Mem} (K0 : KI E rmX4_sumsLeft cI layX ad 4 cX4_sumsLeft .int out) {l1 : Int32} {σ : Mem} (h : fX4_sumsLeft_L83 l1 σ = some out) : G E rmX4_sumsLeft cI layX ad 4 83 [(1, .int l1)] [] σ := by
  unfold fX4_sumsLeft_L83 at h
  refine g_iload_n 84 C dX4_sumsLeft_83 rfl (j := 0) rfl rfl ?_
  cases h
  exact K0 _ _ dX4_sumsLeft_84 rfl
noncomputable def fX4_sumsLeft (σ : Mem) : Option (Int32 × Mem) :=
  (loop (fun a => fX4_sumsLeft_B4 a.1 a.2.1 a.2.2) (0, 0, σ)).bind fun b2 =>
  fX4_sumsLeft_L83 b2.1 b2.2
set_option maxHeartbeats 4000000 in
set_option maxRecDepth 100000 in
theorem mX4_sumsLeft {l : Launch} {D : va_G} {cI : ClassId} {ad : Nat → Nat} {σ : Mem} {out : Int32 × Mem} (h : fX4_sumsLeft σ = some out) : MI l D cI layX ad yX4_sumsLeft cX4_sumsLeft 4 .int rmX4_sumsLeft [.ref (ad 4)] σ out := by
  refine met_i (by decide) (Nat.le_of_ble_eq_true rfl) (fun E C K0 => ?_)
  show G E rmX4_sumsLeft cI layX ad 4 0 [(0, .ref (ad 4))] [] σ
  unfold fX4_sumsLeft at h
  refine g_iconst 1 (v := 0) C dX4_sumsLeft_0 (by decide) rfl ?_
  refine g_istore_n 2 [(1, .int 0), (0, .ref (ad 4))] C dX4_sumsLeft_1 rfl (by decide) rfl rfl ?_
  refine g_iconst 3 (v := 0) C dX4_sumsLeft_2 (by decide) rfl ?_
  refine g_istore_n 4 [(2, .int 0), (1, .int 0), (0, .ref (ad 4))] C dX4_sumsLeft_3 rfl (by decide) rfl rfl ?_
  obtain ⟨b2, hb, h⟩ := bind_some h
  refine g_sub [2, 1, 0] (g_loop (a := (0, 0, σ)) (fun a => G E rmX4_sumsLeft cI layX ad 4 4 [(0, .ref (ad 4)), (1, .int a.1), (2, .int a.2.1)] [] a.2.2) (fun b => G E rmX4_sumsLeft cI layX ad 4 83 [(1, .int b.1)] [] b.2) hb (fun a res h K => tX4_sumsLeft_B4 (l1 := a.1) (l2 := a.2.1) (σ := a.2.2) (res := res) C K0 h K) ?_) rfl
  show G E rmX4_sumsLeft cI layX ad 4 83 [(1, .int b2.1)] [] b2.2
  exact tX4_sumsLeft_L83 (l1 := b2.1) (σ := b2.2) C K0 h

/-! LoopReducer$Plan.productsLeft()I -/
abbrev rmX4_productsLeft : Room := { frames := 1, cells := 0, slots := 0, locals := 21 }
theorem qX4_productsLeft : yX4_productsLeft.cls ≠ "java/lang/invoke/MethodHandle" ∧ yX4_productsLeft.cls ≠ "java/lang/invoke/VarHandle" ∧ (parseMethodDescriptor yX4_productsLeft.desc).map (fun d => d.parameters.length) = some 0 := by decide +kernel
theorem DX4_productsLeft : ∀ q ∈ ([(0, .iconst 0, 1), (1, .istore_n 1, 1), (2, .iconst 0, 1), (3, .istore_n 2, 1), (4, .iload_n 2, 1), (5, .aload_n 0, 1), (6, .getfield 24, 3), (9, .getfield 61, 3), (12, .if_icmp .ge 71, 3), (15, .aload_n 0, 1), (16, .getfield 28, 3), (19, .getfield 76, 3), (22, .iload_n 2, 1), (23, .iaload, 1), (24, .ifCond .eq 16, 3), (27, .aload_n 0, 1), (28, .getfield 28, 3), (31, .getfield 76, 3), (34, .iload_n 2, 1), (35, .iaload, 1), (36, .iconst 1, 1), (37, .if_icmp .ne 7, 3), (40, .iconst 1, 1), (41, .goto 4, 3), (44, .iconst 0, 1), (45, .istore_n 3, 1), (46, .aload_n 0, 1), (47, .getfield 24, 3), (50, .getfield 84, 3), (53, .iload_n 2, 1), (54, .iaload, 1), (55, .iconst 4, 1), (56, .if_icmp .ne 21, 3), (59, .aload_n 0, 1), (60, .getfield 55, 3), (63, .iload_n 2, 1), (64, .invokestatic 64, 3), (67, .ifCond .eq 10, 3), (70, .iload_n 3, 1), (71, .ifCond .ne 6, 3), (74, .iinc 1 1, 3), (77, .iinc 2 1, 3), (80, .goto (-76), 3), (83, .iload_n 1, 1), (84, .ireturn, 1)] : List (Nat × Instr × Nat)), decode cX4_productsLeft q.1 = .ok q.2 := by decide +kernel
theorem dX4_productsLeft_0 : decode cX4_productsLeft 0 = .ok (.iconst 0, 1) := DX4_productsLeft (0, .iconst 0, 1) (List.mem_of_getElem? (i := 0) rfl)
theorem dX4_productsLeft_1 : decode cX4_productsLeft 1 = .ok (.istore_n 1, 1) := DX4_productsLeft (1, .istore_n 1, 1) (List.mem_of_getElem? (i := 1) rfl)
theorem dX4_productsLeft_2 : decode cX4_productsLeft 2 = .ok (.iconst 0, 1) := DX4_productsLeft (2, .iconst 0, 1) (List.mem_of_getElem? (i := 2) rfl)
theorem dX4_productsLeft_3 : decode cX4_productsLeft 3 = .ok (.istore_n 2, 1) := DX4_productsLeft (3, .istore_n 2, 1) (List.mem_of_getElem? (i := 3) rfl)
theorem dX4_productsLeft_4 : decode cX4_productsLeft 4 = .ok (.iload_n 2, 1) := DX4_productsLeft (4, .iload_n 2, 1) (List.mem_of_getElem? (i := 4) rfl)
theorem dX4_productsLeft_5 : decode cX4_productsLeft 5 = .ok (.aload_n 0, 1) := DX4_productsLeft (5, .aload_n 0, 1) (List.mem_of_getElem? (i := 5) rfl)
theorem dX4_productsLeft_6 : decode cX4_productsLeft 6 = .ok (.getfield 24, 3) := DX4_productsLeft (6, .getfield 24, 3) (List.mem_of_getElem? (i := 6) rfl)
theorem dX4_productsLeft_9 : decode cX4_productsLeft 9 = .ok (.getfield 61, 3) := DX4_productsLeft (9, .getfield 61, 3) (List.mem_of_getElem? (i := 7) rfl)
theorem dX4_productsLeft_12 : decode cX4_productsLeft 12 = .ok (.if_icmp .ge 71, 3) := DX4_productsLeft (12, .if_icmp .ge 71, 3) (List.mem_of_getElem? (i := 8) rfl)
theorem dX4_productsLeft_15 : decode cX4_productsLeft 15 = .ok (.aload_n 0, 1) := DX4_productsLeft (15, .aload_n 0, 1) (List.mem_of_getElem? (i := 9) rfl)
theorem dX4_productsLeft_16 : decode cX4_productsLeft 16 = .ok (.getfield 28, 3) := DX4_productsLeft (16, .getfield 28, 3) (List.mem_of_getElem? (i := 10) rfl)
theorem dX4_productsLeft_19 : decode cX4_productsLeft 19 = .ok (.getfield 76, 3) := DX4_productsLeft (19, .getfield 76, 3) (List.mem_of_getElem? (i := 11) rfl)
theorem dX4_productsLeft_22 : decode cX4_productsLeft 22 = .ok (.iload_n 2, 1) := DX4_productsLeft (22, .iload_n 2, 1) (List.mem_of_getElem? (i := 12) rfl)
theorem dX4_productsLeft_23 : decode cX4_productsLeft 23 = .ok (.iaload, 1) := DX4_productsLeft (23, .iaload, 1) (List.mem_of_getElem? (i := 13) rfl)
theorem dX4_productsLeft_24 : decode cX4_productsLeft 24 = .ok (.ifCond .eq 16, 3) := DX4_productsLeft (24, .ifCond .eq 16, 3) (List.mem_of_getElem? (i := 14) rfl)
theorem dX4_productsLeft_27 : decode cX4_productsLeft 27 = .ok (.aload_n 0, 1) := DX4_productsLeft (27, .aload_n 0, 1) (List.mem_of_getElem? (i := 15) rfl)
theorem dX4_productsLeft_28 : decode cX4_productsLeft 28 = .ok (.getfield 28, 3) := DX4_productsLeft (28, .getfield 28, 3) (List.mem_of_getElem? (i := 16) rfl)
theorem dX4_productsLeft_31 : decode cX4_productsLeft 31 = .ok (.getfield 76, 3) := DX4_productsLeft (31, .getfield 76, 3) (List.mem_of_getElem? (i := 17) rfl)
theorem dX4_productsLeft_34 : decode cX4_productsLeft 34 = .ok (.iload_n 2, 1) := DX4_productsLeft (34, .iload_n 2, 1) (List.mem_of_getElem? (i := 18) rfl)
theorem dX4_productsLeft_35 : decode cX4_productsLeft 35 = .ok (.iaload, 1) := DX4_productsLeft (35, .iaload, 1) (List.mem_of_getElem? (i := 19) rfl)
theorem dX4_productsLeft_36 : decode cX4_productsLeft 36 = .ok (.iconst 1, 1) := DX4_productsLeft (36, .iconst 1, 1) (List.mem_of_getElem? (i := 20) rfl)
theorem dX4_productsLeft_37 : decode cX4_productsLeft 37 = .ok (.if_icmp .ne 7, 3) := DX4_productsLeft (37, .if_icmp .ne 7, 3) (List.mem_of_getElem? (i := 21) rfl)
theorem dX4_productsLeft_40 : decode cX4_productsLeft 40 = .ok (.iconst 1, 1) := DX4_productsLeft (40, .iconst 1, 1) (List.mem_of_getElem? (i := 22) rfl)
theorem dX4_productsLeft_41 : decode cX4_productsLeft 41 = .ok (.goto 4, 3) := DX4_productsLeft (41, .goto 4, 3) (List.mem_of_getElem? (i := 23) rfl)
theorem dX4_productsLeft_44 : decode cX4_productsLeft 44 = .ok (.iconst 0, 1) := DX4_productsLeft (44, .iconst 0, 1) (List.mem_of_getElem? (i := 24) rfl)
theorem dX4_productsLeft_45 : decode cX4_productsLeft 45 = .ok (.istore_n 3, 1) := DX4_productsLeft (45, .istore_n 3, 1) (List.mem_of_getElem? (i := 25) rfl)
theorem dX4_productsLeft_46 : decode cX4_productsLeft 46 = .ok (.aload_n 0, 1) := DX4_productsLeft (46, .aload_n 0, 1) (List.mem_of_getElem? (i := 26) rfl)
theorem dX4_productsLeft_47 : decode cX4_productsLeft 47 = .ok (.getfield 24, 3) := DX4_productsLeft (47, .getfield 24, 3) (List.mem_of_getElem? (i := 27) rfl)
theorem dX4_productsLeft_50 : decode cX4_productsLeft 50 = .ok (.getfield 84, 3) := DX4_productsLeft (50, .getfield 84, 3) (List.mem_of_getElem? (i := 28) rfl)
theorem dX4_productsLeft_53 : decode cX4_productsLeft 53 = .ok (.iload_n 2, 1) := DX4_productsLeft (53, .iload_n 2, 1) (List.mem_of_getElem? (i := 29) rfl)
theorem dX4_productsLeft_54 : decode cX4_productsLeft 54 = .ok (.iaload, 1) := DX4_productsLeft (54, .iaload, 1) (List.mem_of_getElem? (i := 30) rfl)
theorem dX4_productsLeft_55 : decode cX4_productsLeft 55 = .ok (.iconst 4, 1) := DX4_productsLeft (55, .iconst 4, 1) (List.mem_of_getElem? (i := 31) rfl)
theorem dX4_productsLeft_56 : decode cX4_productsLeft 56 = .ok (.if_icmp .ne 21, 3) := DX4_productsLeft (56, .if_icmp .ne 21, 3) (List.mem_of_getElem? (i := 32) rfl)
theorem dX4_productsLeft_59 : decode cX4_productsLeft 59 = .ok (.aload_n 0, 1) := DX4_productsLeft (59, .aload_n 0, 1) (List.mem_of_getElem? (i := 33) rfl)
theorem dX4_productsLeft_60 : decode cX4_productsLeft 60 = .ok (.getfield 55, 3) := DX4_productsLeft (60, .getfield 55, 3) (List.mem_of_getElem? (i := 34) rfl)
theorem dX4_productsLeft_63 : decode cX4_productsLeft 63 = .ok (.iload_n 2, 1) := DX4_productsLeft (63, .iload_n 2, 1) (List.mem_of_getElem? (i := 35) rfl)
theorem dX4_productsLeft_64 : decode cX4_productsLeft 64 = .ok (.invokestatic 64, 3) := DX4_productsLeft (64, .invokestatic 64, 3) (List.mem_of_getElem? (i := 36) rfl)
theorem dX4_productsLeft_67 : decode cX4_productsLeft 67 = .ok (.ifCond .eq 10, 3) := DX4_productsLeft (67, .ifCond .eq 10, 3) (List.mem_of_getElem? (i := 37) rfl)
theorem dX4_productsLeft_70 : decode cX4_productsLeft 70 = .ok (.iload_n 3, 1) := DX4_productsLeft (70, .iload_n 3, 1) (List.mem_of_getElem? (i := 38) rfl)
theorem dX4_productsLeft_71 : decode cX4_productsLeft 71 = .ok (.ifCond .ne 6, 3) := DX4_productsLeft (71, .ifCond .ne 6, 3) (List.mem_of_getElem? (i := 39) rfl)
theorem dX4_productsLeft_74 : decode cX4_productsLeft 74 = .ok (.iinc 1 1, 3) := DX4_productsLeft (74, .iinc 1 1, 3) (List.mem_of_getElem? (i := 40) rfl)
theorem dX4_productsLeft_77 : decode cX4_productsLeft 77 = .ok (.iinc 2 1, 3) := DX4_productsLeft (77, .iinc 2 1, 3) (List.mem_of_getElem? (i := 41) rfl)
theorem dX4_productsLeft_80 : decode cX4_productsLeft 80 = .ok (.goto (-76), 3) := DX4_productsLeft (80, .goto (-76), 3) (List.mem_of_getElem? (i := 42) rfl)
theorem dX4_productsLeft_83 : decode cX4_productsLeft 83 = .ok (.iload_n 1, 1) := DX4_productsLeft (83, .iload_n 1, 1) (List.mem_of_getElem? (i := 43) rfl)
theorem dX4_productsLeft_84 : decode cX4_productsLeft 84 = .ok (.ireturn, 1) := DX4_productsLeft (84, .ireturn, 1) (List.mem_of_getElem? (i := 44) rfl)
noncomputable def fX4_productsLeft_L77 (l1 : Int32) (l2 : Int32) (σ : Mem) : Option ((Int32 × Int32 × Mem) ⊕ (Int32 × Mem)) :=
  some (.inl (l1, l2 + 1, σ))
set_option maxHeartbeats 4000000 in
set_option maxRecDepth 100000 in
theorem tX4_productsLeft_L77 {E : Gx} {cI : ClassId} {ad : Nat → Nat} (C : Cx E rmX4_productsLeft cI layX ad 4 RX4 cX4_productsLeft) {out : Int32 × Mem} (K0 : KI E rmX4_productsLeft cI layX ad 4 cX4_productsLeft .int out) {l1 : Int32} {l2 : Int32} {σ : Mem} {res : (Int32 × Int32 × Mem) ⊕ (Int32 × Mem)} (h : fX4_productsLeft_L77 l1 l2 σ = some res) (K : Sum.elim (fun a => G E rmX4_productsLeft cI layX ad 4 4 [(0, .ref (ad 4)), (1, .int a.1), (2, .int a.2.1)] [] a.2.2) (fun b => G E rmX4_productsLeft cI layX ad 4 83 [(1, .int b.1)] [] b.2) res) : G E rmX4_productsLeft cI layX ad 4 77 [(0, .ref (ad 4)), (1, .int l1), (2, .int l2)] [] σ := by
  unfold fX4_productsLeft_L77 at h
  refine g_iinc 80 [(2, .int (l2 + 1)), (0, .ref (ad 4)), (1, .int l1)] C dX4_productsLeft_77 (j := 2) rfl (by rfl) (by decide) rfl rfl ?_
  refine g_goto 4 C dX4_productsLeft_80 (by decide) ?_
  have hh := end_inl h K
  exact g_sub [1, 2, 0] (hh) rfl
noncomputable def fX4_productsLeft_L45 (l1 : Int32) (l2 : Int32) (s0 : Int32) (σ : Mem) : Option ((Int32 × Int32 × Mem) ⊕ (Int32 × Mem)) :=
  chk (inb l2 30) <|
  if (σ 8 l2.toNatClampNeg) = 4 then
    (fX7_isIn (σ 4 3) l2 σ).bind fun o1 =>
    if o1.1 = 0 then
      fX4_productsLeft_L77 l1 l2 o1.2
    else
      if s0 = 0 then
        fX4_productsLeft_L77 (l1 + 1) l2 o1.2
      else
        fX4_productsLeft_L77 l1 l2 o1.2
  else
    fX4_productsLeft_L77 l1 l2 σ
set_option maxHeartbeats 4000000 in
set_option maxRecDepth 100000 in
theorem tX4_productsLeft_L45 {E : Gx} {cI : ClassId} {ad : Nat → Nat} (C : Cx E rmX4_productsLeft cI layX ad 4 RX4 cX4_productsLeft) {out : Int32 × Mem} (K0 : KI E rmX4_productsLeft cI layX ad 4 cX4_productsLeft .int out) {l1 : Int32} {l2 : Int32} {s0 : Int32} {σ : Mem} {res : (Int32 × Int32 × Mem) ⊕ (Int32 × Mem)} (h : fX4_productsLeft_L45 l1 l2 s0 σ = some res) (K : Sum.elim (fun a => G E rmX4_productsLeft cI layX ad 4 4 [(0, .ref (ad 4)), (1, .int a.1), (2, .int a.2.1)] [] a.2.2) (fun b => G E rmX4_productsLeft cI layX ad 4 83 [(1, .int b.1)] [] b.2) res) : G E rmX4_productsLeft cI layX ad 4 45 [(0, .ref (ad 4)), (1, .int l1), (2, .int l2)] [.int s0] σ := by
  unfold fX4_productsLeft_L45 at h
  refine g_istore_n 46 [(3, .int s0), (0, .ref (ad 4)), (1, .int l1), (2, .int l2)] C dX4_productsLeft_45 rfl (by decide) rfl rfl ?_
  refine g_aload_n 47 C dX4_productsLeft_46 rfl (j := 1) rfl rfl ?_
  refine g_getr 50 (j := 0) C rfl rfl wu_X4 (by decide) wf_X4_24 rfl dX4_productsLeft_47 rfl ?_
  refine g_getrN 53 (j := 1) C rfl rfl wu_X3 (by decide) (List.mem_of_getElem? (i := 4) rfl) rfl dX4_productsLeft_50 rfl ?_
  refine g_iload_n 54 C dX4_productsLeft_53 rfl (j := 3) rfl rfl ?_
  refine g_iald 55 C rfl dX4_productsLeft_54 rfl h (fun h => ?_)
  refine g_iconst 56 (v := 4) C dX4_productsLeft_55 (by decide) rfl ?_
  refine g_icmp_ne 77 59 C dX4_productsLeft_56 (by decide) rfl h (fun h => ?_) (fun h => ?_)
  · refine g_aload_n 60 C dX4_productsLeft_59 rfl (j := 1) rfl rfl ?_
    refine g_geti 63 (j := 3) C rfl rfl wu_X4 (by decide) wf_X4_55 rfl dX4_productsLeft_60 rfl ?_
    refine g_iload_n 64 C dX4_productsLeft_63 rfl (j := 3) rfl rfl ?_
    refine g_cti 67 C (As := [.int (σ 4 3), .int l2]) (fun _ h => mX7_isIn (a1 := σ 4 3) (a2 := l2) (σ := σ) h) (List.mem_of_getElem? (i := 49) rfl) ws_X7_isIn wc_X7_isIn wn_X7 qX7_isIn rfl rfl ⟨Nat.le_of_ble_eq_true rfl, Nat.le_of_ble_eq_true rfl⟩ rfl rfl (Nat.le_of_ble_eq_true rfl) dX4_productsLeft_64 rfl h (fun o1 h => ?_)
    refine g_if_eq 77 70 C dX4_productsLeft_67 (by decide) rfl h (fun h => ?_) (fun h => ?_)
    · exact g_sub [1, 2, 3] (tX4_productsLeft_L77 (l1 := l1) (l2 := l2) (σ := o1.2) C K0 h K) rfl
    · refine g_iload_n 71 C dX4_productsLeft_70 rfl (j := 0) rfl rfl ?_
      refine g_if_ne 77 74 C dX4_productsLeft_71 (by decide) rfl h (fun h => ?_) (fun h => ?_)
      · refine g_iinc 77 [(1, .int (l1 + 1)), (3, .int s0), (0, .ref (ad 4)), (2, .int l2)] C dX4_productsLeft_74 (j := 2) rfl (by rfl) (by decide) rfl rfl ?_
        exact g_sub [2, 0, 3] (tX4_productsLeft_L77 (l1 := (l1 + 1)) (l2 := l2) (σ := o1.2) C K0 h K) rfl
      · exact g_sub [1, 2, 3] (tX4_productsLeft_L77 (l1 := l1) (l2 := l2) (σ := o1.2) C K0 h K) rfl
  · exact g_sub [1, 2, 3] (tX4_productsLeft_L77 (l1 := l1) (l2 := l2) (σ := σ) C K0 h K) rfl
noncomputable def fX4_productsLeft_L40 (l1 : Int32) (l2 : Int32) (σ : Mem) : Option ((Int32 × Int32 × Mem) ⊕ (Int32 × Mem)) :=
  fX4_productsLeft_L45 l1 l2 1 σ
set_option maxHeartbeats 4000000 in
set_option maxRecDepth 100000 in
theorem tX4_productsLeft_L40 {E : Gx} {cI : ClassId} {ad : Nat → Nat} (C : Cx E rmX4_productsLeft cI layX ad 4 RX4 cX4_productsLeft) {out : Int32 × Mem} (K0 : KI E rmX4_productsLeft cI layX ad 4 cX4_productsLeft .int out) {l1 : Int32} {l2 : Int32} {σ : Mem} {res : (Int32 × Int32 × Mem) ⊕ (Int32 × Mem)} (h : fX4_productsLeft_L40 l1 l2 σ = some res) (K : Sum.elim (fun a => G E rmX4_productsLeft cI layX ad 4 4 [(0, .ref (ad 4)), (1, .int a.1), (2, .int a.2.1)] [] a.2.2) (fun b => G E rmX4_productsLeft cI layX ad 4 83 [(1, .int b.1)] [] b.2) res) : G E rmX4_productsLeft cI layX ad 4 40 [(0, .ref (ad 4)), (1, .int l1), (2, .int l2)] [] σ := by
  unfold fX4_productsLeft_L40 at h
  refine g_iconst 41 (v := 1) C dX4_productsLeft_40 (by decide) rfl ?_
  refine g_goto 45 C dX4_productsLeft_41 (by decide) ?_
  exact tX4_productsLeft_L45 (l1 := l1) (l2 := l2) (s0 := 1) (σ := σ) C K0 h K
noncomputable def fX4_productsLeft_B4 (l1 : Int32) (l2 : Int32) (σ : Mem) : Option ((Int32 × Int32 × Mem) ⊕ (Int32 × Mem)) :=
  if (σ 3 4) ≤ l2 then
    some (.inr (l1, σ))
  else
    chk (inb l2 30) <|
    if (σ 20 l2.toNatClampNeg) = 0 then
      fX4_productsLeft_L40 l1 l2 σ
    else
      chk (inb l2 30) <|
      if (σ 20 l2.toNatClampNeg) = 1 then
        fX4_productsLeft_L40 l1 l2 σ
      else
        fX4_productsLeft_L45 l1 l2 0 σ
set_option maxHeartbeats 4000000 in
set_option maxRecDepth 100000 in
theorem tX4_productsLeft_B4 {E : Gx} {cI : ClassId} {ad : Nat → Nat} (C : Cx E rmX4_productsLeft cI layX ad 4 RX4 cX4_productsLeft) {out : Int32 × Mem} (K0 : KI E rmX4_productsLeft cI layX ad 4 cX4_productsLeft .int out) {l1 : Int32} {l2 : Int32} {σ : Mem} {res : (Int32 × Int32 × Mem) ⊕ (Int32 × Mem)} (h : fX4_productsLeft_B4 l1 l2 σ = some res) (K : Sum.elim (fun a => G E rmX4_productsLeft cI layX ad 4 4 [(0, .ref (ad 4)), (1, .int a.1), (2, .int a.2.1)] [] a.2.2) (fun b => G E rmX4_productsLeft cI layX ad 4 83 [(1, .int b.1)] [] b.2) res) : G E rmX4_productsLeft cI layX ad 4 4 [(0, .ref (ad 4)), (1, .int l1), (2, .int l2)] [] σ := by
  unfold fX4_productsLeft_B4 at h
  refine g_iload_n 5 C dX4_productsLeft_4 rfl (j := 2) rfl rfl ?_
  refine g_aload_n 6 C dX4_productsLeft_5 rfl (j := 0) rfl rfl ?_
  refine g_getr 9 (j := 0) C rfl rfl wu_X4 (by decide) wf_X4_24 rfl dX4_productsLeft_6 rfl ?_
  refine g_getiN 12 (j := 4) C rfl rfl wu_X3 (by decide) (List.mem_of_getElem? (i := 14) rfl) rfl dX4_productsLeft_9 rfl ?_
  refine g_icmp_ge 83 15 C dX4_productsLeft_12 (by decide) rfl h (fun h => ?_) (fun h => ?_)
  · have hh := end_inr h K
    exact g_sub [1] (hh) rfl
  · refine g_aload_n 16 C dX4_productsLeft_15 rfl (j := 0) rfl rfl ?_
    refine g_getr 19 (j := 1) C rfl rfl wu_X4 (by decide) wf_X4_28 rfl dX4_productsLeft_16 rfl ?_
    refine g_getrN 22 (j := 4) C rfl rfl wu_X0 (by decide) (List.mem_of_getElem? (i := 37) rfl) rfl dX4_productsLeft_19 rfl ?_
    refine g_iload_n 23 C dX4_productsLeft_22 rfl (j := 2) rfl rfl ?_
    refine g_iald 24 C rfl dX4_productsLeft_23 rfl h (fun h => ?_)
    refine g_if_eq 40 27 C dX4_productsLeft_24 (by decide) rfl h (fun h => ?_) (fun h => ?_)
    · exact tX4_productsLeft_L40 (l1 := l1) (l2 := l2) (σ := σ) C K0 h K
    · refine g_aload_n 28 C dX4_productsLeft_27 rfl (j := 0) rfl rfl ?_
      refine g_getr 31 (j := 1) C rfl rfl wu_X4 (by decide) wf_X4_28 rfl dX4_productsLeft_28 rfl ?_
      refine g_getrN 34 (j := 4) C rfl rfl wu_X0 (by decide) (List.mem_of_getElem? (i := 37) rfl) rfl dX4_productsLeft_31 rfl ?_
      refine g_iload_n 35 C dX4_productsLeft_34 rfl (j := 2) rfl rfl ?_
      refine g_iald 36 C rfl dX4_productsLeft_35 rfl h (fun h => ?_)
      refine g_iconst 37 (v := 1) C dX4_productsLeft_36 (by decide) rfl ?_
      refine g_icmp_ne 44 40 C dX4_productsLeft_37 (by decide) rfl h (fun h => ?_) (fun h => ?_)
      · exact tX4_productsLeft_L40 (l1 := l1) (l2 := l2) (σ := σ) C K0 h K
      · refine g_iconst 45 (v := 0) C dX4_productsLeft_44 (by decide) rfl ?_
        exact tX4_productsLeft_L45 (l1 := l1) (l2 := l2) (s0 := 0) (σ := σ) C K0 h K
noncomputable def fX4_productsLeft_L83 (l1 : Int32) (σ : Mem) : Option (Int32 × Mem) :=
  some (l1, σ)
set_option maxHeartbeats 4000000 in
set_option maxRecDepth 100000 in
theorem tX4_productsLeft_L83 {E : Gx} {cI : ClassId} {ad : Nat → Nat} (C : Cx E rmX4_productsLeft cI layX ad 4 RX4 cX4_productsLeft) {out : Int32 × Mem} (K0 : KI E rmX4_productsLeft cI layX ad 4 cX4_productsLeft .int out) {l1 : Int32} {σ : Mem} (h : fX4_productsLeft_L83 l1 σ = some out) : G E rmX4_productsLeft cI layX ad 4 83 [(1, .int l1)] [] σ := by
  unfold fX4_productsLeft_L83 at h
  refine g_iload_n 84 C dX4_productsLeft_83 rfl (j := 0) rfl rfl ?_
  cases h
  exact K0 _ _ dX4_productsLeft_84 rfl
noncomputable def fX4_productsLeft (σ : Mem) : Option (Int32 × Mem) :=
  (loop (fun a => fX4_productsLeft_B4 a.1 a.2.1 a.2.2) (0, 0, σ)).bind fun b2 =>
  fX4_productsLeft_L83 b2.1 b2.2
set_option maxHeartbeats 4000000 in
set_option maxRecDepth 100000 in
theorem mX4_productsLeft {l : Launch} {D : va_G} {cI : ClassId} {ad : Nat → Nat} {σ : Mem} {out : Int32 × Mem} (h : fX4_productsLeft σ = some out) : MI l D cI layX ad yX4_productsLeft cX4_productsLeft 4 .int rmX4_productsLeft [.ref (ad 4)] σ out := by
  refine met_i (by decide) (Nat.le_of_ble_eq_true rfl) (fun E C K0 => ?_)
  show G E rmX4_productsLeft cI layX ad 4 0 [(0, .ref (ad 4))] [] σ
  unfold fX4_productsLeft at h
  refine g_iconst 1 (v := 0) C dX4_productsLeft_0 (by decide) rfl ?_
  refine g_istore_n 2 [(1, .int 0), (0, .ref (ad 4))] C dX4_productsLeft_1 rfl (by decide) rfl rfl ?_
  refine g_iconst 3 (v := 0) C dX4_productsLeft_2 (by decide) rfl ?_
  refine g_istore_n 4 [(2, .int 0), (1, .int 0), (0, .ref (ad 4))] C dX4_productsLeft_3 rfl (by decide) rfl rfl ?_
  obtain ⟨b2, hb, h⟩ := bind_some h
  refine g_sub [2, 1, 0] (g_loop (a := (0, 0, σ)) (fun a => G E rmX4_productsLeft cI layX ad 4 4 [(0, .ref (ad 4)), (1, .int a.1), (2, .int a.2.1)] [] a.2.2) (fun b => G E rmX4_productsLeft cI layX ad 4 83 [(1, .int b.1)] [] b.2) hb (fun a res h K => tX4_productsLeft_B4 (l1 := a.1) (l2 := a.2.1) (σ := a.2.2) (res := res) C K0 h K) ?_) rfl
  show G E rmX4_productsLeft cI layX ad 4 83 [(1, .int b2.1)] [] b2.2
  exact tX4_productsLeft_L83 (l1 := b2.1) (σ := b2.2) C K0 h

/-! LoopReducer$Plan.addCells(I)V -/
abbrev rmX4_addCells : Room := { frames := 3, cells := 0, slots := 0, locals := 71 }
theorem qX4_addCells : yX4_addCells.cls ≠ "java/lang/invoke/MethodHandle" ∧ yX4_addCells.cls ≠ "java/lang/invoke/VarHandle" ∧ (parseMethodDescriptor yX4_addCells.desc).map (fun d => d.parameters.length) = some 1 := by decide +kernel
theorem DX4_addCells : ∀ q ∈ ([(0, .aload_n 0, 1), (1, .getfield 32, 3), (4, .iload_n 1, 1), (5, .invokevirtual 87, 3), (8, .istore_n 2, 1), (9, .iconst (-1), 1), (10, .istore_n 3, 1), (11, .iconst 0, 1), (12, .istore 4, 2), (14, .iload 4, 2), (16, .iload_n 2, 1), (17, .if_icmp .ge 45, 3), (20, .aload_n 0, 1), (21, .iload_n 1, 1), (22, .iload 4, 2), (24, .invokevirtual 92, 3), (27, .istore 5, 2), (29, .iload_n 3, 1), (30, .iconst (-1), 1), (31, .if_icmp .ne 14, 3), (34, .aload_n 0, 1), (35, .getfield 21, 3), (38, .iload_n 1, 1), (39, .iload 5, 2), (41, .iastore, 1), (42, .goto 11, 3), (45, .aload_n 0, 1), (46, .getfield 18, 3), (49, .iload_n 3, 1), (50, .iload 5, 2), (52, .iastore, 1), (53, .iload 5, 2), (55, .istore_n 3, 1), (56, .iinc 4 1, 3), (59, .goto (-45), 3), (62, .return_, 1)] : List (Nat × Instr × Nat)), decode cX4_addCells q.1 = .ok q.2 := by decide +kernel
theorem dX4_addCells_0 : decode cX4_addCells 0 = .ok (.aload_n 0, 1) := DX4_addCells (0, .aload_n 0, 1) (List.mem_of_getElem? (i := 0) rfl)
theorem dX4_addCells_1 : decode cX4_addCells 1 = .ok (.getfield 32, 3) := DX4_addCells (1, .getfield 32, 3) (List.mem_of_getElem? (i := 1) rfl)
theorem dX4_addCells_4 : decode cX4_addCells 4 = .ok (.iload_n 1, 1) := DX4_addCells (4, .iload_n 1, 1) (List.mem_of_getElem? (i := 2) rfl)
theorem dX4_addCells_5 : decode cX4_addCells 5 = .ok (.invokevirtual 87, 3) := DX4_addCells (5, .invokevirtual 87, 3) (List.mem_of_getElem? (i := 3) rfl)
theorem dX4_addCells_8 : decode cX4_addCells 8 = .ok (.istore_n 2, 1) := DX4_addCells (8, .istore_n 2, 1) (List.mem_of_getElem? (i := 4) rfl)
theorem dX4_addCells_9 : decode cX4_addCells 9 = .ok (.iconst (-1), 1) := DX4_addCells (9, .iconst (-1), 1) (List.mem_of_getElem? (i := 5) rfl)
theorem dX4_addCells_10 : decode cX4_addCells 10 = .ok (.istore_n 3, 1) := DX4_addCells (10, .istore_n 3, 1) (List.mem_of_getElem? (i := 6) rfl)
theorem dX4_addCells_11 : decode cX4_addCells 11 = .ok (.iconst 0, 1) := DX4_addCells (11, .iconst 0, 1) (List.mem_of_getElem? (i := 7) rfl)
theorem dX4_addCells_12 : decode cX4_addCells 12 = .ok (.istore 4, 2) := DX4_addCells (12, .istore 4, 2) (List.mem_of_getElem? (i := 8) rfl)
theorem dX4_addCells_14 : decode cX4_addCells 14 = .ok (.iload 4, 2) := DX4_addCells (14, .iload 4, 2) (List.mem_of_getElem? (i := 9) rfl)
theorem dX4_addCells_16 : decode cX4_addCells 16 = .ok (.iload_n 2, 1) := DX4_addCells (16, .iload_n 2, 1) (List.mem_of_getElem? (i := 10) rfl)
theorem dX4_addCells_17 : decode cX4_addCells 17 = .ok (.if_icmp .ge 45, 3) := DX4_addCells (17, .if_icmp .ge 45, 3) (List.mem_of_getElem? (i := 11) rfl)
theorem dX4_addCells_20 : decode cX4_addCells 20 = .ok (.aload_n 0, 1) := DX4_addCells (20, .aload_n 0, 1) (List.mem_of_getElem? (i := 12) rfl)
theorem dX4_addCells_21 : decode cX4_addCells 21 = .ok (.iload_n 1, 1) := DX4_addCells (21, .iload_n 1, 1) (List.mem_of_getElem? (i := 13) rfl)
theorem dX4_addCells_22 : decode cX4_addCells 22 = .ok (.iload 4, 2) := DX4_addCells (22, .iload 4, 2) (List.mem_of_getElem? (i := 14) rfl)
theorem dX4_addCells_24 : decode cX4_addCells 24 = .ok (.invokevirtual 92, 3) := DX4_addCells (24, .invokevirtual 92, 3) (List.mem_of_getElem? (i := 15) rfl)
theorem dX4_addCells_27 : decode cX4_addCells 27 = .ok (.istore 5, 2) := DX4_addCells (27, .istore 5, 2) (List.mem_of_getElem? (i := 16) rfl)
theorem dX4_addCells_29 : decode cX4_addCells 29 = .ok (.iload_n 3, 1) := DX4_addCells (29, .iload_n 3, 1) (List.mem_of_getElem? (i := 17) rfl)
theorem dX4_addCells_30 : decode cX4_addCells 30 = .ok (.iconst (-1), 1) := DX4_addCells (30, .iconst (-1), 1) (List.mem_of_getElem? (i := 18) rfl)
theorem dX4_addCells_31 : decode cX4_addCells 31 = .ok (.if_icmp .ne 14, 3) := DX4_addCells (31, .if_icmp .ne 14, 3) (List.mem_of_getElem? (i := 19) rfl)
theorem dX4_addCells_34 : decode cX4_addCells 34 = .ok (.aload_n 0, 1) := DX4_addCells (34, .aload_n 0, 1) (List.mem_of_getElem? (i := 20) rfl)
theorem dX4_addCells_35 : decode cX4_addCells 35 = .ok (.getfield 21, 3) := DX4_addCells (35, .getfield 21, 3) (List.mem_of_getElem? (i := 21) rfl)
theorem dX4_addCells_38 : decode cX4_addCells 38 = .ok (.iload_n 1, 1) := DX4_addCells (38, .iload_n 1, 1) (List.mem_of_getElem? (i := 22) rfl)
theorem dX4_addCells_39 : decode cX4_addCells 39 = .ok (.iload 5, 2) := DX4_addCells (39, .iload 5, 2) (List.mem_of_getElem? (i := 23) rfl)
theorem dX4_addCells_41 : decode cX4_addCells 41 = .ok (.iastore, 1) := DX4_addCells (41, .iastore, 1) (List.mem_of_getElem? (i := 24) rfl)
theorem dX4_addCells_42 : decode cX4_addCells 42 = .ok (.goto 11, 3) := DX4_addCells (42, .goto 11, 3) (List.mem_of_getElem? (i := 25) rfl)
theorem dX4_addCells_45 : decode cX4_addCells 45 = .ok (.aload_n 0, 1) := DX4_addCells (45, .aload_n 0, 1) (List.mem_of_getElem? (i := 26) rfl)
theorem dX4_addCells_46 : decode cX4_addCells 46 = .ok (.getfield 18, 3) := DX4_addCells (46, .getfield 18, 3) (List.mem_of_getElem? (i := 27) rfl)
theorem dX4_addCells_49 : decode cX4_addCells 49 = .ok (.iload_n 3, 1) := DX4_addCells (49, .iload_n 3, 1) (List.mem_of_getElem? (i := 28) rfl)
theorem dX4_addCells_50 : decode cX4_addCells 50 = .ok (.iload 5, 2) := DX4_addCells (50, .iload 5, 2) (List.mem_of_getElem? (i := 29) rfl)
theorem dX4_addCells_52 : decode cX4_addCells 52 = .ok (.iastore, 1) := DX4_addCells (52, .iastore, 1) (List.mem_of_getElem? (i := 30) rfl)
theorem dX4_addCells_53 : decode cX4_addCells 53 = .ok (.iload 5, 2) := DX4_addCells (53, .iload 5, 2) (List.mem_of_getElem? (i := 31) rfl)
theorem dX4_addCells_55 : decode cX4_addCells 55 = .ok (.istore_n 3, 1) := DX4_addCells (55, .istore_n 3, 1) (List.mem_of_getElem? (i := 32) rfl)
theorem dX4_addCells_56 : decode cX4_addCells 56 = .ok (.iinc 4 1, 3) := DX4_addCells (56, .iinc 4 1, 3) (List.mem_of_getElem? (i := 33) rfl)
theorem dX4_addCells_59 : decode cX4_addCells 59 = .ok (.goto (-45), 3) := DX4_addCells (59, .goto (-45), 3) (List.mem_of_getElem? (i := 34) rfl)
theorem dX4_addCells_62 : decode cX4_addCells 62 = .ok (.return_, 1) := DX4_addCells (62, .return_, 1) (List.mem_of_getElem? (i := 35) rfl)
noncomputable def fX4_addCells_L53 (l1 : Int32) (l2 : Int32) (l4 : Int32) (l5 : Int32) (σ : Mem) : Option ((Int32 × Int32 × Mem) ⊕ (Mem)) :=
  some (.inl (l5, l4 + 1, σ))
set_option maxHeartbeats 4000000 in
set_option maxRecDepth 100000 in
theorem tX4_addCells_L53 {E : Gx} {cI : ClassId} {ad : Nat → Nat} (C : Cx E rmX4_addCells cI layX ad 6 RX4 cX4_addCells) {out : Mem} (K0 : KV E rmX4_addCells cI layX ad 6 cX4_addCells out) {l1 : Int32} {l2 : Int32} {l4 : Int32} {l5 : Int32} {σ : Mem} {res : (Int32 × Int32 × Mem) ⊕ (Mem)} (h : fX4_addCells_L53 l1 l2 l4 l5 σ = some res) (K : Sum.elim (fun a => G E rmX4_addCells cI layX ad 6 14 [(0, .ref (ad 4)), (1, .int l1), (2, .int l2), (3, .int a.1), (4, .int a.2.1)] [] a.2.2) (fun b => G E rmX4_addCells cI layX ad 6 62 [] [] b) res) : G E rmX4_addCells cI layX ad 6 53 [(0, .ref (ad 4)), (1, .int l1), (2, .int l2), (4, .int l4), (5, .int l5)] [] σ := by
  unfold fX4_addCells_L53 at h
  refine g_iload 55 C dX4_addCells_53 (j := 4) rfl rfl ?_
  refine g_istore_n 56 [(3, .int l5), (0, .ref (ad 4)), (1, .int l1), (2, .int l2), (4, .int l4), (5, .int l5)] C dX4_addCells_55 rfl (by decide) rfl rfl ?_
  refine g_iinc 59 [(4, .int (l4 + 1)), (3, .int l5), (0, .ref (ad 4)), (1, .int l1), (2, .int l2), (5, .int l5)] C dX4_addCells_56 (j := 4) rfl (by rfl) (by decide) rfl rfl ?_
  refine g_goto 14 C dX4_addCells_59 (by decide) ?_
  have hh := end_inl h K
  exact g_sub [2, 3, 4, 1, 0] (hh) rfl
noncomputable def fX4_addCells_B14 (l1 : Int32) (l2 : Int32) (l3 : Int32) (l4 : Int32) (σ : Mem) : Option ((Int32 × Int32 × Mem) ⊕ (Mem)) :=
  if l2 ≤ l4 then
    some (.inr σ)
  else
    (fX4_placeOf l1 l4 σ).bind fun o2 =>
    if l3 = (-1) then
      chk (inb l1 30) <|
      fX4_addCells_L53 l1 l2 l4 o2.1 (up2 o2.2 25 l1.toNatClampNeg o2.1)
    else
      chk (inb l3 90) <|
      fX4_addCells_L53 l1 l2 l4 o2.1 (up2 o2.2 24 l3.toNatClampNeg o2.1)
set_option maxHeartbeats 4000000 in
set_option maxRecDepth 100000 in
theorem tX4_addCells_B14 {E : Gx} {cI : ClassId} {ad : Nat → Nat} (C : Cx E rmX4_addCells cI layX ad 6 RX4 cX4_addCells) {out : Mem} (K0 : KV E rmX4_addCells cI layX ad 6 cX4_addCells out) {l1 : Int32} {l2 : Int32} {l3 : Int32} {l4 : Int32} {σ : Mem} {res : (Int32 × Int32 × Mem) ⊕ (Mem)} (h : fX4_addCells_B14 l1 l2 l3 l4 σ = some res) (K : Sum.elim (fun a => G E rmX4_addCells cI layX ad 6 14 [(0, .ref (ad 4)), (1, .int l1), (2, .int l2), (3, .int a.1), (4, .int a.2.1)] [] a.2.2) (fun b => G E rmX4_addCells cI layX ad 6 62 [] [] b) res) : G E rmX4_addCells cI layX ad 6 14 [(0, .ref (ad 4)), (1, .int l1), (2, .int l2), (3, .int l3), (4, .int l4)] [] σ := by
  unfold fX4_addCells_B14 at h
  refine g_iload 16 C dX4_addCells_14 (j := 4) rfl rfl ?_
  refine g_iload_n 17 C dX4_addCells_16 rfl (j := 2) rfl rfl ?_
  refine g_icmp_ge 62 20 C dX4_addCells_17 (by decide) rfl h (fun h => ?_) (fun h => ?_)
  · have hh := end_inr h K
    exact g_sub [] (hh) rfl
  · refine g_aload_n 21 C dX4_addCells_20 rfl (j := 0) rfl rfl ?_
    refine g_iload_n 22 C dX4_addCells_21 rfl (j := 1) rfl rfl ?_
    refine g_iload 24 C dX4_addCells_22 (j := 4) rfl rfl ?_
    refine g_cvi 27 C (As := [.int l1, .int l4]) (fun _ h => mX4_placeOf (a1 := l1) (a2 := l4) (σ := σ) h) wl_X4_92 wi_X4_placeOf wz_X4_placeOf wc_X4_placeOf wn_X4 qX4_placeOf rfl rfl ⟨Nat.le_of_ble_eq_true rfl, Nat.le_of_ble_eq_true rfl⟩ rfl rfl rfl rfl (Nat.le_of_ble_eq_true rfl) dX4_addCells_24 rfl h (fun o2 h => ?_)
    refine g_istore 29 [(5, .int o2.1), (0, .ref (ad 4)), (1, .int l1), (2, .int l2), (3, .int l3), (4, .int l4)] C dX4_addCells_27 (by decide) rfl rfl ?_
    refine g_iload_n 30 C dX4_addCells_29 rfl (j := 4) rfl rfl ?_
    refine g_iconst 31 (v := (-1)) C dX4_addCells_30 (by decide) rfl ?_
    refine g_icmp_ne 45 34 C dX4_addCells_31 (by decide) rfl h (fun h => ?_) (fun h => ?_)
    · refine g_aload_n 35 C dX4_addCells_34 rfl (j := 1) rfl rfl ?_
      refine g_getr 38 (j := 8) C rfl rfl wu_X4 (by decide) wf_X4_21 rfl dX4_addCells_35 rfl ?_
      refine g_iload_n 39 C dX4_addCells_38 rfl (j := 2) rfl rfl ?_
      refine g_iload 41 C dX4_addCells_39 (j := 0) rfl rfl ?_
      refine g_iast 42 C rfl dX4_addCells_41 rfl h (fun h => ?_)
      refine g_goto 53 C dX4_addCells_42 (by decide) ?_
      exact g_sub [1, 2, 3, 5, 0] (tX4_addCells_L53 (l1 := l1) (l2 := l2) (l4 := l4) (l5 := o2.1) (σ := up2 o2.2 25 l1.toNatClampNeg o2.1) C K0 h K) rfl
    · refine g_aload_n 46 C dX4_addCells_45 rfl (j := 1) rfl rfl ?_
      refine g_getr 49 (j := 7) C rfl rfl wu_X4 (by decide) wf_X4_18 rfl dX4_addCells_46 rfl ?_
      refine g_iload_n 50 C dX4_addCells_49 rfl (j := 4) rfl rfl ?_
      refine g_iload 52 C dX4_addCells_50 (j := 0) rfl rfl ?_
      refine g_iast 53 C rfl dX4_addCells_52 rfl h (fun h => ?_)
      exact g_sub [1, 2, 3, 5, 0] (tX4_addCells_L53 (l1 := l1) (l2 := l2) (l4 := l4) (l5 := o2.1) (σ := up2 o2.2 24 l3.toNatClampNeg o2.1) C K0 h K) rfl
noncomputable def fX4_addCells_L62 (σ : Mem) : Option (Mem) :=
  some σ
set_option maxHeartbeats 4000000 in
set_option maxRecDepth 100000 in
theorem tX4_addCells_L62 {E : Gx} {cI : ClassId} {ad : Nat → Nat} (C : Cx E rmX4_addCells cI layX ad 6 RX4 cX4_addCells) {out : Mem} (K0 : KV E rmX4_addCells cI layX ad 6 cX4_addCells out) {σ : Mem} (h : fX4_addCells_L62 σ = some out) : G E rmX4_addCells cI layX ad 6 62 [] [] σ := by
  unfold fX4_addCells_L62 at h
  cases h
  exact K0 _ _ dX4_addCells_62
noncomputable def fX4_addCells (a1 : Int32) (σ : Mem) : Option (Mem) :=
  (fX1_degree a1 σ).bind fun o1 =>
  (loop (fun a => fX4_addCells_B14 a1 o1.1 a.1 a.2.1 a.2.2) ((-1), 0, o1.2)).bind fun b3 =>
  fX4_addCells_L62 b3
set_option maxHeartbeats 4000000 in
set_option maxRecDepth 100000 in
theorem mX4_addCells {l : Launch} {D : va_G} {cI : ClassId} {ad : Nat → Nat} {a1 : Int32} {σ : Mem} {out : Mem} (h : fX4_addCells a1 σ = some out) : MV l D cI layX ad yX4_addCells cX4_addCells 6 rmX4_addCells [.ref (ad 4), .int a1] σ out := by
  refine met_v (by decide) (Nat.le_of_ble_eq_true rfl) (fun E C K0 => ?_)
  show G E rmX4_addCells cI layX ad 6 0 [(0, .ref (ad 4)), (1, .int a1)] [] σ
  unfold fX4_addCells at h
  refine g_aload_n 1 C dX4_addCells_0 rfl (j := 0) rfl rfl ?_
  refine g_getr 4 (j := 2) C rfl rfl wu_X4 (by decide) wf_X4_32 rfl dX4_addCells_1 rfl ?_
  refine g_iload_n 5 C dX4_addCells_4 rfl (j := 1) rfl rfl ?_
  refine g_cni 8 C (As := [.int a1]) (fun _ h => mX1_degree (a1 := a1) (σ := σ) h) (List.mem_of_getElem? (i := 51) rfl) wi_X1_degree wz_X1_degree wc_X1_degree wn_X1 qX1_degree rfl rfl ⟨Nat.le_of_ble_eq_true rfl, Nat.le_of_ble_eq_true rfl⟩ rfl rfl rfl rfl (Nat.le_of_ble_eq_true rfl) dX4_addCells_5 rfl h (fun o1 h => ?_)
  refine g_istore_n 9 [(2, .int o1.1), (0, .ref (ad 4)), (1, .int a1)] C dX4_addCells_8 rfl (by decide) rfl rfl ?_
  refine g_iconst 10 (v := (-1)) C dX4_addCells_9 (by decide) rfl ?_
  refine g_istore_n 11 [(3, .int (-1)), (2, .int o1.1), (0, .ref (ad 4)), (1, .int a1)] C dX4_addCells_10 rfl (by decide) rfl rfl ?_
  refine g_iconst 12 (v := 0) C dX4_addCells_11 (by decide) rfl ?_
  refine g_istore 14 [(4, .int 0), (3, .int (-1)), (2, .int o1.1), (0, .ref (ad 4)), (1, .int a1)] C dX4_addCells_12 (by decide) rfl rfl ?_
  obtain ⟨b3, hb, h⟩ := bind_some h
  refine g_sub [3, 4, 2, 1, 0] (g_loop (a := ((-1), 0, o1.2)) (fun a => G E rmX4_addCells cI layX ad 6 14 [(0, .ref (ad 4)), (1, .int a1), (2, .int o1.1), (3, .int a.1), (4, .int a.2.1)] [] a.2.2) (fun b => G E rmX4_addCells cI layX ad 6 62 [] [] b) hb (fun a res h K => tX4_addCells_B14 (l1 := a1) (l2 := o1.1) (l3 := a.1) (l4 := a.2.1) (σ := a.2.2) (res := res) C K0 h K) ?_) rfl
  show G E rmX4_addCells cI layX ad 6 62 [] [] b3
  exact tX4_addCells_L62 (σ := b3) C K0 h

/-! LoopReducer$Plan.refresh()V -/
abbrev rmX4_refresh : Room := { frames := 4, cells := 0, slots := 0, locals := 96 }
theorem qX4_refresh : yX4_refresh.cls ≠ "java/lang/invoke/MethodHandle" ∧ yX4_refresh.cls ≠ "java/lang/invoke/VarHandle" ∧ (parseMethodDescriptor yX4_refresh.desc).map (fun d => d.parameters.length) = some 0 := by decide +kernel
theorem DX4_refresh : ∀ q ∈ ([(0, .aload_n 0, 1), (1, .getfield 36, 3), (4, .aload_n 0, 1), (5, .getfield 24, 3), (8, .getfield 40, 3), (11, .if_icmp .ne 18, 3), (14, .aload_n 0, 1), (15, .getfield 43, 3), (18, .aload_n 0, 1), (19, .getfield 24, 3), (22, .getfield 46, 3), (25, .if_icmp .ne 4, 3), (28, .return_, 1), (29, .aload_n 0, 1), (30, .aload_n 0, 1), (31, .getfield 24, 3), (34, .getfield 40, 3), (37, .putfield 36, 3), (40, .aload_n 0, 1), (41, .aload_n 0, 1), (42, .getfield 24, 3), (45, .getfield 46, 3), (48, .putfield 43, 3), (51, .aload_n 0, 1), (52, .aload_n 0, 1), (53, .aload_n 0, 1), (54, .getfield 24, 3), (57, .invokevirtual 47, 3), (60, .invokevirtual 51, 3), (63, .putfield 55, 3), (66, .aload_n 0, 1), (67, .iconst 0, 1), (68, .putfield 58, 3), (71, .iconst 0, 1), (72, .istore_n 1, 1), (73, .iload_n 1, 1), (74, .aload_n 0, 1), (75, .getfield 24, 3), (78, .getfield 61, 3), (81, .if_icmp .ge 33, 3), (84, .aload_n 0, 1), (85, .getfield 55, 3), (88, .iload_n 1, 1), (89, .invokestatic 64, 3), (92, .ifCond .eq 16, 3), (95, .aload_n 0, 1), (96, .iload_n 1, 1), (97, .invokevirtual 68, 3), (100, .ifCond .eq 8, 3), (103, .aload_n 0, 1), (104, .iload_n 1, 1), (105, .invokevirtual 72, 3), (108, .iinc 1 1, 3), (111, .goto (-38), 3), (114, .return_, 1)] : List (Nat × Instr × Nat)), decode cX4_refresh q.1 = .ok q.2 := by decide +kernel
theorem dX4_refresh_0 : decode cX4_refresh 0 = .ok (.aload_n 0, 1) := DX4_refresh (0, .aload_n 0, 1) (List.mem_of_getElem? (i := 0) rfl)
theorem dX4_refresh_1 : decode cX4_refresh 1 = .ok (.getfield 36, 3) := DX4_refresh (1, .getfield 36, 3) (List.mem_of_getElem? (i := 1) rfl)
theorem dX4_refresh_4 : decode cX4_refresh 4 = .ok (.aload_n 0, 1) := DX4_refresh (4, .aload_n 0, 1) (List.mem_of_getElem? (i := 2) rfl)
theorem dX4_refresh_5 : decode cX4_refresh 5 = .ok (.getfield 24, 3) := DX4_refresh (5, .getfield 24, 3) (List.mem_of_getElem? (i := 3) rfl)
theorem dX4_refresh_8 : decode cX4_refresh 8 = .ok (.getfield 40, 3) := DX4_refresh (8, .getfield 40, 3) (List.mem_of_getElem? (i := 4) rfl)
theorem dX4_refresh_11 : decode cX4_refresh 11 = .ok (.if_icmp .ne 18, 3) := DX4_refresh (11, .if_icmp .ne 18, 3) (List.mem_of_getElem? (i := 5) rfl)
theorem dX4_refresh_14 : decode cX4_refresh 14 = .ok (.aload_n 0, 1) := DX4_refresh (14, .aload_n 0, 1) (List.mem_of_getElem? (i := 6) rfl)
theorem dX4_refresh_15 : decode cX4_refresh 15 = .ok (.getfield 43, 3) := DX4_refresh (15, .getfield 43, 3) (List.mem_of_getElem? (i := 7) rfl)
theorem dX4_refresh_18 : decode cX4_refresh 18 = .ok (.aload_n 0, 1) := DX4_refresh (18, .aload_n 0, 1) (List.mem_of_getElem? (i := 8) rfl)
theorem dX4_refresh_19 : decode cX4_refresh 19 = .ok (.getfield 24, 3) := DX4_refresh (19, .getfield 24, 3) (List.mem_of_getElem? (i := 9) rfl)
theorem dX4_refresh_22 : decode cX4_refresh 22 = .ok (.getfield 46, 3) := DX4_refresh (22, .getfield 46, 3) (List.mem_of_getElem? (i := 10) rfl)
theorem dX4_refresh_25 : decode cX4_refresh 25 = .ok (.if_icmp .ne 4, 3) := DX4_refresh (25, .if_icmp .ne 4, 3) (List.mem_of_getElem? (i := 11) rfl)
theorem dX4_refresh_28 : decode cX4_refresh 28 = .ok (.return_, 1) := DX4_refresh (28, .return_, 1) (List.mem_of_getElem? (i := 12) rfl)
theorem dX4_refresh_29 : decode cX4_refresh 29 = .ok (.aload_n 0, 1) := DX4_refresh (29, .aload_n 0, 1) (List.mem_of_getElem? (i := 13) rfl)
theorem dX4_refresh_30 : decode cX4_refresh 30 = .ok (.aload_n 0, 1) := DX4_refresh (30, .aload_n 0, 1) (List.mem_of_getElem? (i := 14) rfl)
theorem dX4_refresh_31 : decode cX4_refresh 31 = .ok (.getfield 24, 3) := DX4_refresh (31, .getfield 24, 3) (List.mem_of_getElem? (i := 15) rfl)
theorem dX4_refresh_34 : decode cX4_refresh 34 = .ok (.getfield 40, 3) := DX4_refresh (34, .getfield 40, 3) (List.mem_of_getElem? (i := 16) rfl)
theorem dX4_refresh_37 : decode cX4_refresh 37 = .ok (.putfield 36, 3) := DX4_refresh (37, .putfield 36, 3) (List.mem_of_getElem? (i := 17) rfl)
theorem dX4_refresh_40 : decode cX4_refresh 40 = .ok (.aload_n 0, 1) := DX4_refresh (40, .aload_n 0, 1) (List.mem_of_getElem? (i := 18) rfl)
theorem dX4_refresh_41 : decode cX4_refresh 41 = .ok (.aload_n 0, 1) := DX4_refresh (41, .aload_n 0, 1) (List.mem_of_getElem? (i := 19) rfl)
theorem dX4_refresh_42 : decode cX4_refresh 42 = .ok (.getfield 24, 3) := DX4_refresh (42, .getfield 24, 3) (List.mem_of_getElem? (i := 20) rfl)
theorem dX4_refresh_45 : decode cX4_refresh 45 = .ok (.getfield 46, 3) := DX4_refresh (45, .getfield 46, 3) (List.mem_of_getElem? (i := 21) rfl)
theorem dX4_refresh_48 : decode cX4_refresh 48 = .ok (.putfield 43, 3) := DX4_refresh (48, .putfield 43, 3) (List.mem_of_getElem? (i := 22) rfl)
theorem dX4_refresh_51 : decode cX4_refresh 51 = .ok (.aload_n 0, 1) := DX4_refresh (51, .aload_n 0, 1) (List.mem_of_getElem? (i := 23) rfl)
theorem dX4_refresh_52 : decode cX4_refresh 52 = .ok (.aload_n 0, 1) := DX4_refresh (52, .aload_n 0, 1) (List.mem_of_getElem? (i := 24) rfl)
theorem dX4_refresh_53 : decode cX4_refresh 53 = .ok (.aload_n 0, 1) := DX4_refresh (53, .aload_n 0, 1) (List.mem_of_getElem? (i := 25) rfl)
theorem dX4_refresh_54 : decode cX4_refresh 54 = .ok (.getfield 24, 3) := DX4_refresh (54, .getfield 24, 3) (List.mem_of_getElem? (i := 26) rfl)
theorem dX4_refresh_57 : decode cX4_refresh 57 = .ok (.invokevirtual 47, 3) := DX4_refresh (57, .invokevirtual 47, 3) (List.mem_of_getElem? (i := 27) rfl)
theorem dX4_refresh_60 : decode cX4_refresh 60 = .ok (.invokevirtual 51, 3) := DX4_refresh (60, .invokevirtual 51, 3) (List.mem_of_getElem? (i := 28) rfl)
theorem dX4_refresh_63 : decode cX4_refresh 63 = .ok (.putfield 55, 3) := DX4_refresh (63, .putfield 55, 3) (List.mem_of_getElem? (i := 29) rfl)
theorem dX4_refresh_66 : decode cX4_refresh 66 = .ok (.aload_n 0, 1) := DX4_refresh (66, .aload_n 0, 1) (List.mem_of_getElem? (i := 30) rfl)
theorem dX4_refresh_67 : decode cX4_refresh 67 = .ok (.iconst 0, 1) := DX4_refresh (67, .iconst 0, 1) (List.mem_of_getElem? (i := 31) rfl)
theorem dX4_refresh_68 : decode cX4_refresh 68 = .ok (.putfield 58, 3) := DX4_refresh (68, .putfield 58, 3) (List.mem_of_getElem? (i := 32) rfl)
theorem dX4_refresh_71 : decode cX4_refresh 71 = .ok (.iconst 0, 1) := DX4_refresh (71, .iconst 0, 1) (List.mem_of_getElem? (i := 33) rfl)
theorem dX4_refresh_72 : decode cX4_refresh 72 = .ok (.istore_n 1, 1) := DX4_refresh (72, .istore_n 1, 1) (List.mem_of_getElem? (i := 34) rfl)
theorem dX4_refresh_73 : decode cX4_refresh 73 = .ok (.iload_n 1, 1) := DX4_refresh (73, .iload_n 1, 1) (List.mem_of_getElem? (i := 35) rfl)
theorem dX4_refresh_74 : decode cX4_refresh 74 = .ok (.aload_n 0, 1) := DX4_refresh (74, .aload_n 0, 1) (List.mem_of_getElem? (i := 36) rfl)
theorem dX4_refresh_75 : decode cX4_refresh 75 = .ok (.getfield 24, 3) := DX4_refresh (75, .getfield 24, 3) (List.mem_of_getElem? (i := 37) rfl)
theorem dX4_refresh_78 : decode cX4_refresh 78 = .ok (.getfield 61, 3) := DX4_refresh (78, .getfield 61, 3) (List.mem_of_getElem? (i := 38) rfl)
theorem dX4_refresh_81 : decode cX4_refresh 81 = .ok (.if_icmp .ge 33, 3) := DX4_refresh (81, .if_icmp .ge 33, 3) (List.mem_of_getElem? (i := 39) rfl)
theorem dX4_refresh_84 : decode cX4_refresh 84 = .ok (.aload_n 0, 1) := DX4_refresh (84, .aload_n 0, 1) (List.mem_of_getElem? (i := 40) rfl)
theorem dX4_refresh_85 : decode cX4_refresh 85 = .ok (.getfield 55, 3) := DX4_refresh (85, .getfield 55, 3) (List.mem_of_getElem? (i := 41) rfl)
theorem dX4_refresh_88 : decode cX4_refresh 88 = .ok (.iload_n 1, 1) := DX4_refresh (88, .iload_n 1, 1) (List.mem_of_getElem? (i := 42) rfl)
theorem dX4_refresh_89 : decode cX4_refresh 89 = .ok (.invokestatic 64, 3) := DX4_refresh (89, .invokestatic 64, 3) (List.mem_of_getElem? (i := 43) rfl)
theorem dX4_refresh_92 : decode cX4_refresh 92 = .ok (.ifCond .eq 16, 3) := DX4_refresh (92, .ifCond .eq 16, 3) (List.mem_of_getElem? (i := 44) rfl)
theorem dX4_refresh_95 : decode cX4_refresh 95 = .ok (.aload_n 0, 1) := DX4_refresh (95, .aload_n 0, 1) (List.mem_of_getElem? (i := 45) rfl)
theorem dX4_refresh_96 : decode cX4_refresh 96 = .ok (.iload_n 1, 1) := DX4_refresh (96, .iload_n 1, 1) (List.mem_of_getElem? (i := 46) rfl)
theorem dX4_refresh_97 : decode cX4_refresh 97 = .ok (.invokevirtual 68, 3) := DX4_refresh (97, .invokevirtual 68, 3) (List.mem_of_getElem? (i := 47) rfl)
theorem dX4_refresh_100 : decode cX4_refresh 100 = .ok (.ifCond .eq 8, 3) := DX4_refresh (100, .ifCond .eq 8, 3) (List.mem_of_getElem? (i := 48) rfl)
theorem dX4_refresh_103 : decode cX4_refresh 103 = .ok (.aload_n 0, 1) := DX4_refresh (103, .aload_n 0, 1) (List.mem_of_getElem? (i := 49) rfl)
theorem dX4_refresh_104 : decode cX4_refresh 104 = .ok (.iload_n 1, 1) := DX4_refresh (104, .iload_n 1, 1) (List.mem_of_getElem? (i := 50) rfl)
theorem dX4_refresh_105 : decode cX4_refresh 105 = .ok (.invokevirtual 72, 3) := DX4_refresh (105, .invokevirtual 72, 3) (List.mem_of_getElem? (i := 51) rfl)
theorem dX4_refresh_108 : decode cX4_refresh 108 = .ok (.iinc 1 1, 3) := DX4_refresh (108, .iinc 1 1, 3) (List.mem_of_getElem? (i := 52) rfl)
theorem dX4_refresh_111 : decode cX4_refresh 111 = .ok (.goto (-38), 3) := DX4_refresh (111, .goto (-38), 3) (List.mem_of_getElem? (i := 53) rfl)
theorem dX4_refresh_114 : decode cX4_refresh 114 = .ok (.return_, 1) := DX4_refresh (114, .return_, 1) (List.mem_of_getElem? (i := 54) rfl)
noncomputable def fX4_refresh_L108 (l1 : Int32) (σ : Mem) : Option ((Int32 × Mem) ⊕ (Mem)) :=
  some (.inl (l1 + 1, σ))
set_option maxHeartbeats 4000000 in
set_option maxRecDepth 100000 in
theorem tX4_refresh_L108 {E : Gx} {cI : ClassId} {ad : Nat → Nat} (C : Cx E rmX4_refresh cI layX ad 2 RX4 cX4_refresh) {out : Mem} (K0 : KV E rmX4_refresh cI layX ad 2 cX4_refresh out) {l1 : Int32} {σ : Mem} {res : (Int32 × Mem) ⊕ (Mem)} (h : fX4_refresh_L108 l1 σ = some res) (K : Sum.elim (fun a => G E rmX4_refresh cI layX ad 2 73 [(0, .ref (ad 4)), (1, .int a.1)] [] a.2) (fun b => G E rmX4_refresh cI layX ad 2 114 [] [] b) res) : G E rmX4_refresh cI layX ad 2 108 [(0, .ref (ad 4)), (1, .int l1)] [] σ := by
  unfold fX4_refresh_L108 at h
  refine g_iinc 111 [(1, .int (l1 + 1)), (0, .ref (ad 4))] C dX4_refresh_108 (j := 1) rfl (by rfl) (by decide) rfl rfl ?_
  refine g_goto 73 C dX4_refresh_111 (by decide) ?_
  have hh := end_inl h K
  exact g_sub [1, 0] (hh) rfl
noncomputable def fX4_refresh_B73 (l1 : Int32) (σ : Mem) : Option ((Int32 × Mem) ⊕ (Mem)) :=
  if (σ 3 4) ≤ l1 then
    some (.inr σ)
  else
    (fX7_isIn (σ 4 3) l1 σ).bind fun o3 =>
    if o3.1 = 0 then
      fX4_refresh_L108 l1 o3.2
    else
      (fX4_isOfCells l1 o3.2).bind fun o4 =>
      if o4.1 = 0 then
        fX4_refresh_L108 l1 o4.2
      else
        (fX4_addCells l1 o4.2).bind fun o5 =>
        fX4_refresh_L108 l1 o5
set_option maxHeartbeats 4000000 in
set_option maxRecDepth 100000 in
theorem tX4_refresh_B73 {E : Gx} {cI : ClassId} {ad : Nat → Nat} (C : Cx E rmX4_refresh cI layX ad 2 RX4 cX4_refresh) {out : Mem} (K0 : KV E rmX4_refresh cI layX ad 2 cX4_refresh out) {l1 : Int32} {σ : Mem} {res : (Int32 × Mem) ⊕ (Mem)} (h : fX4_refresh_B73 l1 σ = some res) (K : Sum.elim (fun a => G E rmX4_refresh cI layX ad 2 73 [(0, .ref (ad 4)), (1, .int a.1)] [] a.2) (fun b => G E rmX4_refresh cI layX ad 2 114 [] [] b) res) : G E rmX4_refresh cI layX ad 2 73 [(0, .ref (ad 4)), (1, .int l1)] [] σ := by
  unfold fX4_refresh_B73 at h
  refine g_iload_n 74 C dX4_refresh_73 rfl (j := 1) rfl rfl ?_
  refine g_aload_n 75 C dX4_refresh_74 rfl (j := 0) rfl rfl ?_
  refine g_getr 78 (j := 0) C rfl rfl wu_X4 (by decide) wf_X4_24 rfl dX4_refresh_75 rfl ?_
  refine g_getiN 81 (j := 4) C rfl rfl wu_X3 (by decide) (List.mem_of_getElem? (i := 14) rfl) rfl dX4_refresh_78 rfl ?_
  refine g_icmp_ge 114 84 C dX4_refresh_81 (by decide) rfl h (fun h => ?_) (fun h => ?_)
  · have hh := end_inr h K
    exact g_sub [] (hh) rfl
  · refine g_aload_n 85 C dX4_refresh_84 rfl (j := 0) rfl rfl ?_
    refine g_geti 88 (j := 3) C rfl rfl wu_X4 (by decide) wf_X4_55 rfl dX4_refresh_85 rfl ?_
    refine g_iload_n 89 C dX4_refresh_88 rfl (j := 1) rfl rfl ?_
    refine g_cti 92 C (As := [.int (σ 4 3), .int l1]) (fun _ h => mX7_isIn (a1 := σ 4 3) (a2 := l1) (σ := σ) h) (List.mem_of_getElem? (i := 49) rfl) ws_X7_isIn wc_X7_isIn wn_X7 qX7_isIn rfl rfl ⟨Nat.le_of_ble_eq_true rfl, Nat.le_of_ble_eq_true rfl⟩ rfl rfl (Nat.le_of_ble_eq_true rfl) dX4_refresh_89 rfl h (fun o3 h => ?_)
    refine g_if_eq 108 95 C dX4_refresh_92 (by decide) rfl h (fun h => ?_) (fun h => ?_)
    · exact tX4_refresh_L108 (l1 := l1) (σ := o3.2) C K0 h K
    · refine g_aload_n 96 C dX4_refresh_95 rfl (j := 0) rfl rfl ?_
      refine g_iload_n 97 C dX4_refresh_96 rfl (j := 1) rfl rfl ?_
      refine g_cvi 100 C (As := [.int l1]) (fun _ h => mX4_isOfCells (a1 := l1) (σ := o3.2) h) wl_X4_68 wi_X4_isOfCells wz_X4_isOfCells wc_X4_isOfCells wn_X4 qX4_isOfCells rfl rfl ⟨Nat.le_of_ble_eq_true rfl, Nat.le_of_ble_eq_true rfl⟩ rfl rfl rfl rfl (Nat.le_of_ble_eq_true rfl) dX4_refresh_97 rfl h (fun o4 h => ?_)
      refine g_if_eq 108 103 C dX4_refresh_100 (by decide) rfl h (fun h => ?_) (fun h => ?_)
      · exact tX4_refresh_L108 (l1 := l1) (σ := o4.2) C K0 h K
      · refine g_aload_n 104 C dX4_refresh_103 rfl (j := 0) rfl rfl ?_
        refine g_iload_n 105 C dX4_refresh_104 rfl (j := 1) rfl rfl ?_
        refine g_cvv 108 C (As := [.int l1]) (fun _ h => mX4_addCells (a1 := l1) (σ := o4.2) h) wl_X4_72 wi_X4_addCells wz_X4_addCells wc_X4_addCells wn_X4 qX4_addCells rfl rfl ⟨Nat.le_of_ble_eq_true rfl, Nat.le_of_ble_eq_true rfl⟩ rfl rfl rfl rfl (Nat.le_of_ble_eq_true rfl) dX4_refresh_105 rfl h (fun o5 h => ?_)
        exact tX4_refresh_L108 (l1 := l1) (σ := o5) C K0 h K
noncomputable def fX4_refresh_L114 (σ : Mem) : Option (Mem) :=
  some σ
set_option maxHeartbeats 4000000 in
set_option maxRecDepth 100000 in
theorem tX4_refresh_L114 {E : Gx} {cI : ClassId} {ad : Nat → Nat} (C : Cx E rmX4_refresh cI layX ad 2 RX4 cX4_refresh) {out : Mem} (K0 : KV E rmX4_refresh cI layX ad 2 cX4_refresh out) {σ : Mem} (h : fX4_refresh_L114 σ = some out) : G E rmX4_refresh cI layX ad 2 114 [] [] σ := by
  unfold fX4_refresh_L114 at h
  cases h
  exact K0 _ _ dX4_refresh_114
noncomputable def fX4_refresh_L29 (σ : Mem) : Option (Mem) :=
  (fX3_asked (up2 (up2 σ 4 9 (σ 3 11)) 4 10 ((up2 σ 4 9 (σ 3 11)) 3 12))).bind fun o1 =>
  (fX4_neededFor o1.1 o1.2).bind fun o2 =>
  (loop (fun a => fX4_refresh_B73 a.1 a.2) (0, up2 (up2 o2.2 4 3 o2.1) 4 4 0)).bind fun b6 =>
  fX4_refresh_L114 b6
set_option maxHeartbeats 4000000 in
set_option maxRecDepth 100000 in
theorem tX4_refresh_L29 {E : Gx} {cI : ClassId} {ad : Nat → Nat} (C : Cx E rmX4_refresh cI layX ad 2 RX4 cX4_refresh) {out : Mem} (K0 : KV E rmX4_refresh cI layX ad 2 cX4_refresh out) {σ : Mem} (h : fX4_refresh_L29 σ = some out) : G E rmX4_refresh cI layX ad 2 29 [(0, .ref (ad 4))] [] σ := by
  unfold fX4_refresh_L29 at h
  refine g_aload_n 30 C dX4_refresh_29 rfl (j := 0) rfl rfl ?_
  refine g_aload_n 31 C dX4_refresh_30 rfl (j := 0) rfl rfl ?_
  refine g_getr 34 (j := 0) C rfl rfl wu_X4 (by decide) wf_X4_24 rfl dX4_refresh_31 rfl ?_
  refine g_getiN 37 (j := 11) C rfl rfl wu_X3 (by decide) (List.mem_of_getElem? (i := 28) rfl) rfl dX4_refresh_34 rfl ?_
  refine g_puti 40 (j := 9) C rfl rfl wu_X4 (by decide) wf_X4_36 tyX4 tyX4_ok nmX4 rfl rfl rfl rfl dX4_refresh_37 rfl ?_
  refine g_aload_n 41 C dX4_refresh_40 rfl (j := 0) rfl rfl ?_
  refine g_aload_n 42 C dX4_refresh_41 rfl (j := 0) rfl rfl ?_
  refine g_getr 45 (j := 0) C rfl rfl wu_X4 (by decide) wf_X4_24 rfl dX4_refresh_42 rfl ?_
  refine g_getiN 48 (j := 12) C rfl rfl wu_X3 (by decide) (List.mem_of_getElem? (i := 30) rfl) rfl dX4_refresh_45 rfl ?_
  refine g_puti 51 (j := 10) C rfl rfl wu_X4 (by decide) wf_X4_43 tyX4 tyX4_ok nmX4 rfl rfl rfl rfl dX4_refresh_48 rfl ?_
  refine g_aload_n 52 C dX4_refresh_51 rfl (j := 0) rfl rfl ?_
  refine g_aload_n 53 C dX4_refresh_52 rfl (j := 0) rfl rfl ?_
  refine g_aload_n 54 C dX4_refresh_53 rfl (j := 0) rfl rfl ?_
  refine g_getr 57 (j := 0) C rfl rfl wu_X4 (by decide) wf_X4_24 rfl dX4_refresh_54 rfl ?_
  refine g_cni 60 C (As := []) (fun _ h => mX3_asked (σ := up2 (up2 σ 4 9 (σ 3 11)) 4 10 ((up2 σ 4 9 (σ 3 11)) 3 12)) h) (List.mem_of_getElem? (i := 48) rfl) wi_X3_asked wz_X3_asked wc_X3_asked wn_X3 qX3_asked rfl rfl ⟨Nat.le_of_ble_eq_true rfl, Nat.le_of_ble_eq_true rfl⟩ rfl rfl rfl rfl (Nat.le_of_ble_eq_true rfl) dX4_refresh_57 rfl h (fun o1 h => ?_)
  refine g_cvi 63 C (As := [.int o1.1]) (fun _ h => mX4_neededFor (a1 := o1.1) (σ := o1.2) h) wl_X4_51 wi_X4_neededFor wz_X4_neededFor wc_X4_neededFor wn_X4 qX4_neededFor rfl rfl ⟨Nat.le_of_ble_eq_true rfl, Nat.le_of_ble_eq_true rfl⟩ rfl rfl rfl rfl (Nat.le_of_ble_eq_true rfl) dX4_refresh_60 rfl h (fun o2 h => ?_)
  refine g_puti 66 (j := 3) C rfl rfl wu_X4 (by decide) wf_X4_55 tyX4 tyX4_ok nmX4 rfl rfl rfl rfl dX4_refresh_63 rfl ?_
  refine g_aload_n 67 C dX4_refresh_66 rfl (j := 0) rfl rfl ?_
  refine g_iconst 68 (v := 0) C dX4_refresh_67 (by decide) rfl ?_
  refine g_puti 71 (j := 4) C rfl rfl wu_X4 (by decide) wf_X4_58 tyX4 tyX4_ok nmX4 rfl rfl rfl rfl dX4_refresh_68 rfl ?_
  refine g_iconst 72 (v := 0) C dX4_refresh_71 (by decide) rfl ?_
  refine g_istore_n 73 [(1, .int 0), (0, .ref (ad 4))] C dX4_refresh_72 rfl (by decide) rfl rfl ?_
  obtain ⟨b6, hb, h⟩ := bind_some h
  refine g_sub [1, 0] (g_loop (a := (0, up2 (up2 o2.2 4 3 o2.1) 4 4 0)) (fun a => G E rmX4_refresh cI layX ad 2 73 [(0, .ref (ad 4)), (1, .int a.1)] [] a.2) (fun b => G E rmX4_refresh cI layX ad 2 114 [] [] b) hb (fun a res h K => tX4_refresh_B73 (l1 := a.1) (σ := a.2) (res := res) C K0 h K) ?_) rfl
  show G E rmX4_refresh cI layX ad 2 114 [] [] b6
  exact tX4_refresh_L114 (σ := b6) C K0 h
noncomputable def fX4_refresh (σ : Mem) : Option (Mem) :=
  if (σ 4 9) = (σ 3 11) then
    if (σ 4 10) = (σ 3 12) then
      some σ
    else
      fX4_refresh_L29 σ
  else
    fX4_refresh_L29 σ
set_option maxHeartbeats 4000000 in
set_option maxRecDepth 100000 in
theorem mX4_refresh {l : Launch} {D : va_G} {cI : ClassId} {ad : Nat → Nat} {σ : Mem} {out : Mem} (h : fX4_refresh σ = some out) : MV l D cI layX ad yX4_refresh cX4_refresh 2 rmX4_refresh [.ref (ad 4)] σ out := by
  refine met_v (by decide) (Nat.le_of_ble_eq_true rfl) (fun E C K0 => ?_)
  show G E rmX4_refresh cI layX ad 2 0 [(0, .ref (ad 4))] [] σ
  unfold fX4_refresh at h
  refine g_aload_n 1 C dX4_refresh_0 rfl (j := 0) rfl rfl ?_
  refine g_geti 4 (j := 9) C rfl rfl wu_X4 (by decide) wf_X4_36 rfl dX4_refresh_1 rfl ?_
  refine g_aload_n 5 C dX4_refresh_4 rfl (j := 0) rfl rfl ?_
  refine g_getr 8 (j := 0) C rfl rfl wu_X4 (by decide) wf_X4_24 rfl dX4_refresh_5 rfl ?_
  refine g_getiN 11 (j := 11) C rfl rfl wu_X3 (by decide) (List.mem_of_getElem? (i := 28) rfl) rfl dX4_refresh_8 rfl ?_
  refine g_icmp_ne 29 14 C dX4_refresh_11 (by decide) rfl h (fun h => ?_) (fun h => ?_)
  · refine g_aload_n 15 C dX4_refresh_14 rfl (j := 0) rfl rfl ?_
    refine g_geti 18 (j := 10) C rfl rfl wu_X4 (by decide) wf_X4_43 rfl dX4_refresh_15 rfl ?_
    refine g_aload_n 19 C dX4_refresh_18 rfl (j := 0) rfl rfl ?_
    refine g_getr 22 (j := 0) C rfl rfl wu_X4 (by decide) wf_X4_24 rfl dX4_refresh_19 rfl ?_
    refine g_getiN 25 (j := 12) C rfl rfl wu_X3 (by decide) (List.mem_of_getElem? (i := 30) rfl) rfl dX4_refresh_22 rfl ?_
    refine g_icmp_ne 29 28 C dX4_refresh_25 (by decide) rfl h (fun h => ?_) (fun h => ?_)
    · cases h
      exact K0 _ _ dX4_refresh_28
    · exact tX4_refresh_L29 (σ := σ) C K0 h
  · exact tX4_refresh_L29 (σ := σ) C K0 h
