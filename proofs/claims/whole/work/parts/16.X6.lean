/-! LoopReducer$Runner.give(III)V -/
abbrev rmX6_give : Room := { frames := 0, cells := 0, slots := 0, locals := 0 }
theorem qX6_give : yX6_give.cls ≠ "java/lang/invoke/MethodHandle" ∧ yX6_give.cls ≠ "java/lang/invoke/VarHandle" ∧ (parseMethodDescriptor yX6_give.desc).map (fun d => d.parameters.length) = some 3 := by decide +kernel
theorem DX6_give : ∀ q ∈ ([(0, .aload_n 0, 1), (1, .getfield 9, 3), (4, .iconst 0, 1), (5, .iload_n 1, 1), (6, .aload_n 0, 1), (7, .getfield 30, 3), (10, .getfield 46, 3), (13, .iand, 1), (14, .iastore, 1), (15, .aload_n 0, 1), (16, .getfield 9, 3), (19, .iconst 1, 1), (20, .iload_n 2, 1), (21, .aload_n 0, 1), (22, .getfield 30, 3), (25, .getfield 46, 3), (28, .iand, 1), (29, .iastore, 1), (30, .aload_n 0, 1), (31, .getfield 9, 3), (34, .iconst 2, 1), (35, .iload_n 3, 1), (36, .aload_n 0, 1), (37, .getfield 30, 3), (40, .getfield 46, 3), (43, .iand, 1), (44, .iastore, 1), (45, .return_, 1)] : List (Nat × Instr × Nat)), decode cX6_give q.1 = .ok q.2 := by decide +kernel
theorem dX6_give_0 : decode cX6_give 0 = .ok (.aload_n 0, 1) := DX6_give (0, .aload_n 0, 1) (List.mem_of_getElem? (i := 0) rfl)
theorem dX6_give_1 : decode cX6_give 1 = .ok (.getfield 9, 3) := DX6_give (1, .getfield 9, 3) (List.mem_of_getElem? (i := 1) rfl)
theorem dX6_give_4 : decode cX6_give 4 = .ok (.iconst 0, 1) := DX6_give (4, .iconst 0, 1) (List.mem_of_getElem? (i := 2) rfl)
theorem dX6_give_5 : decode cX6_give 5 = .ok (.iload_n 1, 1) := DX6_give (5, .iload_n 1, 1) (List.mem_of_getElem? (i := 3) rfl)
theorem dX6_give_6 : decode cX6_give 6 = .ok (.aload_n 0, 1) := DX6_give (6, .aload_n 0, 1) (List.mem_of_getElem? (i := 4) rfl)
theorem dX6_give_7 : decode cX6_give 7 = .ok (.getfield 30, 3) := DX6_give (7, .getfield 30, 3) (List.mem_of_getElem? (i := 5) rfl)
theorem dX6_give_10 : decode cX6_give 10 = .ok (.getfield 46, 3) := DX6_give (10, .getfield 46, 3) (List.mem_of_getElem? (i := 6) rfl)
theorem dX6_give_13 : decode cX6_give 13 = .ok (.iand, 1) := DX6_give (13, .iand, 1) (List.mem_of_getElem? (i := 7) rfl)
theorem dX6_give_14 : decode cX6_give 14 = .ok (.iastore, 1) := DX6_give (14, .iastore, 1) (List.mem_of_getElem? (i := 8) rfl)
theorem dX6_give_15 : decode cX6_give 15 = .ok (.aload_n 0, 1) := DX6_give (15, .aload_n 0, 1) (List.mem_of_getElem? (i := 9) rfl)
theorem dX6_give_16 : decode cX6_give 16 = .ok (.getfield 9, 3) := DX6_give (16, .getfield 9, 3) (List.mem_of_getElem? (i := 10) rfl)
theorem dX6_give_19 : decode cX6_give 19 = .ok (.iconst 1, 1) := DX6_give (19, .iconst 1, 1) (List.mem_of_getElem? (i := 11) rfl)
theorem dX6_give_20 : decode cX6_give 20 = .ok (.iload_n 2, 1) := DX6_give (20, .iload_n 2, 1) (List.mem_of_getElem? (i := 12) rfl)
theorem dX6_give_21 : decode cX6_give 21 = .ok (.aload_n 0, 1) := DX6_give (21, .aload_n 0, 1) (List.mem_of_getElem? (i := 13) rfl)
theorem dX6_give_22 : decode cX6_give 22 = .ok (.getfield 30, 3) := DX6_give (22, .getfield 30, 3) (List.mem_of_getElem? (i := 14) rfl)
theorem dX6_give_25 : decode cX6_give 25 = .ok (.getfield 46, 3) := DX6_give (25, .getfield 46, 3) (List.mem_of_getElem? (i := 15) rfl)
theorem dX6_give_28 : decode cX6_give 28 = .ok (.iand, 1) := DX6_give (28, .iand, 1) (List.mem_of_getElem? (i := 16) rfl)
theorem dX6_give_29 : decode cX6_give 29 = .ok (.iastore, 1) := DX6_give (29, .iastore, 1) (List.mem_of_getElem? (i := 17) rfl)
theorem dX6_give_30 : decode cX6_give 30 = .ok (.aload_n 0, 1) := DX6_give (30, .aload_n 0, 1) (List.mem_of_getElem? (i := 18) rfl)
theorem dX6_give_31 : decode cX6_give 31 = .ok (.getfield 9, 3) := DX6_give (31, .getfield 9, 3) (List.mem_of_getElem? (i := 19) rfl)
theorem dX6_give_34 : decode cX6_give 34 = .ok (.iconst 2, 1) := DX6_give (34, .iconst 2, 1) (List.mem_of_getElem? (i := 20) rfl)
theorem dX6_give_35 : decode cX6_give 35 = .ok (.iload_n 3, 1) := DX6_give (35, .iload_n 3, 1) (List.mem_of_getElem? (i := 21) rfl)
theorem dX6_give_36 : decode cX6_give 36 = .ok (.aload_n 0, 1) := DX6_give (36, .aload_n 0, 1) (List.mem_of_getElem? (i := 22) rfl)
theorem dX6_give_37 : decode cX6_give 37 = .ok (.getfield 30, 3) := DX6_give (37, .getfield 30, 3) (List.mem_of_getElem? (i := 23) rfl)
theorem dX6_give_40 : decode cX6_give 40 = .ok (.getfield 46, 3) := DX6_give (40, .getfield 46, 3) (List.mem_of_getElem? (i := 24) rfl)
theorem dX6_give_43 : decode cX6_give 43 = .ok (.iand, 1) := DX6_give (43, .iand, 1) (List.mem_of_getElem? (i := 25) rfl)
theorem dX6_give_44 : decode cX6_give 44 = .ok (.iastore, 1) := DX6_give (44, .iastore, 1) (List.mem_of_getElem? (i := 26) rfl)
theorem dX6_give_45 : decode cX6_give 45 = .ok (.return_, 1) := DX6_give (45, .return_, 1) (List.mem_of_getElem? (i := 27) rfl)
noncomputable def fX6_give (a1 : Int32) (a2 : Int32) (a3 : Int32) (σ : Mem) : Option (Mem) :=
  chk (inb 0 3) <|
  chk (inb 1 3) <|
  chk (inb 2 3) <|
  some (up2 (up2 (up2 σ 26 (0 : Int32).toNatClampNeg (a1 &&& (σ 3 0))) 26 (1 : Int32).toNatClampNeg (a2 &&& ((up2 σ 26 (0 : Int32).toNatClampNeg (a1 &&& (σ 3 0))) 3 0))) 26 (2 : Int32).toNatClampNeg (a3 &&& ((up2 (up2 σ 26 (0 : Int32).toNatClampNeg (a1 &&& (σ 3 0))) 26 (1 : Int32).toNatClampNeg (a2 &&& ((up2 σ 26 (0 : Int32).toNatClampNeg (a1 &&& (σ 3 0))) 3 0))) 3 0)))
set_option maxHeartbeats 4000000 in
set_option maxRecDepth 100000 in
theorem mX6_give {l : Launch} {D : va_G} {cI : ClassId} {ad : Nat → Nat} {a1 : Int32} {a2 : Int32} {a3 : Int32} {σ : Mem} {out : Mem} (h : fX6_give a1 a2 a3 σ = some out) : MV l D cI layX ad yX6_give cX6_give 4 rmX6_give [.ref (ad 6), .int a1, .int a2, .int a3] σ out := by
  refine met_v (by decide) (Nat.le_of_ble_eq_true rfl) (fun E C K0 => ?_)
  show G E rmX6_give cI layX ad 4 0 [(0, .ref (ad 6)), (1, .int a1), (2, .int a2), (3, .int a3)] [] σ
  unfold fX6_give at h
  refine g_aload_n 1 C dX6_give_0 rfl (j := 0) rfl rfl ?_
  refine g_getr 4 (j := 4) C rfl rfl wu_X6 (by decide) wf_X6_9 rfl dX6_give_1 rfl ?_
  refine g_iconst 5 (v := 0) C dX6_give_4 (by decide) rfl ?_
  refine g_iload_n 6 C dX6_give_5 rfl (j := 1) rfl rfl ?_
  refine g_aload_n 7 C dX6_give_6 rfl (j := 0) rfl rfl ?_
  refine g_getr 10 (j := 0) C rfl rfl wu_X6 (by decide) wf_X6_30 rfl dX6_give_7 rfl ?_
  refine g_getiN 13 (j := 0) C rfl rfl wu_X3 (by decide) (List.mem_of_getElem? (i := 1) rfl) rfl dX6_give_10 rfl ?_
  refine g_iand 14 C dX6_give_13 rfl ?_
  refine g_iast 15 C rfl dX6_give_14 rfl h (fun h => ?_)
  refine g_aload_n 16 C dX6_give_15 rfl (j := 0) rfl rfl ?_
  refine g_getr 19 (j := 4) C rfl rfl wu_X6 (by decide) wf_X6_9 rfl dX6_give_16 rfl ?_
  refine g_iconst 20 (v := 1) C dX6_give_19 (by decide) rfl ?_
  refine g_iload_n 21 C dX6_give_20 rfl (j := 2) rfl rfl ?_
  refine g_aload_n 22 C dX6_give_21 rfl (j := 0) rfl rfl ?_
  refine g_getr 25 (j := 0) C rfl rfl wu_X6 (by decide) wf_X6_30 rfl dX6_give_22 rfl ?_
  refine g_getiN 28 (j := 0) C rfl rfl wu_X3 (by decide) (List.mem_of_getElem? (i := 1) rfl) rfl dX6_give_25 rfl ?_
  refine g_iand 29 C dX6_give_28 rfl ?_
  refine g_iast 30 C rfl dX6_give_29 rfl h (fun h => ?_)
  refine g_aload_n 31 C dX6_give_30 rfl (j := 0) rfl rfl ?_
  refine g_getr 34 (j := 4) C rfl rfl wu_X6 (by decide) wf_X6_9 rfl dX6_give_31 rfl ?_
  refine g_iconst 35 (v := 2) C dX6_give_34 (by decide) rfl ?_
  refine g_iload_n 36 C dX6_give_35 rfl (j := 3) rfl rfl ?_
  refine g_aload_n 37 C dX6_give_36 rfl (j := 0) rfl rfl ?_
  refine g_getr 40 (j := 0) C rfl rfl wu_X6 (by decide) wf_X6_30 rfl dX6_give_37 rfl ?_
  refine g_getiN 43 (j := 0) C rfl rfl wu_X3 (by decide) (List.mem_of_getElem? (i := 1) rfl) rfl dX6_give_40 rfl ?_
  refine g_iand 44 C dX6_give_43 rfl ?_
  refine g_iast 45 C rfl dX6_give_44 rfl h (fun h => ?_)
  cases h
  exact K0 _ _ dX6_give_45

/-! LoopReducer$Runner.numberOf(I)I -/
abbrev rmX6_numberOf : Room := { frames := 0, cells := 0, slots := 0, locals := 0 }
theorem qX6_numberOf : yX6_numberOf.cls ≠ "java/lang/invoke/MethodHandle" ∧ yX6_numberOf.cls ≠ "java/lang/invoke/VarHandle" ∧ (parseMethodDescriptor yX6_numberOf.desc).map (fun d => d.parameters.length) = some 1 := by decide +kernel
theorem DX6_numberOf : ∀ q ∈ ([(0, .aload_n 0, 1), (1, .getfield 30, 3), (4, .getfield 52, 3), (7, .iload_n 1, 1), (8, .iaload, 1), (9, .istore_n 2, 1), (10, .aload_n 0, 1), (11, .getfield 30, 3), (14, .getfield 55, 3), (17, .iload_n 1, 1), (18, .iaload, 1), (19, .iconst 1, 1), (20, .if_icmp .ne 12, 3), (23, .aload_n 0, 1), (24, .getfield 9, 3), (27, .iload_n 2, 1), (28, .iaload, 1), (29, .goto 4, 3), (32, .iload_n 2, 1), (33, .ireturn, 1)] : List (Nat × Instr × Nat)), decode cX6_numberOf q.1 = .ok q.2 := by decide +kernel
theorem dX6_numberOf_0 : decode cX6_numberOf 0 = .ok (.aload_n 0, 1) := DX6_numberOf (0, .aload_n 0, 1) (List.mem_of_getElem? (i := 0) rfl)
theorem dX6_numberOf_1 : decode cX6_numberOf 1 = .ok (.getfield 30, 3) := DX6_numberOf (1, .getfield 30, 3) (List.mem_of_getElem? (i := 1) rfl)
theorem dX6_numberOf_4 : decode cX6_numberOf 4 = .ok (.getfield 52, 3) := DX6_numberOf (4, .getfield 52, 3) (List.mem_of_getElem? (i := 2) rfl)
theorem dX6_numberOf_7 : decode cX6_numberOf 7 = .ok (.iload_n 1, 1) := DX6_numberOf (7, .iload_n 1, 1) (List.mem_of_getElem? (i := 3) rfl)
theorem dX6_numberOf_8 : decode cX6_numberOf 8 = .ok (.iaload, 1) := DX6_numberOf (8, .iaload, 1) (List.mem_of_getElem? (i := 4) rfl)
theorem dX6_numberOf_9 : decode cX6_numberOf 9 = .ok (.istore_n 2, 1) := DX6_numberOf (9, .istore_n 2, 1) (List.mem_of_getElem? (i := 5) rfl)
theorem dX6_numberOf_10 : decode cX6_numberOf 10 = .ok (.aload_n 0, 1) := DX6_numberOf (10, .aload_n 0, 1) (List.mem_of_getElem? (i := 6) rfl)
theorem dX6_numberOf_11 : decode cX6_numberOf 11 = .ok (.getfield 30, 3) := DX6_numberOf (11, .getfield 30, 3) (List.mem_of_getElem? (i := 7) rfl)
theorem dX6_numberOf_14 : decode cX6_numberOf 14 = .ok (.getfield 55, 3) := DX6_numberOf (14, .getfield 55, 3) (List.mem_of_getElem? (i := 8) rfl)
theorem dX6_numberOf_17 : decode cX6_numberOf 17 = .ok (.iload_n 1, 1) := DX6_numberOf (17, .iload_n 1, 1) (List.mem_of_getElem? (i := 9) rfl)
theorem dX6_numberOf_18 : decode cX6_numberOf 18 = .ok (.iaload, 1) := DX6_numberOf (18, .iaload, 1) (List.mem_of_getElem? (i := 10) rfl)
theorem dX6_numberOf_19 : decode cX6_numberOf 19 = .ok (.iconst 1, 1) := DX6_numberOf (19, .iconst 1, 1) (List.mem_of_getElem? (i := 11) rfl)
theorem dX6_numberOf_20 : decode cX6_numberOf 20 = .ok (.if_icmp .ne 12, 3) := DX6_numberOf (20, .if_icmp .ne 12, 3) (List.mem_of_getElem? (i := 12) rfl)
theorem dX6_numberOf_23 : decode cX6_numberOf 23 = .ok (.aload_n 0, 1) := DX6_numberOf (23, .aload_n 0, 1) (List.mem_of_getElem? (i := 13) rfl)
theorem dX6_numberOf_24 : decode cX6_numberOf 24 = .ok (.getfield 9, 3) := DX6_numberOf (24, .getfield 9, 3) (List.mem_of_getElem? (i := 14) rfl)
theorem dX6_numberOf_27 : decode cX6_numberOf 27 = .ok (.iload_n 2, 1) := DX6_numberOf (27, .iload_n 2, 1) (List.mem_of_getElem? (i := 15) rfl)
theorem dX6_numberOf_28 : decode cX6_numberOf 28 = .ok (.iaload, 1) := DX6_numberOf (28, .iaload, 1) (List.mem_of_getElem? (i := 16) rfl)
theorem dX6_numberOf_29 : decode cX6_numberOf 29 = .ok (.goto 4, 3) := DX6_numberOf (29, .goto 4, 3) (List.mem_of_getElem? (i := 17) rfl)
theorem dX6_numberOf_32 : decode cX6_numberOf 32 = .ok (.iload_n 2, 1) := DX6_numberOf (32, .iload_n 2, 1) (List.mem_of_getElem? (i := 18) rfl)
theorem dX6_numberOf_33 : decode cX6_numberOf 33 = .ok (.ireturn, 1) := DX6_numberOf (33, .ireturn, 1) (List.mem_of_getElem? (i := 19) rfl)
noncomputable def fX6_numberOf_L33 (s0 : Int32) (σ : Mem) : Option (Int32 × Mem) :=
  some (s0, σ)
set_option maxHeartbeats 4000000 in
set_option maxRecDepth 100000 in
theorem tX6_numberOf_L33 {E : Gx} {cI : ClassId} {ad : Nat → Nat} (C : Cx E rmX6_numberOf cI layX ad 3 RX6 cX6_numberOf) {out : Int32 × Mem} (K0 : KI E rmX6_numberOf cI layX ad 3 cX6_numberOf .int out) {s0 : Int32} {σ : Mem} (h : fX6_numberOf_L33 s0 σ = some out) : G E rmX6_numberOf cI layX ad 3 33 [] [.int s0] σ := by
  unfold fX6_numberOf_L33 at h
  cases h
  exact K0 _ _ dX6_numberOf_33 rfl
noncomputable def fX6_numberOf (a1 : Int32) (σ : Mem) : Option (Int32 × Mem) :=
  chk (inb a1 30) <|
  chk (inb a1 30) <|
  if (σ 8 a1.toNatClampNeg) = 1 then
    chk (inb (σ 9 a1.toNatClampNeg) 3) <|
    fX6_numberOf_L33 (σ 26 (σ 9 a1.toNatClampNeg).toNatClampNeg) σ
  else
    fX6_numberOf_L33 (σ 9 a1.toNatClampNeg) σ
set_option maxHeartbeats 4000000 in
set_option maxRecDepth 100000 in
theorem mX6_numberOf {l : Launch} {D : va_G} {cI : ClassId} {ad : Nat → Nat} {a1 : Int32} {σ : Mem} {out : Int32 × Mem} (h : fX6_numberOf a1 σ = some out) : MI l D cI layX ad yX6_numberOf cX6_numberOf 3 .int rmX6_numberOf [.ref (ad 6), .int a1] σ out := by
  refine met_i (by decide) (Nat.le_of_ble_eq_true rfl) (fun E C K0 => ?_)
  show G E rmX6_numberOf cI layX ad 3 0 [(0, .ref (ad 6)), (1, .int a1)] [] σ
  unfold fX6_numberOf at h
  refine g_aload_n 1 C dX6_numberOf_0 rfl (j := 0) rfl rfl ?_
  refine g_getr 4 (j := 0) C rfl rfl wu_X6 (by decide) wf_X6_30 rfl dX6_numberOf_1 rfl ?_
  refine g_getrN 7 (j := 2) C rfl rfl wu_X3 (by decide) (List.mem_of_getElem? (i := 7) rfl) rfl dX6_numberOf_4 rfl ?_
  refine g_iload_n 8 C dX6_numberOf_7 rfl (j := 1) rfl rfl ?_
  refine g_iald 9 C rfl dX6_numberOf_8 rfl h (fun h => ?_)
  refine g_istore_n 10 [(2, .int (σ 9 a1.toNatClampNeg)), (0, .ref (ad 6)), (1, .int a1)] C dX6_numberOf_9 rfl (by decide) rfl rfl ?_
  refine g_aload_n 11 C dX6_numberOf_10 rfl (j := 1) rfl rfl ?_
  refine g_getr 14 (j := 0) C rfl rfl wu_X6 (by decide) wf_X6_30 rfl dX6_numberOf_11 rfl ?_
  refine g_getrN 17 (j := 1) C rfl rfl wu_X3 (by decide) (List.mem_of_getElem? (i := 3) rfl) rfl dX6_numberOf_14 rfl ?_
  refine g_iload_n 18 C dX6_numberOf_17 rfl (j := 2) rfl rfl ?_
  refine g_iald 19 C rfl dX6_numberOf_18 rfl h (fun h => ?_)
  refine g_iconst 20 (v := 1) C dX6_numberOf_19 (by decide) rfl ?_
  refine g_icmp_ne 32 23 C dX6_numberOf_20 (by decide) rfl h (fun h => ?_) (fun h => ?_)
  · refine g_aload_n 24 C dX6_numberOf_23 rfl (j := 1) rfl rfl ?_
    refine g_getr 27 (j := 4) C rfl rfl wu_X6 (by decide) wf_X6_9 rfl dX6_numberOf_24 rfl ?_
    refine g_iload_n 28 C dX6_numberOf_27 rfl (j := 0) rfl rfl ?_
    refine g_iald 29 C rfl dX6_numberOf_28 rfl h (fun h => ?_)
    refine g_goto 33 C dX6_numberOf_29 (by decide) ?_
    exact g_sub [] (tX6_numberOf_L33 (s0 := (σ 26 (σ 9 a1.toNatClampNeg).toNatClampNeg)) (σ := σ) C K0 h) rfl
  · refine g_iload_n 33 C dX6_numberOf_32 rfl (j := 0) rfl rfl ?_
    exact g_sub [] (tX6_numberOf_L33 (s0 := (σ 9 a1.toNatClampNeg)) (σ := σ) C K0 h) rfl

/-! LoopReducer$Runner.startOf(I)I -/
abbrev rmX6_startOf : Room := { frames := 1, cells := 0, slots := 0, locals := 22 }
theorem qX6_startOf : yX6_startOf.cls ≠ "java/lang/invoke/MethodHandle" ∧ yX6_startOf.cls ≠ "java/lang/invoke/VarHandle" ∧ (parseMethodDescriptor yX6_startOf.desc).map (fun d => d.parameters.length) = some 1 := by decide +kernel
theorem DX6_startOf : ∀ q ∈ ([(0, .aload_n 0, 1), (1, .aload_n 0, 1), (2, .getfield 30, 3), (5, .getfield 52, 3), (8, .iload_n 1, 1), (9, .iaload, 1), (10, .invokevirtual 58, 3), (13, .ireturn, 1)] : List (Nat × Instr × Nat)), decode cX6_startOf q.1 = .ok q.2 := by decide +kernel
theorem dX6_startOf_0 : decode cX6_startOf 0 = .ok (.aload_n 0, 1) := DX6_startOf (0, .aload_n 0, 1) (List.mem_of_getElem? (i := 0) rfl)
theorem dX6_startOf_1 : decode cX6_startOf 1 = .ok (.aload_n 0, 1) := DX6_startOf (1, .aload_n 0, 1) (List.mem_of_getElem? (i := 1) rfl)
theorem dX6_startOf_2 : decode cX6_startOf 2 = .ok (.getfield 30, 3) := DX6_startOf (2, .getfield 30, 3) (List.mem_of_getElem? (i := 2) rfl)
theorem dX6_startOf_5 : decode cX6_startOf 5 = .ok (.getfield 52, 3) := DX6_startOf (5, .getfield 52, 3) (List.mem_of_getElem? (i := 3) rfl)
theorem dX6_startOf_8 : decode cX6_startOf 8 = .ok (.iload_n 1, 1) := DX6_startOf (8, .iload_n 1, 1) (List.mem_of_getElem? (i := 4) rfl)
theorem dX6_startOf_9 : decode cX6_startOf 9 = .ok (.iaload, 1) := DX6_startOf (9, .iaload, 1) (List.mem_of_getElem? (i := 5) rfl)
theorem dX6_startOf_10 : decode cX6_startOf 10 = .ok (.invokevirtual 58, 3) := DX6_startOf (10, .invokevirtual 58, 3) (List.mem_of_getElem? (i := 6) rfl)
theorem dX6_startOf_13 : decode cX6_startOf 13 = .ok (.ireturn, 1) := DX6_startOf (13, .ireturn, 1) (List.mem_of_getElem? (i := 7) rfl)
noncomputable def fX6_startOf (a1 : Int32) (σ : Mem) : Option (Int32 × Mem) :=
  chk (inb a1 30) <|
  (fX6_numberOf (σ 9 a1.toNatClampNeg) σ).bind fun o1 =>
  some (o1.1, o1.2)
set_option maxHeartbeats 4000000 in
set_option maxRecDepth 100000 in
theorem mX6_startOf {l : Launch} {D : va_G} {cI : ClassId} {ad : Nat → Nat} {a1 : Int32} {σ : Mem} {out : Int32 × Mem} (h : fX6_startOf a1 σ = some out) : MI l D cI layX ad yX6_startOf cX6_startOf 2 .int rmX6_startOf [.ref (ad 6), .int a1] σ out := by
  refine met_i (by decide) (Nat.le_of_ble_eq_true rfl) (fun E C K0 => ?_)
  show G E rmX6_startOf cI layX ad 2 0 [(0, .ref (ad 6)), (1, .int a1)] [] σ
  unfold fX6_startOf at h
  refine g_aload_n 1 C dX6_startOf_0 rfl (j := 0) rfl rfl ?_
  refine g_aload_n 2 C dX6_startOf_1 rfl (j := 0) rfl rfl ?_
  refine g_getr 5 (j := 0) C rfl rfl wu_X6 (by decide) wf_X6_30 rfl dX6_startOf_2 rfl ?_
  refine g_getrN 8 (j := 2) C rfl rfl wu_X3 (by decide) (List.mem_of_getElem? (i := 7) rfl) rfl dX6_startOf_5 rfl ?_
  refine g_iload_n 9 C dX6_startOf_8 rfl (j := 1) rfl rfl ?_
  refine g_iald 10 C rfl dX6_startOf_9 rfl h (fun h => ?_)
  refine g_cvi 13 C (As := [.int (σ 9 a1.toNatClampNeg)]) (fun _ h => mX6_numberOf (a1 := σ 9 a1.toNatClampNeg) (σ := σ) h) wl_X6_58 wi_X6_numberOf wz_X6_numberOf wc_X6_numberOf wn_X6 qX6_numberOf rfl rfl ⟨Nat.le_of_ble_eq_true rfl, Nat.le_of_ble_eq_true rfl⟩ rfl rfl rfl rfl (Nat.le_of_ble_eq_true rfl) dX6_startOf_10 rfl h (fun o1 h => ?_)
  cases h
  exact K0 _ _ dX6_startOf_13 rfl

/-! LoopReducer$Runner.reckonAll()V -/
abbrev rmX6_reckonAll : Room := { frames := 1, cells := 0, slots := 0, locals := 24 }
theorem qX6_reckonAll : yX6_reckonAll.cls ≠ "java/lang/invoke/MethodHandle" ∧ yX6_reckonAll.cls ≠ "java/lang/invoke/VarHandle" ∧ (parseMethodDescriptor yX6_reckonAll.desc).map (fun d => d.parameters.length) = some 0 := by decide +kernel
theorem DX6_reckonAll : ∀ q ∈ ([(0, .iconst 0, 1), (1, .istore_n 1, 1), (2, .iload_n 1, 1), (3, .aload_n 0, 1), (4, .getfield 30, 3), (7, .getfield 104, 3), (10, .if_icmp .ge 38, 3), (13, .aload_n 0, 1), (14, .getfield 30, 3), (17, .iload_n 1, 1), (18, .invokevirtual 117, 3), (21, .ifCond .eq 21, 3), (24, .aload_n 0, 1), (25, .getfield 15, 3), (28, .iload_n 1, 1), (29, .aload_n 0, 1), (30, .getfield 30, 3), (33, .iload_n 1, 1), (34, .aload_n 0, 1), (35, .getfield 15, 3), (38, .invokevirtual 120, 3), (41, .iastore, 1), (42, .iinc 1 1, 3), (45, .goto (-43), 3), (48, .return_, 1)] : List (Nat × Instr × Nat)), decode cX6_reckonAll q.1 = .ok q.2 := by decide +kernel
theorem dX6_reckonAll_0 : decode cX6_reckonAll 0 = .ok (.iconst 0, 1) := DX6_reckonAll (0, .iconst 0, 1) (List.mem_of_getElem? (i := 0) rfl)
theorem dX6_reckonAll_1 : decode cX6_reckonAll 1 = .ok (.istore_n 1, 1) := DX6_reckonAll (1, .istore_n 1, 1) (List.mem_of_getElem? (i := 1) rfl)
theorem dX6_reckonAll_2 : decode cX6_reckonAll 2 = .ok (.iload_n 1, 1) := DX6_reckonAll (2, .iload_n 1, 1) (List.mem_of_getElem? (i := 2) rfl)
theorem dX6_reckonAll_3 : decode cX6_reckonAll 3 = .ok (.aload_n 0, 1) := DX6_reckonAll (3, .aload_n 0, 1) (List.mem_of_getElem? (i := 3) rfl)
theorem dX6_reckonAll_4 : decode cX6_reckonAll 4 = .ok (.getfield 30, 3) := DX6_reckonAll (4, .getfield 30, 3) (List.mem_of_getElem? (i := 4) rfl)
theorem dX6_reckonAll_7 : decode cX6_reckonAll 7 = .ok (.getfield 104, 3) := DX6_reckonAll (7, .getfield 104, 3) (List.mem_of_getElem? (i := 5) rfl)
theorem dX6_reckonAll_10 : decode cX6_reckonAll 10 = .ok (.if_icmp .ge 38, 3) := DX6_reckonAll (10, .if_icmp .ge 38, 3) (List.mem_of_getElem? (i := 6) rfl)
theorem dX6_reckonAll_13 : decode cX6_reckonAll 13 = .ok (.aload_n 0, 1) := DX6_reckonAll (13, .aload_n 0, 1) (List.mem_of_getElem? (i := 7) rfl)
theorem dX6_reckonAll_14 : decode cX6_reckonAll 14 = .ok (.getfield 30, 3) := DX6_reckonAll (14, .getfield 30, 3) (List.mem_of_getElem? (i := 8) rfl)
theorem dX6_reckonAll_17 : decode cX6_reckonAll 17 = .ok (.iload_n 1, 1) := DX6_reckonAll (17, .iload_n 1, 1) (List.mem_of_getElem? (i := 9) rfl)
theorem dX6_reckonAll_18 : decode cX6_reckonAll 18 = .ok (.invokevirtual 117, 3) := DX6_reckonAll (18, .invokevirtual 117, 3) (List.mem_of_getElem? (i := 10) rfl)
theorem dX6_reckonAll_21 : decode cX6_reckonAll 21 = .ok (.ifCond .eq 21, 3) := DX6_reckonAll (21, .ifCond .eq 21, 3) (List.mem_of_getElem? (i := 11) rfl)
theorem dX6_reckonAll_24 : decode cX6_reckonAll 24 = .ok (.aload_n 0, 1) := DX6_reckonAll (24, .aload_n 0, 1) (List.mem_of_getElem? (i := 12) rfl)
theorem dX6_reckonAll_25 : decode cX6_reckonAll 25 = .ok (.getfield 15, 3) := DX6_reckonAll (25, .getfield 15, 3) (List.mem_of_getElem? (i := 13) rfl)
theorem dX6_reckonAll_28 : decode cX6_reckonAll 28 = .ok (.iload_n 1, 1) := DX6_reckonAll (28, .iload_n 1, 1) (List.mem_of_getElem? (i := 14) rfl)
theorem dX6_reckonAll_29 : decode cX6_reckonAll 29 = .ok (.aload_n 0, 1) := DX6_reckonAll (29, .aload_n 0, 1) (List.mem_of_getElem? (i := 15) rfl)
theorem dX6_reckonAll_30 : decode cX6_reckonAll 30 = .ok (.getfield 30, 3) := DX6_reckonAll (30, .getfield 30, 3) (List.mem_of_getElem? (i := 16) rfl)
theorem dX6_reckonAll_33 : decode cX6_reckonAll 33 = .ok (.iload_n 1, 1) := DX6_reckonAll (33, .iload_n 1, 1) (List.mem_of_getElem? (i := 17) rfl)
theorem dX6_reckonAll_34 : decode cX6_reckonAll 34 = .ok (.aload_n 0, 1) := DX6_reckonAll (34, .aload_n 0, 1) (List.mem_of_getElem? (i := 18) rfl)
theorem dX6_reckonAll_35 : decode cX6_reckonAll 35 = .ok (.getfield 15, 3) := DX6_reckonAll (35, .getfield 15, 3) (List.mem_of_getElem? (i := 19) rfl)
theorem dX6_reckonAll_38 : decode cX6_reckonAll 38 = .ok (.invokevirtual 120, 3) := DX6_reckonAll (38, .invokevirtual 120, 3) (List.mem_of_getElem? (i := 20) rfl)
theorem dX6_reckonAll_41 : decode cX6_reckonAll 41 = .ok (.iastore, 1) := DX6_reckonAll (41, .iastore, 1) (List.mem_of_getElem? (i := 21) rfl)
theorem dX6_reckonAll_42 : decode cX6_reckonAll 42 = .ok (.iinc 1 1, 3) := DX6_reckonAll (42, .iinc 1 1, 3) (List.mem_of_getElem? (i := 22) rfl)
theorem dX6_reckonAll_45 : decode cX6_reckonAll 45 = .ok (.goto (-43), 3) := DX6_reckonAll (45, .goto (-43), 3) (List.mem_of_getElem? (i := 23) rfl)
theorem dX6_reckonAll_48 : decode cX6_reckonAll 48 = .ok (.return_, 1) := DX6_reckonAll (48, .return_, 1) (List.mem_of_getElem? (i := 24) rfl)
noncomputable def fX6_reckonAll_L42 (l1 : Int32) (σ : Mem) : Option ((Int32 × Mem) ⊕ (Mem)) :=
  some (.inl (l1 + 1, σ))
set_option maxHeartbeats 4000000 in
set_option maxRecDepth 100000 in
theorem tX6_reckonAll_L42 {E : Gx} {cI : ClassId} {ad : Nat → Nat} (C : Cx E rmX6_reckonAll cI layX ad 2 RX6 cX6_reckonAll) {out : Mem} (K0 : KV E rmX6_reckonAll cI layX ad 2 cX6_reckonAll out) {l1 : Int32} {σ : Mem} {res : (Int32 × Mem) ⊕ (Mem)} (h : fX6_reckonAll_L42 l1 σ = some res) (K : Sum.elim (fun a => G E rmX6_reckonAll cI layX ad 2 2 [(0, .ref (ad 6)), (1, .int a.1)] [] a.2) (fun b => G E rmX6_reckonAll cI layX ad 2 48 [] [] b) res) : G E rmX6_reckonAll cI layX ad 2 42 [(0, .ref (ad 6)), (1, .int l1)] [] σ := by
  unfold fX6_reckonAll_L42 at h
  refine g_iinc 45 [(1, .int (l1 + 1)), (0, .ref (ad 6))] C dX6_reckonAll_42 (j := 1) rfl (by rfl) (by decide) rfl rfl ?_
  refine g_goto 2 C dX6_reckonAll_45 (by decide) ?_
  have hh := end_inl h K
  exact g_sub [1, 0] (hh) rfl
noncomputable def fX6_reckonAll_B2 (l1 : Int32) (σ : Mem) : Option ((Int32 × Mem) ⊕ (Mem)) :=
  if (σ 3 4) ≤ l1 then
    some (.inr σ)
  else
    (fX3_isMade l1 σ).bind fun o1 =>
    if o1.1 = 0 then
      fX6_reckonAll_L42 l1 o1.2
    else
      (fX3_reckon l1 o1.2).bind fun o2 =>
      chk (inb l1 30) <|
      fX6_reckonAll_L42 l1 (up2 o2.2 27 l1.toNatClampNeg o2.1)
set_option maxHeartbeats 4000000 in
set_option maxRecDepth 100000 in
theorem tX6_reckonAll_B2 {E : Gx} {cI : ClassId} {ad : Nat → Nat} (C : Cx E rmX6_reckonAll cI layX ad 2 RX6 cX6_reckonAll) {out : Mem} (K0 : KV E rmX6_reckonAll cI layX ad 2 cX6_reckonAll out) {l1 : Int32} {σ : Mem} {res : (Int32 × Mem) ⊕ (Mem)} (h : fX6_reckonAll_B2 l1 σ = some res) (K : Sum.elim (fun a => G E rmX6_reckonAll cI layX ad 2 2 [(0, .ref (ad 6)), (1, .int a.1)] [] a.2) (fun b => G E rmX6_reckonAll cI layX ad 2 48 [] [] b) res) : G E rmX6_reckonAll cI layX ad 2 2 [(0, .ref (ad 6)), (1, .int l1)] [] σ := by
  unfold fX6_reckonAll_B2 at h
  refine g_iload_n 3 C dX6_reckonAll_2 rfl (j := 1) rfl rfl ?_
  refine g_aload_n 4 C dX6_reckonAll_3 rfl (j := 0) rfl rfl ?_
  refine g_getr 7 (j := 0) C rfl rfl wu_X6 (by decide) wf_X6_30 rfl dX6_reckonAll_4 rfl ?_
  refine g_getiN 10 (j := 4) C rfl rfl wu_X3 (by decide) (List.mem_of_getElem? (i := 16) rfl) rfl dX6_reckonAll_7 rfl ?_
  refine g_icmp_ge 48 13 C dX6_reckonAll_10 (by decide) rfl h (fun h => ?_) (fun h => ?_)
  · have hh := end_inr h K
    exact g_sub [] (hh) rfl
  · refine g_aload_n 14 C dX6_reckonAll_13 rfl (j := 0) rfl rfl ?_
    refine g_getr 17 (j := 0) C rfl rfl wu_X6 (by decide) wf_X6_30 rfl dX6_reckonAll_14 rfl ?_
    refine g_iload_n 18 C dX6_reckonAll_17 rfl (j := 1) rfl rfl ?_
    refine g_cni 21 C (As := [.int l1]) (fun _ h => mX3_isMade (a1 := l1) (σ := σ) h) (List.mem_of_getElem? (i := 60) rfl) wi_X3_isMade wz_X3_isMade wc_X3_isMade wn_X3 qX3_isMade rfl rfl ⟨Nat.le_of_ble_eq_true rfl, Nat.le_of_ble_eq_true rfl⟩ rfl rfl rfl rfl (Nat.le_of_ble_eq_true rfl) dX6_reckonAll_18 rfl h (fun o1 h => ?_)
    refine g_if_eq 42 24 C dX6_reckonAll_21 (by decide) rfl h (fun h => ?_) (fun h => ?_)
    · exact tX6_reckonAll_L42 (l1 := l1) (σ := o1.2) C K0 h K
    · refine g_aload_n 25 C dX6_reckonAll_24 rfl (j := 0) rfl rfl ?_
      refine g_getr 28 (j := 5) C rfl rfl wu_X6 (by decide) wf_X6_15 rfl dX6_reckonAll_25 rfl ?_
      refine g_iload_n 29 C dX6_reckonAll_28 rfl (j := 1) rfl rfl ?_
      refine g_aload_n 30 C dX6_reckonAll_29 rfl (j := 0) rfl rfl ?_
      refine g_getr 33 (j := 0) C rfl rfl wu_X6 (by decide) wf_X6_30 rfl dX6_reckonAll_30 rfl ?_
      refine g_iload_n 34 C dX6_reckonAll_33 rfl (j := 1) rfl rfl ?_
      refine g_aload_n 35 C dX6_reckonAll_34 rfl (j := 0) rfl rfl ?_
      refine g_getr 38 (j := 5) C rfl rfl wu_X6 (by decide) wf_X6_15 rfl dX6_reckonAll_35 rfl ?_
      refine g_cni 41 C (As := [.int l1, .ref (ad 27)]) (fun _ h => mX3_reckon (a1 := l1) (σ := o1.2) h) (List.mem_of_getElem? (i := 62) rfl) wi_X3_reckon wz_X3_reckon wc_X3_reckon wn_X3 qX3_reckon rfl rfl ⟨Nat.le_of_ble_eq_true rfl, Nat.le_of_ble_eq_true rfl⟩ rfl rfl rfl rfl (Nat.le_of_ble_eq_true rfl) dX6_reckonAll_38 rfl h (fun o2 h => ?_)
      refine g_iast 42 C rfl dX6_reckonAll_41 rfl h (fun h => ?_)
      exact tX6_reckonAll_L42 (l1 := l1) (σ := up2 o2.2 27 l1.toNatClampNeg o2.1) C K0 h K
noncomputable def fX6_reckonAll_L48 (σ : Mem) : Option (Mem) :=
  some σ
set_option maxHeartbeats 4000000 in
set_option maxRecDepth 100000 in
theorem tX6_reckonAll_L48 {E : Gx} {cI : ClassId} {ad : Nat → Nat} (C : Cx E rmX6_reckonAll cI layX ad 2 RX6 cX6_reckonAll) {out : Mem} (K0 : KV E rmX6_reckonAll cI layX ad 2 cX6_reckonAll out) {σ : Mem} (h : fX6_reckonAll_L48 σ = some out) : G E rmX6_reckonAll cI layX ad 2 48 [] [] σ := by
  unfold fX6_reckonAll_L48 at h
  cases h
  exact K0 _ _ dX6_reckonAll_48
noncomputable def fX6_reckonAll (σ : Mem) : Option (Mem) :=
  (loop (fun a => fX6_reckonAll_B2 a.1 a.2) (0, σ)).bind fun b3 =>
  fX6_reckonAll_L48 b3
set_option maxHeartbeats 4000000 in
set_option maxRecDepth 100000 in
theorem mX6_reckonAll {l : Launch} {D : va_G} {cI : ClassId} {ad : Nat → Nat} {σ : Mem} {out : Mem} (h : fX6_reckonAll σ = some out) : MV l D cI layX ad yX6_reckonAll cX6_reckonAll 2 rmX6_reckonAll [.ref (ad 6)] σ out := by
  refine met_v (by decide) (Nat.le_of_ble_eq_true rfl) (fun E C K0 => ?_)
  show G E rmX6_reckonAll cI layX ad 2 0 [(0, .ref (ad 6))] [] σ
  unfold fX6_reckonAll at h
  refine g_iconst 1 (v := 0) C dX6_reckonAll_0 (by decide) rfl ?_
  refine g_istore_n 2 [(1, .int 0), (0, .ref (ad 6))] C dX6_reckonAll_1 rfl (by decide) rfl rfl ?_
  obtain ⟨b3, hb, h⟩ := bind_some h
  refine g_sub [1, 0] (g_loop (a := (0, σ)) (fun a => G E rmX6_reckonAll cI layX ad 2 2 [(0, .ref (ad 6)), (1, .int a.1)] [] a.2) (fun b => G E rmX6_reckonAll cI layX ad 2 48 [] [] b) hb (fun a res h K => tX6_reckonAll_B2 (l1 := a.1) (σ := a.2) (res := res) C K0 h K) ?_) rfl
  show G E rmX6_reckonAll cI layX ad 2 48 [] [] b3
  exact tX6_reckonAll_L48 (σ := b3) C K0 h

/-! LoopReducer$Runner.fillGiven()V -/
abbrev rmX6_fillGiven : Room := { frames := 1, cells := 0, slots := 0, locals := 22 }
theorem qX6_fillGiven : yX6_fillGiven.cls ≠ "java/lang/invoke/MethodHandle" ∧ yX6_fillGiven.cls ≠ "java/lang/invoke/VarHandle" ∧ (parseMethodDescriptor yX6_fillGiven.desc).map (fun d => d.parameters.length) = some 0 := by decide +kernel
theorem DX6_fillGiven : ∀ q ∈ ([(0, .iconst 0, 1), (1, .istore_n 1, 1), (2, .iload_n 1, 1), (3, .aload_n 0, 1), (4, .getfield 30, 3), (7, .getfield 104, 3), (10, .if_icmp .ge 45, 3), (13, .aload_n 0, 1), (14, .getfield 30, 3), (17, .getfield 55, 3), (20, .iload_n 1, 1), (21, .iaload, 1), (22, .ifCond .eq 16, 3), (25, .aload_n 0, 1), (26, .getfield 30, 3), (29, .getfield 55, 3), (32, .iload_n 1, 1), (33, .iaload, 1), (34, .iconst 1, 1), (35, .if_icmp .ne 14, 3), (38, .aload_n 0, 1), (39, .getfield 15, 3), (42, .iload_n 1, 1), (43, .aload_n 0, 1), (44, .iload_n 1, 1), (45, .invokevirtual 58, 3), (48, .iastore, 1), (49, .iinc 1 1, 3), (52, .goto (-50), 3), (55, .return_, 1)] : List (Nat × Instr × Nat)), decode cX6_fillGiven q.1 = .ok q.2 := by decide +kernel
theorem dX6_fillGiven_0 : decode cX6_fillGiven 0 = .ok (.iconst 0, 1) := DX6_fillGiven (0, .iconst 0, 1) (List.mem_of_getElem? (i := 0) rfl)
theorem dX6_fillGiven_1 : decode cX6_fillGiven 1 = .ok (.istore_n 1, 1) := DX6_fillGiven (1, .istore_n 1, 1) (List.mem_of_getElem? (i := 1) rfl)
theorem dX6_fillGiven_2 : decode cX6_fillGiven 2 = .ok (.iload_n 1, 1) := DX6_fillGiven (2, .iload_n 1, 1) (List.mem_of_getElem? (i := 2) rfl)
theorem dX6_fillGiven_3 : decode cX6_fillGiven 3 = .ok (.aload_n 0, 1) := DX6_fillGiven (3, .aload_n 0, 1) (List.mem_of_getElem? (i := 3) rfl)
theorem dX6_fillGiven_4 : decode cX6_fillGiven 4 = .ok (.getfield 30, 3) := DX6_fillGiven (4, .getfield 30, 3) (List.mem_of_getElem? (i := 4) rfl)
theorem dX6_fillGiven_7 : decode cX6_fillGiven 7 = .ok (.getfield 104, 3) := DX6_fillGiven (7, .getfield 104, 3) (List.mem_of_getElem? (i := 5) rfl)
theorem dX6_fillGiven_10 : decode cX6_fillGiven 10 = .ok (.if_icmp .ge 45, 3) := DX6_fillGiven (10, .if_icmp .ge 45, 3) (List.mem_of_getElem? (i := 6) rfl)
theorem dX6_fillGiven_13 : decode cX6_fillGiven 13 = .ok (.aload_n 0, 1) := DX6_fillGiven (13, .aload_n 0, 1) (List.mem_of_getElem? (i := 7) rfl)
theorem dX6_fillGiven_14 : decode cX6_fillGiven 14 = .ok (.getfield 30, 3) := DX6_fillGiven (14, .getfield 30, 3) (List.mem_of_getElem? (i := 8) rfl)
theorem dX6_fillGiven_17 : decode cX6_fillGiven 17 = .ok (.getfield 55, 3) := DX6_fillGiven (17, .getfield 55, 3) (List.mem_of_getElem? (i := 9) rfl)
theorem dX6_fillGiven_20 : decode cX6_fillGiven 20 = .ok (.iload_n 1, 1) := DX6_fillGiven (20, .iload_n 1, 1) (List.mem_of_getElem? (i := 10) rfl)
theorem dX6_fillGiven_21 : decode cX6_fillGiven 21 = .ok (.iaload, 1) := DX6_fillGiven (21, .iaload, 1) (List.mem_of_getElem? (i := 11) rfl)
theorem dX6_fillGiven_22 : decode cX6_fillGiven 22 = .ok (.ifCond .eq 16, 3) := DX6_fillGiven (22, .ifCond .eq 16, 3) (List.mem_of_getElem? (i := 12) rfl)
theorem dX6_fillGiven_25 : decode cX6_fillGiven 25 = .ok (.aload_n 0, 1) := DX6_fillGiven (25, .aload_n 0, 1) (List.mem_of_getElem? (i := 13) rfl)
theorem dX6_fillGiven_26 : decode cX6_fillGiven 26 = .ok (.getfield 30, 3) := DX6_fillGiven (26, .getfield 30, 3) (List.mem_of_getElem? (i := 14) rfl)
theorem dX6_fillGiven_29 : decode cX6_fillGiven 29 = .ok (.getfield 55, 3) := DX6_fillGiven (29, .getfield 55, 3) (List.mem_of_getElem? (i := 15) rfl)
theorem dX6_fillGiven_32 : decode cX6_fillGiven 32 = .ok (.iload_n 1, 1) := DX6_fillGiven (32, .iload_n 1, 1) (List.mem_of_getElem? (i := 16) rfl)
theorem dX6_fillGiven_33 : decode cX6_fillGiven 33 = .ok (.iaload, 1) := DX6_fillGiven (33, .iaload, 1) (List.mem_of_getElem? (i := 17) rfl)
theorem dX6_fillGiven_34 : decode cX6_fillGiven 34 = .ok (.iconst 1, 1) := DX6_fillGiven (34, .iconst 1, 1) (List.mem_of_getElem? (i := 18) rfl)
theorem dX6_fillGiven_35 : decode cX6_fillGiven 35 = .ok (.if_icmp .ne 14, 3) := DX6_fillGiven (35, .if_icmp .ne 14, 3) (List.mem_of_getElem? (i := 19) rfl)
theorem dX6_fillGiven_38 : decode cX6_fillGiven 38 = .ok (.aload_n 0, 1) := DX6_fillGiven (38, .aload_n 0, 1) (List.mem_of_getElem? (i := 20) rfl)
theorem dX6_fillGiven_39 : decode cX6_fillGiven 39 = .ok (.getfield 15, 3) := DX6_fillGiven (39, .getfield 15, 3) (List.mem_of_getElem? (i := 21) rfl)
theorem dX6_fillGiven_42 : decode cX6_fillGiven 42 = .ok (.iload_n 1, 1) := DX6_fillGiven (42, .iload_n 1, 1) (List.mem_of_getElem? (i := 22) rfl)
theorem dX6_fillGiven_43 : decode cX6_fillGiven 43 = .ok (.aload_n 0, 1) := DX6_fillGiven (43, .aload_n 0, 1) (List.mem_of_getElem? (i := 23) rfl)
theorem dX6_fillGiven_44 : decode cX6_fillGiven 44 = .ok (.iload_n 1, 1) := DX6_fillGiven (44, .iload_n 1, 1) (List.mem_of_getElem? (i := 24) rfl)
theorem dX6_fillGiven_45 : decode cX6_fillGiven 45 = .ok (.invokevirtual 58, 3) := DX6_fillGiven (45, .invokevirtual 58, 3) (List.mem_of_getElem? (i := 25) rfl)
theorem dX6_fillGiven_48 : decode cX6_fillGiven 48 = .ok (.iastore, 1) := DX6_fillGiven (48, .iastore, 1) (List.mem_of_getElem? (i := 26) rfl)
theorem dX6_fillGiven_49 : decode cX6_fillGiven 49 = .ok (.iinc 1 1, 3) := DX6_fillGiven (49, .iinc 1 1, 3) (List.mem_of_getElem? (i := 27) rfl)
theorem dX6_fillGiven_52 : decode cX6_fillGiven 52 = .ok (.goto (-50), 3) := DX6_fillGiven (52, .goto (-50), 3) (List.mem_of_getElem? (i := 28) rfl)
theorem dX6_fillGiven_55 : decode cX6_fillGiven 55 = .ok (.return_, 1) := DX6_fillGiven (55, .return_, 1) (List.mem_of_getElem? (i := 29) rfl)
noncomputable def fX6_fillGiven_L49 (l1 : Int32) (σ : Mem) : Option ((Int32 × Mem) ⊕ (Mem)) :=
  some (.inl (l1 + 1, σ))
set_option maxHeartbeats 4000000 in
set_option maxRecDepth 100000 in
theorem tX6_fillGiven_L49 {E : Gx} {cI : ClassId} {ad : Nat → Nat} (C : Cx E rmX6_fillGiven cI layX ad 2 RX6 cX6_fillGiven) {out : Mem} (K0 : KV E rmX6_fillGiven cI layX ad 2 cX6_fillGiven out) {l1 : Int32} {σ : Mem} {res : (Int32 × Mem) ⊕ (Mem)} (h : fX6_fillGiven_L49 l1 σ = some res) (K : Sum.elim (fun a => G E rmX6_fillGiven cI layX ad 2 2 [(0, .ref (ad 6)), (1, .int a.1)] [] a.2) (fun b => G E rmX6_fillGiven cI layX ad 2 55 [] [] b) res) : G E rmX6_fillGiven cI layX ad 2 49 [(0, .ref (ad 6)), (1, .int l1)] [] σ := by
  unfold fX6_fillGiven_L49 at h
  refine g_iinc 52 [(1, .int (l1 + 1)), (0, .ref (ad 6))] C dX6_fillGiven_49 (j := 1) rfl (by rfl) (by decide) rfl rfl ?_
  refine g_goto 2 C dX6_fillGiven_52 (by decide) ?_
  have hh := end_inl h K
  exact g_sub [1, 0] (hh) rfl
noncomputable def fX6_fillGiven_L38 (l1 : Int32) (σ : Mem) : Option ((Int32 × Mem) ⊕ (Mem)) :=
  (fX6_numberOf l1 σ).bind fun o1 =>
  chk (inb l1 30) <|
  fX6_fillGiven_L49 l1 (up2 o1.2 27 l1.toNatClampNeg o1.1)
set_option maxHeartbeats 4000000 in
set_option maxRecDepth 100000 in
theorem tX6_fillGiven_L38 {E : Gx} {cI : ClassId} {ad : Nat → Nat} (C : Cx E rmX6_fillGiven cI layX ad 2 RX6 cX6_fillGiven) {out : Mem} (K0 : KV E rmX6_fillGiven cI layX ad 2 cX6_fillGiven out) {l1 : Int32} {σ : Mem} {res : (Int32 × Mem) ⊕ (Mem)} (h : fX6_fillGiven_L38 l1 σ = some res) (K : Sum.elim (fun a => G E rmX6_fillGiven cI layX ad 2 2 [(0, .ref (ad 6)), (1, .int a.1)] [] a.2) (fun b => G E rmX6_fillGiven cI layX ad 2 55 [] [] b) res) : G E rmX6_fillGiven cI layX ad 2 38 [(0, .ref (ad 6)), (1, .int l1)] [] σ := by
  unfold fX6_fillGiven_L38 at h
  refine g_aload_n 39 C dX6_fillGiven_38 rfl (j := 0) rfl rfl ?_
  refine g_getr 42 (j := 5) C rfl rfl wu_X6 (by decide) wf_X6_15 rfl dX6_fillGiven_39 rfl ?_
  refine g_iload_n 43 C dX6_fillGiven_42 rfl (j := 1) rfl rfl ?_
  refine g_aload_n 44 C dX6_fillGiven_43 rfl (j := 0) rfl rfl ?_
  refine g_iload_n 45 C dX6_fillGiven_44 rfl (j := 1) rfl rfl ?_
  refine g_cvi 48 C (As := [.int l1]) (fun _ h => mX6_numberOf (a1 := l1) (σ := σ) h) wl_X6_58 wi_X6_numberOf wz_X6_numberOf wc_X6_numberOf wn_X6 qX6_numberOf rfl rfl ⟨Nat.le_of_ble_eq_true rfl, Nat.le_of_ble_eq_true rfl⟩ rfl rfl rfl rfl (Nat.le_of_ble_eq_true rfl) dX6_fillGiven_45 rfl h (fun o1 h => ?_)
  refine g_iast 49 C rfl dX6_fillGiven_48 rfl h (fun h => ?_)
  exact tX6_fillGiven_L49 (l1 := l1) (σ := up2 o1.2 27 l1.toNatClampNeg o1.1) C K0 h K
noncomputable def fX6_fillGiven_B2 (l1 : Int32) (σ : Mem) : Option ((Int32 × Mem) ⊕ (Mem)) :=
  if (σ 3 4) ≤ l1 then
    some (.inr σ)
  else
    chk (inb l1 30) <|
    if (σ 8 l1.toNatClampNeg) = 0 then
      fX6_fillGiven_L38 l1 σ
    else
      chk (inb l1 30) <|
      if (σ 8 l1.toNatClampNeg) = 1 then
        fX6_fillGiven_L38 l1 σ
      else
        fX6_fillGiven_L49 l1 σ
set_option maxHeartbeats 4000000 in
set_option maxRecDepth 100000 in
theorem tX6_fillGiven_B2 {E : Gx} {cI : ClassId} {ad : Nat → Nat} (C : Cx E rmX6_fillGiven cI layX ad 2 RX6 cX6_fillGiven) {out : Mem} (K0 : KV E rmX6_fillGiven cI layX ad 2 cX6_fillGiven out) {l1 : Int32} {σ : Mem} {res : (Int32 × Mem) ⊕ (Mem)} (h : fX6_fillGiven_B2 l1 σ = some res) (K : Sum.elim (fun a => G E rmX6_fillGiven cI layX ad 2 2 [(0, .ref (ad 6)), (1, .int a.1)] [] a.2) (fun b => G E rmX6_fillGiven cI layX ad 2 55 [] [] b) res) : G E rmX6_fillGiven cI layX ad 2 2 [(0, .ref (ad 6)), (1, .int l1)] [] σ := by
  unfold fX6_fillGiven_B2 at h
  refine g_iload_n 3 C dX6_fillGiven_2 rfl (j := 1) rfl rfl ?_
  refine g_aload_n 4 C dX6_fillGiven_3 rfl (j := 0) rfl rfl ?_
  refine g_getr 7 (j := 0) C rfl rfl wu_X6 (by decide) wf_X6_30 rfl dX6_fillGiven_4 rfl ?_
  refine g_getiN 10 (j := 4) C rfl rfl wu_X3 (by decide) (List.mem_of_getElem? (i := 16) rfl) rfl dX6_fillGiven_7 rfl ?_
  refine g_icmp_ge 55 13 C dX6_fillGiven_10 (by decide) rfl h (fun h => ?_) (fun h => ?_)
  · have hh := end_inr h K
    exact g_sub [] (hh) rfl
  · refine g_aload_n 14 C dX6_fillGiven_13 rfl (j := 0) rfl rfl ?_
    refine g_getr 17 (j := 0) C rfl rfl wu_X6 (by decide) wf_X6_30 rfl dX6_fillGiven_14 rfl ?_
    refine g_getrN 20 (j := 1) C rfl rfl wu_X3 (by decide) (List.mem_of_getElem? (i := 3) rfl) rfl dX6_fillGiven_17 rfl ?_
    refine g_iload_n 21 C dX6_fillGiven_20 rfl (j := 1) rfl rfl ?_
    refine g_iald 22 C rfl dX6_fillGiven_21 rfl h (fun h => ?_)
    refine g_if_eq 38 25 C dX6_fillGiven_22 (by decide) rfl h (fun h => ?_) (fun h => ?_)
    · exact tX6_fillGiven_L38 (l1 := l1) (σ := σ) C K0 h K
    · refine g_aload_n 26 C dX6_fillGiven_25 rfl (j := 0) rfl rfl ?_
      refine g_getr 29 (j := 0) C rfl rfl wu_X6 (by decide) wf_X6_30 rfl dX6_fillGiven_26 rfl ?_
      refine g_getrN 32 (j := 1) C rfl rfl wu_X3 (by decide) (List.mem_of_getElem? (i := 3) rfl) rfl dX6_fillGiven_29 rfl ?_
      refine g_iload_n 33 C dX6_fillGiven_32 rfl (j := 1) rfl rfl ?_
      refine g_iald 34 C rfl dX6_fillGiven_33 rfl h (fun h => ?_)
      refine g_iconst 35 (v := 1) C dX6_fillGiven_34 (by decide) rfl ?_
      refine g_icmp_ne 49 38 C dX6_fillGiven_35 (by decide) rfl h (fun h => ?_) (fun h => ?_)
      · exact tX6_fillGiven_L38 (l1 := l1) (σ := σ) C K0 h K
      · exact tX6_fillGiven_L49 (l1 := l1) (σ := σ) C K0 h K
noncomputable def fX6_fillGiven_L55 (σ : Mem) : Option (Mem) :=
  some σ
set_option maxHeartbeats 4000000 in
set_option maxRecDepth 100000 in
theorem tX6_fillGiven_L55 {E : Gx} {cI : ClassId} {ad : Nat → Nat} (C : Cx E rmX6_fillGiven cI layX ad 2 RX6 cX6_fillGiven) {out : Mem} (K0 : KV E rmX6_fillGiven cI layX ad 2 cX6_fillGiven out) {σ : Mem} (h : fX6_fillGiven_L55 σ = some out) : G E rmX6_fillGiven cI layX ad 2 55 [] [] σ := by
  unfold fX6_fillGiven_L55 at h
  cases h
  exact K0 _ _ dX6_fillGiven_55
noncomputable def fX6_fillGiven (σ : Mem) : Option (Mem) :=
  (loop (fun a => fX6_fillGiven_B2 a.1 a.2) (0, σ)).bind fun b2 =>
  fX6_fillGiven_L55 b2
set_option maxHeartbeats 4000000 in
set_option maxRecDepth 100000 in
theorem mX6_fillGiven {l : Launch} {D : va_G} {cI : ClassId} {ad : Nat → Nat} {σ : Mem} {out : Mem} (h : fX6_fillGiven σ = some out) : MV l D cI layX ad yX6_fillGiven cX6_fillGiven 2 rmX6_fillGiven [.ref (ad 6)] σ out := by
  refine met_v (by decide) (Nat.le_of_ble_eq_true rfl) (fun E C K0 => ?_)
  show G E rmX6_fillGiven cI layX ad 2 0 [(0, .ref (ad 6))] [] σ
  unfold fX6_fillGiven at h
  refine g_iconst 1 (v := 0) C dX6_fillGiven_0 (by decide) rfl ?_
  refine g_istore_n 2 [(1, .int 0), (0, .ref (ad 6))] C dX6_fillGiven_1 rfl (by decide) rfl rfl ?_
  obtain ⟨b2, hb, h⟩ := bind_some h
  refine g_sub [1, 0] (g_loop (a := (0, σ)) (fun a => G E rmX6_fillGiven cI layX ad 2 2 [(0, .ref (ad 6)), (1, .int a.1)] [] a.2) (fun b => G E rmX6_fillGiven cI layX ad 2 55 [] [] b) hb (fun a res h K => tX6_fillGiven_B2 (l1 := a.1) (σ := a.2) (res := res) C K0 h K) ?_) rfl
  show G E rmX6_fillGiven cI layX ad 2 55 [] [] b2
  exact tX6_fillGiven_L55 (σ := b2) C K0 h

/-! LoopReducer$Runner.stepCells()V -/
abbrev rmX6_stepCells : Room := { frames := 2, cells := 0, slots := 0, locals := 43 }
theorem qX6_stepCells : yX6_stepCells.cls ≠ "java/lang/invoke/MethodHandle" ∧ yX6_stepCells.cls ≠ "java/lang/invoke/VarHandle" ∧ (parseMethodDescriptor yX6_stepCells.desc).map (fun d => d.parameters.length) = some 0 := by decide +kernel
theorem DX6_stepCells : ∀ q ∈ ([(0, .iconst 3, 1), (1, .istore_n 1, 1), (2, .iload_n 1, 1), (3, .ifCond .le 94, 3), (6, .iconst 0, 1), (7, .istore_n 2, 1), (8, .iload_n 2, 1), (9, .aload_n 0, 1), (10, .getfield 38, 3), (13, .getfield 150, 3), (16, .if_icmp .ge 75, 3), (19, .aload_n 0, 1), (20, .getfield 38, 3), (23, .iload_n 2, 1), (24, .invokevirtual 159, 3), (27, .iload_n 1, 1), (28, .if_icmp .ne 57, 3), (31, .aload_n 0, 1), (32, .getfield 38, 3), (35, .getfield 162, 3), (38, .iload_n 2, 1), (39, .iaload, 1), (40, .istore_n 3, 1), (41, .iload_n 3, 1), (42, .ifCond .lt 12, 3), (45, .aload_n 0, 1), (46, .getfield 21, 3), (49, .iload_n 3, 1), (50, .iaload, 1), (51, .goto 9, 3), (54, .aload_n 0, 1), (55, .getfield 24, 3), (58, .iload_n 2, 1), (59, .iaload, 1), (60, .istore 4, 2), (62, .aload_n 0, 1), (63, .getfield 21, 3), (66, .iload_n 2, 1), (67, .aload_n 0, 1), (68, .getfield 21, 3), (71, .iload_n 2, 1), (72, .iaload, 1), (73, .iload 4, 2), (75, .iadd, 1), (76, .aload_n 0, 1), (77, .getfield 30, 3), (80, .getfield 46, 3), (83, .iand, 1), (84, .iastore, 1), (85, .iinc 2 1, 3), (88, .goto (-80), 3), (91, .iinc 1 (-1), 3), (94, .goto (-92), 3), (97, .return_, 1)] : List (Nat × Instr × Nat)), decode cX6_stepCells q.1 = .ok q.2 := by decide +kernel
theorem dX6_stepCells_0 : decode cX6_stepCells 0 = .ok (.iconst 3, 1) := DX6_stepCells (0, .iconst 3, 1) (List.mem_of_getElem? (i := 0) rfl)
theorem dX6_stepCells_1 : decode cX6_stepCells 1 = .ok (.istore_n 1, 1) := DX6_stepCells (1, .istore_n 1, 1) (List.mem_of_getElem? (i := 1) rfl)
theorem dX6_stepCells_2 : decode cX6_stepCells 2 = .ok (.iload_n 1, 1) := DX6_stepCells (2, .iload_n 1, 1) (List.mem_of_getElem? (i := 2) rfl)
theorem dX6_stepCells_3 : decode cX6_stepCells 3 = .ok (.ifCond .le 94, 3) := DX6_stepCells (3, .ifCond .le 94, 3) (List.mem_of_getElem? (i := 3) rfl)
theorem dX6_stepCells_6 : decode cX6_stepCells 6 = .ok (.iconst 0, 1) := DX6_stepCells (6, .iconst 0, 1) (List.mem_of_getElem? (i := 4) rfl)
theorem dX6_stepCells_7 : decode cX6_stepCells 7 = .ok (.istore_n 2, 1) := DX6_stepCells (7, .istore_n 2, 1) (List.mem_of_getElem? (i := 5) rfl)
theorem dX6_stepCells_8 : decode cX6_stepCells 8 = .ok (.iload_n 2, 1) := DX6_stepCells (8, .iload_n 2, 1) (List.mem_of_getElem? (i := 6) rfl)
theorem dX6_stepCells_9 : decode cX6_stepCells 9 = .ok (.aload_n 0, 1) := DX6_stepCells (9, .aload_n 0, 1) (List.mem_of_getElem? (i := 7) rfl)
theorem dX6_stepCells_10 : decode cX6_stepCells 10 = .ok (.getfield 38, 3) := DX6_stepCells (10, .getfield 38, 3) (List.mem_of_getElem? (i := 8) rfl)
theorem dX6_stepCells_13 : decode cX6_stepCells 13 = .ok (.getfield 150, 3) := DX6_stepCells (13, .getfield 150, 3) (List.mem_of_getElem? (i := 9) rfl)
theorem dX6_stepCells_16 : decode cX6_stepCells 16 = .ok (.if_icmp .ge 75, 3) := DX6_stepCells (16, .if_icmp .ge 75, 3) (List.mem_of_getElem? (i := 10) rfl)
theorem dX6_stepCells_19 : decode cX6_stepCells 19 = .ok (.aload_n 0, 1) := DX6_stepCells (19, .aload_n 0, 1) (List.mem_of_getElem? (i := 11) rfl)
theorem dX6_stepCells_20 : decode cX6_stepCells 20 = .ok (.getfield 38, 3) := DX6_stepCells (20, .getfield 38, 3) (List.mem_of_getElem? (i := 12) rfl)
theorem dX6_stepCells_23 : decode cX6_stepCells 23 = .ok (.iload_n 2, 1) := DX6_stepCells (23, .iload_n 2, 1) (List.mem_of_getElem? (i := 13) rfl)
theorem dX6_stepCells_24 : decode cX6_stepCells 24 = .ok (.invokevirtual 159, 3) := DX6_stepCells (24, .invokevirtual 159, 3) (List.mem_of_getElem? (i := 14) rfl)
theorem dX6_stepCells_27 : decode cX6_stepCells 27 = .ok (.iload_n 1, 1) := DX6_stepCells (27, .iload_n 1, 1) (List.mem_of_getElem? (i := 15) rfl)
theorem dX6_stepCells_28 : decode cX6_stepCells 28 = .ok (.if_icmp .ne 57, 3) := DX6_stepCells (28, .if_icmp .ne 57, 3) (List.mem_of_getElem? (i := 16) rfl)
theorem dX6_stepCells_31 : decode cX6_stepCells 31 = .ok (.aload_n 0, 1) := DX6_stepCells (31, .aload_n 0, 1) (List.mem_of_getElem? (i := 17) rfl)
theorem dX6_stepCells_32 : decode cX6_stepCells 32 = .ok (.getfield 38, 3) := DX6_stepCells (32, .getfield 38, 3) (List.mem_of_getElem? (i := 18) rfl)
theorem dX6_stepCells_35 : decode cX6_stepCells 35 = .ok (.getfield 162, 3) := DX6_stepCells (35, .getfield 162, 3) (List.mem_of_getElem? (i := 19) rfl)
theorem dX6_stepCells_38 : decode cX6_stepCells 38 = .ok (.iload_n 2, 1) := DX6_stepCells (38, .iload_n 2, 1) (List.mem_of_getElem? (i := 20) rfl)
theorem dX6_stepCells_39 : decode cX6_stepCells 39 = .ok (.iaload, 1) := DX6_stepCells (39, .iaload, 1) (List.mem_of_getElem? (i := 21) rfl)
theorem dX6_stepCells_40 : decode cX6_stepCells 40 = .ok (.istore_n 3, 1) := DX6_stepCells (40, .istore_n 3, 1) (List.mem_of_getElem? (i := 22) rfl)
theorem dX6_stepCells_41 : decode cX6_stepCells 41 = .ok (.iload_n 3, 1) := DX6_stepCells (41, .iload_n 3, 1) (List.mem_of_getElem? (i := 23) rfl)
theorem dX6_stepCells_42 : decode cX6_stepCells 42 = .ok (.ifCond .lt 12, 3) := DX6_stepCells (42, .ifCond .lt 12, 3) (List.mem_of_getElem? (i := 24) rfl)
theorem dX6_stepCells_45 : decode cX6_stepCells 45 = .ok (.aload_n 0, 1) := DX6_stepCells (45, .aload_n 0, 1) (List.mem_of_getElem? (i := 25) rfl)
theorem dX6_stepCells_46 : decode cX6_stepCells 46 = .ok (.getfield 21, 3) := DX6_stepCells (46, .getfield 21, 3) (List.mem_of_getElem? (i := 26) rfl)
theorem dX6_stepCells_49 : decode cX6_stepCells 49 = .ok (.iload_n 3, 1) := DX6_stepCells (49, .iload_n 3, 1) (List.mem_of_getElem? (i := 27) rfl)
theorem dX6_stepCells_50 : decode cX6_stepCells 50 = .ok (.iaload, 1) := DX6_stepCells (50, .iaload, 1) (List.mem_of_getElem? (i := 28) rfl)
theorem dX6_stepCells_51 : decode cX6_stepCells 51 = .ok (.goto 9, 3) := DX6_stepCells (51, .goto 9, 3) (List.mem_of_getElem? (i := 29) rfl)
theorem dX6_stepCells_54 : decode cX6_stepCells 54 = .ok (.aload_n 0, 1) := DX6_stepCells (54, .aload_n 0, 1) (List.mem_of_getElem? (i := 30) rfl)
theorem dX6_stepCells_55 : decode cX6_stepCells 55 = .ok (.getfield 24, 3) := DX6_stepCells (55, .getfield 24, 3) (List.mem_of_getElem? (i := 31) rfl)
theorem dX6_stepCells_58 : decode cX6_stepCells 58 = .ok (.iload_n 2, 1) := DX6_stepCells (58, .iload_n 2, 1) (List.mem_of_getElem? (i := 32) rfl)
theorem dX6_stepCells_59 : decode cX6_stepCells 59 = .ok (.iaload, 1) := DX6_stepCells (59, .iaload, 1) (List.mem_of_getElem? (i := 33) rfl)
theorem dX6_stepCells_60 : decode cX6_stepCells 60 = .ok (.istore 4, 2) := DX6_stepCells (60, .istore 4, 2) (List.mem_of_getElem? (i := 34) rfl)
theorem dX6_stepCells_62 : decode cX6_stepCells 62 = .ok (.aload_n 0, 1) := DX6_stepCells (62, .aload_n 0, 1) (List.mem_of_getElem? (i := 35) rfl)
theorem dX6_stepCells_63 : decode cX6_stepCells 63 = .ok (.getfield 21, 3) := DX6_stepCells (63, .getfield 21, 3) (List.mem_of_getElem? (i := 36) rfl)
theorem dX6_stepCells_66 : decode cX6_stepCells 66 = .ok (.iload_n 2, 1) := DX6_stepCells (66, .iload_n 2, 1) (List.mem_of_getElem? (i := 37) rfl)
theorem dX6_stepCells_67 : decode cX6_stepCells 67 = .ok (.aload_n 0, 1) := DX6_stepCells (67, .aload_n 0, 1) (List.mem_of_getElem? (i := 38) rfl)
theorem dX6_stepCells_68 : decode cX6_stepCells 68 = .ok (.getfield 21, 3) := DX6_stepCells (68, .getfield 21, 3) (List.mem_of_getElem? (i := 39) rfl)
theorem dX6_stepCells_71 : decode cX6_stepCells 71 = .ok (.iload_n 2, 1) := DX6_stepCells (71, .iload_n 2, 1) (List.mem_of_getElem? (i := 40) rfl)
theorem dX6_stepCells_72 : decode cX6_stepCells 72 = .ok (.iaload, 1) := DX6_stepCells (72, .iaload, 1) (List.mem_of_getElem? (i := 41) rfl)
theorem dX6_stepCells_73 : decode cX6_stepCells 73 = .ok (.iload 4, 2) := DX6_stepCells (73, .iload 4, 2) (List.mem_of_getElem? (i := 42) rfl)
theorem dX6_stepCells_75 : decode cX6_stepCells 75 = .ok (.iadd, 1) := DX6_stepCells (75, .iadd, 1) (List.mem_of_getElem? (i := 43) rfl)
theorem dX6_stepCells_76 : decode cX6_stepCells 76 = .ok (.aload_n 0, 1) := DX6_stepCells (76, .aload_n 0, 1) (List.mem_of_getElem? (i := 44) rfl)
theorem dX6_stepCells_77 : decode cX6_stepCells 77 = .ok (.getfield 30, 3) := DX6_stepCells (77, .getfield 30, 3) (List.mem_of_getElem? (i := 45) rfl)
theorem dX6_stepCells_80 : decode cX6_stepCells 80 = .ok (.getfield 46, 3) := DX6_stepCells (80, .getfield 46, 3) (List.mem_of_getElem? (i := 46) rfl)
theorem dX6_stepCells_83 : decode cX6_stepCells 83 = .ok (.iand, 1) := DX6_stepCells (83, .iand, 1) (List.mem_of_getElem? (i := 47) rfl)
theorem dX6_stepCells_84 : decode cX6_stepCells 84 = .ok (.iastore, 1) := DX6_stepCells (84, .iastore, 1) (List.mem_of_getElem? (i := 48) rfl)
theorem dX6_stepCells_85 : decode cX6_stepCells 85 = .ok (.iinc 2 1, 3) := DX6_stepCells (85, .iinc 2 1, 3) (List.mem_of_getElem? (i := 49) rfl)
theorem dX6_stepCells_88 : decode cX6_stepCells 88 = .ok (.goto (-80), 3) := DX6_stepCells (88, .goto (-80), 3) (List.mem_of_getElem? (i := 50) rfl)
theorem dX6_stepCells_91 : decode cX6_stepCells 91 = .ok (.iinc 1 (-1), 3) := DX6_stepCells (91, .iinc 1 (-1), 3) (List.mem_of_getElem? (i := 51) rfl)
theorem dX6_stepCells_94 : decode cX6_stepCells 94 = .ok (.goto (-92), 3) := DX6_stepCells (94, .goto (-92), 3) (List.mem_of_getElem? (i := 52) rfl)
theorem dX6_stepCells_97 : decode cX6_stepCells 97 = .ok (.return_, 1) := DX6_stepCells (97, .return_, 1) (List.mem_of_getElem? (i := 53) rfl)
noncomputable def fX6_stepCells_L85 (l1 : Int32) (l2 : Int32) (σ : Mem) : Option ((Int32 × Mem) ⊕ (Mem)) :=
  some (.inl (l2 + 1, σ))
set_option maxHeartbeats 4000000 in
set_option maxRecDepth 100000 in
theorem tX6_stepCells_L85 {E : Gx} {cI : ClassId} {ad : Nat → Nat} (C : Cx E rmX6_stepCells cI layX ad 5 RX6 cX6_stepCells) {out : Mem} (K0 : KV E rmX6_stepCells cI layX ad 5 cX6_stepCells out) {l1 : Int32} {l2 : Int32} {σ : Mem} {res : (Int32 × Mem) ⊕ (Mem)} (h : fX6_stepCells_L85 l1 l2 σ = some res) (K : Sum.elim (fun a => G E rmX6_stepCells cI layX ad 5 8 [(0, .ref (ad 6)), (1, .int l1), (2, .int a.1)] [] a.2) (fun b => G E rmX6_stepCells cI layX ad 5 91 [(0, .ref (ad 6)), (1, .int l1)] [] b) res) : G E rmX6_stepCells cI layX ad 5 85 [(0, .ref (ad 6)), (1, .int l1), (2, .int l2)] [] σ := by
  unfold fX6_stepCells_L85 at h
  refine g_iinc 88 [(2, .int (l2 + 1)), (0, .ref (ad 6)), (1, .int l1)] C dX6_stepCells_85 (j := 2) rfl (by rfl) (by decide) rfl rfl ?_
  refine g_goto 8 C dX6_stepCells_88 (by decide) ?_
  have hh := end_inl h K
  exact g_sub [1, 2, 0] (hh) rfl
noncomputable def fX6_stepCells_L60 (l1 : Int32) (l2 : Int32) (s0 : Int32) (σ : Mem) : Option ((Int32 × Mem) ⊕ (Mem)) :=
  chk (inb l2 90) <|
  chk (inb l2 90) <|
  fX6_stepCells_L85 l1 l2 (up2 σ 29 l2.toNatClampNeg (((σ 29 l2.toNatClampNeg) + s0) &&& (σ 3 0)))
set_option maxHeartbeats 4000000 in
set_option maxRecDepth 100000 in
theorem tX6_stepCells_L60 {E : Gx} {cI : ClassId} {ad : Nat → Nat} (C : Cx E rmX6_stepCells cI layX ad 5 RX6 cX6_stepCells) {out : Mem} (K0 : KV E rmX6_stepCells cI layX ad 5 cX6_stepCells out) {l1 : Int32} {l2 : Int32} {s0 : Int32} {σ : Mem} {res : (Int32 × Mem) ⊕ (Mem)} (h : fX6_stepCells_L60 l1 l2 s0 σ = some res) (K : Sum.elim (fun a => G E rmX6_stepCells cI layX ad 5 8 [(0, .ref (ad 6)), (1, .int l1), (2, .int a.1)] [] a.2) (fun b => G E rmX6_stepCells cI layX ad 5 91 [(0, .ref (ad 6)), (1, .int l1)] [] b) res) : G E rmX6_stepCells cI layX ad 5 60 [(0, .ref (ad 6)), (1, .int l1), (2, .int l2)] [.int s0] σ := by
  unfold fX6_stepCells_L60 at h
  refine g_istore 62 [(4, .int s0), (0, .ref (ad 6)), (1, .int l1), (2, .int l2)] C dX6_stepCells_60 (by decide) rfl rfl ?_
  refine g_aload_n 63 C dX6_stepCells_62 rfl (j := 1) rfl rfl ?_
  refine g_getr 66 (j := 7) C rfl rfl wu_X6 (by decide) wf_X6_21 rfl dX6_stepCells_63 rfl ?_
  refine g_iload_n 67 C dX6_stepCells_66 rfl (j := 3) rfl rfl ?_
  refine g_aload_n 68 C dX6_stepCells_67 rfl (j := 1) rfl rfl ?_
  refine g_getr 71 (j := 7) C rfl rfl wu_X6 (by decide) wf_X6_21 rfl dX6_stepCells_68 rfl ?_
  refine g_iload_n 72 C dX6_stepCells_71 rfl (j := 3) rfl rfl ?_
  refine g_iald 73 C rfl dX6_stepCells_72 rfl h (fun h => ?_)
  refine g_iload 75 C dX6_stepCells_73 (j := 0) rfl rfl ?_
  refine g_iadd 76 C dX6_stepCells_75 rfl ?_
  refine g_aload_n 77 C dX6_stepCells_76 rfl (j := 1) rfl rfl ?_
  refine g_getr 80 (j := 0) C rfl rfl wu_X6 (by decide) wf_X6_30 rfl dX6_stepCells_77 rfl ?_
  refine g_getiN 83 (j := 0) C rfl rfl wu_X3 (by decide) (List.mem_of_getElem? (i := 1) rfl) rfl dX6_stepCells_80 rfl ?_
  refine g_iand 84 C dX6_stepCells_83 rfl ?_
  refine g_iast 85 C rfl dX6_stepCells_84 rfl h (fun h => ?_)
  exact g_sub [1, 2, 3] (tX6_stepCells_L85 (l1 := l1) (l2 := l2) (σ := up2 σ 29 l2.toNatClampNeg (((σ 29 l2.toNatClampNeg) + s0) &&& (σ 3 0))) C K0 h K) rfl
noncomputable def fX6_stepCells_B8 (l1 : Int32) (l2 : Int32) (σ : Mem) : Option ((Int32 × Mem) ⊕ (Mem)) :=
  if (σ 4 4) ≤ l2 then
    some (.inr σ)
  else
    (fX4_degree l2 σ).bind fun o1 =>
    if o1.1 = l1 then
      chk (inb l2 90) <|
      if (o1.2 24 l2.toNatClampNeg) < 0 then
        chk (inb l2 90) <|
        fX6_stepCells_L60 l1 l2 (o1.2 30 l2.toNatClampNeg) o1.2
      else
        chk (inb (o1.2 24 l2.toNatClampNeg) 90) <|
        fX6_stepCells_L60 l1 l2 (o1.2 29 (o1.2 24 l2.toNatClampNeg).toNatClampNeg) o1.2
    else
      fX6_stepCells_L85 l1 l2 o1.2
set_option maxHeartbeats 4000000 in
set_option maxRecDepth 100000 in
theorem tX6_stepCells_B8 {E : Gx} {cI : ClassId} {ad : Nat → Nat} (C : Cx E rmX6_stepCells cI layX ad 5 RX6 cX6_stepCells) {out : Mem} (K0 : KV E rmX6_stepCells cI layX ad 5 cX6_stepCells out) {l1 : Int32} {l2 : Int32} {σ : Mem} {res : (Int32 × Mem) ⊕ (Mem)} (h : fX6_stepCells_B8 l1 l2 σ = some res) (K : Sum.elim (fun a => G E rmX6_stepCells cI layX ad 5 8 [(0, .ref (ad 6)), (1, .int l1), (2, .int a.1)] [] a.2) (fun b => G E rmX6_stepCells cI layX ad 5 91 [(0, .ref (ad 6)), (1, .int l1)] [] b) res) : G E rmX6_stepCells cI layX ad 5 8 [(0, .ref (ad 6)), (1, .int l1), (2, .int l2)] [] σ := by
  unfold fX6_stepCells_B8 at h
  refine g_iload_n 9 C dX6_stepCells_8 rfl (j := 2) rfl rfl ?_
  refine g_aload_n 10 C dX6_stepCells_9 rfl (j := 0) rfl rfl ?_
  refine g_getr 13 (j := 2) C rfl rfl wu_X6 (by decide) wf_X6_38 rfl dX6_stepCells_10 rfl ?_
  refine g_getiN 16 (j := 4) C rfl rfl wu_X4 (by decide) (List.mem_of_getElem? (i := 42) rfl) rfl dX6_stepCells_13 rfl ?_
  refine g_icmp_ge 91 19 C dX6_stepCells_16 (by decide) rfl h (fun h => ?_) (fun h => ?_)
  · have hh := end_inr h K
    exact g_sub [0, 1] (hh) rfl
  · refine g_aload_n 20 C dX6_stepCells_19 rfl (j := 0) rfl rfl ?_
    refine g_getr 23 (j := 2) C rfl rfl wu_X6 (by decide) wf_X6_38 rfl dX6_stepCells_20 rfl ?_
    refine g_iload_n 24 C dX6_stepCells_23 rfl (j := 2) rfl rfl ?_
    refine g_cni 27 C (As := [.int l2]) (fun _ h => mX4_degree (a1 := l2) (σ := σ) h) (List.mem_of_getElem? (i := 63) rfl) wi_X4_degree wz_X4_degree wc_X4_degree wn_X4 qX4_degree rfl rfl ⟨Nat.le_of_ble_eq_true rfl, Nat.le_of_ble_eq_true rfl⟩ rfl rfl rfl rfl (Nat.le_of_ble_eq_true rfl) dX6_stepCells_24 rfl h (fun o1 h => ?_)
    refine g_iload_n 28 C dX6_stepCells_27 rfl (j := 1) rfl rfl ?_
    refine g_icmp_ne 85 31 C dX6_stepCells_28 (by decide) rfl h (fun h => ?_) (fun h => ?_)
    · refine g_aload_n 32 C dX6_stepCells_31 rfl (j := 0) rfl rfl ?_
      refine g_getr 35 (j := 2) C rfl rfl wu_X6 (by decide) wf_X6_38 rfl dX6_stepCells_32 rfl ?_
      refine g_getrN 38 (j := 7) C rfl rfl wu_X4 (by decide) (List.mem_of_getElem? (i := 47) rfl) rfl dX6_stepCells_35 rfl ?_
      refine g_iload_n 39 C dX6_stepCells_38 rfl (j := 2) rfl rfl ?_
      refine g_iald 40 C rfl dX6_stepCells_39 rfl h (fun h => ?_)
      refine g_istore_n 41 [(3, .int (o1.2 24 l2.toNatClampNeg)), (0, .ref (ad 6)), (1, .int l1), (2, .int l2)] C dX6_stepCells_40 rfl (by decide) rfl rfl ?_
      refine g_iload_n 42 C dX6_stepCells_41 rfl (j := 0) rfl rfl ?_
      refine g_if_lt 54 45 C dX6_stepCells_42 (by decide) rfl h (fun h => ?_) (fun h => ?_)
      · refine g_aload_n 55 C dX6_stepCells_54 rfl (j := 1) rfl rfl ?_
        refine g_getr 58 (j := 8) C rfl rfl wu_X6 (by decide) wf_X6_24 rfl dX6_stepCells_55 rfl ?_
        refine g_iload_n 59 C dX6_stepCells_58 rfl (j := 3) rfl rfl ?_
        refine g_iald 60 C rfl dX6_stepCells_59 rfl h (fun h => ?_)
        exact g_sub [1, 2, 3] (tX6_stepCells_L60 (l1 := l1) (l2 := l2) (s0 := (o1.2 30 l2.toNatClampNeg)) (σ := o1.2) C K0 h K) rfl
      · refine g_aload_n 46 C dX6_stepCells_45 rfl (j := 1) rfl rfl ?_
        refine g_getr 49 (j := 7) C rfl rfl wu_X6 (by decide) wf_X6_21 rfl dX6_stepCells_46 rfl ?_
        refine g_iload_n 50 C dX6_stepCells_49 rfl (j := 0) rfl rfl ?_
        refine g_iald 51 C rfl dX6_stepCells_50 rfl h (fun h => ?_)
        refine g_goto 60 C dX6_stepCells_51 (by decide) ?_
        exact g_sub [1, 2, 3] (tX6_stepCells_L60 (l1 := l1) (l2 := l2) (s0 := (o1.2 29 (o1.2 24 l2.toNatClampNeg).toNatClampNeg)) (σ := o1.2) C K0 h K) rfl
    · exact tX6_stepCells_L85 (l1 := l1) (l2 := l2) (σ := o1.2) C K0 h K
noncomputable def fX6_stepCells_L91 (l1 : Int32) (σ : Mem) : Option ((Int32 × Mem) ⊕ (Mem)) :=
  some (.inl (l1 + (-1), σ))
set_option maxHeartbeats 4000000 in
set_option maxRecDepth 100000 in
theorem tX6_stepCells_L91 {E : Gx} {cI : ClassId} {ad : Nat → Nat} (C : Cx E rmX6_stepCells cI layX ad 5 RX6 cX6_stepCells) {out : Mem} (K0 : KV E rmX6_stepCells cI layX ad 5 cX6_stepCells out) {l1 : Int32} {σ : Mem} {res : (Int32 × Mem) ⊕ (Mem)} (h : fX6_stepCells_L91 l1 σ = some res) (K : Sum.elim (fun a => G E rmX6_stepCells cI layX ad 5 2 [(0, .ref (ad 6)), (1, .int a.1)] [] a.2) (fun b => G E rmX6_stepCells cI layX ad 5 97 [] [] b) res) : G E rmX6_stepCells cI layX ad 5 91 [(0, .ref (ad 6)), (1, .int l1)] [] σ := by
  unfold fX6_stepCells_L91 at h
  refine g_iinc 94 [(1, .int (l1 + (-1))), (0, .ref (ad 6))] C dX6_stepCells_91 (j := 1) rfl (by rfl) (by decide) rfl rfl ?_
  refine g_goto 2 C dX6_stepCells_94 (by decide) ?_
  have hh := end_inl h K
  exact g_sub [1, 0] (hh) rfl
noncomputable def fX6_stepCells_B2 (l1 : Int32) (σ : Mem) : Option ((Int32 × Mem) ⊕ (Mem)) :=
  if l1 ≤ 0 then
    some (.inr σ)
  else
    (loop (fun a => fX6_stepCells_B8 l1 a.1 a.2) (0, σ)).bind fun b2 =>
    fX6_stepCells_L91 l1 b2
set_option maxHeartbeats 4000000 in
set_option maxRecDepth 100000 in
theorem tX6_stepCells_B2 {E : Gx} {cI : ClassId} {ad : Nat → Nat} (C : Cx E rmX6_stepCells cI layX ad 5 RX6 cX6_stepCells) {out : Mem} (K0 : KV E rmX6_stepCells cI layX ad 5 cX6_stepCells out) {l1 : Int32} {σ : Mem} {res : (Int32 × Mem) ⊕ (Mem)} (h : fX6_stepCells_B2 l1 σ = some res) (K : Sum.elim (fun a => G E rmX6_stepCells cI layX ad 5 2 [(0, .ref (ad 6)), (1, .int a.1)] [] a.2) (fun b => G E rmX6_stepCells cI layX ad 5 97 [] [] b) res) : G E rmX6_stepCells cI layX ad 5 2 [(0, .ref (ad 6)), (1, .int l1)] [] σ := by
  unfold fX6_stepCells_B2 at h
  refine g_iload_n 3 C dX6_stepCells_2 rfl (j := 1) rfl rfl ?_
  refine g_if_le 97 6 C dX6_stepCells_3 (by decide) rfl h (fun h => ?_) (fun h => ?_)
  · have hh := end_inr h K
    exact g_sub [] (hh) rfl
  · refine g_iconst 7 (v := 0) C dX6_stepCells_6 (by decide) rfl ?_
    refine g_istore_n 8 [(2, .int 0), (0, .ref (ad 6)), (1, .int l1)] C dX6_stepCells_7 rfl (by decide) rfl rfl ?_
    obtain ⟨b2, hb, h⟩ := bind_some h
    refine g_sub [1, 2, 0] (g_loop (a := (0, σ)) (fun a => G E rmX6_stepCells cI layX ad 5 8 [(0, .ref (ad 6)), (1, .int l1), (2, .int a.1)] [] a.2) (fun b => G E rmX6_stepCells cI layX ad 5 91 [(0, .ref (ad 6)), (1, .int l1)] [] b) hb (fun a res h K => tX6_stepCells_B8 (l1 := l1) (l2 := a.1) (σ := a.2) (res := res) C K0 h K) ?_) rfl
    show G E rmX6_stepCells cI layX ad 5 91 [(0, .ref (ad 6)), (1, .int l1)] [] b2
    exact tX6_stepCells_L91 (l1 := l1) (σ := b2) C K0 h K
noncomputable def fX6_stepCells_L97 (σ : Mem) : Option (Mem) :=
  some σ
set_option maxHeartbeats 4000000 in
set_option maxRecDepth 100000 in
theorem tX6_stepCells_L97 {E : Gx} {cI : ClassId} {ad : Nat → Nat} (C : Cx E rmX6_stepCells cI layX ad 5 RX6 cX6_stepCells) {out : Mem} (K0 : KV E rmX6_stepCells cI layX ad 5 cX6_stepCells out) {σ : Mem} (h : fX6_stepCells_L97 σ = some out) : G E rmX6_stepCells cI layX ad 5 97 [] [] σ := by
  unfold fX6_stepCells_L97 at h
  cases h
  exact K0 _ _ dX6_stepCells_97
noncomputable def fX6_stepCells (σ : Mem) : Option (Mem) :=
  (loop (fun a => fX6_stepCells_B2 a.1 a.2) (3, σ)).bind fun b3 =>
  fX6_stepCells_L97 b3
set_option maxHeartbeats 4000000 in
set_option maxRecDepth 100000 in
theorem mX6_stepCells {l : Launch} {D : va_G} {cI : ClassId} {ad : Nat → Nat} {σ : Mem} {out : Mem} (h : fX6_stepCells σ = some out) : MV l D cI layX ad yX6_stepCells cX6_stepCells 5 rmX6_stepCells [.ref (ad 6)] σ out := by
  refine met_v (by decide) (Nat.le_of_ble_eq_true rfl) (fun E C K0 => ?_)
  show G E rmX6_stepCells cI layX ad 5 0 [(0, .ref (ad 6))] [] σ
  unfold fX6_stepCells at h
  refine g_iconst 1 (v := 3) C dX6_stepCells_0 (by decide) rfl ?_
  refine g_istore_n 2 [(1, .int 3), (0, .ref (ad 6))] C dX6_stepCells_1 rfl (by decide) rfl rfl ?_
  obtain ⟨b3, hb, h⟩ := bind_some h
  refine g_sub [1, 0] (g_loop (a := (3, σ)) (fun a => G E rmX6_stepCells cI layX ad 5 2 [(0, .ref (ad 6)), (1, .int a.1)] [] a.2) (fun b => G E rmX6_stepCells cI layX ad 5 97 [] [] b) hb (fun a res h K => tX6_stepCells_B2 (l1 := a.1) (σ := a.2) (res := res) C K0 h K) ?_) rfl
  show G E rmX6_stepCells cI layX ad 5 97 [] [] b3
  exact tX6_stepCells_L97 (σ := b3) C K0 h

/-! LoopReducer$Runner.testHolds()Z -/
abbrev rmX6_testHolds : Room := { frames := 0, cells := 0, slots := 0, locals := 0 }
theorem qX6_testHolds : yX6_testHolds.cls ≠ "java/lang/invoke/MethodHandle" ∧ yX6_testHolds.cls ≠ "java/lang/invoke/VarHandle" ∧ (parseMethodDescriptor yX6_testHolds.desc).map (fun d => d.parameters.length) = some 0 := by decide +kernel
theorem DX6_testHolds : ∀ q ∈ ([(0, .aload_n 0, 1), (1, .getfield 15, 3), (4, .aload_n 0, 1), (5, .getfield 30, 3), (8, .getfield 165, 3), (11, .iaload, 1), (12, .istore_n 1, 1), (13, .aload_n 0, 1), (14, .getfield 15, 3), (17, .aload_n 0, 1), (18, .getfield 30, 3), (21, .getfield 168, 3), (24, .iaload, 1), (25, .istore_n 2, 1), (26, .aload_n 0, 1), (27, .getfield 30, 3), (30, .getfield 171, 3), (33, .ifCond .ne 16, 3), (36, .iload_n 1, 1), (37, .iload_n 2, 1), (38, .if_icmp .eq 7, 3), (41, .iconst 1, 1), (42, .goto 17, 3), (45, .iconst 0, 1), (46, .goto 13, 3), (49, .iload_n 1, 1), (50, .iload_n 2, 1), (51, .if_icmp .ge 7, 3), (54, .iconst 1, 1), (55, .goto 4, 3), (58, .iconst 0, 1), (59, .ireturn, 1)] : List (Nat × Instr × Nat)), decode cX6_testHolds q.1 = .ok q.2 := by decide +kernel
theorem dX6_testHolds_0 : decode cX6_testHolds 0 = .ok (.aload_n 0, 1) := DX6_testHolds (0, .aload_n 0, 1) (List.mem_of_getElem? (i := 0) rfl)
theorem dX6_testHolds_1 : decode cX6_testHolds 1 = .ok (.getfield 15, 3) := DX6_testHolds (1, .getfield 15, 3) (List.mem_of_getElem? (i := 1) rfl)
theorem dX6_testHolds_4 : decode cX6_testHolds 4 = .ok (.aload_n 0, 1) := DX6_testHolds (4, .aload_n 0, 1) (List.mem_of_getElem? (i := 2) rfl)
theorem dX6_testHolds_5 : decode cX6_testHolds 5 = .ok (.getfield 30, 3) := DX6_testHolds (5, .getfield 30, 3) (List.mem_of_getElem? (i := 3) rfl)
theorem dX6_testHolds_8 : decode cX6_testHolds 8 = .ok (.getfield 165, 3) := DX6_testHolds (8, .getfield 165, 3) (List.mem_of_getElem? (i := 4) rfl)
theorem dX6_testHolds_11 : decode cX6_testHolds 11 = .ok (.iaload, 1) := DX6_testHolds (11, .iaload, 1) (List.mem_of_getElem? (i := 5) rfl)
theorem dX6_testHolds_12 : decode cX6_testHolds 12 = .ok (.istore_n 1, 1) := DX6_testHolds (12, .istore_n 1, 1) (List.mem_of_getElem? (i := 6) rfl)
theorem dX6_testHolds_13 : decode cX6_testHolds 13 = .ok (.aload_n 0, 1) := DX6_testHolds (13, .aload_n 0, 1) (List.mem_of_getElem? (i := 7) rfl)
theorem dX6_testHolds_14 : decode cX6_testHolds 14 = .ok (.getfield 15, 3) := DX6_testHolds (14, .getfield 15, 3) (List.mem_of_getElem? (i := 8) rfl)
theorem dX6_testHolds_17 : decode cX6_testHolds 17 = .ok (.aload_n 0, 1) := DX6_testHolds (17, .aload_n 0, 1) (List.mem_of_getElem? (i := 9) rfl)
theorem dX6_testHolds_18 : decode cX6_testHolds 18 = .ok (.getfield 30, 3) := DX6_testHolds (18, .getfield 30, 3) (List.mem_of_getElem? (i := 10) rfl)
theorem dX6_testHolds_21 : decode cX6_testHolds 21 = .ok (.getfield 168, 3) := DX6_testHolds (21, .getfield 168, 3) (List.mem_of_getElem? (i := 11) rfl)
theorem dX6_testHolds_24 : decode cX6_testHolds 24 = .ok (.iaload, 1) := DX6_testHolds (24, .iaload, 1) (List.mem_of_getElem? (i := 12) rfl)
theorem dX6_testHolds_25 : decode cX6_testHolds 25 = .ok (.istore_n 2, 1) := DX6_testHolds (25, .istore_n 2, 1) (List.mem_of_getElem? (i := 13) rfl)
theorem dX6_testHolds_26 : decode cX6_testHolds 26 = .ok (.aload_n 0, 1) := DX6_testHolds (26, .aload_n 0, 1) (List.mem_of_getElem? (i := 14) rfl)
theorem dX6_testHolds_27 : decode cX6_testHolds 27 = .ok (.getfield 30, 3) := DX6_testHolds (27, .getfield 30, 3) (List.mem_of_getElem? (i := 15) rfl)
theorem dX6_testHolds_30 : decode cX6_testHolds 30 = .ok (.getfield 171, 3) := DX6_testHolds (30, .getfield 171, 3) (List.mem_of_getElem? (i := 16) rfl)
theorem dX6_testHolds_33 : decode cX6_testHolds 33 = .ok (.ifCond .ne 16, 3) := DX6_testHolds (33, .ifCond .ne 16, 3) (List.mem_of_getElem? (i := 17) rfl)
theorem dX6_testHolds_36 : decode cX6_testHolds 36 = .ok (.iload_n 1, 1) := DX6_testHolds (36, .iload_n 1, 1) (List.mem_of_getElem? (i := 18) rfl)
theorem dX6_testHolds_37 : decode cX6_testHolds 37 = .ok (.iload_n 2, 1) := DX6_testHolds (37, .iload_n 2, 1) (List.mem_of_getElem? (i := 19) rfl)
theorem dX6_testHolds_38 : decode cX6_testHolds 38 = .ok (.if_icmp .eq 7, 3) := DX6_testHolds (38, .if_icmp .eq 7, 3) (List.mem_of_getElem? (i := 20) rfl)
theorem dX6_testHolds_41 : decode cX6_testHolds 41 = .ok (.iconst 1, 1) := DX6_testHolds (41, .iconst 1, 1) (List.mem_of_getElem? (i := 21) rfl)
theorem dX6_testHolds_42 : decode cX6_testHolds 42 = .ok (.goto 17, 3) := DX6_testHolds (42, .goto 17, 3) (List.mem_of_getElem? (i := 22) rfl)
theorem dX6_testHolds_45 : decode cX6_testHolds 45 = .ok (.iconst 0, 1) := DX6_testHolds (45, .iconst 0, 1) (List.mem_of_getElem? (i := 23) rfl)
theorem dX6_testHolds_46 : decode cX6_testHolds 46 = .ok (.goto 13, 3) := DX6_testHolds (46, .goto 13, 3) (List.mem_of_getElem? (i := 24) rfl)
theorem dX6_testHolds_49 : decode cX6_testHolds 49 = .ok (.iload_n 1, 1) := DX6_testHolds (49, .iload_n 1, 1) (List.mem_of_getElem? (i := 25) rfl)
theorem dX6_testHolds_50 : decode cX6_testHolds 50 = .ok (.iload_n 2, 1) := DX6_testHolds (50, .iload_n 2, 1) (List.mem_of_getElem? (i := 26) rfl)
theorem dX6_testHolds_51 : decode cX6_testHolds 51 = .ok (.if_icmp .ge 7, 3) := DX6_testHolds (51, .if_icmp .ge 7, 3) (List.mem_of_getElem? (i := 27) rfl)
theorem dX6_testHolds_54 : decode cX6_testHolds 54 = .ok (.iconst 1, 1) := DX6_testHolds (54, .iconst 1, 1) (List.mem_of_getElem? (i := 28) rfl)
theorem dX6_testHolds_55 : decode cX6_testHolds 55 = .ok (.goto 4, 3) := DX6_testHolds (55, .goto 4, 3) (List.mem_of_getElem? (i := 29) rfl)
theorem dX6_testHolds_58 : decode cX6_testHolds 58 = .ok (.iconst 0, 1) := DX6_testHolds (58, .iconst 0, 1) (List.mem_of_getElem? (i := 30) rfl)
theorem dX6_testHolds_59 : decode cX6_testHolds 59 = .ok (.ireturn, 1) := DX6_testHolds (59, .ireturn, 1) (List.mem_of_getElem? (i := 31) rfl)
noncomputable def fX6_testHolds_L59 (s0 : Int32) (σ : Mem) : Option (Int32 × Mem) :=
  chk (s0 == 0 || s0 == 1) <|
  some (s0, σ)
set_option maxHeartbeats 4000000 in
set_option maxRecDepth 100000 in
theorem tX6_testHolds_L59 {E : Gx} {cI : ClassId} {ad : Nat → Nat} (C : Cx E rmX6_testHolds cI layX ad 3 RX6 cX6_testHolds) {out : Int32 × Mem} (K0 : KI E rmX6_testHolds cI layX ad 3 cX6_testHolds .boolean out) {s0 : Int32} {σ : Mem} (h : fX6_testHolds_L59 s0 σ = some out) : G E rmX6_testHolds cI layX ad 3 59 [] [.int s0] σ := by
  unfold fX6_testHolds_L59 at h
  obtain ⟨hz, h⟩ := chk_some h
  cases h
  exact K0 _ _ dX6_testHolds_59 (zb_nar hz)
noncomputable def fX6_testHolds (σ : Mem) : Option (Int32 × Mem) :=
  chk (inb (σ 3 9) 30) <|
  chk (inb (σ 3 10) 30) <|
  if (σ 3 8) = 0 then
    if (σ 27 (σ 3 9).toNatClampNeg) = (σ 27 (σ 3 10).toNatClampNeg) then
      fX6_testHolds_L59 0 σ
    else
      fX6_testHolds_L59 1 σ
  else
    if (σ 27 (σ 3 10).toNatClampNeg) ≤ (σ 27 (σ 3 9).toNatClampNeg) then
      fX6_testHolds_L59 0 σ
    else
      fX6_testHolds_L59 1 σ
set_option maxHeartbeats 4000000 in
set_option maxRecDepth 100000 in
theorem mX6_testHolds {l : Launch} {D : va_G} {cI : ClassId} {ad : Nat → Nat} {σ : Mem} {out : Int32 × Mem} (h : fX6_testHolds σ = some out) : MI l D cI layX ad yX6_testHolds cX6_testHolds 3 .boolean rmX6_testHolds [.ref (ad 6)] σ out := by
  refine met_i (by decide) (Nat.le_of_ble_eq_true rfl) (fun E C K0 => ?_)
  show G E rmX6_testHolds cI layX ad 3 0 [(0, .ref (ad 6))] [] σ
  unfold fX6_testHolds at h
  refine g_aload_n 1 C dX6_testHolds_0 rfl (j := 0) rfl rfl ?_
  refine g_getr 4 (j := 5) C rfl rfl wu_X6 (by decide) wf_X6_15 rfl dX6_testHolds_1 rfl ?_
  refine g_aload_n 5 C dX6_testHolds_4 rfl (j := 0) rfl rfl ?_
  refine g_getr 8 (j := 0) C rfl rfl wu_X6 (by decide) wf_X6_30 rfl dX6_testHolds_5 rfl ?_
  refine g_getiN 11 (j := 9) C rfl rfl wu_X3 (by decide) (List.mem_of_getElem? (i := 24) rfl) rfl dX6_testHolds_8 rfl ?_
  refine g_iald 12 C rfl dX6_testHolds_11 rfl h (fun h => ?_)
  refine g_istore_n 13 [(1, .int (σ 27 (σ 3 9).toNatClampNeg)), (0, .ref (ad 6))] C dX6_testHolds_12 rfl (by decide) rfl rfl ?_
  refine g_aload_n 14 C dX6_testHolds_13 rfl (j := 1) rfl rfl ?_
  refine g_getr 17 (j := 5) C rfl rfl wu_X6 (by decide) wf_X6_15 rfl dX6_testHolds_14 rfl ?_
  refine g_aload_n 18 C dX6_testHolds_17 rfl (j := 1) rfl rfl ?_
  refine g_getr 21 (j := 0) C rfl rfl wu_X6 (by decide) wf_X6_30 rfl dX6_testHolds_18 rfl ?_
  refine g_getiN 24 (j := 10) C rfl rfl wu_X3 (by decide) (List.mem_of_getElem? (i := 26) rfl) rfl dX6_testHolds_21 rfl ?_
  refine g_iald 25 C rfl dX6_testHolds_24 rfl h (fun h => ?_)
  refine g_istore_n 26 [(2, .int (σ 27 (σ 3 10).toNatClampNeg)), (1, .int (σ 27 (σ 3 9).toNatClampNeg)), (0, .ref (ad 6))] C dX6_testHolds_25 rfl (by decide) rfl rfl ?_
  refine g_aload_n 27 C dX6_testHolds_26 rfl (j := 2) rfl rfl ?_
  refine g_getr 30 (j := 0) C rfl rfl wu_X6 (by decide) wf_X6_30 rfl dX6_testHolds_27 rfl ?_
  refine g_getiN 33 (j := 8) C rfl rfl wu_X3 (by decide) (List.mem_of_getElem? (i := 22) rfl) rfl dX6_testHolds_30 rfl ?_
  refine g_if_ne 49 36 C dX6_testHolds_33 (by decide) rfl h (fun h => ?_) (fun h => ?_)
  · refine g_iload_n 37 C dX6_testHolds_36 rfl (j := 1) rfl rfl ?_
    refine g_iload_n 38 C dX6_testHolds_37 rfl (j := 0) rfl rfl ?_
    refine g_icmp_eq 45 41 C dX6_testHolds_38 (by decide) rfl h (fun h => ?_) (fun h => ?_)
    · refine g_iconst 46 (v := 0) C dX6_testHolds_45 (by decide) rfl ?_
      refine g_goto 59 C dX6_testHolds_46 (by decide) ?_
      exact g_sub [] (tX6_testHolds_L59 (s0 := 0) (σ := σ) C K0 h) rfl
    · refine g_iconst 42 (v := 1) C dX6_testHolds_41 (by decide) rfl ?_
      refine g_goto 59 C dX6_testHolds_42 (by decide) ?_
      exact g_sub [] (tX6_testHolds_L59 (s0 := 1) (σ := σ) C K0 h) rfl
  · refine g_iload_n 50 C dX6_testHolds_49 rfl (j := 1) rfl rfl ?_
    refine g_iload_n 51 C dX6_testHolds_50 rfl (j := 0) rfl rfl ?_
    refine g_icmp_ge 58 54 C dX6_testHolds_51 (by decide) rfl h (fun h => ?_) (fun h => ?_)
    · refine g_iconst 59 (v := 0) C dX6_testHolds_58 (by decide) rfl ?_
      exact g_sub [] (tX6_testHolds_L59 (s0 := 0) (σ := σ) C K0 h) rfl
    · refine g_iconst 55 (v := 1) C dX6_testHolds_54 (by decide) rfl ?_
      refine g_goto 59 C dX6_testHolds_55 (by decide) ?_
      exact g_sub [] (tX6_testHolds_L59 (s0 := 1) (σ := σ) C K0 h) rfl

/-! LoopReducer$Runner.isReckoned(I)Z -/
abbrev rmX6_isReckoned : Room := { frames := 1, cells := 0, slots := 0, locals := 21 }
theorem qX6_isReckoned : yX6_isReckoned.cls ≠ "java/lang/invoke/MethodHandle" ∧ yX6_isReckoned.cls ≠ "java/lang/invoke/VarHandle" ∧ (parseMethodDescriptor yX6_isReckoned.desc).map (fun d => d.parameters.length) = some 1 := by decide +kernel
theorem DX6_isReckoned : ∀ q ∈ ([(0, .aload_n 0, 1), (1, .getfield 38, 3), (4, .getfield 132, 3), (7, .iload_n 1, 1), (8, .invokestatic 135, 3), (11, .ifCond .eq 19, 3), (14, .aload_n 0, 1), (15, .getfield 34, 3), (18, .getfield 139, 3), (21, .iload_n 1, 1), (22, .iaload, 1), (23, .ifCond .eq 7, 3), (26, .iconst 1, 1), (27, .goto 4, 3), (30, .iconst 0, 1), (31, .ireturn, 1)] : List (Nat × Instr × Nat)), decode cX6_isReckoned q.1 = .ok q.2 := by decide +kernel
theorem dX6_isReckoned_0 : decode cX6_isReckoned 0 = .ok (.aload_n 0, 1) := DX6_isReckoned (0, .aload_n 0, 1) (List.mem_of_getElem? (i := 0) rfl)
theorem dX6_isReckoned_1 : decode cX6_isReckoned 1 = .ok (.getfield 38, 3) := DX6_isReckoned (1, .getfield 38, 3) (List.mem_of_getElem? (i := 1) rfl)
theorem dX6_isReckoned_4 : decode cX6_isReckoned 4 = .ok (.getfield 132, 3) := DX6_isReckoned (4, .getfield 132, 3) (List.mem_of_getElem? (i := 2) rfl)
theorem dX6_isReckoned_7 : decode cX6_isReckoned 7 = .ok (.iload_n 1, 1) := DX6_isReckoned (7, .iload_n 1, 1) (List.mem_of_getElem? (i := 3) rfl)
theorem dX6_isReckoned_8 : decode cX6_isReckoned 8 = .ok (.invokestatic 135, 3) := DX6_isReckoned (8, .invokestatic 135, 3) (List.mem_of_getElem? (i := 4) rfl)
theorem dX6_isReckoned_11 : decode cX6_isReckoned 11 = .ok (.ifCond .eq 19, 3) := DX6_isReckoned (11, .ifCond .eq 19, 3) (List.mem_of_getElem? (i := 5) rfl)
theorem dX6_isReckoned_14 : decode cX6_isReckoned 14 = .ok (.aload_n 0, 1) := DX6_isReckoned (14, .aload_n 0, 1) (List.mem_of_getElem? (i := 6) rfl)
theorem dX6_isReckoned_15 : decode cX6_isReckoned 15 = .ok (.getfield 34, 3) := DX6_isReckoned (15, .getfield 34, 3) (List.mem_of_getElem? (i := 7) rfl)
theorem dX6_isReckoned_18 : decode cX6_isReckoned 18 = .ok (.getfield 139, 3) := DX6_isReckoned (18, .getfield 139, 3) (List.mem_of_getElem? (i := 8) rfl)
theorem dX6_isReckoned_21 : decode cX6_isReckoned 21 = .ok (.iload_n 1, 1) := DX6_isReckoned (21, .iload_n 1, 1) (List.mem_of_getElem? (i := 9) rfl)
theorem dX6_isReckoned_22 : decode cX6_isReckoned 22 = .ok (.iaload, 1) := DX6_isReckoned (22, .iaload, 1) (List.mem_of_getElem? (i := 10) rfl)
theorem dX6_isReckoned_23 : decode cX6_isReckoned 23 = .ok (.ifCond .eq 7, 3) := DX6_isReckoned (23, .ifCond .eq 7, 3) (List.mem_of_getElem? (i := 11) rfl)
theorem dX6_isReckoned_26 : decode cX6_isReckoned 26 = .ok (.iconst 1, 1) := DX6_isReckoned (26, .iconst 1, 1) (List.mem_of_getElem? (i := 12) rfl)
theorem dX6_isReckoned_27 : decode cX6_isReckoned 27 = .ok (.goto 4, 3) := DX6_isReckoned (27, .goto 4, 3) (List.mem_of_getElem? (i := 13) rfl)
theorem dX6_isReckoned_30 : decode cX6_isReckoned 30 = .ok (.iconst 0, 1) := DX6_isReckoned (30, .iconst 0, 1) (List.mem_of_getElem? (i := 14) rfl)
theorem dX6_isReckoned_31 : decode cX6_isReckoned 31 = .ok (.ireturn, 1) := DX6_isReckoned (31, .ireturn, 1) (List.mem_of_getElem? (i := 15) rfl)
noncomputable def fX6_isReckoned_L31 (s0 : Int32) (σ : Mem) : Option (Int32 × Mem) :=
  chk (s0 == 0 || s0 == 1) <|
  some (s0, σ)
set_option maxHeartbeats 4000000 in
set_option maxRecDepth 100000 in
theorem tX6_isReckoned_L31 {E : Gx} {cI : ClassId} {ad : Nat → Nat} (C : Cx E rmX6_isReckoned cI layX ad 2 RX6 cX6_isReckoned) {out : Int32 × Mem} (K0 : KI E rmX6_isReckoned cI layX ad 2 cX6_isReckoned .boolean out) {s0 : Int32} {σ : Mem} (h : fX6_isReckoned_L31 s0 σ = some out) : G E rmX6_isReckoned cI layX ad 2 31 [] [.int s0] σ := by
  unfold fX6_isReckoned_L31 at h
  obtain ⟨hz, h⟩ := chk_some h
  cases h
  exact K0 _ _ dX6_isReckoned_31 (zb_nar hz)
noncomputable def fX6_isReckoned_L30 (σ : Mem) : Option (Int32 × Mem) :=
  fX6_isReckoned_L31 0 σ
set_option maxHeartbeats 4000000 in
set_option maxRecDepth 100000 in
theorem tX6_isReckoned_L30 {E : Gx} {cI : ClassId} {ad : Nat → Nat} (C : Cx E rmX6_isReckoned cI layX ad 2 RX6 cX6_isReckoned) {out : Int32 × Mem} (K0 : KI E rmX6_isReckoned cI layX ad 2 cX6_isReckoned .boolean out) {σ : Mem} (h : fX6_isReckoned_L30 σ = some out) : G E rmX6_isReckoned cI layX ad 2 30 [] [] σ := by
  unfold fX6_isReckoned_L30 at h
  refine g_iconst 31 (v := 0) C dX6_isReckoned_30 (by decide) rfl ?_
  exact tX6_isReckoned_L31 (s0 := 0) (σ := σ) C K0 h
noncomputable def fX6_isReckoned (a1 : Int32) (σ : Mem) : Option (Int32 × Mem) :=
  (fX7_isIn (σ 4 3) a1 σ).bind fun o1 =>
  if o1.1 = 0 then
    fX6_isReckoned_L30 o1.2
  else
    chk (inb a1 30) <|
    if (o1.2 20 a1.toNatClampNeg) = 0 then
      fX6_isReckoned_L30 o1.2
    else
      fX6_isReckoned_L31 1 o1.2
set_option maxHeartbeats 4000000 in
set_option maxRecDepth 100000 in
theorem mX6_isReckoned {l : Launch} {D : va_G} {cI : ClassId} {ad : Nat → Nat} {a1 : Int32} {σ : Mem} {out : Int32 × Mem} (h : fX6_isReckoned a1 σ = some out) : MI l D cI layX ad yX6_isReckoned cX6_isReckoned 2 .boolean rmX6_isReckoned [.ref (ad 6), .int a1] σ out := by
  refine met_i (by decide) (Nat.le_of_ble_eq_true rfl) (fun E C K0 => ?_)
  show G E rmX6_isReckoned cI layX ad 2 0 [(0, .ref (ad 6)), (1, .int a1)] [] σ
  unfold fX6_isReckoned at h
  refine g_aload_n 1 C dX6_isReckoned_0 rfl (j := 0) rfl rfl ?_
  refine g_getr 4 (j := 2) C rfl rfl wu_X6 (by decide) wf_X6_38 rfl dX6_isReckoned_1 rfl ?_
  refine g_getiN 7 (j := 3) C rfl rfl wu_X4 (by decide) (List.mem_of_getElem? (i := 40) rfl) rfl dX6_isReckoned_4 rfl ?_
  refine g_iload_n 8 C dX6_isReckoned_7 rfl (j := 1) rfl rfl ?_
  refine g_cti 11 C (As := [.int (σ 4 3), .int a1]) (fun _ h => mX7_isIn (a1 := σ 4 3) (a2 := a1) (σ := σ) h) (List.mem_of_getElem? (i := 59) rfl) ws_X7_isIn wc_X7_isIn wn_X7 qX7_isIn rfl rfl ⟨Nat.le_of_ble_eq_true rfl, Nat.le_of_ble_eq_true rfl⟩ rfl rfl (Nat.le_of_ble_eq_true rfl) dX6_isReckoned_8 rfl h (fun o1 h => ?_)
  refine g_if_eq 30 14 C dX6_isReckoned_11 (by decide) rfl h (fun h => ?_) (fun h => ?_)
  · exact g_sub [] (tX6_isReckoned_L30 (σ := o1.2) C K0 h) rfl
  · refine g_aload_n 15 C dX6_isReckoned_14 rfl (j := 0) rfl rfl ?_
    refine g_getr 18 (j := 1) C rfl rfl wu_X6 (by decide) wf_X6_34 rfl dX6_isReckoned_15 rfl ?_
    refine g_getrN 21 (j := 4) C rfl rfl wu_X0 (by decide) (List.mem_of_getElem? (i := 38) rfl) rfl dX6_isReckoned_18 rfl ?_
    refine g_iload_n 22 C dX6_isReckoned_21 rfl (j := 1) rfl rfl ?_
    refine g_iald 23 C rfl dX6_isReckoned_22 rfl h (fun h => ?_)
    refine g_if_eq 30 26 C dX6_isReckoned_23 (by decide) rfl h (fun h => ?_) (fun h => ?_)
    · exact g_sub [] (tX6_isReckoned_L30 (σ := o1.2) C K0 h) rfl
    · refine g_iconst 27 (v := 1) C dX6_isReckoned_26 (by decide) rfl ?_
      refine g_goto 31 C dX6_isReckoned_27 (by decide) ?_
      exact g_sub [] (tX6_isReckoned_L31 (s0 := 1) (σ := o1.2) C K0 h) rfl

/-! LoopReducer$Runner.fillSteady()V -/
abbrev rmX6_fillSteady : Room := { frames := 3, cells := 0, slots := 0, locals := 70 }
theorem qX6_fillSteady : yX6_fillSteady.cls ≠ "java/lang/invoke/MethodHandle" ∧ yX6_fillSteady.cls ≠ "java/lang/invoke/VarHandle" ∧ (parseMethodDescriptor yX6_fillSteady.desc).map (fun d => d.parameters.length) = some 0 := by decide +kernel
theorem DX6_fillSteady : ∀ q ∈ ([(0, .iconst 0, 1), (1, .istore_n 1, 1), (2, .iload_n 1, 1), (3, .aload_n 0, 1), (4, .getfield 30, 3), (7, .getfield 104, 3), (10, .if_icmp .ge 50, 3), (13, .aload_n 0, 1), (14, .getfield 38, 3), (17, .getfield 132, 3), (20, .iload_n 1, 1), (21, .invokestatic 135, 3), (24, .ifCond .eq 30, 3), (27, .aload_n 0, 1), (28, .getfield 34, 3), (31, .getfield 139, 3), (34, .iload_n 1, 1), (35, .iaload, 1), (36, .ifCond .ne 18, 3), (39, .aload_n 0, 1), (40, .getfield 15, 3), (43, .iload_n 1, 1), (44, .aload_n 0, 1), (45, .getfield 42, 3), (48, .iload_n 1, 1), (49, .iconst 0, 1), (50, .invokevirtual 144, 3), (53, .iastore, 1), (54, .iinc 1 1, 3), (57, .goto (-55), 3), (60, .return_, 1)] : List (Nat × Instr × Nat)), decode cX6_fillSteady q.1 = .ok q.2 := by decide +kernel
theorem dX6_fillSteady_0 : decode cX6_fillSteady 0 = .ok (.iconst 0, 1) := DX6_fillSteady (0, .iconst 0, 1) (List.mem_of_getElem? (i := 0) rfl)
theorem dX6_fillSteady_1 : decode cX6_fillSteady 1 = .ok (.istore_n 1, 1) := DX6_fillSteady (1, .istore_n 1, 1) (List.mem_of_getElem? (i := 1) rfl)
theorem dX6_fillSteady_2 : decode cX6_fillSteady 2 = .ok (.iload_n 1, 1) := DX6_fillSteady (2, .iload_n 1, 1) (List.mem_of_getElem? (i := 2) rfl)
theorem dX6_fillSteady_3 : decode cX6_fillSteady 3 = .ok (.aload_n 0, 1) := DX6_fillSteady (3, .aload_n 0, 1) (List.mem_of_getElem? (i := 3) rfl)
theorem dX6_fillSteady_4 : decode cX6_fillSteady 4 = .ok (.getfield 30, 3) := DX6_fillSteady (4, .getfield 30, 3) (List.mem_of_getElem? (i := 4) rfl)
theorem dX6_fillSteady_7 : decode cX6_fillSteady 7 = .ok (.getfield 104, 3) := DX6_fillSteady (7, .getfield 104, 3) (List.mem_of_getElem? (i := 5) rfl)
theorem dX6_fillSteady_10 : decode cX6_fillSteady 10 = .ok (.if_icmp .ge 50, 3) := DX6_fillSteady (10, .if_icmp .ge 50, 3) (List.mem_of_getElem? (i := 6) rfl)
theorem dX6_fillSteady_13 : decode cX6_fillSteady 13 = .ok (.aload_n 0, 1) := DX6_fillSteady (13, .aload_n 0, 1) (List.mem_of_getElem? (i := 7) rfl)
theorem dX6_fillSteady_14 : decode cX6_fillSteady 14 = .ok (.getfield 38, 3) := DX6_fillSteady (14, .getfield 38, 3) (List.mem_of_getElem? (i := 8) rfl)
theorem dX6_fillSteady_17 : decode cX6_fillSteady 17 = .ok (.getfield 132, 3) := DX6_fillSteady (17, .getfield 132, 3) (List.mem_of_getElem? (i := 9) rfl)
theorem dX6_fillSteady_20 : decode cX6_fillSteady 20 = .ok (.iload_n 1, 1) := DX6_fillSteady (20, .iload_n 1, 1) (List.mem_of_getElem? (i := 10) rfl)
theorem dX6_fillSteady_21 : decode cX6_fillSteady 21 = .ok (.invokestatic 135, 3) := DX6_fillSteady (21, .invokestatic 135, 3) (List.mem_of_getElem? (i := 11) rfl)
theorem dX6_fillSteady_24 : decode cX6_fillSteady 24 = .ok (.ifCond .eq 30, 3) := DX6_fillSteady (24, .ifCond .eq 30, 3) (List.mem_of_getElem? (i := 12) rfl)
theorem dX6_fillSteady_27 : decode cX6_fillSteady 27 = .ok (.aload_n 0, 1) := DX6_fillSteady (27, .aload_n 0, 1) (List.mem_of_getElem? (i := 13) rfl)
theorem dX6_fillSteady_28 : decode cX6_fillSteady 28 = .ok (.getfield 34, 3) := DX6_fillSteady (28, .getfield 34, 3) (List.mem_of_getElem? (i := 14) rfl)
theorem dX6_fillSteady_31 : decode cX6_fillSteady 31 = .ok (.getfield 139, 3) := DX6_fillSteady (31, .getfield 139, 3) (List.mem_of_getElem? (i := 15) rfl)
theorem dX6_fillSteady_34 : decode cX6_fillSteady 34 = .ok (.iload_n 1, 1) := DX6_fillSteady (34, .iload_n 1, 1) (List.mem_of_getElem? (i := 16) rfl)
theorem dX6_fillSteady_35 : decode cX6_fillSteady 35 = .ok (.iaload, 1) := DX6_fillSteady (35, .iaload, 1) (List.mem_of_getElem? (i := 17) rfl)
theorem dX6_fillSteady_36 : decode cX6_fillSteady 36 = .ok (.ifCond .ne 18, 3) := DX6_fillSteady (36, .ifCond .ne 18, 3) (List.mem_of_getElem? (i := 18) rfl)
theorem dX6_fillSteady_39 : decode cX6_fillSteady 39 = .ok (.aload_n 0, 1) := DX6_fillSteady (39, .aload_n 0, 1) (List.mem_of_getElem? (i := 19) rfl)
theorem dX6_fillSteady_40 : decode cX6_fillSteady 40 = .ok (.getfield 15, 3) := DX6_fillSteady (40, .getfield 15, 3) (List.mem_of_getElem? (i := 20) rfl)
theorem dX6_fillSteady_43 : decode cX6_fillSteady 43 = .ok (.iload_n 1, 1) := DX6_fillSteady (43, .iload_n 1, 1) (List.mem_of_getElem? (i := 21) rfl)
theorem dX6_fillSteady_44 : decode cX6_fillSteady 44 = .ok (.aload_n 0, 1) := DX6_fillSteady (44, .aload_n 0, 1) (List.mem_of_getElem? (i := 22) rfl)
theorem dX6_fillSteady_45 : decode cX6_fillSteady 45 = .ok (.getfield 42, 3) := DX6_fillSteady (45, .getfield 42, 3) (List.mem_of_getElem? (i := 23) rfl)
theorem dX6_fillSteady_48 : decode cX6_fillSteady 48 = .ok (.iload_n 1, 1) := DX6_fillSteady (48, .iload_n 1, 1) (List.mem_of_getElem? (i := 24) rfl)
theorem dX6_fillSteady_49 : decode cX6_fillSteady 49 = .ok (.iconst 0, 1) := DX6_fillSteady (49, .iconst 0, 1) (List.mem_of_getElem? (i := 25) rfl)
theorem dX6_fillSteady_50 : decode cX6_fillSteady 50 = .ok (.invokevirtual 144, 3) := DX6_fillSteady (50, .invokevirtual 144, 3) (List.mem_of_getElem? (i := 26) rfl)
theorem dX6_fillSteady_53 : decode cX6_fillSteady 53 = .ok (.iastore, 1) := DX6_fillSteady (53, .iastore, 1) (List.mem_of_getElem? (i := 27) rfl)
theorem dX6_fillSteady_54 : decode cX6_fillSteady 54 = .ok (.iinc 1 1, 3) := DX6_fillSteady (54, .iinc 1 1, 3) (List.mem_of_getElem? (i := 28) rfl)
theorem dX6_fillSteady_57 : decode cX6_fillSteady 57 = .ok (.goto (-55), 3) := DX6_fillSteady (57, .goto (-55), 3) (List.mem_of_getElem? (i := 29) rfl)
theorem dX6_fillSteady_60 : decode cX6_fillSteady 60 = .ok (.return_, 1) := DX6_fillSteady (60, .return_, 1) (List.mem_of_getElem? (i := 30) rfl)
noncomputable def fX6_fillSteady_L54 (l1 : Int32) (σ : Mem) : Option ((Int32 × Mem) ⊕ (Mem)) :=
  some (.inl (l1 + 1, σ))
set_option maxHeartbeats 4000000 in
set_option maxRecDepth 100000 in
theorem tX6_fillSteady_L54 {E : Gx} {cI : ClassId} {ad : Nat → Nat} (C : Cx E rmX6_fillSteady cI layX ad 2 RX6 cX6_fillSteady) {out : Mem} (K0 : KV E rmX6_fillSteady cI layX ad 2 cX6_fillSteady out) {l1 : Int32} {σ : Mem} {res : (Int32 × Mem) ⊕ (Mem)} (h : fX6_fillSteady_L54 l1 σ = some res) (K : Sum.elim (fun a => G E rmX6_fillSteady cI layX ad 2 2 [(0, .ref (ad 6)), (1, .int a.1)] [] a.2) (fun b => G E rmX6_fillSteady cI layX ad 2 60 [] [] b) res) : G E rmX6_fillSteady cI layX ad 2 54 [(0, .ref (ad 6)), (1, .int l1)] [] σ := by
  unfold fX6_fillSteady_L54 at h
  refine g_iinc 57 [(1, .int (l1 + 1)), (0, .ref (ad 6))] C dX6_fillSteady_54 (j := 1) rfl (by rfl) (by decide) rfl rfl ?_
  refine g_goto 2 C dX6_fillSteady_57 (by decide) ?_
  have hh := end_inl h K
  exact g_sub [1, 0] (hh) rfl
noncomputable def fX6_fillSteady_B2 (l1 : Int32) (σ : Mem) : Option ((Int32 × Mem) ⊕ (Mem)) :=
  if (σ 3 4) ≤ l1 then
    some (.inr σ)
  else
    (fX7_isIn (σ 4 3) l1 σ).bind fun o1 =>
    if o1.1 = 0 then
      fX6_fillSteady_L54 l1 o1.2
    else
      chk (inb l1 30) <|
      if (o1.2 20 l1.toNatClampNeg) = 0 then
        (fX1_worth l1 0 o1.2).bind fun o2 =>
        chk (inb l1 30) <|
        fX6_fillSteady_L54 l1 (up2 o2.2 27 l1.toNatClampNeg o2.1)
      else
        fX6_fillSteady_L54 l1 o1.2
set_option maxHeartbeats 4000000 in
set_option maxRecDepth 100000 in
theorem tX6_fillSteady_B2 {E : Gx} {cI : ClassId} {ad : Nat → Nat} (C : Cx E rmX6_fillSteady cI layX ad 2 RX6 cX6_fillSteady) {out : Mem} (K0 : KV E rmX6_fillSteady cI layX ad 2 cX6_fillSteady out) {l1 : Int32} {σ : Mem} {res : (Int32 × Mem) ⊕ (Mem)} (h : fX6_fillSteady_B2 l1 σ = some res) (K : Sum.elim (fun a => G E rmX6_fillSteady cI layX ad 2 2 [(0, .ref (ad 6)), (1, .int a.1)] [] a.2) (fun b => G E rmX6_fillSteady cI layX ad 2 60 [] [] b) res) : G E rmX6_fillSteady cI layX ad 2 2 [(0, .ref (ad 6)), (1, .int l1)] [] σ := by
  unfold fX6_fillSteady_B2 at h
  refine g_iload_n 3 C dX6_fillSteady_2 rfl (j := 1) rfl rfl ?_
  refine g_aload_n 4 C dX6_fillSteady_3 rfl (j := 0) rfl rfl ?_
  refine g_getr 7 (j := 0) C rfl rfl wu_X6 (by decide) wf_X6_30 rfl dX6_fillSteady_4 rfl ?_
  refine g_getiN 10 (j := 4) C rfl rfl wu_X3 (by decide) (List.mem_of_getElem? (i := 16) rfl) rfl dX6_fillSteady_7 rfl ?_
  refine g_icmp_ge 60 13 C dX6_fillSteady_10 (by decide) rfl h (fun h => ?_) (fun h => ?_)
  · have hh := end_inr h K
    exact g_sub [] (hh) rfl
  · refine g_aload_n 14 C dX6_fillSteady_13 rfl (j := 0) rfl rfl ?_
    refine g_getr 17 (j := 2) C rfl rfl wu_X6 (by decide) wf_X6_38 rfl dX6_fillSteady_14 rfl ?_
    refine g_getiN 20 (j := 3) C rfl rfl wu_X4 (by decide) (List.mem_of_getElem? (i := 40) rfl) rfl dX6_fillSteady_17 rfl ?_
    refine g_iload_n 21 C dX6_fillSteady_20 rfl (j := 1) rfl rfl ?_
    refine g_cti 24 C (As := [.int (σ 4 3), .int l1]) (fun _ h => mX7_isIn (a1 := σ 4 3) (a2 := l1) (σ := σ) h) (List.mem_of_getElem? (i := 59) rfl) ws_X7_isIn wc_X7_isIn wn_X7 qX7_isIn rfl rfl ⟨Nat.le_of_ble_eq_true rfl, Nat.le_of_ble_eq_true rfl⟩ rfl rfl (Nat.le_of_ble_eq_true rfl) dX6_fillSteady_21 rfl h (fun o1 h => ?_)
    refine g_if_eq 54 27 C dX6_fillSteady_24 (by decide) rfl h (fun h => ?_) (fun h => ?_)
    · exact tX6_fillSteady_L54 (l1 := l1) (σ := o1.2) C K0 h K
    · refine g_aload_n 28 C dX6_fillSteady_27 rfl (j := 0) rfl rfl ?_
      refine g_getr 31 (j := 1) C rfl rfl wu_X6 (by decide) wf_X6_34 rfl dX6_fillSteady_28 rfl ?_
      refine g_getrN 34 (j := 4) C rfl rfl wu_X0 (by decide) (List.mem_of_getElem? (i := 38) rfl) rfl dX6_fillSteady_31 rfl ?_
      refine g_iload_n 35 C dX6_fillSteady_34 rfl (j := 1) rfl rfl ?_
      refine g_iald 36 C rfl dX6_fillSteady_35 rfl h (fun h => ?_)
      refine g_if_ne 54 39 C dX6_fillSteady_36 (by decide) rfl h (fun h => ?_) (fun h => ?_)
      · refine g_aload_n 40 C dX6_fillSteady_39 rfl (j := 0) rfl rfl ?_
        refine g_getr 43 (j := 5) C rfl rfl wu_X6 (by decide) wf_X6_15 rfl dX6_fillSteady_40 rfl ?_
        refine g_iload_n 44 C dX6_fillSteady_43 rfl (j := 1) rfl rfl ?_
        refine g_aload_n 45 C dX6_fillSteady_44 rfl (j := 0) rfl rfl ?_
        refine g_getr 48 (j := 3) C rfl rfl wu_X6 (by decide) wf_X6_42 rfl dX6_fillSteady_45 rfl ?_
        refine g_iload_n 49 C dX6_fillSteady_48 rfl (j := 1) rfl rfl ?_
        refine g_iconst 50 (v := 0) C dX6_fillSteady_49 (by decide) rfl ?_
        refine g_cni 53 C (As := [.int l1, .int 0]) (fun _ h => mX1_worth (a1 := l1) (a2 := 0) (σ := o1.2) h) (List.mem_of_getElem? (i := 65) rfl) wi_X1_worth wz_X1_worth wc_X1_worth wn_X1 qX1_worth rfl rfl ⟨Nat.le_of_ble_eq_true rfl, Nat.le_of_ble_eq_true rfl⟩ rfl rfl rfl rfl (Nat.le_of_ble_eq_true rfl) dX6_fillSteady_50 rfl h (fun o2 h => ?_)
        refine g_iast 54 C rfl dX6_fillSteady_53 rfl h (fun h => ?_)
        exact tX6_fillSteady_L54 (l1 := l1) (σ := up2 o2.2 27 l1.toNatClampNeg o2.1) C K0 h K
      · exact tX6_fillSteady_L54 (l1 := l1) (σ := o1.2) C K0 h K
noncomputable def fX6_fillSteady_L60 (σ : Mem) : Option (Mem) :=
  some σ
set_option maxHeartbeats 4000000 in
set_option maxRecDepth 100000 in
theorem tX6_fillSteady_L60 {E : Gx} {cI : ClassId} {ad : Nat → Nat} (C : Cx E rmX6_fillSteady cI layX ad 2 RX6 cX6_fillSteady) {out : Mem} (K0 : KV E rmX6_fillSteady cI layX ad 2 cX6_fillSteady out) {σ : Mem} (h : fX6_fillSteady_L60 σ = some out) : G E rmX6_fillSteady cI layX ad 2 60 [] [] σ := by
  unfold fX6_fillSteady_L60 at h
  cases h
  exact K0 _ _ dX6_fillSteady_60
noncomputable def fX6_fillSteady (σ : Mem) : Option (Mem) :=
  (loop (fun a => fX6_fillSteady_B2 a.1 a.2) (0, σ)).bind fun b3 =>
  fX6_fillSteady_L60 b3
set_option maxHeartbeats 4000000 in
set_option maxRecDepth 100000 in
theorem mX6_fillSteady {l : Launch} {D : va_G} {cI : ClassId} {ad : Nat → Nat} {σ : Mem} {out : Mem} (h : fX6_fillSteady σ = some out) : MV l D cI layX ad yX6_fillSteady cX6_fillSteady 2 rmX6_fillSteady [.ref (ad 6)] σ out := by
  refine met_v (by decide) (Nat.le_of_ble_eq_true rfl) (fun E C K0 => ?_)
  show G E rmX6_fillSteady cI layX ad 2 0 [(0, .ref (ad 6))] [] σ
  unfold fX6_fillSteady at h
  refine g_iconst 1 (v := 0) C dX6_fillSteady_0 (by decide) rfl ?_
  refine g_istore_n 2 [(1, .int 0), (0, .ref (ad 6))] C dX6_fillSteady_1 rfl (by decide) rfl rfl ?_
  obtain ⟨b3, hb, h⟩ := bind_some h
  refine g_sub [1, 0] (g_loop (a := (0, σ)) (fun a => G E rmX6_fillSteady cI layX ad 2 2 [(0, .ref (ad 6)), (1, .int a.1)] [] a.2) (fun b => G E rmX6_fillSteady cI layX ad 2 60 [] [] b) hb (fun a res h K => tX6_fillSteady_B2 (l1 := a.1) (σ := a.2) (res := res) C K0 h K) ?_) rfl
  show G E rmX6_fillSteady cI layX ad 2 60 [] [] b3
  exact tX6_fillSteady_L60 (σ := b3) C K0 h

/-! LoopReducer$Runner.fillCells()V -/
abbrev rmX6_fillCells : Room := { frames := 3, cells := 0, slots := 0, locals := 70 }
theorem qX6_fillCells : yX6_fillCells.cls ≠ "java/lang/invoke/MethodHandle" ∧ yX6_fillCells.cls ≠ "java/lang/invoke/VarHandle" ∧ (parseMethodDescriptor yX6_fillCells.desc).map (fun d => d.parameters.length) = some 0 := by decide +kernel
theorem DX6_fillCells : ∀ q ∈ ([(0, .iconst 0, 1), (1, .istore_n 1, 1), (2, .iload_n 1, 1), (3, .aload_n 0, 1), (4, .getfield 38, 3), (7, .getfield 150, 3), (10, .if_icmp .ge 73, 3), (13, .aload_n 0, 1), (14, .getfield 21, 3), (17, .iload_n 1, 1), (18, .aload_n 0, 1), (19, .getfield 42, 3), (22, .aload_n 0, 1), (23, .getfield 38, 3), (26, .getfield 153, 3), (29, .iload_n 1, 1), (30, .iaload, 1), (31, .aload_n 0, 1), (32, .getfield 38, 3), (35, .getfield 156, 3), (38, .iload_n 1, 1), (39, .iaload, 1), (40, .invokevirtual 144, 3), (43, .iastore, 1), (44, .aload_n 0, 1), (45, .getfield 24, 3), (48, .iload_n 1, 1), (49, .aload_n 0, 1), (50, .getfield 42, 3), (53, .aload_n 0, 1), (54, .getfield 38, 3), (57, .getfield 153, 3), (60, .iload_n 1, 1), (61, .iaload, 1), (62, .aload_n 0, 1), (63, .getfield 38, 3), (66, .getfield 156, 3), (69, .iload_n 1, 1), (70, .iaload, 1), (71, .iconst 1, 1), (72, .iadd, 1), (73, .invokevirtual 144, 3), (76, .iastore, 1), (77, .iinc 1 1, 3), (80, .goto (-78), 3), (83, .return_, 1)] : List (Nat × Instr × Nat)), decode cX6_fillCells q.1 = .ok q.2 := by decide +kernel
theorem dX6_fillCells_0 : decode cX6_fillCells 0 = .ok (.iconst 0, 1) := DX6_fillCells (0, .iconst 0, 1) (List.mem_of_getElem? (i := 0) rfl)
theorem dX6_fillCells_1 : decode cX6_fillCells 1 = .ok (.istore_n 1, 1) := DX6_fillCells (1, .istore_n 1, 1) (List.mem_of_getElem? (i := 1) rfl)
theorem dX6_fillCells_2 : decode cX6_fillCells 2 = .ok (.iload_n 1, 1) := DX6_fillCells (2, .iload_n 1, 1) (List.mem_of_getElem? (i := 2) rfl)
theorem dX6_fillCells_3 : decode cX6_fillCells 3 = .ok (.aload_n 0, 1) := DX6_fillCells (3, .aload_n 0, 1) (List.mem_of_getElem? (i := 3) rfl)
theorem dX6_fillCells_4 : decode cX6_fillCells 4 = .ok (.getfield 38, 3) := DX6_fillCells (4, .getfield 38, 3) (List.mem_of_getElem? (i := 4) rfl)
theorem dX6_fillCells_7 : decode cX6_fillCells 7 = .ok (.getfield 150, 3) := DX6_fillCells (7, .getfield 150, 3) (List.mem_of_getElem? (i := 5) rfl)
theorem dX6_fillCells_10 : decode cX6_fillCells 10 = .ok (.if_icmp .ge 73, 3) := DX6_fillCells (10, .if_icmp .ge 73, 3) (List.mem_of_getElem? (i := 6) rfl)
theorem dX6_fillCells_13 : decode cX6_fillCells 13 = .ok (.aload_n 0, 1) := DX6_fillCells (13, .aload_n 0, 1) (List.mem_of_getElem? (i := 7) rfl)
theorem dX6_fillCells_14 : decode cX6_fillCells 14 = .ok (.getfield 21, 3) := DX6_fillCells (14, .getfield 21, 3) (List.mem_of_getElem? (i := 8) rfl)
theorem dX6_fillCells_17 : decode cX6_fillCells 17 = .ok (.iload_n 1, 1) := DX6_fillCells (17, .iload_n 1, 1) (List.mem_of_getElem? (i := 9) rfl)
theorem dX6_fillCells_18 : decode cX6_fillCells 18 = .ok (.aload_n 0, 1) := DX6_fillCells (18, .aload_n 0, 1) (List.mem_of_getElem? (i := 10) rfl)
theorem dX6_fillCells_19 : decode cX6_fillCells 19 = .ok (.getfield 42, 3) := DX6_fillCells (19, .getfield 42, 3) (List.mem_of_getElem? (i := 11) rfl)
theorem dX6_fillCells_22 : decode cX6_fillCells 22 = .ok (.aload_n 0, 1) := DX6_fillCells (22, .aload_n 0, 1) (List.mem_of_getElem? (i := 12) rfl)
theorem dX6_fillCells_23 : decode cX6_fillCells 23 = .ok (.getfield 38, 3) := DX6_fillCells (23, .getfield 38, 3) (List.mem_of_getElem? (i := 13) rfl)
theorem dX6_fillCells_26 : decode cX6_fillCells 26 = .ok (.getfield 153, 3) := DX6_fillCells (26, .getfield 153, 3) (List.mem_of_getElem? (i := 14) rfl)
theorem dX6_fillCells_29 : decode cX6_fillCells 29 = .ok (.iload_n 1, 1) := DX6_fillCells (29, .iload_n 1, 1) (List.mem_of_getElem? (i := 15) rfl)
theorem dX6_fillCells_30 : decode cX6_fillCells 30 = .ok (.iaload, 1) := DX6_fillCells (30, .iaload, 1) (List.mem_of_getElem? (i := 16) rfl)
theorem dX6_fillCells_31 : decode cX6_fillCells 31 = .ok (.aload_n 0, 1) := DX6_fillCells (31, .aload_n 0, 1) (List.mem_of_getElem? (i := 17) rfl)
theorem dX6_fillCells_32 : decode cX6_fillCells 32 = .ok (.getfield 38, 3) := DX6_fillCells (32, .getfield 38, 3) (List.mem_of_getElem? (i := 18) rfl)
theorem dX6_fillCells_35 : decode cX6_fillCells 35 = .ok (.getfield 156, 3) := DX6_fillCells (35, .getfield 156, 3) (List.mem_of_getElem? (i := 19) rfl)
theorem dX6_fillCells_38 : decode cX6_fillCells 38 = .ok (.iload_n 1, 1) := DX6_fillCells (38, .iload_n 1, 1) (List.mem_of_getElem? (i := 20) rfl)
theorem dX6_fillCells_39 : decode cX6_fillCells 39 = .ok (.iaload, 1) := DX6_fillCells (39, .iaload, 1) (List.mem_of_getElem? (i := 21) rfl)
theorem dX6_fillCells_40 : decode cX6_fillCells 40 = .ok (.invokevirtual 144, 3) := DX6_fillCells (40, .invokevirtual 144, 3) (List.mem_of_getElem? (i := 22) rfl)
theorem dX6_fillCells_43 : decode cX6_fillCells 43 = .ok (.iastore, 1) := DX6_fillCells (43, .iastore, 1) (List.mem_of_getElem? (i := 23) rfl)
theorem dX6_fillCells_44 : decode cX6_fillCells 44 = .ok (.aload_n 0, 1) := DX6_fillCells (44, .aload_n 0, 1) (List.mem_of_getElem? (i := 24) rfl)
theorem dX6_fillCells_45 : decode cX6_fillCells 45 = .ok (.getfield 24, 3) := DX6_fillCells (45, .getfield 24, 3) (List.mem_of_getElem? (i := 25) rfl)
theorem dX6_fillCells_48 : decode cX6_fillCells 48 = .ok (.iload_n 1, 1) := DX6_fillCells (48, .iload_n 1, 1) (List.mem_of_getElem? (i := 26) rfl)
theorem dX6_fillCells_49 : decode cX6_fillCells 49 = .ok (.aload_n 0, 1) := DX6_fillCells (49, .aload_n 0, 1) (List.mem_of_getElem? (i := 27) rfl)
theorem dX6_fillCells_50 : decode cX6_fillCells 50 = .ok (.getfield 42, 3) := DX6_fillCells (50, .getfield 42, 3) (List.mem_of_getElem? (i := 28) rfl)
theorem dX6_fillCells_53 : decode cX6_fillCells 53 = .ok (.aload_n 0, 1) := DX6_fillCells (53, .aload_n 0, 1) (List.mem_of_getElem? (i := 29) rfl)
theorem dX6_fillCells_54 : decode cX6_fillCells 54 = .ok (.getfield 38, 3) := DX6_fillCells (54, .getfield 38, 3) (List.mem_of_getElem? (i := 30) rfl)
theorem dX6_fillCells_57 : decode cX6_fillCells 57 = .ok (.getfield 153, 3) := DX6_fillCells (57, .getfield 153, 3) (List.mem_of_getElem? (i := 31) rfl)
theorem dX6_fillCells_60 : decode cX6_fillCells 60 = .ok (.iload_n 1, 1) := DX6_fillCells (60, .iload_n 1, 1) (List.mem_of_getElem? (i := 32) rfl)
theorem dX6_fillCells_61 : decode cX6_fillCells 61 = .ok (.iaload, 1) := DX6_fillCells (61, .iaload, 1) (List.mem_of_getElem? (i := 33) rfl)
theorem dX6_fillCells_62 : decode cX6_fillCells 62 = .ok (.aload_n 0, 1) := DX6_fillCells (62, .aload_n 0, 1) (List.mem_of_getElem? (i := 34) rfl)
theorem dX6_fillCells_63 : decode cX6_fillCells 63 = .ok (.getfield 38, 3) := DX6_fillCells (63, .getfield 38, 3) (List.mem_of_getElem? (i := 35) rfl)
theorem dX6_fillCells_66 : decode cX6_fillCells 66 = .ok (.getfield 156, 3) := DX6_fillCells (66, .getfield 156, 3) (List.mem_of_getElem? (i := 36) rfl)
theorem dX6_fillCells_69 : decode cX6_fillCells 69 = .ok (.iload_n 1, 1) := DX6_fillCells (69, .iload_n 1, 1) (List.mem_of_getElem? (i := 37) rfl)
theorem dX6_fillCells_70 : decode cX6_fillCells 70 = .ok (.iaload, 1) := DX6_fillCells (70, .iaload, 1) (List.mem_of_getElem? (i := 38) rfl)
theorem dX6_fillCells_71 : decode cX6_fillCells 71 = .ok (.iconst 1, 1) := DX6_fillCells (71, .iconst 1, 1) (List.mem_of_getElem? (i := 39) rfl)
theorem dX6_fillCells_72 : decode cX6_fillCells 72 = .ok (.iadd, 1) := DX6_fillCells (72, .iadd, 1) (List.mem_of_getElem? (i := 40) rfl)
theorem dX6_fillCells_73 : decode cX6_fillCells 73 = .ok (.invokevirtual 144, 3) := DX6_fillCells (73, .invokevirtual 144, 3) (List.mem_of_getElem? (i := 41) rfl)
theorem dX6_fillCells_76 : decode cX6_fillCells 76 = .ok (.iastore, 1) := DX6_fillCells (76, .iastore, 1) (List.mem_of_getElem? (i := 42) rfl)
theorem dX6_fillCells_77 : decode cX6_fillCells 77 = .ok (.iinc 1 1, 3) := DX6_fillCells (77, .iinc 1 1, 3) (List.mem_of_getElem? (i := 43) rfl)
theorem dX6_fillCells_80 : decode cX6_fillCells 80 = .ok (.goto (-78), 3) := DX6_fillCells (80, .goto (-78), 3) (List.mem_of_getElem? (i := 44) rfl)
theorem dX6_fillCells_83 : decode cX6_fillCells 83 = .ok (.return_, 1) := DX6_fillCells (83, .return_, 1) (List.mem_of_getElem? (i := 45) rfl)
noncomputable def fX6_fillCells_B2 (l1 : Int32) (σ : Mem) : Option ((Int32 × Mem) ⊕ (Mem)) :=
  if (σ 4 4) ≤ l1 then
    some (.inr σ)
  else
    chk (inb l1 90) <|
    chk (inb l1 90) <|
    (fX1_worth (σ 22 l1.toNatClampNeg) (σ 23 l1.toNatClampNeg) σ).bind fun o1 =>
    chk (inb l1 90) <|
    chk (inb l1 90) <|
    chk (inb l1 90) <|
    (fX1_worth ((up2 o1.2 29 l1.toNatClampNeg o1.1) 22 l1.toNatClampNeg) (((up2 o1.2 29 l1.toNatClampNeg o1.1) 23 l1.toNatClampNeg) + 1) (up2 o1.2 29 l1.toNatClampNeg o1.1)).bind fun o2 =>
    chk (inb l1 90) <|
    some (.inl (l1 + 1, up2 o2.2 30 l1.toNatClampNeg o2.1))
set_option maxHeartbeats 4000000 in
set_option maxRecDepth 100000 in
theorem tX6_fillCells_B2 {E : Gx} {cI : ClassId} {ad : Nat → Nat} (C : Cx E rmX6_fillCells cI layX ad 2 RX6 cX6_fillCells) {out : Mem} (K0 : KV E rmX6_fillCells cI layX ad 2 cX6_fillCells out) {l1 : Int32} {σ : Mem} {res : (Int32 × Mem) ⊕ (Mem)} (h : fX6_fillCells_B2 l1 σ = some res) (K : Sum.elim (fun a => G E rmX6_fillCells cI layX ad 2 2 [(0, .ref (ad 6)), (1, .int a.1)] [] a.2) (fun b => G E rmX6_fillCells cI layX ad 2 83 [] [] b) res) : G E rmX6_fillCells cI layX ad 2 2 [(0, .ref (ad 6)), (1, .int l1)] [] σ := by
  unfold fX6_fillCells_B2 at h
  refine g_iload_n 3 C dX6_fillCells_2 rfl (j := 1) rfl rfl ?_
  refine g_aload_n 4 C dX6_fillCells_3 rfl (j := 0) rfl rfl ?_
  refine g_getr 7 (j := 2) C rfl rfl wu_X6 (by decide) wf_X6_38 rfl dX6_fillCells_4 rfl ?_
  refine g_getiN 10 (j := 4) C rfl rfl wu_X4 (by decide) (List.mem_of_getElem? (i := 42) rfl) rfl dX6_fillCells_7 rfl ?_
  refine g_icmp_ge 83 13 C dX6_fillCells_10 (by decide) rfl h (fun h => ?_) (fun h => ?_)
  · have hh := end_inr h K
    exact g_sub [] (hh) rfl
  · refine g_aload_n 14 C dX6_fillCells_13 rfl (j := 0) rfl rfl ?_
    refine g_getr 17 (j := 7) C rfl rfl wu_X6 (by decide) wf_X6_21 rfl dX6_fillCells_14 rfl ?_
    refine g_iload_n 18 C dX6_fillCells_17 rfl (j := 1) rfl rfl ?_
    refine g_aload_n 19 C dX6_fillCells_18 rfl (j := 0) rfl rfl ?_
    refine g_getr 22 (j := 3) C rfl rfl wu_X6 (by decide) wf_X6_42 rfl dX6_fillCells_19 rfl ?_
    refine g_aload_n 23 C dX6_fillCells_22 rfl (j := 0) rfl rfl ?_
    refine g_getr 26 (j := 2) C rfl rfl wu_X6 (by decide) wf_X6_38 rfl dX6_fillCells_23 rfl ?_
    refine g_getrN 29 (j := 5) C rfl rfl wu_X4 (by decide) (List.mem_of_getElem? (i := 44) rfl) rfl dX6_fillCells_26 rfl ?_
    refine g_iload_n 30 C dX6_fillCells_29 rfl (j := 1) rfl rfl ?_
    refine g_iald 31 C rfl dX6_fillCells_30 rfl h (fun h => ?_)
    refine g_aload_n 32 C dX6_fillCells_31 rfl (j := 0) rfl rfl ?_
    refine g_getr 35 (j := 2) C rfl rfl wu_X6 (by decide) wf_X6_38 rfl dX6_fillCells_32 rfl ?_
    refine g_getrN 38 (j := 6) C rfl rfl wu_X4 (by decide) (List.mem_of_getElem? (i := 46) rfl) rfl dX6_fillCells_35 rfl ?_
    refine g_iload_n 39 C dX6_fillCells_38 rfl (j := 1) rfl rfl ?_
    refine g_iald 40 C rfl dX6_fillCells_39 rfl h (fun h => ?_)
    refine g_cni 43 C (As := [.int (σ 22 l1.toNatClampNeg), .int (σ 23 l1.toNatClampNeg)]) (fun _ h => mX1_worth (a1 := σ 22 l1.toNatClampNeg) (a2 := σ 23 l1.toNatClampNeg) (σ := σ) h) (List.mem_of_getElem? (i := 65) rfl) wi_X1_worth wz_X1_worth wc_X1_worth wn_X1 qX1_worth rfl rfl ⟨Nat.le_of_ble_eq_true rfl, Nat.le_of_ble_eq_true rfl⟩ rfl rfl rfl rfl (Nat.le_of_ble_eq_true rfl) dX6_fillCells_40 rfl h (fun o1 h => ?_)
    refine g_iast 44 C rfl dX6_fillCells_43 rfl h (fun h => ?_)
    refine g_aload_n 45 C dX6_fillCells_44 rfl (j := 0) rfl rfl ?_
    refine g_getr 48 (j := 8) C rfl rfl wu_X6 (by decide) wf_X6_24 rfl dX6_fillCells_45 rfl ?_
    refine g_iload_n 49 C dX6_fillCells_48 rfl (j := 1) rfl rfl ?_
    refine g_aload_n 50 C dX6_fillCells_49 rfl (j := 0) rfl rfl ?_
    refine g_getr 53 (j := 3) C rfl rfl wu_X6 (by decide) wf_X6_42 rfl dX6_fillCells_50 rfl ?_
    refine g_aload_n 54 C dX6_fillCells_53 rfl (j := 0) rfl rfl ?_
    refine g_getr 57 (j := 2) C rfl rfl wu_X6 (by decide) wf_X6_38 rfl dX6_fillCells_54 rfl ?_
    refine g_getrN 60 (j := 5) C rfl rfl wu_X4 (by decide) (List.mem_of_getElem? (i := 44) rfl) rfl dX6_fillCells_57 rfl ?_
    refine g_iload_n 61 C dX6_fillCells_60 rfl (j := 1) rfl rfl ?_
    refine g_iald 62 C rfl dX6_fillCells_61 rfl h (fun h => ?_)
    refine g_aload_n 63 C dX6_fillCells_62 rfl (j := 0) rfl rfl ?_
    refine g_getr 66 (j := 2) C rfl rfl wu_X6 (by decide) wf_X6_38 rfl dX6_fillCells_63 rfl ?_
    refine g_getrN 69 (j := 6) C rfl rfl wu_X4 (by decide) (List.mem_of_getElem? (i := 46) rfl) rfl dX6_fillCells_66 rfl ?_
    refine g_iload_n 70 C dX6_fillCells_69 rfl (j := 1) rfl rfl ?_
    refine g_iald 71 C rfl dX6_fillCells_70 rfl h (fun h => ?_)
    refine g_iconst 72 (v := 1) C dX6_fillCells_71 (by decide) rfl ?_
    refine g_iadd 73 C dX6_fillCells_72 rfl ?_
    refine g_cni 76 C (As := [.int ((up2 o1.2 29 l1.toNatClampNeg o1.1) 22 l1.toNatClampNeg), .int (((up2 o1.2 29 l1.toNatClampNeg o1.1) 23 l1.toNatClampNeg) + 1)]) (fun _ h => mX1_worth (a1 := (up2 o1.2 29 l1.toNatClampNeg o1.1) 22 l1.toNatClampNeg) (a2 := ((up2 o1.2 29 l1.toNatClampNeg o1.1) 23 l1.toNatClampNeg) + 1) (σ := up2 o1.2 29 l1.toNatClampNeg o1.1) h) (List.mem_of_getElem? (i := 65) rfl) wi_X1_worth wz_X1_worth wc_X1_worth wn_X1 qX1_worth rfl rfl ⟨Nat.le_of_ble_eq_true rfl, Nat.le_of_ble_eq_true rfl⟩ rfl rfl rfl rfl (Nat.le_of_ble_eq_true rfl) dX6_fillCells_73 rfl h (fun o2 h => ?_)
    refine g_iast 77 C rfl dX6_fillCells_76 rfl h (fun h => ?_)
    refine g_iinc 80 [(1, .int (l1 + 1)), (0, .ref (ad 6))] C dX6_fillCells_77 (j := 1) rfl (by rfl) (by decide) rfl rfl ?_
    refine g_goto 2 C dX6_fillCells_80 (by decide) ?_
    have hh := end_inl h K
    exact g_sub [1, 0] (hh) rfl
noncomputable def fX6_fillCells_L83 (σ : Mem) : Option (Mem) :=
  some σ
set_option maxHeartbeats 4000000 in
set_option maxRecDepth 100000 in
theorem tX6_fillCells_L83 {E : Gx} {cI : ClassId} {ad : Nat → Nat} (C : Cx E rmX6_fillCells cI layX ad 2 RX6 cX6_fillCells) {out : Mem} (K0 : KV E rmX6_fillCells cI layX ad 2 cX6_fillCells out) {σ : Mem} (h : fX6_fillCells_L83 σ = some out) : G E rmX6_fillCells cI layX ad 2 83 [] [] σ := by
  unfold fX6_fillCells_L83 at h
  cases h
  exact K0 _ _ dX6_fillCells_83
noncomputable def fX6_fillCells (σ : Mem) : Option (Mem) :=
  (loop (fun a => fX6_fillCells_B2 a.1 a.2) (0, σ)).bind fun b3 =>
  fX6_fillCells_L83 b3
set_option maxHeartbeats 4000000 in
set_option maxRecDepth 100000 in
theorem mX6_fillCells {l : Launch} {D : va_G} {cI : ClassId} {ad : Nat → Nat} {σ : Mem} {out : Mem} (h : fX6_fillCells σ = some out) : MV l D cI layX ad yX6_fillCells cX6_fillCells 2 rmX6_fillCells [.ref (ad 6)] σ out := by
  refine met_v (by decide) (Nat.le_of_ble_eq_true rfl) (fun E C K0 => ?_)
  show G E rmX6_fillCells cI layX ad 2 0 [(0, .ref (ad 6))] [] σ
  unfold fX6_fillCells at h
  refine g_iconst 1 (v := 0) C dX6_fillCells_0 (by decide) rfl ?_
  refine g_istore_n 2 [(1, .int 0), (0, .ref (ad 6))] C dX6_fillCells_1 rfl (by decide) rfl rfl ?_
  obtain ⟨b3, hb, h⟩ := bind_some h
  refine g_sub [1, 0] (g_loop (a := (0, σ)) (fun a => G E rmX6_fillCells cI layX ad 2 2 [(0, .ref (ad 6)), (1, .int a.1)] [] a.2) (fun b => G E rmX6_fillCells cI layX ad 2 83 [] [] b) hb (fun a res h K => tX6_fillCells_B2 (l1 := a.1) (σ := a.2) (res := res) C K0 h K) ?_) rfl
  show G E rmX6_fillCells cI layX ad 2 83 [] [] b3
  exact tX6_fillCells_L83 (σ := b3) C K0 h

/-! LoopReducer$Runner.see()V -/
abbrev rmX6_see : Room := { frames := 1, cells := 0, slots := 0, locals := 21 }
theorem qX6_see : yX6_see.cls ≠ "java/lang/invoke/MethodHandle" ∧ yX6_see.cls ≠ "java/lang/invoke/VarHandle" ∧ (parseMethodDescriptor yX6_see.desc).map (fun d => d.parameters.length) = some 0 := by decide +kernel
theorem DX6_see : ∀ q ∈ ([(0, .iconst 0, 1), (1, .istore_n 1, 1), (2, .iload_n 1, 1), (3, .aload_n 0, 1), (4, .getfield 30, 3), (7, .getfield 104, 3), (10, .if_icmp .ge 58, 3), (13, .aload_n 0, 1), (14, .getfield 75, 3), (17, .sipush 400, 3), (20, .if_icmp .ge 48, 3), (23, .aload_n 0, 1), (24, .getfield 30, 3), (27, .getfield 174, 3), (30, .iload_n 1, 1), (31, .invokestatic 135, 3), (34, .ifCond .eq 28, 3), (37, .aload_n 0, 1), (38, .getfield 27, 3), (41, .aload_n 0, 1), (42, .getfield 75, 3), (45, .aload_n 0, 1), (46, .getfield 15, 3), (49, .iload_n 1, 1), (50, .iaload, 1), (51, .iastore, 1), (52, .aload_n 0, 1), (53, .dup, 1), (54, .getfield 75, 3), (57, .iconst 1, 1), (58, .iadd, 1), (59, .putfield 75, 3), (62, .iinc 1 1, 3), (65, .goto (-63), 3), (68, .return_, 1)] : List (Nat × Instr × Nat)), decode cX6_see q.1 = .ok q.2 := by decide +kernel
theorem dX6_see_0 : decode cX6_see 0 = .ok (.iconst 0, 1) := DX6_see (0, .iconst 0, 1) (List.mem_of_getElem? (i := 0) rfl)
theorem dX6_see_1 : decode cX6_see 1 = .ok (.istore_n 1, 1) := DX6_see (1, .istore_n 1, 1) (List.mem_of_getElem? (i := 1) rfl)
theorem dX6_see_2 : decode cX6_see 2 = .ok (.iload_n 1, 1) := DX6_see (2, .iload_n 1, 1) (List.mem_of_getElem? (i := 2) rfl)
theorem dX6_see_3 : decode cX6_see 3 = .ok (.aload_n 0, 1) := DX6_see (3, .aload_n 0, 1) (List.mem_of_getElem? (i := 3) rfl)
theorem dX6_see_4 : decode cX6_see 4 = .ok (.getfield 30, 3) := DX6_see (4, .getfield 30, 3) (List.mem_of_getElem? (i := 4) rfl)
theorem dX6_see_7 : decode cX6_see 7 = .ok (.getfield 104, 3) := DX6_see (7, .getfield 104, 3) (List.mem_of_getElem? (i := 5) rfl)
theorem dX6_see_10 : decode cX6_see 10 = .ok (.if_icmp .ge 58, 3) := DX6_see (10, .if_icmp .ge 58, 3) (List.mem_of_getElem? (i := 6) rfl)
theorem dX6_see_13 : decode cX6_see 13 = .ok (.aload_n 0, 1) := DX6_see (13, .aload_n 0, 1) (List.mem_of_getElem? (i := 7) rfl)
theorem dX6_see_14 : decode cX6_see 14 = .ok (.getfield 75, 3) := DX6_see (14, .getfield 75, 3) (List.mem_of_getElem? (i := 8) rfl)
theorem dX6_see_17 : decode cX6_see 17 = .ok (.sipush 400, 3) := DX6_see (17, .sipush 400, 3) (List.mem_of_getElem? (i := 9) rfl)
theorem dX6_see_20 : decode cX6_see 20 = .ok (.if_icmp .ge 48, 3) := DX6_see (20, .if_icmp .ge 48, 3) (List.mem_of_getElem? (i := 10) rfl)
theorem dX6_see_23 : decode cX6_see 23 = .ok (.aload_n 0, 1) := DX6_see (23, .aload_n 0, 1) (List.mem_of_getElem? (i := 11) rfl)
theorem dX6_see_24 : decode cX6_see 24 = .ok (.getfield 30, 3) := DX6_see (24, .getfield 30, 3) (List.mem_of_getElem? (i := 12) rfl)
theorem dX6_see_27 : decode cX6_see 27 = .ok (.getfield 174, 3) := DX6_see (27, .getfield 174, 3) (List.mem_of_getElem? (i := 13) rfl)
theorem dX6_see_30 : decode cX6_see 30 = .ok (.iload_n 1, 1) := DX6_see (30, .iload_n 1, 1) (List.mem_of_getElem? (i := 14) rfl)
theorem dX6_see_31 : decode cX6_see 31 = .ok (.invokestatic 135, 3) := DX6_see (31, .invokestatic 135, 3) (List.mem_of_getElem? (i := 15) rfl)
theorem dX6_see_34 : decode cX6_see 34 = .ok (.ifCond .eq 28, 3) := DX6_see (34, .ifCond .eq 28, 3) (List.mem_of_getElem? (i := 16) rfl)
theorem dX6_see_37 : decode cX6_see 37 = .ok (.aload_n 0, 1) := DX6_see (37, .aload_n 0, 1) (List.mem_of_getElem? (i := 17) rfl)
theorem dX6_see_38 : decode cX6_see 38 = .ok (.getfield 27, 3) := DX6_see (38, .getfield 27, 3) (List.mem_of_getElem? (i := 18) rfl)
theorem dX6_see_41 : decode cX6_see 41 = .ok (.aload_n 0, 1) := DX6_see (41, .aload_n 0, 1) (List.mem_of_getElem? (i := 19) rfl)
theorem dX6_see_42 : decode cX6_see 42 = .ok (.getfield 75, 3) := DX6_see (42, .getfield 75, 3) (List.mem_of_getElem? (i := 20) rfl)
theorem dX6_see_45 : decode cX6_see 45 = .ok (.aload_n 0, 1) := DX6_see (45, .aload_n 0, 1) (List.mem_of_getElem? (i := 21) rfl)
theorem dX6_see_46 : decode cX6_see 46 = .ok (.getfield 15, 3) := DX6_see (46, .getfield 15, 3) (List.mem_of_getElem? (i := 22) rfl)
theorem dX6_see_49 : decode cX6_see 49 = .ok (.iload_n 1, 1) := DX6_see (49, .iload_n 1, 1) (List.mem_of_getElem? (i := 23) rfl)
theorem dX6_see_50 : decode cX6_see 50 = .ok (.iaload, 1) := DX6_see (50, .iaload, 1) (List.mem_of_getElem? (i := 24) rfl)
theorem dX6_see_51 : decode cX6_see 51 = .ok (.iastore, 1) := DX6_see (51, .iastore, 1) (List.mem_of_getElem? (i := 25) rfl)
theorem dX6_see_52 : decode cX6_see 52 = .ok (.aload_n 0, 1) := DX6_see (52, .aload_n 0, 1) (List.mem_of_getElem? (i := 26) rfl)
theorem dX6_see_53 : decode cX6_see 53 = .ok (.dup, 1) := DX6_see (53, .dup, 1) (List.mem_of_getElem? (i := 27) rfl)
theorem dX6_see_54 : decode cX6_see 54 = .ok (.getfield 75, 3) := DX6_see (54, .getfield 75, 3) (List.mem_of_getElem? (i := 28) rfl)
theorem dX6_see_57 : decode cX6_see 57 = .ok (.iconst 1, 1) := DX6_see (57, .iconst 1, 1) (List.mem_of_getElem? (i := 29) rfl)
theorem dX6_see_58 : decode cX6_see 58 = .ok (.iadd, 1) := DX6_see (58, .iadd, 1) (List.mem_of_getElem? (i := 30) rfl)
theorem dX6_see_59 : decode cX6_see 59 = .ok (.putfield 75, 3) := DX6_see (59, .putfield 75, 3) (List.mem_of_getElem? (i := 31) rfl)
theorem dX6_see_62 : decode cX6_see 62 = .ok (.iinc 1 1, 3) := DX6_see (62, .iinc 1 1, 3) (List.mem_of_getElem? (i := 32) rfl)
theorem dX6_see_65 : decode cX6_see 65 = .ok (.goto (-63), 3) := DX6_see (65, .goto (-63), 3) (List.mem_of_getElem? (i := 33) rfl)
theorem dX6_see_68 : decode cX6_see 68 = .ok (.return_, 1) := DX6_see (68, .return_, 1) (List.mem_of_getElem? (i := 34) rfl)
noncomputable def fX6_see_L62 (l1 : Int32) (σ : Mem) : Option ((Int32 × Mem) ⊕ (Mem)) :=
  some (.inl (l1 + 1, σ))
set_option maxHeartbeats 4000000 in
set_option maxRecDepth 100000 in
theorem tX6_see_L62 {E : Gx} {cI : ClassId} {ad : Nat → Nat} (C : Cx E rmX6_see cI layX ad 2 RX6 cX6_see) {out : Mem} (K0 : KV E rmX6_see cI layX ad 2 cX6_see out) {l1 : Int32} {σ : Mem} {res : (Int32 × Mem) ⊕ (Mem)} (h : fX6_see_L62 l1 σ = some res) (K : Sum.elim (fun a => G E rmX6_see cI layX ad 2 2 [(0, .ref (ad 6)), (1, .int a.1)] [] a.2) (fun b => G E rmX6_see cI layX ad 2 68 [] [] b) res) : G E rmX6_see cI layX ad 2 62 [(0, .ref (ad 6)), (1, .int l1)] [] σ := by
  unfold fX6_see_L62 at h
  refine g_iinc 65 [(1, .int (l1 + 1)), (0, .ref (ad 6))] C dX6_see_62 (j := 1) rfl (by rfl) (by decide) rfl rfl ?_
  refine g_goto 2 C dX6_see_65 (by decide) ?_
  have hh := end_inl h K
  exact g_sub [1, 0] (hh) rfl
noncomputable def fX6_see_B2 (l1 : Int32) (σ : Mem) : Option ((Int32 × Mem) ⊕ (Mem)) :=
  if (σ 3 4) ≤ l1 then
    some (.inr σ)
  else
    if 400 ≤ (σ 6 10) then
      some (.inr σ)
    else
      (fX7_isIn (σ 3 7) l1 σ).bind fun o1 =>
      if o1.1 = 0 then
        fX6_see_L62 l1 o1.2
      else
        chk (inb l1 30) <|
        chk (inb (o1.2 6 10) 400) <|
        fX6_see_L62 l1 (up2 (up2 o1.2 31 (o1.2 6 10).toNatClampNeg (o1.2 27 l1.toNatClampNeg)) 6 10 (((up2 o1.2 31 (o1.2 6 10).toNatClampNeg (o1.2 27 l1.toNatClampNeg)) 6 10) + 1))
set_option maxHeartbeats 4000000 in
set_option maxRecDepth 100000 in
theorem tX6_see_B2 {E : Gx} {cI : ClassId} {ad : Nat → Nat} (C : Cx E rmX6_see cI layX ad 2 RX6 cX6_see) {out : Mem} (K0 : KV E rmX6_see cI layX ad 2 cX6_see out) {l1 : Int32} {σ : Mem} {res : (Int32 × Mem) ⊕ (Mem)} (h : fX6_see_B2 l1 σ = some res) (K : Sum.elim (fun a => G E rmX6_see cI layX ad 2 2 [(0, .ref (ad 6)), (1, .int a.1)] [] a.2) (fun b => G E rmX6_see cI layX ad 2 68 [] [] b) res) : G E rmX6_see cI layX ad 2 2 [(0, .ref (ad 6)), (1, .int l1)] [] σ := by
  unfold fX6_see_B2 at h
  refine g_iload_n 3 C dX6_see_2 rfl (j := 1) rfl rfl ?_
  refine g_aload_n 4 C dX6_see_3 rfl (j := 0) rfl rfl ?_
  refine g_getr 7 (j := 0) C rfl rfl wu_X6 (by decide) wf_X6_30 rfl dX6_see_4 rfl ?_
  refine g_getiN 10 (j := 4) C rfl rfl wu_X3 (by decide) (List.mem_of_getElem? (i := 16) rfl) rfl dX6_see_7 rfl ?_
  refine g_icmp_ge 68 13 C dX6_see_10 (by decide) rfl h (fun h => ?_) (fun h => ?_)
  · have hh := end_inr h K
    exact g_sub [] (hh) rfl
  · refine g_aload_n 14 C dX6_see_13 rfl (j := 0) rfl rfl ?_
    refine g_geti 17 (j := 10) C rfl rfl wu_X6 (by decide) wf_X6_75 rfl dX6_see_14 rfl ?_
    refine g_sipush 20 (v := 400) C dX6_see_17 (by decide) rfl ?_
    refine g_icmp_ge 68 23 C dX6_see_20 (by decide) rfl h (fun h => ?_) (fun h => ?_)
    · have hh := end_inr h K
      exact g_sub [] (hh) rfl
    · refine g_aload_n 24 C dX6_see_23 rfl (j := 0) rfl rfl ?_
      refine g_getr 27 (j := 0) C rfl rfl wu_X6 (by decide) wf_X6_30 rfl dX6_see_24 rfl ?_
      refine g_getiN 30 (j := 7) C rfl rfl wu_X3 (by decide) (List.mem_of_getElem? (i := 20) rfl) rfl dX6_see_27 rfl ?_
      refine g_iload_n 31 C dX6_see_30 rfl (j := 1) rfl rfl ?_
      refine g_cti 34 C (As := [.int (σ 3 7), .int l1]) (fun _ h => mX7_isIn (a1 := σ 3 7) (a2 := l1) (σ := σ) h) (List.mem_of_getElem? (i := 59) rfl) ws_X7_isIn wc_X7_isIn wn_X7 qX7_isIn rfl rfl ⟨Nat.le_of_ble_eq_true rfl, Nat.le_of_ble_eq_true rfl⟩ rfl rfl (Nat.le_of_ble_eq_true rfl) dX6_see_31 rfl h (fun o1 h => ?_)
      refine g_if_eq 62 37 C dX6_see_34 (by decide) rfl h (fun h => ?_) (fun h => ?_)
      · exact tX6_see_L62 (l1 := l1) (σ := o1.2) C K0 h K
      · refine g_aload_n 38 C dX6_see_37 rfl (j := 0) rfl rfl ?_
        refine g_getr 41 (j := 9) C rfl rfl wu_X6 (by decide) wf_X6_27 rfl dX6_see_38 rfl ?_
        refine g_aload_n 42 C dX6_see_41 rfl (j := 0) rfl rfl ?_
        refine g_geti 45 (j := 10) C rfl rfl wu_X6 (by decide) wf_X6_75 rfl dX6_see_42 rfl ?_
        refine g_aload_n 46 C dX6_see_45 rfl (j := 0) rfl rfl ?_
        refine g_getr 49 (j := 5) C rfl rfl wu_X6 (by decide) wf_X6_15 rfl dX6_see_46 rfl ?_
        refine g_iload_n 50 C dX6_see_49 rfl (j := 1) rfl rfl ?_
        refine g_iald 51 C rfl dX6_see_50 rfl h (fun h => ?_)
        refine g_iast 52 C rfl dX6_see_51 rfl h (fun h => ?_)
        refine g_aload_n 53 C dX6_see_52 rfl (j := 0) rfl rfl ?_
        refine g_dup 54 C dX6_see_53 rfl rfl ?_
        refine g_geti 57 (j := 10) C rfl rfl wu_X6 (by decide) wf_X6_75 rfl dX6_see_54 rfl ?_
        refine g_iconst 58 (v := 1) C dX6_see_57 (by decide) rfl ?_
        refine g_iadd 59 C dX6_see_58 rfl ?_
        refine g_puti 62 (j := 10) C rfl rfl wu_X6 (by decide) wf_X6_75 tyX6 tyX6_ok nmX6 rfl rfl rfl rfl dX6_see_59 rfl ?_
        exact tX6_see_L62 (l1 := l1) (σ := up2 (up2 o1.2 31 (o1.2 6 10).toNatClampNeg (o1.2 27 l1.toNatClampNeg)) 6 10 (((up2 o1.2 31 (o1.2 6 10).toNatClampNeg (o1.2 27 l1.toNatClampNeg)) 6 10) + 1)) C K0 h K
noncomputable def fX6_see_L68 (σ : Mem) : Option (Mem) :=
  some σ
set_option maxHeartbeats 4000000 in
set_option maxRecDepth 100000 in
theorem tX6_see_L68 {E : Gx} {cI : ClassId} {ad : Nat → Nat} (C : Cx E rmX6_see cI layX ad 2 RX6 cX6_see) {out : Mem} (K0 : KV E rmX6_see cI layX ad 2 cX6_see out) {σ : Mem} (h : fX6_see_L68 σ = some out) : G E rmX6_see cI layX ad 2 68 [] [] σ := by
  unfold fX6_see_L68 at h
  cases h
  exact K0 _ _ dX6_see_68
noncomputable def fX6_see (σ : Mem) : Option (Mem) :=
  (loop (fun a => fX6_see_B2 a.1 a.2) (0, σ)).bind fun b2 =>
  fX6_see_L68 b2
set_option maxHeartbeats 4000000 in
set_option maxRecDepth 100000 in
theorem mX6_see {l : Launch} {D : va_G} {cI : ClassId} {ad : Nat → Nat} {σ : Mem} {out : Mem} (h : fX6_see σ = some out) : MV l D cI layX ad yX6_see cX6_see 2 rmX6_see [.ref (ad 6)] σ out := by
  refine met_v (by decide) (Nat.le_of_ble_eq_true rfl) (fun E C K0 => ?_)
  show G E rmX6_see cI layX ad 2 0 [(0, .ref (ad 6))] [] σ
  unfold fX6_see at h
  refine g_iconst 1 (v := 0) C dX6_see_0 (by decide) rfl ?_
  refine g_istore_n 2 [(1, .int 0), (0, .ref (ad 6))] C dX6_see_1 rfl (by decide) rfl rfl ?_
  obtain ⟨b2, hb, h⟩ := bind_some h
  refine g_sub [1, 0] (g_loop (a := (0, σ)) (fun a => G E rmX6_see cI layX ad 2 2 [(0, .ref (ad 6)), (1, .int a.1)] [] a.2) (fun b => G E rmX6_see cI layX ad 2 68 [] [] b) hb (fun a res h K => tX6_see_B2 (l1 := a.1) (σ := a.2) (res := res) C K0 h K) ?_) rfl
  show G E rmX6_see cI layX ad 2 68 [] [] b2
  exact tX6_see_L68 (σ := b2) C K0 h

/-! LoopReducer$Runner.carryInto(IZ)V -/
abbrev rmX6_carryInto : Room := { frames := 2, cells := 0, slots := 0, locals := 43 }
theorem qX6_carryInto : yX6_carryInto.cls ≠ "java/lang/invoke/MethodHandle" ∧ yX6_carryInto.cls ≠ "java/lang/invoke/VarHandle" ∧ (parseMethodDescriptor yX6_carryInto.desc).map (fun d => d.parameters.length) = some 2 := by decide +kernel
theorem DX6_carryInto : ∀ q ∈ ([(0, .iconst 0, 1), (1, .istore_n 3, 1), (2, .iload_n 3, 1), (3, .aload_n 0, 1), (4, .getfield 30, 3), (7, .getfield 104, 3), (10, .if_icmp .ge 66, 3), (13, .aload_n 0, 1), (14, .getfield 30, 3), (17, .getfield 55, 3), (20, .iload_n 3, 1), (21, .iaload, 1), (22, .iconst 5, 1), (23, .if_icmp .ne 47, 3), (26, .iload_n 2, 1), (27, .ifCond .eq 11, 3), (30, .aload_n 0, 1), (31, .iload_n 3, 1), (32, .invokevirtual 107, 3), (35, .ifCond .eq 35, 3), (38, .aload_n 0, 1), (39, .getfield 15, 3), (42, .iload_n 3, 1), (43, .iload_n 1, 1), (44, .ifCond .ne 11, 3), (47, .aload_n 0, 1), (48, .iload_n 3, 1), (49, .invokevirtual 111, 3), (52, .goto 17, 3), (55, .aload_n 0, 1), (56, .getfield 18, 3), (59, .aload_n 0, 1), (60, .getfield 30, 3), (63, .getfield 114, 3), (66, .iload_n 3, 1), (67, .iaload, 1), (68, .iaload, 1), (69, .iastore, 1), (70, .iinc 3 1, 3), (73, .goto (-71), 3), (76, .return_, 1)] : List (Nat × Instr × Nat)), decode cX6_carryInto q.1 = .ok q.2 := by decide +kernel
theorem dX6_carryInto_0 : decode cX6_carryInto 0 = .ok (.iconst 0, 1) := DX6_carryInto (0, .iconst 0, 1) (List.mem_of_getElem? (i := 0) rfl)
theorem dX6_carryInto_1 : decode cX6_carryInto 1 = .ok (.istore_n 3, 1) := DX6_carryInto (1, .istore_n 3, 1) (List.mem_of_getElem? (i := 1) rfl)
theorem dX6_carryInto_2 : decode cX6_carryInto 2 = .ok (.iload_n 3, 1) := DX6_carryInto (2, .iload_n 3, 1) (List.mem_of_getElem? (i := 2) rfl)
theorem dX6_carryInto_3 : decode cX6_carryInto 3 = .ok (.aload_n 0, 1) := DX6_carryInto (3, .aload_n 0, 1) (List.mem_of_getElem? (i := 3) rfl)
theorem dX6_carryInto_4 : decode cX6_carryInto 4 = .ok (.getfield 30, 3) := DX6_carryInto (4, .getfield 30, 3) (List.mem_of_getElem? (i := 4) rfl)
theorem dX6_carryInto_7 : decode cX6_carryInto 7 = .ok (.getfield 104, 3) := DX6_carryInto (7, .getfield 104, 3) (List.mem_of_getElem? (i := 5) rfl)
theorem dX6_carryInto_10 : decode cX6_carryInto 10 = .ok (.if_icmp .ge 66, 3) := DX6_carryInto (10, .if_icmp .ge 66, 3) (List.mem_of_getElem? (i := 6) rfl)
theorem dX6_carryInto_13 : decode cX6_carryInto 13 = .ok (.aload_n 0, 1) := DX6_carryInto (13, .aload_n 0, 1) (List.mem_of_getElem? (i := 7) rfl)
theorem dX6_carryInto_14 : decode cX6_carryInto 14 = .ok (.getfield 30, 3) := DX6_carryInto (14, .getfield 30, 3) (List.mem_of_getElem? (i := 8) rfl)
theorem dX6_carryInto_17 : decode cX6_carryInto 17 = .ok (.getfield 55, 3) := DX6_carryInto (17, .getfield 55, 3) (List.mem_of_getElem? (i := 9) rfl)
theorem dX6_carryInto_20 : decode cX6_carryInto 20 = .ok (.iload_n 3, 1) := DX6_carryInto (20, .iload_n 3, 1) (List.mem_of_getElem? (i := 10) rfl)
theorem dX6_carryInto_21 : decode cX6_carryInto 21 = .ok (.iaload, 1) := DX6_carryInto (21, .iaload, 1) (List.mem_of_getElem? (i := 11) rfl)
theorem dX6_carryInto_22 : decode cX6_carryInto 22 = .ok (.iconst 5, 1) := DX6_carryInto (22, .iconst 5, 1) (List.mem_of_getElem? (i := 12) rfl)
theorem dX6_carryInto_23 : decode cX6_carryInto 23 = .ok (.if_icmp .ne 47, 3) := DX6_carryInto (23, .if_icmp .ne 47, 3) (List.mem_of_getElem? (i := 13) rfl)
theorem dX6_carryInto_26 : decode cX6_carryInto 26 = .ok (.iload_n 2, 1) := DX6_carryInto (26, .iload_n 2, 1) (List.mem_of_getElem? (i := 14) rfl)
theorem dX6_carryInto_27 : decode cX6_carryInto 27 = .ok (.ifCond .eq 11, 3) := DX6_carryInto (27, .ifCond .eq 11, 3) (List.mem_of_getElem? (i := 15) rfl)
theorem dX6_carryInto_30 : decode cX6_carryInto 30 = .ok (.aload_n 0, 1) := DX6_carryInto (30, .aload_n 0, 1) (List.mem_of_getElem? (i := 16) rfl)
theorem dX6_carryInto_31 : decode cX6_carryInto 31 = .ok (.iload_n 3, 1) := DX6_carryInto (31, .iload_n 3, 1) (List.mem_of_getElem? (i := 17) rfl)
theorem dX6_carryInto_32 : decode cX6_carryInto 32 = .ok (.invokevirtual 107, 3) := DX6_carryInto (32, .invokevirtual 107, 3) (List.mem_of_getElem? (i := 18) rfl)
theorem dX6_carryInto_35 : decode cX6_carryInto 35 = .ok (.ifCond .eq 35, 3) := DX6_carryInto (35, .ifCond .eq 35, 3) (List.mem_of_getElem? (i := 19) rfl)
theorem dX6_carryInto_38 : decode cX6_carryInto 38 = .ok (.aload_n 0, 1) := DX6_carryInto (38, .aload_n 0, 1) (List.mem_of_getElem? (i := 20) rfl)
theorem dX6_carryInto_39 : decode cX6_carryInto 39 = .ok (.getfield 15, 3) := DX6_carryInto (39, .getfield 15, 3) (List.mem_of_getElem? (i := 21) rfl)
theorem dX6_carryInto_42 : decode cX6_carryInto 42 = .ok (.iload_n 3, 1) := DX6_carryInto (42, .iload_n 3, 1) (List.mem_of_getElem? (i := 22) rfl)
theorem dX6_carryInto_43 : decode cX6_carryInto 43 = .ok (.iload_n 1, 1) := DX6_carryInto (43, .iload_n 1, 1) (List.mem_of_getElem? (i := 23) rfl)
theorem dX6_carryInto_44 : decode cX6_carryInto 44 = .ok (.ifCond .ne 11, 3) := DX6_carryInto (44, .ifCond .ne 11, 3) (List.mem_of_getElem? (i := 24) rfl)
theorem dX6_carryInto_47 : decode cX6_carryInto 47 = .ok (.aload_n 0, 1) := DX6_carryInto (47, .aload_n 0, 1) (List.mem_of_getElem? (i := 25) rfl)
theorem dX6_carryInto_48 : decode cX6_carryInto 48 = .ok (.iload_n 3, 1) := DX6_carryInto (48, .iload_n 3, 1) (List.mem_of_getElem? (i := 26) rfl)
theorem dX6_carryInto_49 : decode cX6_carryInto 49 = .ok (.invokevirtual 111, 3) := DX6_carryInto (49, .invokevirtual 111, 3) (List.mem_of_getElem? (i := 27) rfl)
theorem dX6_carryInto_52 : decode cX6_carryInto 52 = .ok (.goto 17, 3) := DX6_carryInto (52, .goto 17, 3) (List.mem_of_getElem? (i := 28) rfl)
theorem dX6_carryInto_55 : decode cX6_carryInto 55 = .ok (.aload_n 0, 1) := DX6_carryInto (55, .aload_n 0, 1) (List.mem_of_getElem? (i := 29) rfl)
theorem dX6_carryInto_56 : decode cX6_carryInto 56 = .ok (.getfield 18, 3) := DX6_carryInto (56, .getfield 18, 3) (List.mem_of_getElem? (i := 30) rfl)
theorem dX6_carryInto_59 : decode cX6_carryInto 59 = .ok (.aload_n 0, 1) := DX6_carryInto (59, .aload_n 0, 1) (List.mem_of_getElem? (i := 31) rfl)
theorem dX6_carryInto_60 : decode cX6_carryInto 60 = .ok (.getfield 30, 3) := DX6_carryInto (60, .getfield 30, 3) (List.mem_of_getElem? (i := 32) rfl)
theorem dX6_carryInto_63 : decode cX6_carryInto 63 = .ok (.getfield 114, 3) := DX6_carryInto (63, .getfield 114, 3) (List.mem_of_getElem? (i := 33) rfl)
theorem dX6_carryInto_66 : decode cX6_carryInto 66 = .ok (.iload_n 3, 1) := DX6_carryInto (66, .iload_n 3, 1) (List.mem_of_getElem? (i := 34) rfl)
theorem dX6_carryInto_67 : decode cX6_carryInto 67 = .ok (.iaload, 1) := DX6_carryInto (67, .iaload, 1) (List.mem_of_getElem? (i := 35) rfl)
theorem dX6_carryInto_68 : decode cX6_carryInto 68 = .ok (.iaload, 1) := DX6_carryInto (68, .iaload, 1) (List.mem_of_getElem? (i := 36) rfl)
theorem dX6_carryInto_69 : decode cX6_carryInto 69 = .ok (.iastore, 1) := DX6_carryInto (69, .iastore, 1) (List.mem_of_getElem? (i := 37) rfl)
theorem dX6_carryInto_70 : decode cX6_carryInto 70 = .ok (.iinc 3 1, 3) := DX6_carryInto (70, .iinc 3 1, 3) (List.mem_of_getElem? (i := 38) rfl)
theorem dX6_carryInto_73 : decode cX6_carryInto 73 = .ok (.goto (-71), 3) := DX6_carryInto (73, .goto (-71), 3) (List.mem_of_getElem? (i := 39) rfl)
theorem dX6_carryInto_76 : decode cX6_carryInto 76 = .ok (.return_, 1) := DX6_carryInto (76, .return_, 1) (List.mem_of_getElem? (i := 40) rfl)
noncomputable def fX6_carryInto_L70 (l1 : Int32) (l2 : Int32) (l3 : Int32) (σ : Mem) : Option ((Int32 × Mem) ⊕ (Mem)) :=
  some (.inl (l3 + 1, σ))
set_option maxHeartbeats 4000000 in
set_option maxRecDepth 100000 in
theorem tX6_carryInto_L70 {E : Gx} {cI : ClassId} {ad : Nat → Nat} (C : Cx E rmX6_carryInto cI layX ad 4 RX6 cX6_carryInto) {out : Mem} (K0 : KV E rmX6_carryInto cI layX ad 4 cX6_carryInto out) {l1 : Int32} {l2 : Int32} {l3 : Int32} {σ : Mem} {res : (Int32 × Mem) ⊕ (Mem)} (h : fX6_carryInto_L70 l1 l2 l3 σ = some res) (K : Sum.elim (fun a => G E rmX6_carryInto cI layX ad 4 2 [(0, .ref (ad 6)), (1, .int l1), (2, .int l2), (3, .int a.1)] [] a.2) (fun b => G E rmX6_carryInto cI layX ad 4 76 [] [] b) res) : G E rmX6_carryInto cI layX ad 4 70 [(0, .ref (ad 6)), (1, .int l1), (2, .int l2), (3, .int l3)] [] σ := by
  unfold fX6_carryInto_L70 at h
  refine g_iinc 73 [(3, .int (l3 + 1)), (0, .ref (ad 6)), (1, .int l1), (2, .int l2)] C dX6_carryInto_70 (j := 3) rfl (by rfl) (by decide) rfl rfl ?_
  refine g_goto 2 C dX6_carryInto_73 (by decide) ?_
  have hh := end_inl h K
  exact g_sub [1, 2, 3, 0] (hh) rfl
noncomputable def fX6_carryInto_L69 (l1 : Int32) (l2 : Int32) (l3 : Int32) (s1 : Int32) (s2 : Int32) (σ : Mem) : Option ((Int32 × Mem) ⊕ (Mem)) :=
  chk (inb s1 30) <|
  fX6_carryInto_L70 l1 l2 l3 (up2 σ 27 s1.toNatClampNeg s2)
set_option maxHeartbeats 4000000 in
set_option maxRecDepth 100000 in
theorem tX6_carryInto_L69 {E : Gx} {cI : ClassId} {ad : Nat → Nat} (C : Cx E rmX6_carryInto cI layX ad 4 RX6 cX6_carryInto) {out : Mem} (K0 : KV E rmX6_carryInto cI layX ad 4 cX6_carryInto out) {l1 : Int32} {l2 : Int32} {l3 : Int32} {s1 : Int32} {s2 : Int32} {σ : Mem} {res : (Int32 × Mem) ⊕ (Mem)} (h : fX6_carryInto_L69 l1 l2 l3 s1 s2 σ = some res) (K : Sum.elim (fun a => G E rmX6_carryInto cI layX ad 4 2 [(0, .ref (ad 6)), (1, .int l1), (2, .int l2), (3, .int a.1)] [] a.2) (fun b => G E rmX6_carryInto cI layX ad 4 76 [] [] b) res) : G E rmX6_carryInto cI layX ad 4 69 [(0, .ref (ad 6)), (1, .int l1), (2, .int l2), (3, .int l3)] [.int s2, .int s1, .ref (ad 27)] σ := by
  unfold fX6_carryInto_L69 at h
  refine g_iast 70 C rfl dX6_carryInto_69 rfl h (fun h => ?_)
  exact tX6_carryInto_L70 (l1 := l1) (l2 := l2) (l3 := l3) (σ := up2 σ 27 s1.toNatClampNeg s2) C K0 h K
noncomputable def fX6_carryInto_L38 (l1 : Int32) (l2 : Int32) (l3 : Int32) (σ : Mem) : Option ((Int32 × Mem) ⊕ (Mem)) :=
  if l1 = 0 then
    (fX6_startOf l3 σ).bind fun o1 =>
    fX6_carryInto_L69 l1 l2 l3 l3 o1.1 o1.2
  else
    chk (inb l3 30) <|
    chk (inb (σ 10 l3.toNatClampNeg) 30) <|
    fX6_carryInto_L69 l1 l2 l3 l3 (σ 28 (σ 10 l3.toNatClampNeg).toNatClampNeg) σ
set_option maxHeartbeats 4000000 in
set_option maxRecDepth 100000 in
theorem tX6_carryInto_L38 {E : Gx} {cI : ClassId} {ad : Nat → Nat} (C : Cx E rmX6_carryInto cI layX ad 4 RX6 cX6_carryInto) {out : Mem} (K0 : KV E rmX6_carryInto cI layX ad 4 cX6_carryInto out) {l1 : Int32} {l2 : Int32} {l3 : Int32} {σ : Mem} {res : (Int32 × Mem) ⊕ (Mem)} (h : fX6_carryInto_L38 l1 l2 l3 σ = some res) (K : Sum.elim (fun a => G E rmX6_carryInto cI layX ad 4 2 [(0, .ref (ad 6)), (1, .int l1), (2, .int l2), (3, .int a.1)] [] a.2) (fun b => G E rmX6_carryInto cI layX ad 4 76 [] [] b) res) : G E rmX6_carryInto cI layX ad 4 38 [(0, .ref (ad 6)), (1, .int l1), (2, .int l2), (3, .int l3)] [] σ := by
  unfold fX6_carryInto_L38 at h
  refine g_aload_n 39 C dX6_carryInto_38 rfl (j := 0) rfl rfl ?_
  refine g_getr 42 (j := 5) C rfl rfl wu_X6 (by decide) wf_X6_15 rfl dX6_carryInto_39 rfl ?_
  refine g_iload_n 43 C dX6_carryInto_42 rfl (j := 3) rfl rfl ?_
  refine g_iload_n 44 C dX6_carryInto_43 rfl (j := 1) rfl rfl ?_
  refine g_if_ne 55 47 C dX6_carryInto_44 (by decide) rfl h (fun h => ?_) (fun h => ?_)
  · refine g_aload_n 48 C dX6_carryInto_47 rfl (j := 0) rfl rfl ?_
    refine g_iload_n 49 C dX6_carryInto_48 rfl (j := 3) rfl rfl ?_
    refine g_cvi 52 C (As := [.int l3]) (fun _ h => mX6_startOf (a1 := l3) (σ := σ) h) wl_X6_111 wi_X6_startOf wz_X6_startOf wc_X6_startOf wn_X6 qX6_startOf rfl rfl ⟨Nat.le_of_ble_eq_true rfl, Nat.le_of_ble_eq_true rfl⟩ rfl rfl rfl rfl (Nat.le_of_ble_eq_true rfl) dX6_carryInto_49 rfl h (fun o1 h => ?_)
    refine g_goto 69 C dX6_carryInto_52 (by decide) ?_
    exact tX6_carryInto_L69 (l1 := l1) (l2 := l2) (l3 := l3) (s1 := l3) (s2 := o1.1) (σ := o1.2) C K0 h K
  · refine g_aload_n 56 C dX6_carryInto_55 rfl (j := 0) rfl rfl ?_
    refine g_getr 59 (j := 6) C rfl rfl wu_X6 (by decide) wf_X6_18 rfl dX6_carryInto_56 rfl ?_
    refine g_aload_n 60 C dX6_carryInto_59 rfl (j := 0) rfl rfl ?_
    refine g_getr 63 (j := 0) C rfl rfl wu_X6 (by decide) wf_X6_30 rfl dX6_carryInto_60 rfl ?_
    refine g_getrN 66 (j := 3) C rfl rfl wu_X3 (by decide) (List.mem_of_getElem? (i := 12) rfl) rfl dX6_carryInto_63 rfl ?_
    refine g_iload_n 67 C dX6_carryInto_66 rfl (j := 3) rfl rfl ?_
    refine g_iald 68 C rfl dX6_carryInto_67 rfl h (fun h => ?_)
    refine g_iald 69 C rfl dX6_carryInto_68 rfl h (fun h => ?_)
    exact tX6_carryInto_L69 (l1 := l1) (l2 := l2) (l3 := l3) (s1 := l3) (s2 := (σ 28 (σ 10 l3.toNatClampNeg).toNatClampNeg)) (σ := σ) C K0 h K
noncomputable def fX6_carryInto_B2 (l1 : Int32) (l2 : Int32) (l3 : Int32) (σ : Mem) : Option ((Int32 × Mem) ⊕ (Mem)) :=
  if (σ 3 4) ≤ l3 then
    some (.inr σ)
  else
    chk (inb l3 30) <|
    if (σ 8 l3.toNatClampNeg) = 5 then
      if l2 = 0 then
        fX6_carryInto_L38 l1 l2 l3 σ
      else
        (fX6_isReckoned l3 σ).bind fun o2 =>
        if o2.1 = 0 then
          fX6_carryInto_L70 l1 l2 l3 o2.2
        else
          fX6_carryInto_L38 l1 l2 l3 o2.2
    else
      fX6_carryInto_L70 l1 l2 l3 σ
set_option maxHeartbeats 4000000 in
set_option maxRecDepth 100000 in
theorem tX6_carryInto_B2 {E : Gx} {cI : ClassId} {ad : Nat → Nat} (C : Cx E rmX6_carryInto cI layX ad 4 RX6 cX6_carryInto) {out : Mem} (K0 : KV E rmX6_carryInto cI layX ad 4 cX6_carryInto out) {l1 : Int32} {l2 : Int32} {l3 : Int32} {σ : Mem} {res : (Int32 × Mem) ⊕ (Mem)} (h : fX6_carryInto_B2 l1 l2 l3 σ = some res) (K : Sum.elim (fun a => G E rmX6_carryInto cI layX ad 4 2 [(0, .ref (ad 6)), (1, .int l1), (2, .int l2), (3, .int a.1)] [] a.2) (fun b => G E rmX6_carryInto cI layX ad 4 76 [] [] b) res) : G E rmX6_carryInto cI layX ad 4 2 [(0, .ref (ad 6)), (1, .int l1), (2, .int l2), (3, .int l3)] [] σ := by
  unfold fX6_carryInto_B2 at h
  refine g_iload_n 3 C dX6_carryInto_2 rfl (j := 3) rfl rfl ?_
  refine g_aload_n 4 C dX6_carryInto_3 rfl (j := 0) rfl rfl ?_
  refine g_getr 7 (j := 0) C rfl rfl wu_X6 (by decide) wf_X6_30 rfl dX6_carryInto_4 rfl ?_
  refine g_getiN 10 (j := 4) C rfl rfl wu_X3 (by decide) (List.mem_of_getElem? (i := 16) rfl) rfl dX6_carryInto_7 rfl ?_
  refine g_icmp_ge 76 13 C dX6_carryInto_10 (by decide) rfl h (fun h => ?_) (fun h => ?_)
  · have hh := end_inr h K
    exact g_sub [] (hh) rfl
  · refine g_aload_n 14 C dX6_carryInto_13 rfl (j := 0) rfl rfl ?_
    refine g_getr 17 (j := 0) C rfl rfl wu_X6 (by decide) wf_X6_30 rfl dX6_carryInto_14 rfl ?_
    refine g_getrN 20 (j := 1) C rfl rfl wu_X3 (by decide) (List.mem_of_getElem? (i := 3) rfl) rfl dX6_carryInto_17 rfl ?_
    refine g_iload_n 21 C dX6_carryInto_20 rfl (j := 3) rfl rfl ?_
    refine g_iald 22 C rfl dX6_carryInto_21 rfl h (fun h => ?_)
    refine g_iconst 23 (v := 5) C dX6_carryInto_22 (by decide) rfl ?_
    refine g_icmp_ne 70 26 C dX6_carryInto_23 (by decide) rfl h (fun h => ?_) (fun h => ?_)
    · refine g_iload_n 27 C dX6_carryInto_26 rfl (j := 2) rfl rfl ?_
      refine g_if_eq 38 30 C dX6_carryInto_27 (by decide) rfl h (fun h => ?_) (fun h => ?_)
      · exact tX6_carryInto_L38 (l1 := l1) (l2 := l2) (l3 := l3) (σ := σ) C K0 h K
      · refine g_aload_n 31 C dX6_carryInto_30 rfl (j := 0) rfl rfl ?_
        refine g_iload_n 32 C dX6_carryInto_31 rfl (j := 3) rfl rfl ?_
        refine g_cvi 35 C (As := [.int l3]) (fun _ h => mX6_isReckoned (a1 := l3) (σ := σ) h) wl_X6_107 wi_X6_isReckoned wz_X6_isReckoned wc_X6_isReckoned wn_X6 qX6_isReckoned rfl rfl ⟨Nat.le_of_ble_eq_true rfl, Nat.le_of_ble_eq_true rfl⟩ rfl rfl rfl rfl (Nat.le_of_ble_eq_true rfl) dX6_carryInto_32 rfl h (fun o2 h => ?_)
        refine g_if_eq 70 38 C dX6_carryInto_35 (by decide) rfl h (fun h => ?_) (fun h => ?_)
        · exact tX6_carryInto_L70 (l1 := l1) (l2 := l2) (l3 := l3) (σ := o2.2) C K0 h K
        · exact tX6_carryInto_L38 (l1 := l1) (l2 := l2) (l3 := l3) (σ := o2.2) C K0 h K
    · exact tX6_carryInto_L70 (l1 := l1) (l2 := l2) (l3 := l3) (σ := σ) C K0 h K
noncomputable def fX6_carryInto_L76 (σ : Mem) : Option (Mem) :=
  some σ
set_option maxHeartbeats 4000000 in
set_option maxRecDepth 100000 in
theorem tX6_carryInto_L76 {E : Gx} {cI : ClassId} {ad : Nat → Nat} (C : Cx E rmX6_carryInto cI layX ad 4 RX6 cX6_carryInto) {out : Mem} (K0 : KV E rmX6_carryInto cI layX ad 4 cX6_carryInto out) {σ : Mem} (h : fX6_carryInto_L76 σ = some out) : G E rmX6_carryInto cI layX ad 4 76 [] [] σ := by
  unfold fX6_carryInto_L76 at h
  cases h
  exact K0 _ _ dX6_carryInto_76
noncomputable def fX6_carryInto (a1 : Int32) (a2 : Int32) (σ : Mem) : Option (Mem) :=
  (loop (fun a => fX6_carryInto_B2 a1 a2 a.1 a.2) (0, σ)).bind fun b3 =>
  fX6_carryInto_L76 b3
set_option maxHeartbeats 4000000 in
set_option maxRecDepth 100000 in
theorem mX6_carryInto {l : Launch} {D : va_G} {cI : ClassId} {ad : Nat → Nat} {a1 : Int32} {a2 : Int32} {σ : Mem} {out : Mem} (h : fX6_carryInto a1 a2 σ = some out) : MV l D cI layX ad yX6_carryInto cX6_carryInto 4 rmX6_carryInto [.ref (ad 6), .int a1, .int a2] σ out := by
  refine met_v (by decide) (Nat.le_of_ble_eq_true rfl) (fun E C K0 => ?_)
  show G E rmX6_carryInto cI layX ad 4 0 [(0, .ref (ad 6)), (1, .int a1), (2, .int a2)] [] σ
  unfold fX6_carryInto at h
  refine g_iconst 1 (v := 0) C dX6_carryInto_0 (by decide) rfl ?_
  refine g_istore_n 2 [(3, .int 0), (0, .ref (ad 6)), (1, .int a1), (2, .int a2)] C dX6_carryInto_1 rfl (by decide) rfl rfl ?_
  obtain ⟨b3, hb, h⟩ := bind_some h
  refine g_sub [1, 2, 3, 0] (g_loop (a := (0, σ)) (fun a => G E rmX6_carryInto cI layX ad 4 2 [(0, .ref (ad 6)), (1, .int a1), (2, .int a2), (3, .int a.1)] [] a.2) (fun b => G E rmX6_carryInto cI layX ad 4 76 [] [] b) hb (fun a res h K => tX6_carryInto_B2 (l1 := a1) (l2 := a2) (l3 := a.1) (σ := a.2) (res := res) C K0 h K) ?_) rfl
  show G E rmX6_carryInto cI layX ad 4 76 [] [] b3
  exact tX6_carryInto_L76 (σ := b3) C K0 h

/-! LoopReducer$Runner.reckonNeeded()V -/
abbrev rmX6_reckonNeeded : Room := { frames := 2, cells := 0, slots := 0, locals := 42 }
theorem qX6_reckonNeeded : yX6_reckonNeeded.cls ≠ "java/lang/invoke/MethodHandle" ∧ yX6_reckonNeeded.cls ≠ "java/lang/invoke/VarHandle" ∧ (parseMethodDescriptor yX6_reckonNeeded.desc).map (fun d => d.parameters.length) = some 0 := by decide +kernel
theorem DX6_reckonNeeded : ∀ q ∈ ([(0, .iconst 0, 1), (1, .istore_n 1, 1), (2, .iload_n 1, 1), (3, .aload_n 0, 1), (4, .getfield 30, 3), (7, .getfield 104, 3), (10, .if_icmp .ge 74, 3), (13, .aload_n 0, 1), (14, .getfield 30, 3), (17, .iload_n 1, 1), (18, .invokevirtual 117, 3), (21, .ifCond .eq 57, 3), (24, .aload_n 0, 1), (25, .iload_n 1, 1), (26, .invokevirtual 107, 3), (29, .ifCond .eq 49, 3), (32, .aload_n 0, 1), (33, .getfield 15, 3), (36, .iload_n 1, 1), (37, .aload_n 0, 1), (38, .getfield 38, 3), (41, .iload_n 1, 1), (42, .invokevirtual 124, 3), (45, .ifCond .eq 20, 3), (48, .aload_n 0, 1), (49, .getfield 21, 3), (52, .aload_n 0, 1), (53, .getfield 38, 3), (56, .getfield 129, 3), (59, .iload_n 1, 1), (60, .iaload, 1), (61, .iaload, 1), (62, .goto 15, 3), (65, .aload_n 0, 1), (66, .getfield 30, 3), (69, .iload_n 1, 1), (70, .aload_n 0, 1), (71, .getfield 15, 3), (74, .invokevirtual 120, 3), (77, .iastore, 1), (78, .iinc 1 1, 3), (81, .goto (-79), 3), (84, .return_, 1)] : List (Nat × Instr × Nat)), decode cX6_reckonNeeded q.1 = .ok q.2 := by decide +kernel
theorem dX6_reckonNeeded_0 : decode cX6_reckonNeeded 0 = .ok (.iconst 0, 1) := DX6_reckonNeeded (0, .iconst 0, 1) (List.mem_of_getElem? (i := 0) rfl)
theorem dX6_reckonNeeded_1 : decode cX6_reckonNeeded 1 = .ok (.istore_n 1, 1) := DX6_reckonNeeded (1, .istore_n 1, 1) (List.mem_of_getElem? (i := 1) rfl)
theorem dX6_reckonNeeded_2 : decode cX6_reckonNeeded 2 = .ok (.iload_n 1, 1) := DX6_reckonNeeded (2, .iload_n 1, 1) (List.mem_of_getElem? (i := 2) rfl)
theorem dX6_reckonNeeded_3 : decode cX6_reckonNeeded 3 = .ok (.aload_n 0, 1) := DX6_reckonNeeded (3, .aload_n 0, 1) (List.mem_of_getElem? (i := 3) rfl)
theorem dX6_reckonNeeded_4 : decode cX6_reckonNeeded 4 = .ok (.getfield 30, 3) := DX6_reckonNeeded (4, .getfield 30, 3) (List.mem_of_getElem? (i := 4) rfl)
theorem dX6_reckonNeeded_7 : decode cX6_reckonNeeded 7 = .ok (.getfield 104, 3) := DX6_reckonNeeded (7, .getfield 104, 3) (List.mem_of_getElem? (i := 5) rfl)
theorem dX6_reckonNeeded_10 : decode cX6_reckonNeeded 10 = .ok (.if_icmp .ge 74, 3) := DX6_reckonNeeded (10, .if_icmp .ge 74, 3) (List.mem_of_getElem? (i := 6) rfl)
theorem dX6_reckonNeeded_13 : decode cX6_reckonNeeded 13 = .ok (.aload_n 0, 1) := DX6_reckonNeeded (13, .aload_n 0, 1) (List.mem_of_getElem? (i := 7) rfl)
theorem dX6_reckonNeeded_14 : decode cX6_reckonNeeded 14 = .ok (.getfield 30, 3) := DX6_reckonNeeded (14, .getfield 30, 3) (List.mem_of_getElem? (i := 8) rfl)
theorem dX6_reckonNeeded_17 : decode cX6_reckonNeeded 17 = .ok (.iload_n 1, 1) := DX6_reckonNeeded (17, .iload_n 1, 1) (List.mem_of_getElem? (i := 9) rfl)
theorem dX6_reckonNeeded_18 : decode cX6_reckonNeeded 18 = .ok (.invokevirtual 117, 3) := DX6_reckonNeeded (18, .invokevirtual 117, 3) (List.mem_of_getElem? (i := 10) rfl)
theorem dX6_reckonNeeded_21 : decode cX6_reckonNeeded 21 = .ok (.ifCond .eq 57, 3) := DX6_reckonNeeded (21, .ifCond .eq 57, 3) (List.mem_of_getElem? (i := 11) rfl)
theorem dX6_reckonNeeded_24 : decode cX6_reckonNeeded 24 = .ok (.aload_n 0, 1) := DX6_reckonNeeded (24, .aload_n 0, 1) (List.mem_of_getElem? (i := 12) rfl)
theorem dX6_reckonNeeded_25 : decode cX6_reckonNeeded 25 = .ok (.iload_n 1, 1) := DX6_reckonNeeded (25, .iload_n 1, 1) (List.mem_of_getElem? (i := 13) rfl)
theorem dX6_reckonNeeded_26 : decode cX6_reckonNeeded 26 = .ok (.invokevirtual 107, 3) := DX6_reckonNeeded (26, .invokevirtual 107, 3) (List.mem_of_getElem? (i := 14) rfl)
theorem dX6_reckonNeeded_29 : decode cX6_reckonNeeded 29 = .ok (.ifCond .eq 49, 3) := DX6_reckonNeeded (29, .ifCond .eq 49, 3) (List.mem_of_getElem? (i := 15) rfl)
theorem dX6_reckonNeeded_32 : decode cX6_reckonNeeded 32 = .ok (.aload_n 0, 1) := DX6_reckonNeeded (32, .aload_n 0, 1) (List.mem_of_getElem? (i := 16) rfl)
theorem dX6_reckonNeeded_33 : decode cX6_reckonNeeded 33 = .ok (.getfield 15, 3) := DX6_reckonNeeded (33, .getfield 15, 3) (List.mem_of_getElem? (i := 17) rfl)
theorem dX6_reckonNeeded_36 : decode cX6_reckonNeeded 36 = .ok (.iload_n 1, 1) := DX6_reckonNeeded (36, .iload_n 1, 1) (List.mem_of_getElem? (i := 18) rfl)
theorem dX6_reckonNeeded_37 : decode cX6_reckonNeeded 37 = .ok (.aload_n 0, 1) := DX6_reckonNeeded (37, .aload_n 0, 1) (List.mem_of_getElem? (i := 19) rfl)
theorem dX6_reckonNeeded_38 : decode cX6_reckonNeeded 38 = .ok (.getfield 38, 3) := DX6_reckonNeeded (38, .getfield 38, 3) (List.mem_of_getElem? (i := 20) rfl)
theorem dX6_reckonNeeded_41 : decode cX6_reckonNeeded 41 = .ok (.iload_n 1, 1) := DX6_reckonNeeded (41, .iload_n 1, 1) (List.mem_of_getElem? (i := 21) rfl)
theorem dX6_reckonNeeded_42 : decode cX6_reckonNeeded 42 = .ok (.invokevirtual 124, 3) := DX6_reckonNeeded (42, .invokevirtual 124, 3) (List.mem_of_getElem? (i := 22) rfl)
theorem dX6_reckonNeeded_45 : decode cX6_reckonNeeded 45 = .ok (.ifCond .eq 20, 3) := DX6_reckonNeeded (45, .ifCond .eq 20, 3) (List.mem_of_getElem? (i := 23) rfl)
theorem dX6_reckonNeeded_48 : decode cX6_reckonNeeded 48 = .ok (.aload_n 0, 1) := DX6_reckonNeeded (48, .aload_n 0, 1) (List.mem_of_getElem? (i := 24) rfl)
theorem dX6_reckonNeeded_49 : decode cX6_reckonNeeded 49 = .ok (.getfield 21, 3) := DX6_reckonNeeded (49, .getfield 21, 3) (List.mem_of_getElem? (i := 25) rfl)
theorem dX6_reckonNeeded_52 : decode cX6_reckonNeeded 52 = .ok (.aload_n 0, 1) := DX6_reckonNeeded (52, .aload_n 0, 1) (List.mem_of_getElem? (i := 26) rfl)
theorem dX6_reckonNeeded_53 : decode cX6_reckonNeeded 53 = .ok (.getfield 38, 3) := DX6_reckonNeeded (53, .getfield 38, 3) (List.mem_of_getElem? (i := 27) rfl)
theorem dX6_reckonNeeded_56 : decode cX6_reckonNeeded 56 = .ok (.getfield 129, 3) := DX6_reckonNeeded (56, .getfield 129, 3) (List.mem_of_getElem? (i := 28) rfl)
theorem dX6_reckonNeeded_59 : decode cX6_reckonNeeded 59 = .ok (.iload_n 1, 1) := DX6_reckonNeeded (59, .iload_n 1, 1) (List.mem_of_getElem? (i := 29) rfl)
theorem dX6_reckonNeeded_60 : decode cX6_reckonNeeded 60 = .ok (.iaload, 1) := DX6_reckonNeeded (60, .iaload, 1) (List.mem_of_getElem? (i := 30) rfl)
theorem dX6_reckonNeeded_61 : decode cX6_reckonNeeded 61 = .ok (.iaload, 1) := DX6_reckonNeeded (61, .iaload, 1) (List.mem_of_getElem? (i := 31) rfl)
theorem dX6_reckonNeeded_62 : decode cX6_reckonNeeded 62 = .ok (.goto 15, 3) := DX6_reckonNeeded (62, .goto 15, 3) (List.mem_of_getElem? (i := 32) rfl)
theorem dX6_reckonNeeded_65 : decode cX6_reckonNeeded 65 = .ok (.aload_n 0, 1) := DX6_reckonNeeded (65, .aload_n 0, 1) (List.mem_of_getElem? (i := 33) rfl)
theorem dX6_reckonNeeded_66 : decode cX6_reckonNeeded 66 = .ok (.getfield 30, 3) := DX6_reckonNeeded (66, .getfield 30, 3) (List.mem_of_getElem? (i := 34) rfl)
theorem dX6_reckonNeeded_69 : decode cX6_reckonNeeded 69 = .ok (.iload_n 1, 1) := DX6_reckonNeeded (69, .iload_n 1, 1) (List.mem_of_getElem? (i := 35) rfl)
theorem dX6_reckonNeeded_70 : decode cX6_reckonNeeded 70 = .ok (.aload_n 0, 1) := DX6_reckonNeeded (70, .aload_n 0, 1) (List.mem_of_getElem? (i := 36) rfl)
theorem dX6_reckonNeeded_71 : decode cX6_reckonNeeded 71 = .ok (.getfield 15, 3) := DX6_reckonNeeded (71, .getfield 15, 3) (List.mem_of_getElem? (i := 37) rfl)
theorem dX6_reckonNeeded_74 : decode cX6_reckonNeeded 74 = .ok (.invokevirtual 120, 3) := DX6_reckonNeeded (74, .invokevirtual 120, 3) (List.mem_of_getElem? (i := 38) rfl)
theorem dX6_reckonNeeded_77 : decode cX6_reckonNeeded 77 = .ok (.iastore, 1) := DX6_reckonNeeded (77, .iastore, 1) (List.mem_of_getElem? (i := 39) rfl)
theorem dX6_reckonNeeded_78 : decode cX6_reckonNeeded 78 = .ok (.iinc 1 1, 3) := DX6_reckonNeeded (78, .iinc 1 1, 3) (List.mem_of_getElem? (i := 40) rfl)
theorem dX6_reckonNeeded_81 : decode cX6_reckonNeeded 81 = .ok (.goto (-79), 3) := DX6_reckonNeeded (81, .goto (-79), 3) (List.mem_of_getElem? (i := 41) rfl)
theorem dX6_reckonNeeded_84 : decode cX6_reckonNeeded 84 = .ok (.return_, 1) := DX6_reckonNeeded (84, .return_, 1) (List.mem_of_getElem? (i := 42) rfl)
noncomputable def fX6_reckonNeeded_L78 (l1 : Int32) (σ : Mem) : Option ((Int32 × Mem) ⊕ (Mem)) :=
  some (.inl (l1 + 1, σ))
set_option maxHeartbeats 4000000 in
set_option maxRecDepth 100000 in
theorem tX6_reckonNeeded_L78 {E : Gx} {cI : ClassId} {ad : Nat → Nat} (C : Cx E rmX6_reckonNeeded cI layX ad 2 RX6 cX6_reckonNeeded) {out : Mem} (K0 : KV E rmX6_reckonNeeded cI layX ad 2 cX6_reckonNeeded out) {l1 : Int32} {σ : Mem} {res : (Int32 × Mem) ⊕ (Mem)} (h : fX6_reckonNeeded_L78 l1 σ = some res) (K : Sum.elim (fun a => G E rmX6_reckonNeeded cI layX ad 2 2 [(0, .ref (ad 6)), (1, .int a.1)] [] a.2) (fun b => G E rmX6_reckonNeeded cI layX ad 2 84 [] [] b) res) : G E rmX6_reckonNeeded cI layX ad 2 78 [(0, .ref (ad 6)), (1, .int l1)] [] σ := by
  unfold fX6_reckonNeeded_L78 at h
  refine g_iinc 81 [(1, .int (l1 + 1)), (0, .ref (ad 6))] C dX6_reckonNeeded_78 (j := 1) rfl (by rfl) (by decide) rfl rfl ?_
  refine g_goto 2 C dX6_reckonNeeded_81 (by decide) ?_
  have hh := end_inl h K
  exact g_sub [1, 0] (hh) rfl
noncomputable def fX6_reckonNeeded_L77 (l1 : Int32) (s1 : Int32) (s2 : Int32) (σ : Mem) : Option ((Int32 × Mem) ⊕ (Mem)) :=
  chk (inb s1 30) <|
  fX6_reckonNeeded_L78 l1 (up2 σ 27 s1.toNatClampNeg s2)
set_option maxHeartbeats 4000000 in
set_option maxRecDepth 100000 in
theorem tX6_reckonNeeded_L77 {E : Gx} {cI : ClassId} {ad : Nat → Nat} (C : Cx E rmX6_reckonNeeded cI layX ad 2 RX6 cX6_reckonNeeded) {out : Mem} (K0 : KV E rmX6_reckonNeeded cI layX ad 2 cX6_reckonNeeded out) {l1 : Int32} {s1 : Int32} {s2 : Int32} {σ : Mem} {res : (Int32 × Mem) ⊕ (Mem)} (h : fX6_reckonNeeded_L77 l1 s1 s2 σ = some res) (K : Sum.elim (fun a => G E rmX6_reckonNeeded cI layX ad 2 2 [(0, .ref (ad 6)), (1, .int a.1)] [] a.2) (fun b => G E rmX6_reckonNeeded cI layX ad 2 84 [] [] b) res) : G E rmX6_reckonNeeded cI layX ad 2 77 [(0, .ref (ad 6)), (1, .int l1)] [.int s2, .int s1, .ref (ad 27)] σ := by
  unfold fX6_reckonNeeded_L77 at h
  refine g_iast 78 C rfl dX6_reckonNeeded_77 rfl h (fun h => ?_)
  exact tX6_reckonNeeded_L78 (l1 := l1) (σ := up2 σ 27 s1.toNatClampNeg s2) C K0 h K
noncomputable def fX6_reckonNeeded_B2 (l1 : Int32) (σ : Mem) : Option ((Int32 × Mem) ⊕ (Mem)) :=
  if (σ 3 4) ≤ l1 then
    some (.inr σ)
  else
    (fX3_isMade l1 σ).bind fun o1 =>
    if o1.1 = 0 then
      fX6_reckonNeeded_L78 l1 o1.2
    else
      (fX6_isReckoned l1 o1.2).bind fun o2 =>
      if o2.1 = 0 then
        fX6_reckonNeeded_L78 l1 o2.2
      else
        (fX4_isOfCells l1 o2.2).bind fun o3 =>
        if o3.1 = 0 then
          (fX3_reckon l1 o3.2).bind fun o4 =>
          fX6_reckonNeeded_L77 l1 l1 o4.1 o4.2
        else
          chk (inb l1 30) <|
          chk (inb (o3.2 25 l1.toNatClampNeg) 90) <|
          fX6_reckonNeeded_L77 l1 l1 (o3.2 29 (o3.2 25 l1.toNatClampNeg).toNatClampNeg) o3.2
set_option maxHeartbeats 4000000 in
set_option maxRecDepth 100000 in
theorem tX6_reckonNeeded_B2 {E : Gx} {cI : ClassId} {ad : Nat → Nat} (C : Cx E rmX6_reckonNeeded cI layX ad 2 RX6 cX6_reckonNeeded) {out : Mem} (K0 : KV E rmX6_reckonNeeded cI layX ad 2 cX6_reckonNeeded out) {l1 : Int32} {σ : Mem} {res : (Int32 × Mem) ⊕ (Mem)} (h : fX6_reckonNeeded_B2 l1 σ = some res) (K : Sum.elim (fun a => G E rmX6_reckonNeeded cI layX ad 2 2 [(0, .ref (ad 6)), (1, .int a.1)] [] a.2) (fun b => G E rmX6_reckonNeeded cI layX ad 2 84 [] [] b) res) : G E rmX6_reckonNeeded cI layX ad 2 2 [(0, .ref (ad 6)), (1, .int l1)] [] σ := by
  unfold fX6_reckonNeeded_B2 at h
  refine g_iload_n 3 C dX6_reckonNeeded_2 rfl (j := 1) rfl rfl ?_
  refine g_aload_n 4 C dX6_reckonNeeded_3 rfl (j := 0) rfl rfl ?_
  refine g_getr 7 (j := 0) C rfl rfl wu_X6 (by decide) wf_X6_30 rfl dX6_reckonNeeded_4 rfl ?_
  refine g_getiN 10 (j := 4) C rfl rfl wu_X3 (by decide) (List.mem_of_getElem? (i := 16) rfl) rfl dX6_reckonNeeded_7 rfl ?_
  refine g_icmp_ge 84 13 C dX6_reckonNeeded_10 (by decide) rfl h (fun h => ?_) (fun h => ?_)
  · have hh := end_inr h K
    exact g_sub [] (hh) rfl
  · refine g_aload_n 14 C dX6_reckonNeeded_13 rfl (j := 0) rfl rfl ?_
    refine g_getr 17 (j := 0) C rfl rfl wu_X6 (by decide) wf_X6_30 rfl dX6_reckonNeeded_14 rfl ?_
    refine g_iload_n 18 C dX6_reckonNeeded_17 rfl (j := 1) rfl rfl ?_
    refine g_cni 21 C (As := [.int l1]) (fun _ h => mX3_isMade (a1 := l1) (σ := σ) h) (List.mem_of_getElem? (i := 60) rfl) wi_X3_isMade wz_X3_isMade wc_X3_isMade wn_X3 qX3_isMade rfl rfl ⟨Nat.le_of_ble_eq_true rfl, Nat.le_of_ble_eq_true rfl⟩ rfl rfl rfl rfl (Nat.le_of_ble_eq_true rfl) dX6_reckonNeeded_18 rfl h (fun o1 h => ?_)
    refine g_if_eq 78 24 C dX6_reckonNeeded_21 (by decide) rfl h (fun h => ?_) (fun h => ?_)
    · exact tX6_reckonNeeded_L78 (l1 := l1) (σ := o1.2) C K0 h K
    · refine g_aload_n 25 C dX6_reckonNeeded_24 rfl (j := 0) rfl rfl ?_
      refine g_iload_n 26 C dX6_reckonNeeded_25 rfl (j := 1) rfl rfl ?_
      refine g_cvi 29 C (As := [.int l1]) (fun _ h => mX6_isReckoned (a1 := l1) (σ := o1.2) h) wl_X6_107 wi_X6_isReckoned wz_X6_isReckoned wc_X6_isReckoned wn_X6 qX6_isReckoned rfl rfl ⟨Nat.le_of_ble_eq_true rfl, Nat.le_of_ble_eq_true rfl⟩ rfl rfl rfl rfl (Nat.le_of_ble_eq_true rfl) dX6_reckonNeeded_26 rfl h (fun o2 h => ?_)
      refine g_if_eq 78 32 C dX6_reckonNeeded_29 (by decide) rfl h (fun h => ?_) (fun h => ?_)
      · exact tX6_reckonNeeded_L78 (l1 := l1) (σ := o2.2) C K0 h K
      · refine g_aload_n 33 C dX6_reckonNeeded_32 rfl (j := 0) rfl rfl ?_
        refine g_getr 36 (j := 5) C rfl rfl wu_X6 (by decide) wf_X6_15 rfl dX6_reckonNeeded_33 rfl ?_
        refine g_iload_n 37 C dX6_reckonNeeded_36 rfl (j := 1) rfl rfl ?_
        refine g_aload_n 38 C dX6_reckonNeeded_37 rfl (j := 0) rfl rfl ?_
        refine g_getr 41 (j := 2) C rfl rfl wu_X6 (by decide) wf_X6_38 rfl dX6_reckonNeeded_38 rfl ?_
        refine g_iload_n 42 C dX6_reckonNeeded_41 rfl (j := 1) rfl rfl ?_
        refine g_cni 45 C (As := [.int l1]) (fun _ h => mX4_isOfCells (a1 := l1) (σ := o2.2) h) (List.mem_of_getElem? (i := 61) rfl) wi_X4_isOfCells wz_X4_isOfCells wc_X4_isOfCells wn_X4 qX4_isOfCells rfl rfl ⟨Nat.le_of_ble_eq_true rfl, Nat.le_of_ble_eq_true rfl⟩ rfl rfl rfl rfl (Nat.le_of_ble_eq_true rfl) dX6_reckonNeeded_42 rfl h (fun o3 h => ?_)
        refine g_if_eq 65 48 C dX6_reckonNeeded_45 (by decide) rfl h (fun h => ?_) (fun h => ?_)
        · refine g_aload_n 66 C dX6_reckonNeeded_65 rfl (j := 0) rfl rfl ?_
          refine g_getr 69 (j := 0) C rfl rfl wu_X6 (by decide) wf_X6_30 rfl dX6_reckonNeeded_66 rfl ?_
          refine g_iload_n 70 C dX6_reckonNeeded_69 rfl (j := 1) rfl rfl ?_
          refine g_aload_n 71 C dX6_reckonNeeded_70 rfl (j := 0) rfl rfl ?_
          refine g_getr 74 (j := 5) C rfl rfl wu_X6 (by decide) wf_X6_15 rfl dX6_reckonNeeded_71 rfl ?_
          refine g_cni 77 C (As := [.int l1, .ref (ad 27)]) (fun _ h => mX3_reckon (a1 := l1) (σ := o3.2) h) (List.mem_of_getElem? (i := 62) rfl) wi_X3_reckon wz_X3_reckon wc_X3_reckon wn_X3 qX3_reckon rfl rfl ⟨Nat.le_of_ble_eq_true rfl, Nat.le_of_ble_eq_true rfl⟩ rfl rfl rfl rfl (Nat.le_of_ble_eq_true rfl) dX6_reckonNeeded_74 rfl h (fun o4 h => ?_)
          exact tX6_reckonNeeded_L77 (l1 := l1) (s1 := l1) (s2 := o4.1) (σ := o4.2) C K0 h K
        · refine g_aload_n 49 C dX6_reckonNeeded_48 rfl (j := 0) rfl rfl ?_
          refine g_getr 52 (j := 7) C rfl rfl wu_X6 (by decide) wf_X6_21 rfl dX6_reckonNeeded_49 rfl ?_
          refine g_aload_n 53 C dX6_reckonNeeded_52 rfl (j := 0) rfl rfl ?_
          refine g_getr 56 (j := 2) C rfl rfl wu_X6 (by decide) wf_X6_38 rfl dX6_reckonNeeded_53 rfl ?_
          refine g_getrN 59 (j := 8) C rfl rfl wu_X4 (by decide) (List.mem_of_getElem? (i := 49) rfl) rfl dX6_reckonNeeded_56 rfl ?_
          refine g_iload_n 60 C dX6_reckonNeeded_59 rfl (j := 1) rfl rfl ?_
          refine g_iald 61 C rfl dX6_reckonNeeded_60 rfl h (fun h => ?_)
          refine g_iald 62 C rfl dX6_reckonNeeded_61 rfl h (fun h => ?_)
          refine g_goto 77 C dX6_reckonNeeded_62 (by decide) ?_
          exact tX6_reckonNeeded_L77 (l1 := l1) (s1 := l1) (s2 := (o3.2 29 (o3.2 25 l1.toNatClampNeg).toNatClampNeg)) (σ := o3.2) C K0 h K
noncomputable def fX6_reckonNeeded_L84 (σ : Mem) : Option (Mem) :=
  some σ
set_option maxHeartbeats 4000000 in
set_option maxRecDepth 100000 in
theorem tX6_reckonNeeded_L84 {E : Gx} {cI : ClassId} {ad : Nat → Nat} (C : Cx E rmX6_reckonNeeded cI layX ad 2 RX6 cX6_reckonNeeded) {out : Mem} (K0 : KV E rmX6_reckonNeeded cI layX ad 2 cX6_reckonNeeded out) {σ : Mem} (h : fX6_reckonNeeded_L84 σ = some out) : G E rmX6_reckonNeeded cI layX ad 2 84 [] [] σ := by
  unfold fX6_reckonNeeded_L84 at h
  cases h
  exact K0 _ _ dX6_reckonNeeded_84
noncomputable def fX6_reckonNeeded (σ : Mem) : Option (Mem) :=
  (loop (fun a => fX6_reckonNeeded_B2 a.1 a.2) (0, σ)).bind fun b5 =>
  fX6_reckonNeeded_L84 b5
set_option maxHeartbeats 4000000 in
set_option maxRecDepth 100000 in
theorem mX6_reckonNeeded {l : Launch} {D : va_G} {cI : ClassId} {ad : Nat → Nat} {σ : Mem} {out : Mem} (h : fX6_reckonNeeded σ = some out) : MV l D cI layX ad yX6_reckonNeeded cX6_reckonNeeded 2 rmX6_reckonNeeded [.ref (ad 6)] σ out := by
  refine met_v (by decide) (Nat.le_of_ble_eq_true rfl) (fun E C K0 => ?_)
  show G E rmX6_reckonNeeded cI layX ad 2 0 [(0, .ref (ad 6))] [] σ
  unfold fX6_reckonNeeded at h
  refine g_iconst 1 (v := 0) C dX6_reckonNeeded_0 (by decide) rfl ?_
  refine g_istore_n 2 [(1, .int 0), (0, .ref (ad 6))] C dX6_reckonNeeded_1 rfl (by decide) rfl rfl ?_
  obtain ⟨b5, hb, h⟩ := bind_some h
  refine g_sub [1, 0] (g_loop (a := (0, σ)) (fun a => G E rmX6_reckonNeeded cI layX ad 2 2 [(0, .ref (ad 6)), (1, .int a.1)] [] a.2) (fun b => G E rmX6_reckonNeeded cI layX ad 2 84 [] [] b) hb (fun a res h K => tX6_reckonNeeded_B2 (l1 := a.1) (σ := a.2) (res := res) C K0 h K) ?_) rfl
  show G E rmX6_reckonNeeded cI layX ad 2 84 [] [] b5
  exact tX6_reckonNeeded_L84 (σ := b5) C K0 h

/-! LoopReducer$Runner.go(Z)I -/
abbrev rmX6_go : Room := { frames := 3, cells := 0, slots := 0, locals := 67 }
theorem qX6_go : yX6_go.cls ≠ "java/lang/invoke/MethodHandle" ∧ yX6_go.cls ≠ "java/lang/invoke/VarHandle" ∧ (parseMethodDescriptor yX6_go.desc).map (fun d => d.parameters.length) = some 1 := by decide +kernel
theorem DX6_go : ∀ q ∈ ([(0, .aload_n 0, 1), (1, .iconst 0, 1), (2, .putfield 75, 3), (5, .iconst 0, 1), (6, .istore_n 2, 1), (7, .iload_n 2, 1), (8, .sipush 300, 3), (11, .if_icmp .ge 66, 3), (14, .aload_n 0, 1), (15, .getfield 15, 3), (18, .iconst 0, 1), (19, .aload_n 0, 1), (20, .getfield 18, 3), (23, .iconst 0, 1), (24, .bipush 30, 2), (26, .invokestatic 78, 3), (29, .aload_n 0, 1), (30, .iload_n 2, 1), (31, .iload_n 1, 1), (32, .invokevirtual 84, 3), (35, .iload_n 1, 1), (36, .ifCond .eq 10, 3), (39, .aload_n 0, 1), (40, .invokevirtual 88, 3), (43, .goto 7, 3), (46, .aload_n 0, 1), (47, .invokevirtual 91, 3), (50, .aload_n 0, 1), (51, .invokevirtual 94, 3), (54, .ifCond .ne 5, 3), (57, .iload_n 2, 1), (58, .ireturn, 1), (59, .aload_n 0, 1), (60, .invokevirtual 98, 3), (63, .iload_n 1, 1), (64, .ifCond .eq 7, 3), (67, .aload_n 0, 1), (68, .invokevirtual 101, 3), (71, .iinc 2 1, 3), (74, .goto (-67), 3), (77, .bipush (-2), 2), (79, .ireturn, 1)] : List (Nat × Instr × Nat)), decode cX6_go q.1 = .ok q.2 := by decide +kernel
theorem dX6_go_0 : decode cX6_go 0 = .ok (.aload_n 0, 1) := DX6_go (0, .aload_n 0, 1) (List.mem_of_getElem? (i := 0) rfl)
theorem dX6_go_1 : decode cX6_go 1 = .ok (.iconst 0, 1) := DX6_go (1, .iconst 0, 1) (List.mem_of_getElem? (i := 1) rfl)
theorem dX6_go_2 : decode cX6_go 2 = .ok (.putfield 75, 3) := DX6_go (2, .putfield 75, 3) (List.mem_of_getElem? (i := 2) rfl)
theorem dX6_go_5 : decode cX6_go 5 = .ok (.iconst 0, 1) := DX6_go (5, .iconst 0, 1) (List.mem_of_getElem? (i := 3) rfl)
theorem dX6_go_6 : decode cX6_go 6 = .ok (.istore_n 2, 1) := DX6_go (6, .istore_n 2, 1) (List.mem_of_getElem? (i := 4) rfl)
theorem dX6_go_7 : decode cX6_go 7 = .ok (.iload_n 2, 1) := DX6_go (7, .iload_n 2, 1) (List.mem_of_getElem? (i := 5) rfl)
theorem dX6_go_8 : decode cX6_go 8 = .ok (.sipush 300, 3) := DX6_go (8, .sipush 300, 3) (List.mem_of_getElem? (i := 6) rfl)
theorem dX6_go_11 : decode cX6_go 11 = .ok (.if_icmp .ge 66, 3) := DX6_go (11, .if_icmp .ge 66, 3) (List.mem_of_getElem? (i := 7) rfl)
theorem dX6_go_14 : decode cX6_go 14 = .ok (.aload_n 0, 1) := DX6_go (14, .aload_n 0, 1) (List.mem_of_getElem? (i := 8) rfl)
theorem dX6_go_15 : decode cX6_go 15 = .ok (.getfield 15, 3) := DX6_go (15, .getfield 15, 3) (List.mem_of_getElem? (i := 9) rfl)
theorem dX6_go_18 : decode cX6_go 18 = .ok (.iconst 0, 1) := DX6_go (18, .iconst 0, 1) (List.mem_of_getElem? (i := 10) rfl)
theorem dX6_go_19 : decode cX6_go 19 = .ok (.aload_n 0, 1) := DX6_go (19, .aload_n 0, 1) (List.mem_of_getElem? (i := 11) rfl)
theorem dX6_go_20 : decode cX6_go 20 = .ok (.getfield 18, 3) := DX6_go (20, .getfield 18, 3) (List.mem_of_getElem? (i := 12) rfl)
theorem dX6_go_23 : decode cX6_go 23 = .ok (.iconst 0, 1) := DX6_go (23, .iconst 0, 1) (List.mem_of_getElem? (i := 13) rfl)
theorem dX6_go_24 : decode cX6_go 24 = .ok (.bipush 30, 2) := DX6_go (24, .bipush 30, 2) (List.mem_of_getElem? (i := 14) rfl)
theorem dX6_go_26 : decode cX6_go 26 = .ok (.invokestatic 78, 3) := DX6_go (26, .invokestatic 78, 3) (List.mem_of_getElem? (i := 15) rfl)
theorem dX6_go_29 : decode cX6_go 29 = .ok (.aload_n 0, 1) := DX6_go (29, .aload_n 0, 1) (List.mem_of_getElem? (i := 16) rfl)
theorem dX6_go_30 : decode cX6_go 30 = .ok (.iload_n 2, 1) := DX6_go (30, .iload_n 2, 1) (List.mem_of_getElem? (i := 17) rfl)
theorem dX6_go_31 : decode cX6_go 31 = .ok (.iload_n 1, 1) := DX6_go (31, .iload_n 1, 1) (List.mem_of_getElem? (i := 18) rfl)
theorem dX6_go_32 : decode cX6_go 32 = .ok (.invokevirtual 84, 3) := DX6_go (32, .invokevirtual 84, 3) (List.mem_of_getElem? (i := 19) rfl)
theorem dX6_go_35 : decode cX6_go 35 = .ok (.iload_n 1, 1) := DX6_go (35, .iload_n 1, 1) (List.mem_of_getElem? (i := 20) rfl)
theorem dX6_go_36 : decode cX6_go 36 = .ok (.ifCond .eq 10, 3) := DX6_go (36, .ifCond .eq 10, 3) (List.mem_of_getElem? (i := 21) rfl)
theorem dX6_go_39 : decode cX6_go 39 = .ok (.aload_n 0, 1) := DX6_go (39, .aload_n 0, 1) (List.mem_of_getElem? (i := 22) rfl)
theorem dX6_go_40 : decode cX6_go 40 = .ok (.invokevirtual 88, 3) := DX6_go (40, .invokevirtual 88, 3) (List.mem_of_getElem? (i := 23) rfl)
theorem dX6_go_43 : decode cX6_go 43 = .ok (.goto 7, 3) := DX6_go (43, .goto 7, 3) (List.mem_of_getElem? (i := 24) rfl)
theorem dX6_go_46 : decode cX6_go 46 = .ok (.aload_n 0, 1) := DX6_go (46, .aload_n 0, 1) (List.mem_of_getElem? (i := 25) rfl)
theorem dX6_go_47 : decode cX6_go 47 = .ok (.invokevirtual 91, 3) := DX6_go (47, .invokevirtual 91, 3) (List.mem_of_getElem? (i := 26) rfl)
theorem dX6_go_50 : decode cX6_go 50 = .ok (.aload_n 0, 1) := DX6_go (50, .aload_n 0, 1) (List.mem_of_getElem? (i := 27) rfl)
theorem dX6_go_51 : decode cX6_go 51 = .ok (.invokevirtual 94, 3) := DX6_go (51, .invokevirtual 94, 3) (List.mem_of_getElem? (i := 28) rfl)
theorem dX6_go_54 : decode cX6_go 54 = .ok (.ifCond .ne 5, 3) := DX6_go (54, .ifCond .ne 5, 3) (List.mem_of_getElem? (i := 29) rfl)
theorem dX6_go_57 : decode cX6_go 57 = .ok (.iload_n 2, 1) := DX6_go (57, .iload_n 2, 1) (List.mem_of_getElem? (i := 30) rfl)
theorem dX6_go_58 : decode cX6_go 58 = .ok (.ireturn, 1) := DX6_go (58, .ireturn, 1) (List.mem_of_getElem? (i := 31) rfl)
theorem dX6_go_59 : decode cX6_go 59 = .ok (.aload_n 0, 1) := DX6_go (59, .aload_n 0, 1) (List.mem_of_getElem? (i := 32) rfl)
theorem dX6_go_60 : decode cX6_go 60 = .ok (.invokevirtual 98, 3) := DX6_go (60, .invokevirtual 98, 3) (List.mem_of_getElem? (i := 33) rfl)
theorem dX6_go_63 : decode cX6_go 63 = .ok (.iload_n 1, 1) := DX6_go (63, .iload_n 1, 1) (List.mem_of_getElem? (i := 34) rfl)
theorem dX6_go_64 : decode cX6_go 64 = .ok (.ifCond .eq 7, 3) := DX6_go (64, .ifCond .eq 7, 3) (List.mem_of_getElem? (i := 35) rfl)
theorem dX6_go_67 : decode cX6_go 67 = .ok (.aload_n 0, 1) := DX6_go (67, .aload_n 0, 1) (List.mem_of_getElem? (i := 36) rfl)
theorem dX6_go_68 : decode cX6_go 68 = .ok (.invokevirtual 101, 3) := DX6_go (68, .invokevirtual 101, 3) (List.mem_of_getElem? (i := 37) rfl)
theorem dX6_go_71 : decode cX6_go 71 = .ok (.iinc 2 1, 3) := DX6_go (71, .iinc 2 1, 3) (List.mem_of_getElem? (i := 38) rfl)
theorem dX6_go_74 : decode cX6_go 74 = .ok (.goto (-67), 3) := DX6_go (74, .goto (-67), 3) (List.mem_of_getElem? (i := 39) rfl)
theorem dX6_go_77 : decode cX6_go 77 = .ok (.bipush (-2), 2) := DX6_go (77, .bipush (-2), 2) (List.mem_of_getElem? (i := 40) rfl)
theorem dX6_go_79 : decode cX6_go 79 = .ok (.ireturn, 1) := DX6_go (79, .ireturn, 1) (List.mem_of_getElem? (i := 41) rfl)
noncomputable def fX6_go_L71 (l1 : Int32) (l2 : Int32) (σ : Mem) : Option ((Int32 × Mem) ⊕ ((Mem) ⊕ (Int32 × Mem))) :=
  some (.inl (l2 + 1, σ))
set_option maxHeartbeats 4000000 in
set_option maxRecDepth 100000 in
theorem tX6_go_L71 {E : Gx} {cI : ClassId} {ad : Nat → Nat} (C : Cx E rmX6_go cI layX ad 3 RX6 cX6_go) {out : Int32 × Mem} (K0 : KI E rmX6_go cI layX ad 3 cX6_go .int out) {l1 : Int32} {l2 : Int32} {σ : Mem} {res : (Int32 × Mem) ⊕ ((Mem) ⊕ (Int32 × Mem))} (h : fX6_go_L71 l1 l2 σ = some res) (K : Sum.elim (fun a => G E rmX6_go cI layX ad 3 7 [(0, .ref (ad 6)), (1, .int l1), (2, .int a.1)] [] a.2) (Sum.elim (fun b => G E rmX6_go cI layX ad 3 77 [] [] b) (fun b => b = out)) res) : G E rmX6_go cI layX ad 3 71 [(0, .ref (ad 6)), (1, .int l1), (2, .int l2)] [] σ := by
  unfold fX6_go_L71 at h
  refine g_iinc 74 [(2, .int (l2 + 1)), (0, .ref (ad 6)), (1, .int l1)] C dX6_go_71 (j := 2) rfl (by rfl) (by decide) rfl rfl ?_
  refine g_goto 7 C dX6_go_74 (by decide) ?_
  have hh := end_inl h K
  exact g_sub [1, 2, 0] (hh) rfl
noncomputable def fX6_go_L50 (l1 : Int32) (l2 : Int32) (σ : Mem) : Option ((Int32 × Mem) ⊕ ((Mem) ⊕ (Int32 × Mem))) :=
  (fX6_testHolds σ).bind fun o3 =>
  if o3.1 = 0 then
    some (.inr (.inr (l2, o3.2)))
  else
    (fX6_see o3.2).bind fun o4 =>
    if l1 = 0 then
      fX6_go_L71 l1 l2 o4
    else
      (fX6_stepCells o4).bind fun o5 =>
      fX6_go_L71 l1 l2 o5
set_option maxHeartbeats 4000000 in
set_option maxRecDepth 100000 in
theorem tX6_go_L50 {E : Gx} {cI : ClassId} {ad : Nat → Nat} (C : Cx E rmX6_go cI layX ad 3 RX6 cX6_go) {out : Int32 × Mem} (K0 : KI E rmX6_go cI layX ad 3 cX6_go .int out) {l1 : Int32} {l2 : Int32} {σ : Mem} {res : (Int32 × Mem) ⊕ ((Mem) ⊕ (Int32 × Mem))} (h : fX6_go_L50 l1 l2 σ = some res) (K : Sum.elim (fun a => G E rmX6_go cI layX ad 3 7 [(0, .ref (ad 6)), (1, .int l1), (2, .int a.1)] [] a.2) (Sum.elim (fun b => G E rmX6_go cI layX ad 3 77 [] [] b) (fun b => b = out)) res) : G E rmX6_go cI layX ad 3 50 [(0, .ref (ad 6)), (1, .int l1), (2, .int l2)] [] σ := by
  unfold fX6_go_L50 at h
  refine g_aload_n 51 C dX6_go_50 rfl (j := 0) rfl rfl ?_
  refine g_cvi 54 C (As := []) (fun _ h => mX6_testHolds (σ := σ) h) wl_X6_94 wi_X6_testHolds wz_X6_testHolds wc_X6_testHolds wn_X6 qX6_testHolds rfl rfl ⟨Nat.le_of_ble_eq_true rfl, Nat.le_of_ble_eq_true rfl⟩ rfl rfl rfl rfl (Nat.le_of_ble_eq_true rfl) dX6_go_51 rfl h (fun o3 h => ?_)
  refine g_if_ne 59 57 C dX6_go_54 (by decide) rfl h (fun h => ?_) (fun h => ?_)
  · refine g_iload_n 58 C dX6_go_57 rfl (j := 2) rfl rfl ?_
    have ho := end_alt1_2 h K
    replace ho : (l2, o3.2) = out := ho
    subst ho
    exact K0 _ _ dX6_go_58 rfl
  · refine g_aload_n 60 C dX6_go_59 rfl (j := 0) rfl rfl ?_
    refine g_cvv 63 C (As := []) (fun _ h => mX6_see (σ := o3.2) h) wl_X6_98 wi_X6_see wz_X6_see wc_X6_see wn_X6 qX6_see rfl rfl ⟨Nat.le_of_ble_eq_true rfl, Nat.le_of_ble_eq_true rfl⟩ rfl rfl rfl rfl (Nat.le_of_ble_eq_true rfl) dX6_go_60 rfl h (fun o4 h => ?_)
    refine g_iload_n 64 C dX6_go_63 rfl (j := 1) rfl rfl ?_
    refine g_if_eq 71 67 C dX6_go_64 (by decide) rfl h (fun h => ?_) (fun h => ?_)
    · exact tX6_go_L71 (l1 := l1) (l2 := l2) (σ := o4) C K0 h K
    · refine g_aload_n 68 C dX6_go_67 rfl (j := 0) rfl rfl ?_
      refine g_cvv 71 C (As := []) (fun _ h => mX6_stepCells (σ := o4) h) wl_X6_101 wi_X6_stepCells wz_X6_stepCells wc_X6_stepCells wn_X6 qX6_stepCells rfl rfl ⟨Nat.le_of_ble_eq_true rfl, Nat.le_of_ble_eq_true rfl⟩ rfl rfl rfl rfl (Nat.le_of_ble_eq_true rfl) dX6_go_68 rfl h (fun o5 h => ?_)
      exact tX6_go_L71 (l1 := l1) (l2 := l2) (σ := o5) C K0 h K
noncomputable def fX6_go_B7 (l1 : Int32) (l2 : Int32) (σ : Mem) : Option ((Int32 × Mem) ⊕ ((Mem) ⊕ (Int32 × Mem))) :=
  if 300 ≤ l2 then
    some (.inr (.inl σ))
  else
    (fX6_carryInto l2 l1 (upR σ 28 (va_cpy (σ 27) (σ 28) 0 0 30))).bind fun o1 =>
    if l1 = 0 then
      (fX6_reckonAll o1).bind fun o2 =>
      fX6_go_L50 l1 l2 o2
    else
      (fX6_reckonNeeded o1).bind fun o6 =>
      fX6_go_L50 l1 l2 o6
set_option maxHeartbeats 4000000 in
set_option maxRecDepth 100000 in
theorem tX6_go_B7 {E : Gx} {cI : ClassId} {ad : Nat → Nat} (C : Cx E rmX6_go cI layX ad 3 RX6 cX6_go) {out : Int32 × Mem} (K0 : KI E rmX6_go cI layX ad 3 cX6_go .int out) {l1 : Int32} {l2 : Int32} {σ : Mem} {res : (Int32 × Mem) ⊕ ((Mem) ⊕ (Int32 × Mem))} (h : fX6_go_B7 l1 l2 σ = some res) (K : Sum.elim (fun a => G E rmX6_go cI layX ad 3 7 [(0, .ref (ad 6)), (1, .int l1), (2, .int a.1)] [] a.2) (Sum.elim (fun b => G E rmX6_go cI layX ad 3 77 [] [] b) (fun b => b = out)) res) : G E rmX6_go cI layX ad 3 7 [(0, .ref (ad 6)), (1, .int l1), (2, .int l2)] [] σ := by
  unfold fX6_go_B7 at h
  refine g_iload_n 8 C dX6_go_7 rfl (j := 2) rfl rfl ?_
  refine g_sipush 11 (v := 300) C dX6_go_8 (by decide) rfl ?_
  refine g_icmp_ge 77 14 C dX6_go_11 (by decide) rfl h (fun h => ?_) (fun h => ?_)
  · have hh := end_alt0_2 h K
    exact g_sub [] (hh) rfl
  · refine g_aload_n 15 C dX6_go_14 rfl (j := 0) rfl rfl ?_
    refine g_getr 18 (j := 5) C rfl rfl wu_X6 (by decide) wf_X6_15 rfl dX6_go_15 rfl ?_
    refine g_iconst 19 (v := 0) C dX6_go_18 (by decide) rfl ?_
    refine g_aload_n 20 C dX6_go_19 rfl (j := 0) rfl rfl ?_
    refine g_getr 23 (j := 6) C rfl rfl wu_X6 (by decide) wf_X6_18 rfl dX6_go_20 rfl ?_
    refine g_iconst 24 (v := 0) C dX6_go_23 (by decide) rfl ?_
    refine g_bipush 26 (v := 30) C dX6_go_24 (by decide) rfl ?_
    refine g_copy 29 C wl_X6_78 wA_n wA_s wA_i rfl rfl (by decide) (by decide) (by decide) (Nat.le_of_ble_eq_true rfl) dX6_go_26 rfl ?_
    refine g_aload_n 30 C dX6_go_29 rfl (j := 0) rfl rfl ?_
    refine g_iload_n 31 C dX6_go_30 rfl (j := 2) rfl rfl ?_
    refine g_iload_n 32 C dX6_go_31 rfl (j := 1) rfl rfl ?_
    refine g_cvv 35 C (As := [.int l2, .int l1]) (fun _ h => mX6_carryInto (a1 := l2) (a2 := l1) (σ := upR σ 28 (va_cpy (σ 27) (σ 28) 0 0 30)) h) wl_X6_84 wi_X6_carryInto wz_X6_carryInto wc_X6_carryInto wn_X6 qX6_carryInto rfl rfl ⟨Nat.le_of_ble_eq_true rfl, Nat.le_of_ble_eq_true rfl⟩ rfl rfl rfl rfl (Nat.le_of_ble_eq_true rfl) dX6_go_32 rfl h (fun o1 h => ?_)
    refine g_iload_n 36 C dX6_go_35 rfl (j := 1) rfl rfl ?_
    refine g_if_eq 46 39 C dX6_go_36 (by decide) rfl h (fun h => ?_) (fun h => ?_)
    · refine g_aload_n 47 C dX6_go_46 rfl (j := 0) rfl rfl ?_
      refine g_cvv 50 C (As := []) (fun _ h => mX6_reckonAll (σ := o1) h) wl_X6_91 wi_X6_reckonAll wz_X6_reckonAll wc_X6_reckonAll wn_X6 qX6_reckonAll rfl rfl ⟨Nat.le_of_ble_eq_true rfl, Nat.le_of_ble_eq_true rfl⟩ rfl rfl rfl rfl (Nat.le_of_ble_eq_true rfl) dX6_go_47 rfl h (fun o2 h => ?_)
      exact tX6_go_L50 (l1 := l1) (l2 := l2) (σ := o2) C K0 h K
    · refine g_aload_n 40 C dX6_go_39 rfl (j := 0) rfl rfl ?_
      refine g_cvv 43 C (As := []) (fun _ h => mX6_reckonNeeded (σ := o1) h) wl_X6_88 wi_X6_reckonNeeded wz_X6_reckonNeeded wc_X6_reckonNeeded wn_X6 qX6_reckonNeeded rfl rfl ⟨Nat.le_of_ble_eq_true rfl, Nat.le_of_ble_eq_true rfl⟩ rfl rfl rfl rfl (Nat.le_of_ble_eq_true rfl) dX6_go_40 rfl h (fun o6 h => ?_)
      refine g_goto 50 C dX6_go_43 (by decide) ?_
      exact tX6_go_L50 (l1 := l1) (l2 := l2) (σ := o6) C K0 h K
noncomputable def fX6_go_L77 (σ : Mem) : Option (Int32 × Mem) :=
  some ((-2), σ)
set_option maxHeartbeats 4000000 in
set_option maxRecDepth 100000 in
theorem tX6_go_L77 {E : Gx} {cI : ClassId} {ad : Nat → Nat} (C : Cx E rmX6_go cI layX ad 3 RX6 cX6_go) {out : Int32 × Mem} (K0 : KI E rmX6_go cI layX ad 3 cX6_go .int out) {σ : Mem} (h : fX6_go_L77 σ = some out) : G E rmX6_go cI layX ad 3 77 [] [] σ := by
  unfold fX6_go_L77 at h
  refine g_bipush 79 (v := (-2)) C dX6_go_77 (by decide) rfl ?_
  cases h
  exact K0 _ _ dX6_go_79 rfl
noncomputable def fX6_go (a1 : Int32) (σ : Mem) : Option (Int32 × Mem) :=
  (loop (fun a => fX6_go_B7 a1 a.1 a.2) (0, up2 σ 6 10 0)).bind (Sum.elim (fun b7x0 => fX6_go_L77 b7x0) (fun b7r => some b7r))
set_option maxHeartbeats 4000000 in
set_option maxRecDepth 100000 in
theorem mX6_go {l : Launch} {D : va_G} {cI : ClassId} {ad : Nat → Nat} {a1 : Int32} {σ : Mem} {out : Int32 × Mem} (h : fX6_go a1 σ = some out) : MI l D cI layX ad yX6_go cX6_go 3 .int rmX6_go [.ref (ad 6), .int a1] σ out := by
  refine met_i (by decide) (Nat.le_of_ble_eq_true rfl) (fun E C K0 => ?_)
  show G E rmX6_go cI layX ad 3 0 [(0, .ref (ad 6)), (1, .int a1)] [] σ
  unfold fX6_go at h
  refine g_aload_n 1 C dX6_go_0 rfl (j := 0) rfl rfl ?_
  refine g_iconst 2 (v := 0) C dX6_go_1 (by decide) rfl ?_
  refine g_puti 5 (j := 10) C rfl rfl wu_X6 (by decide) wf_X6_75 tyX6 tyX6_ok nmX6 rfl rfl rfl rfl dX6_go_2 rfl ?_
  refine g_iconst 6 (v := 0) C dX6_go_5 (by decide) rfl ?_
  refine g_istore_n 7 [(2, .int 0), (0, .ref (ad 6)), (1, .int a1)] C dX6_go_6 rfl (by decide) rfl rfl ?_
  obtain ⟨b7, hb, h⟩ := bind_some h
  refine g_sub [1, 2, 0] (g_loop (a := (0, up2 σ 6 10 0)) (fun a => G E rmX6_go cI layX ad 3 7 [(0, .ref (ad 6)), (1, .int a1), (2, .int a.1)] [] a.2) (Sum.elim (fun b => G E rmX6_go cI layX ad 3 77 [] [] b) (fun b => b = out)) hb (fun a res h K => tX6_go_B7 (l1 := a1) (l2 := a.1) (σ := a.2) (res := res) C K0 h K) ?_) rfl
  rcases b7 with b7x0 | b7r
  · show G E rmX6_go cI layX ad 3 77 [] [] b7x0
    exact tX6_go_L77 (σ := b7x0) C K0 h
  · exact end_top h

/-! LoopReducer$Runner.goPlainly()I -/
abbrev rmX6_goPlainly : Room := { frames := 4, cells := 0, slots := 0, locals := 89 }
theorem qX6_goPlainly : yX6_goPlainly.cls ≠ "java/lang/invoke/MethodHandle" ∧ yX6_goPlainly.cls ≠ "java/lang/invoke/VarHandle" ∧ (parseMethodDescriptor yX6_goPlainly.desc).map (fun d => d.parameters.length) = some 0 := by decide +kernel
theorem DX6_goPlainly : ∀ q ∈ ([(0, .aload_n 0, 1), (1, .invokevirtual 62, 3), (4, .aload_n 0, 1), (5, .iconst 0, 1), (6, .invokevirtual 65, 3), (9, .ireturn, 1)] : List (Nat × Instr × Nat)), decode cX6_goPlainly q.1 = .ok q.2 := by decide +kernel
theorem dX6_goPlainly_0 : decode cX6_goPlainly 0 = .ok (.aload_n 0, 1) := DX6_goPlainly (0, .aload_n 0, 1) (List.mem_of_getElem? (i := 0) rfl)
theorem dX6_goPlainly_1 : decode cX6_goPlainly 1 = .ok (.invokevirtual 62, 3) := DX6_goPlainly (1, .invokevirtual 62, 3) (List.mem_of_getElem? (i := 1) rfl)
theorem dX6_goPlainly_4 : decode cX6_goPlainly 4 = .ok (.aload_n 0, 1) := DX6_goPlainly (4, .aload_n 0, 1) (List.mem_of_getElem? (i := 2) rfl)
theorem dX6_goPlainly_5 : decode cX6_goPlainly 5 = .ok (.iconst 0, 1) := DX6_goPlainly (5, .iconst 0, 1) (List.mem_of_getElem? (i := 3) rfl)
theorem dX6_goPlainly_6 : decode cX6_goPlainly 6 = .ok (.invokevirtual 65, 3) := DX6_goPlainly (6, .invokevirtual 65, 3) (List.mem_of_getElem? (i := 4) rfl)
theorem dX6_goPlainly_9 : decode cX6_goPlainly 9 = .ok (.ireturn, 1) := DX6_goPlainly (9, .ireturn, 1) (List.mem_of_getElem? (i := 5) rfl)
noncomputable def fX6_goPlainly (σ : Mem) : Option (Int32 × Mem) :=
  (fX6_fillGiven σ).bind fun o1 =>
  (fX6_go 0 o1).bind fun o2 =>
  some (o2.1, o2.2)
set_option maxHeartbeats 4000000 in
set_option maxRecDepth 100000 in
theorem mX6_goPlainly {l : Launch} {D : va_G} {cI : ClassId} {ad : Nat → Nat} {σ : Mem} {out : Int32 × Mem} (h : fX6_goPlainly σ = some out) : MI l D cI layX ad yX6_goPlainly cX6_goPlainly 1 .int rmX6_goPlainly [.ref (ad 6)] σ out := by
  refine met_i (by decide) (Nat.le_of_ble_eq_true rfl) (fun E C K0 => ?_)
  show G E rmX6_goPlainly cI layX ad 1 0 [(0, .ref (ad 6))] [] σ
  unfold fX6_goPlainly at h
  refine g_aload_n 1 C dX6_goPlainly_0 rfl (j := 0) rfl rfl ?_
  refine g_cvv 4 C (As := []) (fun _ h => mX6_fillGiven (σ := σ) h) wl_X6_62 wi_X6_fillGiven wz_X6_fillGiven wc_X6_fillGiven wn_X6 qX6_fillGiven rfl rfl ⟨Nat.le_of_ble_eq_true rfl, Nat.le_of_ble_eq_true rfl⟩ rfl rfl rfl rfl (Nat.le_of_ble_eq_true rfl) dX6_goPlainly_1 rfl h (fun o1 h => ?_)
  refine g_aload_n 5 C dX6_goPlainly_4 rfl (j := 0) rfl rfl ?_
  refine g_iconst 6 (v := 0) C dX6_goPlainly_5 (by decide) rfl ?_
  refine g_cvi 9 C (As := [.int 0]) (fun _ h => mX6_go (a1 := 0) (σ := o1) h) wl_X6_65 wi_X6_go wz_X6_go wc_X6_go wn_X6 qX6_go rfl rfl ⟨Nat.le_of_ble_eq_true rfl, Nat.le_of_ble_eq_true rfl⟩ rfl rfl rfl rfl (Nat.le_of_ble_eq_true rfl) dX6_goPlainly_6 rfl h (fun o2 h => ?_)
  cases h
  exact K0 _ _ dX6_goPlainly_9 rfl

/-! LoopReducer$Runner.goReduced()I -/
abbrev rmX6_goReduced : Room := { frames := 4, cells := 0, slots := 0, locals := 91 }
theorem qX6_goReduced : yX6_goReduced.cls ≠ "java/lang/invoke/MethodHandle" ∧ yX6_goReduced.cls ≠ "java/lang/invoke/VarHandle" ∧ (parseMethodDescriptor yX6_goReduced.desc).map (fun d => d.parameters.length) = some 0 := by decide +kernel
theorem DX6_goReduced : ∀ q ∈ ([(0, .aload_n 0, 1), (1, .invokevirtual 69, 3), (4, .aload_n 0, 1), (5, .invokevirtual 72, 3), (8, .aload_n 0, 1), (9, .iconst 1, 1), (10, .invokevirtual 65, 3), (13, .ireturn, 1)] : List (Nat × Instr × Nat)), decode cX6_goReduced q.1 = .ok q.2 := by decide +kernel
theorem dX6_goReduced_0 : decode cX6_goReduced 0 = .ok (.aload_n 0, 1) := DX6_goReduced (0, .aload_n 0, 1) (List.mem_of_getElem? (i := 0) rfl)
theorem dX6_goReduced_1 : decode cX6_goReduced 1 = .ok (.invokevirtual 69, 3) := DX6_goReduced (1, .invokevirtual 69, 3) (List.mem_of_getElem? (i := 1) rfl)
theorem dX6_goReduced_4 : decode cX6_goReduced 4 = .ok (.aload_n 0, 1) := DX6_goReduced (4, .aload_n 0, 1) (List.mem_of_getElem? (i := 2) rfl)
theorem dX6_goReduced_5 : decode cX6_goReduced 5 = .ok (.invokevirtual 72, 3) := DX6_goReduced (5, .invokevirtual 72, 3) (List.mem_of_getElem? (i := 3) rfl)
theorem dX6_goReduced_8 : decode cX6_goReduced 8 = .ok (.aload_n 0, 1) := DX6_goReduced (8, .aload_n 0, 1) (List.mem_of_getElem? (i := 4) rfl)
theorem dX6_goReduced_9 : decode cX6_goReduced 9 = .ok (.iconst 1, 1) := DX6_goReduced (9, .iconst 1, 1) (List.mem_of_getElem? (i := 5) rfl)
theorem dX6_goReduced_10 : decode cX6_goReduced 10 = .ok (.invokevirtual 65, 3) := DX6_goReduced (10, .invokevirtual 65, 3) (List.mem_of_getElem? (i := 6) rfl)
theorem dX6_goReduced_13 : decode cX6_goReduced 13 = .ok (.ireturn, 1) := DX6_goReduced (13, .ireturn, 1) (List.mem_of_getElem? (i := 7) rfl)
noncomputable def fX6_goReduced (σ : Mem) : Option (Int32 × Mem) :=
  (fX6_fillSteady σ).bind fun o1 =>
  (fX6_fillCells o1).bind fun o2 =>
  (fX6_go 1 o2).bind fun o3 =>
  some (o3.1, o3.2)
set_option maxHeartbeats 4000000 in
set_option maxRecDepth 100000 in
theorem mX6_goReduced {l : Launch} {D : va_G} {cI : ClassId} {ad : Nat → Nat} {σ : Mem} {out : Int32 × Mem} (h : fX6_goReduced σ = some out) : MI l D cI layX ad yX6_goReduced cX6_goReduced 1 .int rmX6_goReduced [.ref (ad 6)] σ out := by
  refine met_i (by decide) (Nat.le_of_ble_eq_true rfl) (fun E C K0 => ?_)
  show G E rmX6_goReduced cI layX ad 1 0 [(0, .ref (ad 6))] [] σ
  unfold fX6_goReduced at h
  refine g_aload_n 1 C dX6_goReduced_0 rfl (j := 0) rfl rfl ?_
  refine g_cvv 4 C (As := []) (fun _ h => mX6_fillSteady (σ := σ) h) wl_X6_69 wi_X6_fillSteady wz_X6_fillSteady wc_X6_fillSteady wn_X6 qX6_fillSteady rfl rfl ⟨Nat.le_of_ble_eq_true rfl, Nat.le_of_ble_eq_true rfl⟩ rfl rfl rfl rfl (Nat.le_of_ble_eq_true rfl) dX6_goReduced_1 rfl h (fun o1 h => ?_)
  refine g_aload_n 5 C dX6_goReduced_4 rfl (j := 0) rfl rfl ?_
  refine g_cvv 8 C (As := []) (fun _ h => mX6_fillCells (σ := o1) h) wl_X6_72 wi_X6_fillCells wz_X6_fillCells wc_X6_fillCells wn_X6 qX6_fillCells rfl rfl ⟨Nat.le_of_ble_eq_true rfl, Nat.le_of_ble_eq_true rfl⟩ rfl rfl rfl rfl (Nat.le_of_ble_eq_true rfl) dX6_goReduced_5 rfl h (fun o2 h => ?_)
  refine g_aload_n 9 C dX6_goReduced_8 rfl (j := 0) rfl rfl ?_
  refine g_iconst 10 (v := 1) C dX6_goReduced_9 (by decide) rfl ?_
  refine g_cvi 13 C (As := [.int 1]) (fun _ h => mX6_go (a1 := 1) (σ := o2) h) wl_X6_65 wi_X6_go wz_X6_go wc_X6_go wn_X6 qX6_go rfl rfl ⟨Nat.le_of_ble_eq_true rfl, Nat.le_of_ble_eq_true rfl⟩ rfl rfl rfl rfl (Nat.le_of_ble_eq_true rfl) dX6_goReduced_10 rfl h (fun o3 h => ?_)
  cases h
  exact K0 _ _ dX6_goReduced_13 rfl
