/-! LoopReducer.number(I)I -/
abbrev rmX7_number : Room := { frames := 1, cells := 0, slots := 0, locals := 23 }
theorem qX7_number : yX7_number.cls ≠ "java/lang/invoke/MethodHandle" ∧ yX7_number.cls ≠ "java/lang/invoke/VarHandle" ∧ (parseMethodDescriptor yX7_number.desc).map (fun d => d.parameters.length) = some 1 := by decide +kernel
theorem DX7_number : ∀ q ∈ ([(0, .aload_n 0, 1), (1, .getfield 23, 3), (4, .iconst 0, 1), (5, .iload_n 1, 1), (6, .aload_n 0, 1), (7, .getfield 23, 3), (10, .getfield 79, 3), (13, .iand, 1), (14, .bipush (-2), 2), (16, .invokevirtual 83, 3), (19, .ireturn, 1)] : List (Nat × Instr × Nat)), decode cX7_number q.1 = .ok q.2 := by decide +kernel
theorem dX7_number_0 : decode cX7_number 0 = .ok (.aload_n 0, 1) := DX7_number (0, .aload_n 0, 1) (List.mem_of_getElem? (i := 0) rfl)
theorem dX7_number_1 : decode cX7_number 1 = .ok (.getfield 23, 3) := DX7_number (1, .getfield 23, 3) (List.mem_of_getElem? (i := 1) rfl)
theorem dX7_number_4 : decode cX7_number 4 = .ok (.iconst 0, 1) := DX7_number (4, .iconst 0, 1) (List.mem_of_getElem? (i := 2) rfl)
theorem dX7_number_5 : decode cX7_number 5 = .ok (.iload_n 1, 1) := DX7_number (5, .iload_n 1, 1) (List.mem_of_getElem? (i := 3) rfl)
theorem dX7_number_6 : decode cX7_number 6 = .ok (.aload_n 0, 1) := DX7_number (6, .aload_n 0, 1) (List.mem_of_getElem? (i := 4) rfl)
theorem dX7_number_7 : decode cX7_number 7 = .ok (.getfield 23, 3) := DX7_number (7, .getfield 23, 3) (List.mem_of_getElem? (i := 5) rfl)
theorem dX7_number_10 : decode cX7_number 10 = .ok (.getfield 79, 3) := DX7_number (10, .getfield 79, 3) (List.mem_of_getElem? (i := 6) rfl)
theorem dX7_number_13 : decode cX7_number 13 = .ok (.iand, 1) := DX7_number (13, .iand, 1) (List.mem_of_getElem? (i := 7) rfl)
theorem dX7_number_14 : decode cX7_number 14 = .ok (.bipush (-2), 2) := DX7_number (14, .bipush (-2), 2) (List.mem_of_getElem? (i := 8) rfl)
theorem dX7_number_16 : decode cX7_number 16 = .ok (.invokevirtual 83, 3) := DX7_number (16, .invokevirtual 83, 3) (List.mem_of_getElem? (i := 9) rfl)
theorem dX7_number_19 : decode cX7_number 19 = .ok (.ireturn, 1) := DX7_number (19, .ireturn, 1) (List.mem_of_getElem? (i := 10) rfl)
noncomputable def fX7_number (a1 : Int32) (σ : Mem) : Option (Int32 × Mem) :=
  (fX3_add 0 (a1 &&& (σ 3 0)) (-2) σ).bind fun o1 =>
  some (o1.1, o1.2)
set_option maxHeartbeats 4000000 in
set_option maxRecDepth 100000 in
theorem mX7_number {l : Launch} {D : va_G} {cI : ClassId} {ad : Nat → Nat} {a1 : Int32} {σ : Mem} {out : Int32 × Mem} (h : fX7_number a1 σ = some out) : MI l D cI layX ad yX7_number cX7_number 2 .int rmX7_number [.ref (ad 7), .int a1] σ out := by
  refine met_i (by decide) (Nat.le_of_ble_eq_true rfl) (fun E C K0 => ?_)
  show G E rmX7_number cI layX ad 2 0 [(0, .ref (ad 7)), (1, .int a1)] [] σ
  unfold fX7_number at h
  refine g_aload_n 1 C dX7_number_0 rfl (j := 0) rfl rfl ?_
  refine g_getr 4 (j := 0) C rfl rfl wu_X7 (by decide) wf_X7_23 rfl dX7_number_1 rfl ?_
  refine g_iconst 5 (v := 0) C dX7_number_4 (by decide) rfl ?_
  refine g_iload_n 6 C dX7_number_5 rfl (j := 1) rfl rfl ?_
  refine g_aload_n 7 C dX7_number_6 rfl (j := 0) rfl rfl ?_
  refine g_getr 10 (j := 0) C rfl rfl wu_X7 (by decide) wf_X7_23 rfl dX7_number_7 rfl ?_
  refine g_getiN 13 (j := 0) C rfl rfl wu_X3 (by decide) (List.mem_of_getElem? (i := 0) rfl) rfl dX7_number_10 rfl ?_
  refine g_iand 14 C dX7_number_13 rfl ?_
  refine g_bipush 16 (v := (-2)) C dX7_number_14 (by decide) rfl ?_
  refine g_cni 19 C (As := [.int 0, .int (a1 &&& (σ 3 0)), .int (-2)]) (fun _ h => mX3_add (a1 := 0) (a2 := a1 &&& (σ 3 0)) (a3 := (-2)) (σ := σ) h) (List.mem_of_getElem? (i := 7) rfl) wi_X3_add wz_X3_add wc_X3_add wn_X3 qX3_add rfl rfl ⟨Nat.le_of_ble_eq_true rfl, Nat.le_of_ble_eq_true rfl⟩ rfl rfl rfl rfl (Nat.le_of_ble_eq_true rfl) dX7_number_16 rfl h (fun o1 h => ?_)
  cases h
  exact K0 _ _ dX7_number_19 rfl

/-! LoopReducer.input()I -/
abbrev rmX7_input : Room := { frames := 1, cells := 0, slots := 0, locals := 23 }
theorem qX7_input : yX7_input.cls ≠ "java/lang/invoke/MethodHandle" ∧ yX7_input.cls ≠ "java/lang/invoke/VarHandle" ∧ (parseMethodDescriptor yX7_input.desc).map (fun d => d.parameters.length) = some 0 := by decide +kernel
theorem DX7_input : ∀ q ∈ ([(0, .aload_n 0, 1), (1, .getfield 23, 3), (4, .getfield 87, 3), (7, .iconst 3, 1), (8, .if_icmp .lt 5, 3), (11, .iconst (-1), 1), (12, .ireturn, 1), (13, .aload_n 0, 1), (14, .getfield 23, 3), (17, .iconst 1, 1), (18, .aload_n 0, 1), (19, .getfield 23, 3), (22, .getfield 87, 3), (25, .bipush (-2), 2), (27, .invokevirtual 83, 3), (30, .ireturn, 1)] : List (Nat × Instr × Nat)), decode cX7_input q.1 = .ok q.2 := by decide +kernel
theorem dX7_input_0 : decode cX7_input 0 = .ok (.aload_n 0, 1) := DX7_input (0, .aload_n 0, 1) (List.mem_of_getElem? (i := 0) rfl)
theorem dX7_input_1 : decode cX7_input 1 = .ok (.getfield 23, 3) := DX7_input (1, .getfield 23, 3) (List.mem_of_getElem? (i := 1) rfl)
theorem dX7_input_4 : decode cX7_input 4 = .ok (.getfield 87, 3) := DX7_input (4, .getfield 87, 3) (List.mem_of_getElem? (i := 2) rfl)
theorem dX7_input_7 : decode cX7_input 7 = .ok (.iconst 3, 1) := DX7_input (7, .iconst 3, 1) (List.mem_of_getElem? (i := 3) rfl)
theorem dX7_input_8 : decode cX7_input 8 = .ok (.if_icmp .lt 5, 3) := DX7_input (8, .if_icmp .lt 5, 3) (List.mem_of_getElem? (i := 4) rfl)
theorem dX7_input_11 : decode cX7_input 11 = .ok (.iconst (-1), 1) := DX7_input (11, .iconst (-1), 1) (List.mem_of_getElem? (i := 5) rfl)
theorem dX7_input_12 : decode cX7_input 12 = .ok (.ireturn, 1) := DX7_input (12, .ireturn, 1) (List.mem_of_getElem? (i := 6) rfl)
theorem dX7_input_13 : decode cX7_input 13 = .ok (.aload_n 0, 1) := DX7_input (13, .aload_n 0, 1) (List.mem_of_getElem? (i := 7) rfl)
theorem dX7_input_14 : decode cX7_input 14 = .ok (.getfield 23, 3) := DX7_input (14, .getfield 23, 3) (List.mem_of_getElem? (i := 8) rfl)
theorem dX7_input_17 : decode cX7_input 17 = .ok (.iconst 1, 1) := DX7_input (17, .iconst 1, 1) (List.mem_of_getElem? (i := 9) rfl)
theorem dX7_input_18 : decode cX7_input 18 = .ok (.aload_n 0, 1) := DX7_input (18, .aload_n 0, 1) (List.mem_of_getElem? (i := 10) rfl)
theorem dX7_input_19 : decode cX7_input 19 = .ok (.getfield 23, 3) := DX7_input (19, .getfield 23, 3) (List.mem_of_getElem? (i := 11) rfl)
theorem dX7_input_22 : decode cX7_input 22 = .ok (.getfield 87, 3) := DX7_input (22, .getfield 87, 3) (List.mem_of_getElem? (i := 12) rfl)
theorem dX7_input_25 : decode cX7_input 25 = .ok (.bipush (-2), 2) := DX7_input (25, .bipush (-2), 2) (List.mem_of_getElem? (i := 13) rfl)
theorem dX7_input_27 : decode cX7_input 27 = .ok (.invokevirtual 83, 3) := DX7_input (27, .invokevirtual 83, 3) (List.mem_of_getElem? (i := 14) rfl)
theorem dX7_input_30 : decode cX7_input 30 = .ok (.ireturn, 1) := DX7_input (30, .ireturn, 1) (List.mem_of_getElem? (i := 15) rfl)
noncomputable def fX7_input (σ : Mem) : Option (Int32 × Mem) :=
  if (σ 3 5) < 3 then
    (fX3_add 1 (σ 3 5) (-2) σ).bind fun o1 =>
    some (o1.1, o1.2)
  else
    some ((-1), σ)
set_option maxHeartbeats 4000000 in
set_option maxRecDepth 100000 in
theorem mX7_input {l : Launch} {D : va_G} {cI : ClassId} {ad : Nat → Nat} {σ : Mem} {out : Int32 × Mem} (h : fX7_input σ = some out) : MI l D cI layX ad yX7_input cX7_input 1 .int rmX7_input [.ref (ad 7)] σ out := by
  refine met_i (by decide) (Nat.le_of_ble_eq_true rfl) (fun E C K0 => ?_)
  show G E rmX7_input cI layX ad 1 0 [(0, .ref (ad 7))] [] σ
  unfold fX7_input at h
  refine g_aload_n 1 C dX7_input_0 rfl (j := 0) rfl rfl ?_
  refine g_getr 4 (j := 0) C rfl rfl wu_X7 (by decide) wf_X7_23 rfl dX7_input_1 rfl ?_
  refine g_getiN 7 (j := 5) C rfl rfl wu_X3 (by decide) (List.mem_of_getElem? (i := 17) rfl) rfl dX7_input_4 rfl ?_
  refine g_iconst 8 (v := 3) C dX7_input_7 (by decide) rfl ?_
  refine g_icmp_lt 13 11 C dX7_input_8 (by decide) rfl h (fun h => ?_) (fun h => ?_)
  · refine g_aload_n 14 C dX7_input_13 rfl (j := 0) rfl rfl ?_
    refine g_getr 17 (j := 0) C rfl rfl wu_X7 (by decide) wf_X7_23 rfl dX7_input_14 rfl ?_
    refine g_iconst 18 (v := 1) C dX7_input_17 (by decide) rfl ?_
    refine g_aload_n 19 C dX7_input_18 rfl (j := 0) rfl rfl ?_
    refine g_getr 22 (j := 0) C rfl rfl wu_X7 (by decide) wf_X7_23 rfl dX7_input_19 rfl ?_
    refine g_getiN 25 (j := 5) C rfl rfl wu_X3 (by decide) (List.mem_of_getElem? (i := 17) rfl) rfl dX7_input_22 rfl ?_
    refine g_bipush 27 (v := (-2)) C dX7_input_25 (by decide) rfl ?_
    refine g_cni 30 C (As := [.int 1, .int (σ 3 5), .int (-2)]) (fun _ h => mX3_add (a1 := 1) (a2 := σ 3 5) (a3 := (-2)) (σ := σ) h) (List.mem_of_getElem? (i := 7) rfl) wi_X3_add wz_X3_add wc_X3_add wn_X3 qX3_add rfl rfl ⟨Nat.le_of_ble_eq_true rfl, Nat.le_of_ble_eq_true rfl⟩ rfl rfl rfl rfl (Nat.le_of_ble_eq_true rfl) dX7_input_27 rfl h (fun o1 h => ?_)
    cases h
    exact K0 _ _ dX7_input_30 rfl
  · refine g_iconst 12 (v := (-1)) C dX7_input_11 (by decide) rfl ?_
    cases h
    exact K0 _ _ dX7_input_12 rfl

/-! LoopReducer.carried(I)I -/
abbrev rmX7_carried : Room := { frames := 2, cells := 0, slots := 0, locals := 43 }
theorem qX7_carried : yX7_carried.cls ≠ "java/lang/invoke/MethodHandle" ∧ yX7_carried.cls ≠ "java/lang/invoke/VarHandle" ∧ (parseMethodDescriptor yX7_carried.desc).map (fun d => d.parameters.length) = some 1 := by decide +kernel
theorem DX7_carried : ∀ q ∈ ([(0, .aload_n 0, 1), (1, .getfield 23, 3), (4, .iload_n 1, 1), (5, .iconst 0, 1), (6, .invokevirtual 90, 3), (9, .ifCond .ne 17, 3), (12, .aload_n 0, 1), (13, .getfield 23, 3), (16, .iload_n 1, 1), (17, .iconst 1, 1), (18, .invokevirtual 90, 3), (21, .ifCond .ne 5, 3), (24, .iconst (-1), 1), (25, .ireturn, 1), (26, .aload_n 0, 1), (27, .getfield 23, 3), (30, .iconst 5, 1), (31, .iload_n 1, 1), (32, .aload_n 0, 1), (33, .getfield 23, 3), (36, .getfield 94, 3), (39, .invokevirtual 83, 3), (42, .ireturn, 1)] : List (Nat × Instr × Nat)), decode cX7_carried q.1 = .ok q.2 := by decide +kernel
theorem dX7_carried_0 : decode cX7_carried 0 = .ok (.aload_n 0, 1) := DX7_carried (0, .aload_n 0, 1) (List.mem_of_getElem? (i := 0) rfl)
theorem dX7_carried_1 : decode cX7_carried 1 = .ok (.getfield 23, 3) := DX7_carried (1, .getfield 23, 3) (List.mem_of_getElem? (i := 1) rfl)
theorem dX7_carried_4 : decode cX7_carried 4 = .ok (.iload_n 1, 1) := DX7_carried (4, .iload_n 1, 1) (List.mem_of_getElem? (i := 2) rfl)
theorem dX7_carried_5 : decode cX7_carried 5 = .ok (.iconst 0, 1) := DX7_carried (5, .iconst 0, 1) (List.mem_of_getElem? (i := 3) rfl)
theorem dX7_carried_6 : decode cX7_carried 6 = .ok (.invokevirtual 90, 3) := DX7_carried (6, .invokevirtual 90, 3) (List.mem_of_getElem? (i := 4) rfl)
theorem dX7_carried_9 : decode cX7_carried 9 = .ok (.ifCond .ne 17, 3) := DX7_carried (9, .ifCond .ne 17, 3) (List.mem_of_getElem? (i := 5) rfl)
theorem dX7_carried_12 : decode cX7_carried 12 = .ok (.aload_n 0, 1) := DX7_carried (12, .aload_n 0, 1) (List.mem_of_getElem? (i := 6) rfl)
theorem dX7_carried_13 : decode cX7_carried 13 = .ok (.getfield 23, 3) := DX7_carried (13, .getfield 23, 3) (List.mem_of_getElem? (i := 7) rfl)
theorem dX7_carried_16 : decode cX7_carried 16 = .ok (.iload_n 1, 1) := DX7_carried (16, .iload_n 1, 1) (List.mem_of_getElem? (i := 8) rfl)
theorem dX7_carried_17 : decode cX7_carried 17 = .ok (.iconst 1, 1) := DX7_carried (17, .iconst 1, 1) (List.mem_of_getElem? (i := 9) rfl)
theorem dX7_carried_18 : decode cX7_carried 18 = .ok (.invokevirtual 90, 3) := DX7_carried (18, .invokevirtual 90, 3) (List.mem_of_getElem? (i := 10) rfl)
theorem dX7_carried_21 : decode cX7_carried 21 = .ok (.ifCond .ne 5, 3) := DX7_carried (21, .ifCond .ne 5, 3) (List.mem_of_getElem? (i := 11) rfl)
theorem dX7_carried_24 : decode cX7_carried 24 = .ok (.iconst (-1), 1) := DX7_carried (24, .iconst (-1), 1) (List.mem_of_getElem? (i := 12) rfl)
theorem dX7_carried_25 : decode cX7_carried 25 = .ok (.ireturn, 1) := DX7_carried (25, .ireturn, 1) (List.mem_of_getElem? (i := 13) rfl)
theorem dX7_carried_26 : decode cX7_carried 26 = .ok (.aload_n 0, 1) := DX7_carried (26, .aload_n 0, 1) (List.mem_of_getElem? (i := 14) rfl)
theorem dX7_carried_27 : decode cX7_carried 27 = .ok (.getfield 23, 3) := DX7_carried (27, .getfield 23, 3) (List.mem_of_getElem? (i := 15) rfl)
theorem dX7_carried_30 : decode cX7_carried 30 = .ok (.iconst 5, 1) := DX7_carried (30, .iconst 5, 1) (List.mem_of_getElem? (i := 16) rfl)
theorem dX7_carried_31 : decode cX7_carried 31 = .ok (.iload_n 1, 1) := DX7_carried (31, .iload_n 1, 1) (List.mem_of_getElem? (i := 17) rfl)
theorem dX7_carried_32 : decode cX7_carried 32 = .ok (.aload_n 0, 1) := DX7_carried (32, .aload_n 0, 1) (List.mem_of_getElem? (i := 18) rfl)
theorem dX7_carried_33 : decode cX7_carried 33 = .ok (.getfield 23, 3) := DX7_carried (33, .getfield 23, 3) (List.mem_of_getElem? (i := 19) rfl)
theorem dX7_carried_36 : decode cX7_carried 36 = .ok (.getfield 94, 3) := DX7_carried (36, .getfield 94, 3) (List.mem_of_getElem? (i := 20) rfl)
theorem dX7_carried_39 : decode cX7_carried 39 = .ok (.invokevirtual 83, 3) := DX7_carried (39, .invokevirtual 83, 3) (List.mem_of_getElem? (i := 21) rfl)
theorem dX7_carried_42 : decode cX7_carried 42 = .ok (.ireturn, 1) := DX7_carried (42, .ireturn, 1) (List.mem_of_getElem? (i := 22) rfl)
noncomputable def fX7_carried_L26 (l1 : Int32) (σ : Mem) : Option (Int32 × Mem) :=
  (fX3_add 5 l1 (σ 3 4) σ).bind fun o2 =>
  some (o2.1, o2.2)
set_option maxHeartbeats 4000000 in
set_option maxRecDepth 100000 in
theorem tX7_carried_L26 {E : Gx} {cI : ClassId} {ad : Nat → Nat} (C : Cx E rmX7_carried cI layX ad 2 RX7 cX7_carried) {out : Int32 × Mem} (K0 : KI E rmX7_carried cI layX ad 2 cX7_carried .int out) {l1 : Int32} {σ : Mem} (h : fX7_carried_L26 l1 σ = some out) : G E rmX7_carried cI layX ad 2 26 [(0, .ref (ad 7)), (1, .int l1)] [] σ := by
  unfold fX7_carried_L26 at h
  refine g_aload_n 27 C dX7_carried_26 rfl (j := 0) rfl rfl ?_
  refine g_getr 30 (j := 0) C rfl rfl wu_X7 (by decide) wf_X7_23 rfl dX7_carried_27 rfl ?_
  refine g_iconst 31 (v := 5) C dX7_carried_30 (by decide) rfl ?_
  refine g_iload_n 32 C dX7_carried_31 rfl (j := 1) rfl rfl ?_
  refine g_aload_n 33 C dX7_carried_32 rfl (j := 0) rfl rfl ?_
  refine g_getr 36 (j := 0) C rfl rfl wu_X7 (by decide) wf_X7_23 rfl dX7_carried_33 rfl ?_
  refine g_getiN 39 (j := 4) C rfl rfl wu_X3 (by decide) (List.mem_of_getElem? (i := 15) rfl) rfl dX7_carried_36 rfl ?_
  refine g_cni 42 C (As := [.int 5, .int l1, .int (σ 3 4)]) (fun _ h => mX3_add (a1 := 5) (a2 := l1) (a3 := σ 3 4) (σ := σ) h) (List.mem_of_getElem? (i := 7) rfl) wi_X3_add wz_X3_add wc_X3_add wn_X3 qX3_add rfl rfl ⟨Nat.le_of_ble_eq_true rfl, Nat.le_of_ble_eq_true rfl⟩ rfl rfl rfl rfl (Nat.le_of_ble_eq_true rfl) dX7_carried_39 rfl h (fun o2 h => ?_)
  cases h
  exact K0 _ _ dX7_carried_42 rfl
noncomputable def fX7_carried (a1 : Int32) (σ : Mem) : Option (Int32 × Mem) :=
  (fX3_isOf a1 0 σ).bind fun o1 =>
  if o1.1 = 0 then
    (fX3_isOf a1 1 o1.2).bind fun o3 =>
    if o3.1 = 0 then
      some ((-1), o3.2)
    else
      fX7_carried_L26 a1 o3.2
  else
    fX7_carried_L26 a1 o1.2
set_option maxHeartbeats 4000000 in
set_option maxRecDepth 100000 in
theorem mX7_carried {l : Launch} {D : va_G} {cI : ClassId} {ad : Nat → Nat} {a1 : Int32} {σ : Mem} {out : Int32 × Mem} (h : fX7_carried a1 σ = some out) : MI l D cI layX ad yX7_carried cX7_carried 2 .int rmX7_carried [.ref (ad 7), .int a1] σ out := by
  refine met_i (by decide) (Nat.le_of_ble_eq_true rfl) (fun E C K0 => ?_)
  show G E rmX7_carried cI layX ad 2 0 [(0, .ref (ad 7)), (1, .int a1)] [] σ
  unfold fX7_carried at h
  refine g_aload_n 1 C dX7_carried_0 rfl (j := 0) rfl rfl ?_
  refine g_getr 4 (j := 0) C rfl rfl wu_X7 (by decide) wf_X7_23 rfl dX7_carried_1 rfl ?_
  refine g_iload_n 5 C dX7_carried_4 rfl (j := 1) rfl rfl ?_
  refine g_iconst 6 (v := 0) C dX7_carried_5 (by decide) rfl ?_
  refine g_cni 9 C (As := [.int a1, .int 0]) (fun _ h => mX3_isOf (a1 := a1) (a2 := 0) (σ := σ) h) (List.mem_of_getElem? (i := 8) rfl) wi_X3_isOf wz_X3_isOf wc_X3_isOf wn_X3 qX3_isOf rfl rfl ⟨Nat.le_of_ble_eq_true rfl, Nat.le_of_ble_eq_true rfl⟩ rfl rfl rfl rfl (Nat.le_of_ble_eq_true rfl) dX7_carried_6 rfl h (fun o1 h => ?_)
  refine g_if_ne 26 12 C dX7_carried_9 (by decide) rfl h (fun h => ?_) (fun h => ?_)
  · refine g_aload_n 13 C dX7_carried_12 rfl (j := 0) rfl rfl ?_
    refine g_getr 16 (j := 0) C rfl rfl wu_X7 (by decide) wf_X7_23 rfl dX7_carried_13 rfl ?_
    refine g_iload_n 17 C dX7_carried_16 rfl (j := 1) rfl rfl ?_
    refine g_iconst 18 (v := 1) C dX7_carried_17 (by decide) rfl ?_
    refine g_cni 21 C (As := [.int a1, .int 1]) (fun _ h => mX3_isOf (a1 := a1) (a2 := 1) (σ := o1.2) h) (List.mem_of_getElem? (i := 8) rfl) wi_X3_isOf wz_X3_isOf wc_X3_isOf wn_X3 qX3_isOf rfl rfl ⟨Nat.le_of_ble_eq_true rfl, Nat.le_of_ble_eq_true rfl⟩ rfl rfl rfl rfl (Nat.le_of_ble_eq_true rfl) dX7_carried_18 rfl h (fun o3 h => ?_)
    refine g_if_ne 26 24 C dX7_carried_21 (by decide) rfl h (fun h => ?_) (fun h => ?_)
    · refine g_iconst 25 (v := (-1)) C dX7_carried_24 (by decide) rfl ?_
      cases h
      exact K0 _ _ dX7_carried_25 rfl
    · exact tX7_carried_L26 (l1 := a1) (σ := o3.2) C K0 h
  · exact tX7_carried_L26 (l1 := a1) (σ := o1.2) C K0 h

/-! LoopReducer.op(III)I -/
abbrev rmX7_op : Room := { frames := 1, cells := 0, slots := 0, locals := 23 }
theorem qX7_op : yX7_op.cls ≠ "java/lang/invoke/MethodHandle" ∧ yX7_op.cls ≠ "java/lang/invoke/VarHandle" ∧ (parseMethodDescriptor yX7_op.desc).map (fun d => d.parameters.length) = some 3 := by decide +kernel
theorem DX7_op : ∀ q ∈ ([(0, .iload_n 1, 1), (1, .ifCond .lt 30, 3), (4, .iload_n 1, 1), (5, .iconst 2, 1), (6, .if_icmp .gt 25, 3), (9, .aload_n 0, 1), (10, .getfield 23, 3), (13, .iload_n 2, 1), (14, .invokevirtual 97, 3), (17, .ifCond .eq 14, 3), (20, .aload_n 0, 1), (21, .getfield 23, 3), (24, .iload_n 3, 1), (25, .invokevirtual 97, 3), (28, .ifCond .ne 5, 3), (31, .iconst (-1), 1), (32, .ireturn, 1), (33, .aload_n 0, 1), (34, .getfield 23, 3), (37, .iconst 2, 1), (38, .iload_n 1, 1), (39, .iadd, 1), (40, .iload_n 2, 1), (41, .iload_n 3, 1), (42, .invokevirtual 83, 3), (45, .ireturn, 1)] : List (Nat × Instr × Nat)), decode cX7_op q.1 = .ok q.2 := by decide +kernel
theorem dX7_op_0 : decode cX7_op 0 = .ok (.iload_n 1, 1) := DX7_op (0, .iload_n 1, 1) (List.mem_of_getElem? (i := 0) rfl)
theorem dX7_op_1 : decode cX7_op 1 = .ok (.ifCond .lt 30, 3) := DX7_op (1, .ifCond .lt 30, 3) (List.mem_of_getElem? (i := 1) rfl)
theorem dX7_op_4 : decode cX7_op 4 = .ok (.iload_n 1, 1) := DX7_op (4, .iload_n 1, 1) (List.mem_of_getElem? (i := 2) rfl)
theorem dX7_op_5 : decode cX7_op 5 = .ok (.iconst 2, 1) := DX7_op (5, .iconst 2, 1) (List.mem_of_getElem? (i := 3) rfl)
theorem dX7_op_6 : decode cX7_op 6 = .ok (.if_icmp .gt 25, 3) := DX7_op (6, .if_icmp .gt 25, 3) (List.mem_of_getElem? (i := 4) rfl)
theorem dX7_op_9 : decode cX7_op 9 = .ok (.aload_n 0, 1) := DX7_op (9, .aload_n 0, 1) (List.mem_of_getElem? (i := 5) rfl)
theorem dX7_op_10 : decode cX7_op 10 = .ok (.getfield 23, 3) := DX7_op (10, .getfield 23, 3) (List.mem_of_getElem? (i := 6) rfl)
theorem dX7_op_13 : decode cX7_op 13 = .ok (.iload_n 2, 1) := DX7_op (13, .iload_n 2, 1) (List.mem_of_getElem? (i := 7) rfl)
theorem dX7_op_14 : decode cX7_op 14 = .ok (.invokevirtual 97, 3) := DX7_op (14, .invokevirtual 97, 3) (List.mem_of_getElem? (i := 8) rfl)
theorem dX7_op_17 : decode cX7_op 17 = .ok (.ifCond .eq 14, 3) := DX7_op (17, .ifCond .eq 14, 3) (List.mem_of_getElem? (i := 9) rfl)
theorem dX7_op_20 : decode cX7_op 20 = .ok (.aload_n 0, 1) := DX7_op (20, .aload_n 0, 1) (List.mem_of_getElem? (i := 10) rfl)
theorem dX7_op_21 : decode cX7_op 21 = .ok (.getfield 23, 3) := DX7_op (21, .getfield 23, 3) (List.mem_of_getElem? (i := 11) rfl)
theorem dX7_op_24 : decode cX7_op 24 = .ok (.iload_n 3, 1) := DX7_op (24, .iload_n 3, 1) (List.mem_of_getElem? (i := 12) rfl)
theorem dX7_op_25 : decode cX7_op 25 = .ok (.invokevirtual 97, 3) := DX7_op (25, .invokevirtual 97, 3) (List.mem_of_getElem? (i := 13) rfl)
theorem dX7_op_28 : decode cX7_op 28 = .ok (.ifCond .ne 5, 3) := DX7_op (28, .ifCond .ne 5, 3) (List.mem_of_getElem? (i := 14) rfl)
theorem dX7_op_31 : decode cX7_op 31 = .ok (.iconst (-1), 1) := DX7_op (31, .iconst (-1), 1) (List.mem_of_getElem? (i := 15) rfl)
theorem dX7_op_32 : decode cX7_op 32 = .ok (.ireturn, 1) := DX7_op (32, .ireturn, 1) (List.mem_of_getElem? (i := 16) rfl)
theorem dX7_op_33 : decode cX7_op 33 = .ok (.aload_n 0, 1) := DX7_op (33, .aload_n 0, 1) (List.mem_of_getElem? (i := 17) rfl)
theorem dX7_op_34 : decode cX7_op 34 = .ok (.getfield 23, 3) := DX7_op (34, .getfield 23, 3) (List.mem_of_getElem? (i := 18) rfl)
theorem dX7_op_37 : decode cX7_op 37 = .ok (.iconst 2, 1) := DX7_op (37, .iconst 2, 1) (List.mem_of_getElem? (i := 19) rfl)
theorem dX7_op_38 : decode cX7_op 38 = .ok (.iload_n 1, 1) := DX7_op (38, .iload_n 1, 1) (List.mem_of_getElem? (i := 20) rfl)
theorem dX7_op_39 : decode cX7_op 39 = .ok (.iadd, 1) := DX7_op (39, .iadd, 1) (List.mem_of_getElem? (i := 21) rfl)
theorem dX7_op_40 : decode cX7_op 40 = .ok (.iload_n 2, 1) := DX7_op (40, .iload_n 2, 1) (List.mem_of_getElem? (i := 22) rfl)
theorem dX7_op_41 : decode cX7_op 41 = .ok (.iload_n 3, 1) := DX7_op (41, .iload_n 3, 1) (List.mem_of_getElem? (i := 23) rfl)
theorem dX7_op_42 : decode cX7_op 42 = .ok (.invokevirtual 83, 3) := DX7_op (42, .invokevirtual 83, 3) (List.mem_of_getElem? (i := 24) rfl)
theorem dX7_op_45 : decode cX7_op 45 = .ok (.ireturn, 1) := DX7_op (45, .ireturn, 1) (List.mem_of_getElem? (i := 25) rfl)
noncomputable def fX7_op_L31 (σ : Mem) : Option (Int32 × Mem) :=
  some ((-1), σ)
set_option maxHeartbeats 4000000 in
set_option maxRecDepth 100000 in
theorem tX7_op_L31 {E : Gx} {cI : ClassId} {ad : Nat → Nat} (C : Cx E rmX7_op cI layX ad 4 RX7 cX7_op) {out : Int32 × Mem} (K0 : KI E rmX7_op cI layX ad 4 cX7_op .int out) {σ : Mem} (h : fX7_op_L31 σ = some out) : G E rmX7_op cI layX ad 4 31 [] [] σ := by
  unfold fX7_op_L31 at h
  refine g_iconst 32 (v := (-1)) C dX7_op_31 (by decide) rfl ?_
  cases h
  exact K0 _ _ dX7_op_32 rfl
noncomputable def fX7_op (a1 : Int32) (a2 : Int32) (a3 : Int32) (σ : Mem) : Option (Int32 × Mem) :=
  if a1 < 0 then
    fX7_op_L31 σ
  else
    if 2 < a1 then
      fX7_op_L31 σ
    else
      (fX3_has a2 σ).bind fun o1 =>
      if o1.1 = 0 then
        fX7_op_L31 o1.2
      else
        (fX3_has a3 o1.2).bind fun o2 =>
        if o2.1 = 0 then
          fX7_op_L31 o2.2
        else
          (fX3_add (2 + a1) a2 a3 o2.2).bind fun o3 =>
          some (o3.1, o3.2)
set_option maxHeartbeats 4000000 in
set_option maxRecDepth 100000 in
theorem mX7_op {l : Launch} {D : va_G} {cI : ClassId} {ad : Nat → Nat} {a1 : Int32} {a2 : Int32} {a3 : Int32} {σ : Mem} {out : Int32 × Mem} (h : fX7_op a1 a2 a3 σ = some out) : MI l D cI layX ad yX7_op cX7_op 4 .int rmX7_op [.ref (ad 7), .int a1, .int a2, .int a3] σ out := by
  refine met_i (by decide) (Nat.le_of_ble_eq_true rfl) (fun E C K0 => ?_)
  show G E rmX7_op cI layX ad 4 0 [(0, .ref (ad 7)), (1, .int a1), (2, .int a2), (3, .int a3)] [] σ
  unfold fX7_op at h
  refine g_iload_n 1 C dX7_op_0 rfl (j := 1) rfl rfl ?_
  refine g_if_lt 31 4 C dX7_op_1 (by decide) rfl h (fun h => ?_) (fun h => ?_)
  · exact g_sub [] (tX7_op_L31 (σ := σ) C K0 h) rfl
  · refine g_iload_n 5 C dX7_op_4 rfl (j := 1) rfl rfl ?_
    refine g_iconst 6 (v := 2) C dX7_op_5 (by decide) rfl ?_
    refine g_icmp_gt 31 9 C dX7_op_6 (by decide) rfl h (fun h => ?_) (fun h => ?_)
    · exact g_sub [] (tX7_op_L31 (σ := σ) C K0 h) rfl
    · refine g_aload_n 10 C dX7_op_9 rfl (j := 0) rfl rfl ?_
      refine g_getr 13 (j := 0) C rfl rfl wu_X7 (by decide) wf_X7_23 rfl dX7_op_10 rfl ?_
      refine g_iload_n 14 C dX7_op_13 rfl (j := 2) rfl rfl ?_
      refine g_cni 17 C (As := [.int a2]) (fun _ h => mX3_has (a1 := a2) (σ := σ) h) (List.mem_of_getElem? (i := 9) rfl) wi_X3_has wz_X3_has wc_X3_has wn_X3 qX3_has rfl rfl ⟨Nat.le_of_ble_eq_true rfl, Nat.le_of_ble_eq_true rfl⟩ rfl rfl rfl rfl (Nat.le_of_ble_eq_true rfl) dX7_op_14 rfl h (fun o1 h => ?_)
      refine g_if_eq 31 20 C dX7_op_17 (by decide) rfl h (fun h => ?_) (fun h => ?_)
      · exact g_sub [] (tX7_op_L31 (σ := o1.2) C K0 h) rfl
      · refine g_aload_n 21 C dX7_op_20 rfl (j := 0) rfl rfl ?_
        refine g_getr 24 (j := 0) C rfl rfl wu_X7 (by decide) wf_X7_23 rfl dX7_op_21 rfl ?_
        refine g_iload_n 25 C dX7_op_24 rfl (j := 3) rfl rfl ?_
        refine g_cni 28 C (As := [.int a3]) (fun _ h => mX3_has (a1 := a3) (σ := o1.2) h) (List.mem_of_getElem? (i := 9) rfl) wi_X3_has wz_X3_has wc_X3_has wn_X3 qX3_has rfl rfl ⟨Nat.le_of_ble_eq_true rfl, Nat.le_of_ble_eq_true rfl⟩ rfl rfl rfl rfl (Nat.le_of_ble_eq_true rfl) dX7_op_25 rfl h (fun o2 h => ?_)
        refine g_if_ne 33 31 C dX7_op_28 (by decide) rfl h (fun h => ?_) (fun h => ?_)
        · exact g_sub [] (tX7_op_L31 (σ := o2.2) C K0 h) rfl
        · refine g_aload_n 34 C dX7_op_33 rfl (j := 0) rfl rfl ?_
          refine g_getr 37 (j := 0) C rfl rfl wu_X7 (by decide) wf_X7_23 rfl dX7_op_34 rfl ?_
          refine g_iconst 38 (v := 2) C dX7_op_37 (by decide) rfl ?_
          refine g_iload_n 39 C dX7_op_38 rfl (j := 1) rfl rfl ?_
          refine g_iadd 40 C dX7_op_39 rfl ?_
          refine g_iload_n 41 C dX7_op_40 rfl (j := 2) rfl rfl ?_
          refine g_iload_n 42 C dX7_op_41 rfl (j := 3) rfl rfl ?_
          refine g_cni 45 C (As := [.int (2 + a1), .int a2, .int a3]) (fun _ h => mX3_add (a1 := 2 + a1) (a2 := a2) (a3 := a3) (σ := o2.2) h) (List.mem_of_getElem? (i := 7) rfl) wi_X3_add wz_X3_add wc_X3_add wn_X3 qX3_add rfl rfl ⟨Nat.le_of_ble_eq_true rfl, Nat.le_of_ble_eq_true rfl⟩ rfl rfl rfl rfl (Nat.le_of_ble_eq_true rfl) dX7_op_42 rfl h (fun o3 h => ?_)
          cases h
          exact K0 _ _ dX7_op_45 rfl

/-! LoopReducer.next(II)Z -/
abbrev rmX7_next : Room := { frames := 2, cells := 0, slots := 0, locals := 43 }
theorem qX7_next : yX7_next.cls ≠ "java/lang/invoke/MethodHandle" ∧ yX7_next.cls ≠ "java/lang/invoke/VarHandle" ∧ (parseMethodDescriptor yX7_next.desc).map (fun d => d.parameters.length) = some 2 := by decide +kernel
theorem DX7_next : ∀ q ∈ ([(0, .aload_n 0, 1), (1, .getfield 23, 3), (4, .iload_n 1, 1), (5, .iconst 5, 1), (6, .invokevirtual 90, 3), (9, .ifCond .eq 27, 3), (12, .aload_n 0, 1), (13, .getfield 23, 3), (16, .iload_n 2, 1), (17, .invokevirtual 97, 3), (20, .ifCond .eq 16, 3), (23, .aload_n 0, 1), (24, .getfield 23, 3), (27, .getfield 101, 3), (30, .iload_n 1, 1), (31, .iaload, 1), (32, .iload_n 2, 1), (33, .if_icmp .ne 5, 3), (36, .iconst 0, 1), (37, .ireturn, 1), (38, .aload_n 0, 1), (39, .getfield 23, 3), (42, .getfield 101, 3), (45, .iload_n 1, 1), (46, .iload_n 2, 1), (47, .iastore, 1), (48, .aload_n 0, 1), (49, .getfield 23, 3), (52, .dup, 1), (53, .getfield 105, 3), (56, .iconst 1, 1), (57, .iadd, 1), (58, .putfield 105, 3), (61, .iconst 1, 1), (62, .ireturn, 1)] : List (Nat × Instr × Nat)), decode cX7_next q.1 = .ok q.2 := by decide +kernel
theorem dX7_next_0 : decode cX7_next 0 = .ok (.aload_n 0, 1) := DX7_next (0, .aload_n 0, 1) (List.mem_of_getElem? (i := 0) rfl)
theorem dX7_next_1 : decode cX7_next 1 = .ok (.getfield 23, 3) := DX7_next (1, .getfield 23, 3) (List.mem_of_getElem? (i := 1) rfl)
theorem dX7_next_4 : decode cX7_next 4 = .ok (.iload_n 1, 1) := DX7_next (4, .iload_n 1, 1) (List.mem_of_getElem? (i := 2) rfl)
theorem dX7_next_5 : decode cX7_next 5 = .ok (.iconst 5, 1) := DX7_next (5, .iconst 5, 1) (List.mem_of_getElem? (i := 3) rfl)
theorem dX7_next_6 : decode cX7_next 6 = .ok (.invokevirtual 90, 3) := DX7_next (6, .invokevirtual 90, 3) (List.mem_of_getElem? (i := 4) rfl)
theorem dX7_next_9 : decode cX7_next 9 = .ok (.ifCond .eq 27, 3) := DX7_next (9, .ifCond .eq 27, 3) (List.mem_of_getElem? (i := 5) rfl)
theorem dX7_next_12 : decode cX7_next 12 = .ok (.aload_n 0, 1) := DX7_next (12, .aload_n 0, 1) (List.mem_of_getElem? (i := 6) rfl)
theorem dX7_next_13 : decode cX7_next 13 = .ok (.getfield 23, 3) := DX7_next (13, .getfield 23, 3) (List.mem_of_getElem? (i := 7) rfl)
theorem dX7_next_16 : decode cX7_next 16 = .ok (.iload_n 2, 1) := DX7_next (16, .iload_n 2, 1) (List.mem_of_getElem? (i := 8) rfl)
theorem dX7_next_17 : decode cX7_next 17 = .ok (.invokevirtual 97, 3) := DX7_next (17, .invokevirtual 97, 3) (List.mem_of_getElem? (i := 9) rfl)
theorem dX7_next_20 : decode cX7_next 20 = .ok (.ifCond .eq 16, 3) := DX7_next (20, .ifCond .eq 16, 3) (List.mem_of_getElem? (i := 10) rfl)
theorem dX7_next_23 : decode cX7_next 23 = .ok (.aload_n 0, 1) := DX7_next (23, .aload_n 0, 1) (List.mem_of_getElem? (i := 11) rfl)
theorem dX7_next_24 : decode cX7_next 24 = .ok (.getfield 23, 3) := DX7_next (24, .getfield 23, 3) (List.mem_of_getElem? (i := 12) rfl)
theorem dX7_next_27 : decode cX7_next 27 = .ok (.getfield 101, 3) := DX7_next (27, .getfield 101, 3) (List.mem_of_getElem? (i := 13) rfl)
theorem dX7_next_30 : decode cX7_next 30 = .ok (.iload_n 1, 1) := DX7_next (30, .iload_n 1, 1) (List.mem_of_getElem? (i := 14) rfl)
theorem dX7_next_31 : decode cX7_next 31 = .ok (.iaload, 1) := DX7_next (31, .iaload, 1) (List.mem_of_getElem? (i := 15) rfl)
theorem dX7_next_32 : decode cX7_next 32 = .ok (.iload_n 2, 1) := DX7_next (32, .iload_n 2, 1) (List.mem_of_getElem? (i := 16) rfl)
theorem dX7_next_33 : decode cX7_next 33 = .ok (.if_icmp .ne 5, 3) := DX7_next (33, .if_icmp .ne 5, 3) (List.mem_of_getElem? (i := 17) rfl)
theorem dX7_next_36 : decode cX7_next 36 = .ok (.iconst 0, 1) := DX7_next (36, .iconst 0, 1) (List.mem_of_getElem? (i := 18) rfl)
theorem dX7_next_37 : decode cX7_next 37 = .ok (.ireturn, 1) := DX7_next (37, .ireturn, 1) (List.mem_of_getElem? (i := 19) rfl)
theorem dX7_next_38 : decode cX7_next 38 = .ok (.aload_n 0, 1) := DX7_next (38, .aload_n 0, 1) (List.mem_of_getElem? (i := 20) rfl)
theorem dX7_next_39 : decode cX7_next 39 = .ok (.getfield 23, 3) := DX7_next (39, .getfield 23, 3) (List.mem_of_getElem? (i := 21) rfl)
theorem dX7_next_42 : decode cX7_next 42 = .ok (.getfield 101, 3) := DX7_next (42, .getfield 101, 3) (List.mem_of_getElem? (i := 22) rfl)
theorem dX7_next_45 : decode cX7_next 45 = .ok (.iload_n 1, 1) := DX7_next (45, .iload_n 1, 1) (List.mem_of_getElem? (i := 23) rfl)
theorem dX7_next_46 : decode cX7_next 46 = .ok (.iload_n 2, 1) := DX7_next (46, .iload_n 2, 1) (List.mem_of_getElem? (i := 24) rfl)
theorem dX7_next_47 : decode cX7_next 47 = .ok (.iastore, 1) := DX7_next (47, .iastore, 1) (List.mem_of_getElem? (i := 25) rfl)
theorem dX7_next_48 : decode cX7_next 48 = .ok (.aload_n 0, 1) := DX7_next (48, .aload_n 0, 1) (List.mem_of_getElem? (i := 26) rfl)
theorem dX7_next_49 : decode cX7_next 49 = .ok (.getfield 23, 3) := DX7_next (49, .getfield 23, 3) (List.mem_of_getElem? (i := 27) rfl)
theorem dX7_next_52 : decode cX7_next 52 = .ok (.dup, 1) := DX7_next (52, .dup, 1) (List.mem_of_getElem? (i := 28) rfl)
theorem dX7_next_53 : decode cX7_next 53 = .ok (.getfield 105, 3) := DX7_next (53, .getfield 105, 3) (List.mem_of_getElem? (i := 29) rfl)
theorem dX7_next_56 : decode cX7_next 56 = .ok (.iconst 1, 1) := DX7_next (56, .iconst 1, 1) (List.mem_of_getElem? (i := 30) rfl)
theorem dX7_next_57 : decode cX7_next 57 = .ok (.iadd, 1) := DX7_next (57, .iadd, 1) (List.mem_of_getElem? (i := 31) rfl)
theorem dX7_next_58 : decode cX7_next 58 = .ok (.putfield 105, 3) := DX7_next (58, .putfield 105, 3) (List.mem_of_getElem? (i := 32) rfl)
theorem dX7_next_61 : decode cX7_next 61 = .ok (.iconst 1, 1) := DX7_next (61, .iconst 1, 1) (List.mem_of_getElem? (i := 33) rfl)
theorem dX7_next_62 : decode cX7_next 62 = .ok (.ireturn, 1) := DX7_next (62, .ireturn, 1) (List.mem_of_getElem? (i := 34) rfl)
noncomputable def fX7_next_L36 (σ : Mem) : Option (Int32 × Mem) :=
  some (0, σ)
set_option maxHeartbeats 4000000 in
set_option maxRecDepth 100000 in
theorem tX7_next_L36 {E : Gx} {cI : ClassId} {ad : Nat → Nat} (C : Cx E rmX7_next cI layX ad 3 RX7 cX7_next) {out : Int32 × Mem} (K0 : KI E rmX7_next cI layX ad 3 cX7_next .boolean out) {σ : Mem} (h : fX7_next_L36 σ = some out) : G E rmX7_next cI layX ad 3 36 [] [] σ := by
  unfold fX7_next_L36 at h
  refine g_iconst 37 (v := 0) C dX7_next_36 (by decide) rfl ?_
  cases h
  exact K0 _ _ dX7_next_37 (zb_nar (x := 0) (by decide))
noncomputable def fX7_next (a1 : Int32) (a2 : Int32) (σ : Mem) : Option (Int32 × Mem) :=
  (fX3_isOf a1 5 σ).bind fun o1 =>
  if o1.1 = 0 then
    fX7_next_L36 o1.2
  else
    (fX3_has a2 o1.2).bind fun o2 =>
    if o2.1 = 0 then
      fX7_next_L36 o2.2
    else
      chk (inb a1 30) <|
      if (o2.2 10 a1.toNatClampNeg) = a2 then
        fX7_next_L36 o2.2
      else
        chk (inb a1 30) <|
        some (1, up2 (up2 o2.2 10 a1.toNatClampNeg a2) 3 11 (((up2 o2.2 10 a1.toNatClampNeg a2) 3 11) + 1))
set_option maxHeartbeats 4000000 in
set_option maxRecDepth 100000 in
theorem mX7_next {l : Launch} {D : va_G} {cI : ClassId} {ad : Nat → Nat} {a1 : Int32} {a2 : Int32} {σ : Mem} {out : Int32 × Mem} (h : fX7_next a1 a2 σ = some out) : MI l D cI layX ad yX7_next cX7_next 3 .boolean rmX7_next [.ref (ad 7), .int a1, .int a2] σ out := by
  refine met_i (by decide) (Nat.le_of_ble_eq_true rfl) (fun E C K0 => ?_)
  show G E rmX7_next cI layX ad 3 0 [(0, .ref (ad 7)), (1, .int a1), (2, .int a2)] [] σ
  unfold fX7_next at h
  refine g_aload_n 1 C dX7_next_0 rfl (j := 0) rfl rfl ?_
  refine g_getr 4 (j := 0) C rfl rfl wu_X7 (by decide) wf_X7_23 rfl dX7_next_1 rfl ?_
  refine g_iload_n 5 C dX7_next_4 rfl (j := 1) rfl rfl ?_
  refine g_iconst 6 (v := 5) C dX7_next_5 (by decide) rfl ?_
  refine g_cni 9 C (As := [.int a1, .int 5]) (fun _ h => mX3_isOf (a1 := a1) (a2 := 5) (σ := σ) h) (List.mem_of_getElem? (i := 8) rfl) wi_X3_isOf wz_X3_isOf wc_X3_isOf wn_X3 qX3_isOf rfl rfl ⟨Nat.le_of_ble_eq_true rfl, Nat.le_of_ble_eq_true rfl⟩ rfl rfl rfl rfl (Nat.le_of_ble_eq_true rfl) dX7_next_6 rfl h (fun o1 h => ?_)
  refine g_if_eq 36 12 C dX7_next_9 (by decide) rfl h (fun h => ?_) (fun h => ?_)
  · exact g_sub [] (tX7_next_L36 (σ := o1.2) C K0 h) rfl
  · refine g_aload_n 13 C dX7_next_12 rfl (j := 0) rfl rfl ?_
    refine g_getr 16 (j := 0) C rfl rfl wu_X7 (by decide) wf_X7_23 rfl dX7_next_13 rfl ?_
    refine g_iload_n 17 C dX7_next_16 rfl (j := 2) rfl rfl ?_
    refine g_cni 20 C (As := [.int a2]) (fun _ h => mX3_has (a1 := a2) (σ := o1.2) h) (List.mem_of_getElem? (i := 9) rfl) wi_X3_has wz_X3_has wc_X3_has wn_X3 qX3_has rfl rfl ⟨Nat.le_of_ble_eq_true rfl, Nat.le_of_ble_eq_true rfl⟩ rfl rfl rfl rfl (Nat.le_of_ble_eq_true rfl) dX7_next_17 rfl h (fun o2 h => ?_)
    refine g_if_eq 36 23 C dX7_next_20 (by decide) rfl h (fun h => ?_) (fun h => ?_)
    · exact g_sub [] (tX7_next_L36 (σ := o2.2) C K0 h) rfl
    · refine g_aload_n 24 C dX7_next_23 rfl (j := 0) rfl rfl ?_
      refine g_getr 27 (j := 0) C rfl rfl wu_X7 (by decide) wf_X7_23 rfl dX7_next_24 rfl ?_
      refine g_getrN 30 (j := 3) C rfl rfl wu_X3 (by decide) (List.mem_of_getElem? (i := 10) rfl) rfl dX7_next_27 rfl ?_
      refine g_iload_n 31 C dX7_next_30 rfl (j := 1) rfl rfl ?_
      refine g_iald 32 C rfl dX7_next_31 rfl h (fun h => ?_)
      refine g_iload_n 33 C dX7_next_32 rfl (j := 2) rfl rfl ?_
      refine g_icmp_ne 38 36 C dX7_next_33 (by decide) rfl h (fun h => ?_) (fun h => ?_)
      · exact g_sub [] (tX7_next_L36 (σ := o2.2) C K0 h) rfl
      · refine g_aload_n 39 C dX7_next_38 rfl (j := 0) rfl rfl ?_
        refine g_getr 42 (j := 0) C rfl rfl wu_X7 (by decide) wf_X7_23 rfl dX7_next_39 rfl ?_
        refine g_getrN 45 (j := 3) C rfl rfl wu_X3 (by decide) (List.mem_of_getElem? (i := 10) rfl) rfl dX7_next_42 rfl ?_
        refine g_iload_n 46 C dX7_next_45 rfl (j := 1) rfl rfl ?_
        refine g_iload_n 47 C dX7_next_46 rfl (j := 2) rfl rfl ?_
        refine g_iast 48 C rfl dX7_next_47 rfl h (fun h => ?_)
        refine g_aload_n 49 C dX7_next_48 rfl (j := 0) rfl rfl ?_
        refine g_getr 52 (j := 0) C rfl rfl wu_X7 (by decide) wf_X7_23 rfl dX7_next_49 rfl ?_
        refine g_dup 53 C dX7_next_52 rfl rfl ?_
        refine g_getiN 56 (j := 11) C rfl rfl wu_X3 (by decide) (List.mem_of_getElem? (i := 29) rfl) rfl dX7_next_53 rfl ?_
        refine g_iconst 57 (v := 1) C dX7_next_56 (by decide) rfl ?_
        refine g_iadd 58 C dX7_next_57 rfl ?_
        refine g_putiN 61 (j := 11) C rfl rfl wu_X3 (by decide) (List.mem_of_getElem? (i := 29) rfl) tyX3 tyX3_ok nmX3 rfl rfl rfl rfl dX7_next_58 rfl ?_
        refine g_iconst 62 (v := 1) C dX7_next_61 (by decide) rfl ?_
        cases h
        exact K0 _ _ dX7_next_62 (zb_nar (x := 1) (by decide))

/-! LoopReducer.test(III)Z -/
abbrev rmX7_test : Room := { frames := 1, cells := 0, slots := 0, locals := 21 }
theorem qX7_test : yX7_test.cls ≠ "java/lang/invoke/MethodHandle" ∧ yX7_test.cls ≠ "java/lang/invoke/VarHandle" ∧ (parseMethodDescriptor yX7_test.desc).map (fun d => d.parameters.length) = some 3 := by decide +kernel
theorem DX7_test : ∀ q ∈ ([(0, .iload_n 1, 1), (1, .ifCond .eq 8, 3), (4, .iload_n 1, 1), (5, .iconst 1, 1), (6, .if_icmp .ne 25, 3), (9, .aload_n 0, 1), (10, .getfield 23, 3), (13, .iload_n 2, 1), (14, .invokevirtual 97, 3), (17, .ifCond .eq 14, 3), (20, .aload_n 0, 1), (21, .getfield 23, 3), (24, .iload_n 3, 1), (25, .invokevirtual 97, 3), (28, .ifCond .ne 5, 3), (31, .iconst 0, 1), (32, .ireturn, 1), (33, .aload_n 0, 1), (34, .getfield 23, 3), (37, .getfield 112, 3), (40, .iload_n 1, 1), (41, .if_icmp .ne 27, 3), (44, .aload_n 0, 1), (45, .getfield 23, 3), (48, .getfield 115, 3), (51, .iload_n 2, 1), (52, .if_icmp .ne 16, 3), (55, .aload_n 0, 1), (56, .getfield 23, 3), (59, .getfield 118, 3), (62, .iload_n 3, 1), (63, .if_icmp .ne 5, 3), (66, .iconst 0, 1), (67, .ireturn, 1), (68, .aload_n 0, 1), (69, .getfield 23, 3), (72, .iload_n 1, 1), (73, .putfield 112, 3), (76, .aload_n 0, 1), (77, .getfield 23, 3), (80, .iload_n 2, 1), (81, .putfield 115, 3), (84, .aload_n 0, 1), (85, .getfield 23, 3), (88, .iload_n 3, 1), (89, .putfield 118, 3), (92, .aload_n 0, 1), (93, .getfield 23, 3), (96, .dup, 1), (97, .getfield 121, 3), (100, .iconst 1, 1), (101, .iadd, 1), (102, .putfield 121, 3), (105, .iconst 1, 1), (106, .ireturn, 1)] : List (Nat × Instr × Nat)), decode cX7_test q.1 = .ok q.2 := by decide +kernel
theorem dX7_test_0 : decode cX7_test 0 = .ok (.iload_n 1, 1) := DX7_test (0, .iload_n 1, 1) (List.mem_of_getElem? (i := 0) rfl)
theorem dX7_test_1 : decode cX7_test 1 = .ok (.ifCond .eq 8, 3) := DX7_test (1, .ifCond .eq 8, 3) (List.mem_of_getElem? (i := 1) rfl)
theorem dX7_test_4 : decode cX7_test 4 = .ok (.iload_n 1, 1) := DX7_test (4, .iload_n 1, 1) (List.mem_of_getElem? (i := 2) rfl)
theorem dX7_test_5 : decode cX7_test 5 = .ok (.iconst 1, 1) := DX7_test (5, .iconst 1, 1) (List.mem_of_getElem? (i := 3) rfl)
theorem dX7_test_6 : decode cX7_test 6 = .ok (.if_icmp .ne 25, 3) := DX7_test (6, .if_icmp .ne 25, 3) (List.mem_of_getElem? (i := 4) rfl)
theorem dX7_test_9 : decode cX7_test 9 = .ok (.aload_n 0, 1) := DX7_test (9, .aload_n 0, 1) (List.mem_of_getElem? (i := 5) rfl)
theorem dX7_test_10 : decode cX7_test 10 = .ok (.getfield 23, 3) := DX7_test (10, .getfield 23, 3) (List.mem_of_getElem? (i := 6) rfl)
theorem dX7_test_13 : decode cX7_test 13 = .ok (.iload_n 2, 1) := DX7_test (13, .iload_n 2, 1) (List.mem_of_getElem? (i := 7) rfl)
theorem dX7_test_14 : decode cX7_test 14 = .ok (.invokevirtual 97, 3) := DX7_test (14, .invokevirtual 97, 3) (List.mem_of_getElem? (i := 8) rfl)
theorem dX7_test_17 : decode cX7_test 17 = .ok (.ifCond .eq 14, 3) := DX7_test (17, .ifCond .eq 14, 3) (List.mem_of_getElem? (i := 9) rfl)
theorem dX7_test_20 : decode cX7_test 20 = .ok (.aload_n 0, 1) := DX7_test (20, .aload_n 0, 1) (List.mem_of_getElem? (i := 10) rfl)
theorem dX7_test_21 : decode cX7_test 21 = .ok (.getfield 23, 3) := DX7_test (21, .getfield 23, 3) (List.mem_of_getElem? (i := 11) rfl)
theorem dX7_test_24 : decode cX7_test 24 = .ok (.iload_n 3, 1) := DX7_test (24, .iload_n 3, 1) (List.mem_of_getElem? (i := 12) rfl)
theorem dX7_test_25 : decode cX7_test 25 = .ok (.invokevirtual 97, 3) := DX7_test (25, .invokevirtual 97, 3) (List.mem_of_getElem? (i := 13) rfl)
theorem dX7_test_28 : decode cX7_test 28 = .ok (.ifCond .ne 5, 3) := DX7_test (28, .ifCond .ne 5, 3) (List.mem_of_getElem? (i := 14) rfl)
theorem dX7_test_31 : decode cX7_test 31 = .ok (.iconst 0, 1) := DX7_test (31, .iconst 0, 1) (List.mem_of_getElem? (i := 15) rfl)
theorem dX7_test_32 : decode cX7_test 32 = .ok (.ireturn, 1) := DX7_test (32, .ireturn, 1) (List.mem_of_getElem? (i := 16) rfl)
theorem dX7_test_33 : decode cX7_test 33 = .ok (.aload_n 0, 1) := DX7_test (33, .aload_n 0, 1) (List.mem_of_getElem? (i := 17) rfl)
theorem dX7_test_34 : decode cX7_test 34 = .ok (.getfield 23, 3) := DX7_test (34, .getfield 23, 3) (List.mem_of_getElem? (i := 18) rfl)
theorem dX7_test_37 : decode cX7_test 37 = .ok (.getfield 112, 3) := DX7_test (37, .getfield 112, 3) (List.mem_of_getElem? (i := 19) rfl)
theorem dX7_test_40 : decode cX7_test 40 = .ok (.iload_n 1, 1) := DX7_test (40, .iload_n 1, 1) (List.mem_of_getElem? (i := 20) rfl)
theorem dX7_test_41 : decode cX7_test 41 = .ok (.if_icmp .ne 27, 3) := DX7_test (41, .if_icmp .ne 27, 3) (List.mem_of_getElem? (i := 21) rfl)
theorem dX7_test_44 : decode cX7_test 44 = .ok (.aload_n 0, 1) := DX7_test (44, .aload_n 0, 1) (List.mem_of_getElem? (i := 22) rfl)
theorem dX7_test_45 : decode cX7_test 45 = .ok (.getfield 23, 3) := DX7_test (45, .getfield 23, 3) (List.mem_of_getElem? (i := 23) rfl)
theorem dX7_test_48 : decode cX7_test 48 = .ok (.getfield 115, 3) := DX7_test (48, .getfield 115, 3) (List.mem_of_getElem? (i := 24) rfl)
theorem dX7_test_51 : decode cX7_test 51 = .ok (.iload_n 2, 1) := DX7_test (51, .iload_n 2, 1) (List.mem_of_getElem? (i := 25) rfl)
theorem dX7_test_52 : decode cX7_test 52 = .ok (.if_icmp .ne 16, 3) := DX7_test (52, .if_icmp .ne 16, 3) (List.mem_of_getElem? (i := 26) rfl)
theorem dX7_test_55 : decode cX7_test 55 = .ok (.aload_n 0, 1) := DX7_test (55, .aload_n 0, 1) (List.mem_of_getElem? (i := 27) rfl)
theorem dX7_test_56 : decode cX7_test 56 = .ok (.getfield 23, 3) := DX7_test (56, .getfield 23, 3) (List.mem_of_getElem? (i := 28) rfl)
theorem dX7_test_59 : decode cX7_test 59 = .ok (.getfield 118, 3) := DX7_test (59, .getfield 118, 3) (List.mem_of_getElem? (i := 29) rfl)
theorem dX7_test_62 : decode cX7_test 62 = .ok (.iload_n 3, 1) := DX7_test (62, .iload_n 3, 1) (List.mem_of_getElem? (i := 30) rfl)
theorem dX7_test_63 : decode cX7_test 63 = .ok (.if_icmp .ne 5, 3) := DX7_test (63, .if_icmp .ne 5, 3) (List.mem_of_getElem? (i := 31) rfl)
theorem dX7_test_66 : decode cX7_test 66 = .ok (.iconst 0, 1) := DX7_test (66, .iconst 0, 1) (List.mem_of_getElem? (i := 32) rfl)
theorem dX7_test_67 : decode cX7_test 67 = .ok (.ireturn, 1) := DX7_test (67, .ireturn, 1) (List.mem_of_getElem? (i := 33) rfl)
theorem dX7_test_68 : decode cX7_test 68 = .ok (.aload_n 0, 1) := DX7_test (68, .aload_n 0, 1) (List.mem_of_getElem? (i := 34) rfl)
theorem dX7_test_69 : decode cX7_test 69 = .ok (.getfield 23, 3) := DX7_test (69, .getfield 23, 3) (List.mem_of_getElem? (i := 35) rfl)
theorem dX7_test_72 : decode cX7_test 72 = .ok (.iload_n 1, 1) := DX7_test (72, .iload_n 1, 1) (List.mem_of_getElem? (i := 36) rfl)
theorem dX7_test_73 : decode cX7_test 73 = .ok (.putfield 112, 3) := DX7_test (73, .putfield 112, 3) (List.mem_of_getElem? (i := 37) rfl)
theorem dX7_test_76 : decode cX7_test 76 = .ok (.aload_n 0, 1) := DX7_test (76, .aload_n 0, 1) (List.mem_of_getElem? (i := 38) rfl)
theorem dX7_test_77 : decode cX7_test 77 = .ok (.getfield 23, 3) := DX7_test (77, .getfield 23, 3) (List.mem_of_getElem? (i := 39) rfl)
theorem dX7_test_80 : decode cX7_test 80 = .ok (.iload_n 2, 1) := DX7_test (80, .iload_n 2, 1) (List.mem_of_getElem? (i := 40) rfl)
theorem dX7_test_81 : decode cX7_test 81 = .ok (.putfield 115, 3) := DX7_test (81, .putfield 115, 3) (List.mem_of_getElem? (i := 41) rfl)
theorem dX7_test_84 : decode cX7_test 84 = .ok (.aload_n 0, 1) := DX7_test (84, .aload_n 0, 1) (List.mem_of_getElem? (i := 42) rfl)
theorem dX7_test_85 : decode cX7_test 85 = .ok (.getfield 23, 3) := DX7_test (85, .getfield 23, 3) (List.mem_of_getElem? (i := 43) rfl)
theorem dX7_test_88 : decode cX7_test 88 = .ok (.iload_n 3, 1) := DX7_test (88, .iload_n 3, 1) (List.mem_of_getElem? (i := 44) rfl)
theorem dX7_test_89 : decode cX7_test 89 = .ok (.putfield 118, 3) := DX7_test (89, .putfield 118, 3) (List.mem_of_getElem? (i := 45) rfl)
theorem dX7_test_92 : decode cX7_test 92 = .ok (.aload_n 0, 1) := DX7_test (92, .aload_n 0, 1) (List.mem_of_getElem? (i := 46) rfl)
theorem dX7_test_93 : decode cX7_test 93 = .ok (.getfield 23, 3) := DX7_test (93, .getfield 23, 3) (List.mem_of_getElem? (i := 47) rfl)
theorem dX7_test_96 : decode cX7_test 96 = .ok (.dup, 1) := DX7_test (96, .dup, 1) (List.mem_of_getElem? (i := 48) rfl)
theorem dX7_test_97 : decode cX7_test 97 = .ok (.getfield 121, 3) := DX7_test (97, .getfield 121, 3) (List.mem_of_getElem? (i := 49) rfl)
theorem dX7_test_100 : decode cX7_test 100 = .ok (.iconst 1, 1) := DX7_test (100, .iconst 1, 1) (List.mem_of_getElem? (i := 50) rfl)
theorem dX7_test_101 : decode cX7_test 101 = .ok (.iadd, 1) := DX7_test (101, .iadd, 1) (List.mem_of_getElem? (i := 51) rfl)
theorem dX7_test_102 : decode cX7_test 102 = .ok (.putfield 121, 3) := DX7_test (102, .putfield 121, 3) (List.mem_of_getElem? (i := 52) rfl)
theorem dX7_test_105 : decode cX7_test 105 = .ok (.iconst 1, 1) := DX7_test (105, .iconst 1, 1) (List.mem_of_getElem? (i := 53) rfl)
theorem dX7_test_106 : decode cX7_test 106 = .ok (.ireturn, 1) := DX7_test (106, .ireturn, 1) (List.mem_of_getElem? (i := 54) rfl)
noncomputable def fX7_test_L31 (σ : Mem) : Option (Int32 × Mem) :=
  some (0, σ)
set_option maxHeartbeats 4000000 in
set_option maxRecDepth 100000 in
theorem tX7_test_L31 {E : Gx} {cI : ClassId} {ad : Nat → Nat} (C : Cx E rmX7_test cI layX ad 4 RX7 cX7_test) {out : Int32 × Mem} (K0 : KI E rmX7_test cI layX ad 4 cX7_test .boolean out) {σ : Mem} (h : fX7_test_L31 σ = some out) : G E rmX7_test cI layX ad 4 31 [] [] σ := by
  unfold fX7_test_L31 at h
  refine g_iconst 32 (v := 0) C dX7_test_31 (by decide) rfl ?_
  cases h
  exact K0 _ _ dX7_test_32 (zb_nar (x := 0) (by decide))
noncomputable def fX7_test_L68 (l1 : Int32) (l2 : Int32) (l3 : Int32) (σ : Mem) : Option (Int32 × Mem) :=
  some (1, up2 (up2 (up2 (up2 σ 3 8 l1) 3 9 l2) 3 10 l3) 3 12 (((up2 (up2 (up2 σ 3 8 l1) 3 9 l2) 3 10 l3) 3 12) + 1))
set_option maxHeartbeats 4000000 in
set_option maxRecDepth 100000 in
theorem tX7_test_L68 {E : Gx} {cI : ClassId} {ad : Nat → Nat} (C : Cx E rmX7_test cI layX ad 4 RX7 cX7_test) {out : Int32 × Mem} (K0 : KI E rmX7_test cI layX ad 4 cX7_test .boolean out) {l1 : Int32} {l2 : Int32} {l3 : Int32} {σ : Mem} (h : fX7_test_L68 l1 l2 l3 σ = some out) : G E rmX7_test cI layX ad 4 68 [(0, .ref (ad 7)), (1, .int l1), (2, .int l2), (3, .int l3)] [] σ := by
  unfold fX7_test_L68 at h
  refine g_aload_n 69 C dX7_test_68 rfl (j := 0) rfl rfl ?_
  refine g_getr 72 (j := 0) C rfl rfl wu_X7 (by decide) wf_X7_23 rfl dX7_test_69 rfl ?_
  refine g_iload_n 73 C dX7_test_72 rfl (j := 1) rfl rfl ?_
  refine g_putiN 76 (j := 8) C rfl rfl wu_X3 (by decide) (List.mem_of_getElem? (i := 21) rfl) tyX3 tyX3_ok nmX3 rfl rfl rfl rfl dX7_test_73 rfl ?_
  refine g_aload_n 77 C dX7_test_76 rfl (j := 0) rfl rfl ?_
  refine g_getr 80 (j := 0) C rfl rfl wu_X7 (by decide) wf_X7_23 rfl dX7_test_77 rfl ?_
  refine g_iload_n 81 C dX7_test_80 rfl (j := 2) rfl rfl ?_
  refine g_putiN 84 (j := 9) C rfl rfl wu_X3 (by decide) (List.mem_of_getElem? (i := 23) rfl) tyX3 tyX3_ok nmX3 rfl rfl rfl rfl dX7_test_81 rfl ?_
  refine g_aload_n 85 C dX7_test_84 rfl (j := 0) rfl rfl ?_
  refine g_getr 88 (j := 0) C rfl rfl wu_X7 (by decide) wf_X7_23 rfl dX7_test_85 rfl ?_
  refine g_iload_n 89 C dX7_test_88 rfl (j := 3) rfl rfl ?_
  refine g_putiN 92 (j := 10) C rfl rfl wu_X3 (by decide) (List.mem_of_getElem? (i := 25) rfl) tyX3 tyX3_ok nmX3 rfl rfl rfl rfl dX7_test_89 rfl ?_
  refine g_aload_n 93 C dX7_test_92 rfl (j := 0) rfl rfl ?_
  refine g_getr 96 (j := 0) C rfl rfl wu_X7 (by decide) wf_X7_23 rfl dX7_test_93 rfl ?_
  refine g_dup 97 C dX7_test_96 rfl rfl ?_
  refine g_getiN 100 (j := 12) C rfl rfl wu_X3 (by decide) (List.mem_of_getElem? (i := 31) rfl) rfl dX7_test_97 rfl ?_
  refine g_iconst 101 (v := 1) C dX7_test_100 (by decide) rfl ?_
  refine g_iadd 102 C dX7_test_101 rfl ?_
  refine g_putiN 105 (j := 12) C rfl rfl wu_X3 (by decide) (List.mem_of_getElem? (i := 31) rfl) tyX3 tyX3_ok nmX3 rfl rfl rfl rfl dX7_test_102 rfl ?_
  refine g_iconst 106 (v := 1) C dX7_test_105 (by decide) rfl ?_
  cases h
  exact K0 _ _ dX7_test_106 (zb_nar (x := 1) (by decide))
noncomputable def fX7_test_L9 (l1 : Int32) (l2 : Int32) (l3 : Int32) (σ : Mem) : Option (Int32 × Mem) :=
  (fX3_has l2 σ).bind fun o1 =>
  if o1.1 = 0 then
    fX7_test_L31 o1.2
  else
    (fX3_has l3 o1.2).bind fun o2 =>
    if o2.1 = 0 then
      fX7_test_L31 o2.2
    else
      if (o2.2 3 8) = l1 then
        if (o2.2 3 9) = l2 then
          if (o2.2 3 10) = l3 then
            some (0, o2.2)
          else
            fX7_test_L68 l1 l2 l3 o2.2
        else
          fX7_test_L68 l1 l2 l3 o2.2
      else
        fX7_test_L68 l1 l2 l3 o2.2
set_option maxHeartbeats 4000000 in
set_option maxRecDepth 100000 in
theorem tX7_test_L9 {E : Gx} {cI : ClassId} {ad : Nat → Nat} (C : Cx E rmX7_test cI layX ad 4 RX7 cX7_test) {out : Int32 × Mem} (K0 : KI E rmX7_test cI layX ad 4 cX7_test .boolean out) {l1 : Int32} {l2 : Int32} {l3 : Int32} {σ : Mem} (h : fX7_test_L9 l1 l2 l3 σ = some out) : G E rmX7_test cI layX ad 4 9 [(0, .ref (ad 7)), (1, .int l1), (2, .int l2), (3, .int l3)] [] σ := by
  unfold fX7_test_L9 at h
  refine g_aload_n 10 C dX7_test_9 rfl (j := 0) rfl rfl ?_
  refine g_getr 13 (j := 0) C rfl rfl wu_X7 (by decide) wf_X7_23 rfl dX7_test_10 rfl ?_
  refine g_iload_n 14 C dX7_test_13 rfl (j := 2) rfl rfl ?_
  refine g_cni 17 C (As := [.int l2]) (fun _ h => mX3_has (a1 := l2) (σ := σ) h) (List.mem_of_getElem? (i := 9) rfl) wi_X3_has wz_X3_has wc_X3_has wn_X3 qX3_has rfl rfl ⟨Nat.le_of_ble_eq_true rfl, Nat.le_of_ble_eq_true rfl⟩ rfl rfl rfl rfl (Nat.le_of_ble_eq_true rfl) dX7_test_14 rfl h (fun o1 h => ?_)
  refine g_if_eq 31 20 C dX7_test_17 (by decide) rfl h (fun h => ?_) (fun h => ?_)
  · exact g_sub [] (tX7_test_L31 (σ := o1.2) C K0 h) rfl
  · refine g_aload_n 21 C dX7_test_20 rfl (j := 0) rfl rfl ?_
    refine g_getr 24 (j := 0) C rfl rfl wu_X7 (by decide) wf_X7_23 rfl dX7_test_21 rfl ?_
    refine g_iload_n 25 C dX7_test_24 rfl (j := 3) rfl rfl ?_
    refine g_cni 28 C (As := [.int l3]) (fun _ h => mX3_has (a1 := l3) (σ := o1.2) h) (List.mem_of_getElem? (i := 9) rfl) wi_X3_has wz_X3_has wc_X3_has wn_X3 qX3_has rfl rfl ⟨Nat.le_of_ble_eq_true rfl, Nat.le_of_ble_eq_true rfl⟩ rfl rfl rfl rfl (Nat.le_of_ble_eq_true rfl) dX7_test_25 rfl h (fun o2 h => ?_)
    refine g_if_ne 33 31 C dX7_test_28 (by decide) rfl h (fun h => ?_) (fun h => ?_)
    · exact g_sub [] (tX7_test_L31 (σ := o2.2) C K0 h) rfl
    · refine g_aload_n 34 C dX7_test_33 rfl (j := 0) rfl rfl ?_
      refine g_getr 37 (j := 0) C rfl rfl wu_X7 (by decide) wf_X7_23 rfl dX7_test_34 rfl ?_
      refine g_getiN 40 (j := 8) C rfl rfl wu_X3 (by decide) (List.mem_of_getElem? (i := 21) rfl) rfl dX7_test_37 rfl ?_
      refine g_iload_n 41 C dX7_test_40 rfl (j := 1) rfl rfl ?_
      refine g_icmp_ne 68 44 C dX7_test_41 (by decide) rfl h (fun h => ?_) (fun h => ?_)
      · refine g_aload_n 45 C dX7_test_44 rfl (j := 0) rfl rfl ?_
        refine g_getr 48 (j := 0) C rfl rfl wu_X7 (by decide) wf_X7_23 rfl dX7_test_45 rfl ?_
        refine g_getiN 51 (j := 9) C rfl rfl wu_X3 (by decide) (List.mem_of_getElem? (i := 23) rfl) rfl dX7_test_48 rfl ?_
        refine g_iload_n 52 C dX7_test_51 rfl (j := 2) rfl rfl ?_
        refine g_icmp_ne 68 55 C dX7_test_52 (by decide) rfl h (fun h => ?_) (fun h => ?_)
        · refine g_aload_n 56 C dX7_test_55 rfl (j := 0) rfl rfl ?_
          refine g_getr 59 (j := 0) C rfl rfl wu_X7 (by decide) wf_X7_23 rfl dX7_test_56 rfl ?_
          refine g_getiN 62 (j := 10) C rfl rfl wu_X3 (by decide) (List.mem_of_getElem? (i := 25) rfl) rfl dX7_test_59 rfl ?_
          refine g_iload_n 63 C dX7_test_62 rfl (j := 3) rfl rfl ?_
          refine g_icmp_ne 68 66 C dX7_test_63 (by decide) rfl h (fun h => ?_) (fun h => ?_)
          · refine g_iconst 67 (v := 0) C dX7_test_66 (by decide) rfl ?_
            cases h
            exact K0 _ _ dX7_test_67 (zb_nar (x := 0) (by decide))
          · exact tX7_test_L68 (l1 := l1) (l2 := l2) (l3 := l3) (σ := o2.2) C K0 h
        · exact tX7_test_L68 (l1 := l1) (l2 := l2) (l3 := l3) (σ := o2.2) C K0 h
      · exact tX7_test_L68 (l1 := l1) (l2 := l2) (l3 := l3) (σ := o2.2) C K0 h
noncomputable def fX7_test (a1 : Int32) (a2 : Int32) (a3 : Int32) (σ : Mem) : Option (Int32 × Mem) :=
  if a1 = 0 then
    fX7_test_L9 a1 a2 a3 σ
  else
    if a1 = 1 then
      fX7_test_L9 a1 a2 a3 σ
    else
      fX7_test_L31 σ
set_option maxHeartbeats 4000000 in
set_option maxRecDepth 100000 in
theorem mX7_test {l : Launch} {D : va_G} {cI : ClassId} {ad : Nat → Nat} {a1 : Int32} {a2 : Int32} {a3 : Int32} {σ : Mem} {out : Int32 × Mem} (h : fX7_test a1 a2 a3 σ = some out) : MI l D cI layX ad yX7_test cX7_test 4 .boolean rmX7_test [.ref (ad 7), .int a1, .int a2, .int a3] σ out := by
  refine met_i (by decide) (Nat.le_of_ble_eq_true rfl) (fun E C K0 => ?_)
  show G E rmX7_test cI layX ad 4 0 [(0, .ref (ad 7)), (1, .int a1), (2, .int a2), (3, .int a3)] [] σ
  unfold fX7_test at h
  refine g_iload_n 1 C dX7_test_0 rfl (j := 1) rfl rfl ?_
  refine g_if_eq 9 4 C dX7_test_1 (by decide) rfl h (fun h => ?_) (fun h => ?_)
  · exact tX7_test_L9 (l1 := a1) (l2 := a2) (l3 := a3) (σ := σ) C K0 h
  · refine g_iload_n 5 C dX7_test_4 rfl (j := 1) rfl rfl ?_
    refine g_iconst 6 (v := 1) C dX7_test_5 (by decide) rfl ?_
    refine g_icmp_ne 31 9 C dX7_test_6 (by decide) rfl h (fun h => ?_) (fun h => ?_)
    · exact tX7_test_L9 (l1 := a1) (l2 := a2) (l3 := a3) (σ := σ) C K0 h
    · exact g_sub [] (tX7_test_L31 (σ := σ) C K0 h) rfl

/-! LoopReducer.count(I)I -/
abbrev rmX7_count : Room := { frames := 0, cells := 0, slots := 0, locals := 0 }
theorem qX7_count : yX7_count.cls ≠ "java/lang/invoke/MethodHandle" ∧ yX7_count.cls ≠ "java/lang/invoke/VarHandle" ∧ (parseMethodDescriptor yX7_count.desc).map (fun d => d.parameters.length) = some 1 := by decide +kernel
theorem DX7_count : ∀ q ∈ ([(0, .iload_n 1, 1), (1, .tableswitch 113 0 7 #[47, 55, 63, 71, 79, 87, 95, 103], 47), (48, .aload_n 0, 1), (49, .getfield 23, 3), (52, .getfield 94, 3), (55, .ireturn, 1), (56, .aload_n 0, 1), (57, .getfield 23, 3), (60, .getfield 87, 3), (63, .ireturn, 1), (64, .aload_n 0, 1), (65, .getfield 23, 3), (68, .getfield 124, 3), (71, .ireturn, 1), (72, .aload_n 0, 1), (73, .getfield 23, 3), (76, .getfield 130, 3), (79, .ireturn, 1), (80, .aload_n 0, 1), (81, .getfield 23, 3), (84, .getfield 112, 3), (87, .ireturn, 1), (88, .aload_n 0, 1), (89, .getfield 23, 3), (92, .getfield 115, 3), (95, .ireturn, 1), (96, .aload_n 0, 1), (97, .getfield 23, 3), (100, .getfield 118, 3), (103, .ireturn, 1), (104, .aload_n 0, 1), (105, .getfield 23, 3), (108, .getfield 79, 3), (111, .iconst 1, 1), (112, .iadd, 1), (113, .ireturn, 1), (114, .iconst (-1), 1), (115, .ireturn, 1)] : List (Nat × Instr × Nat)), decode cX7_count q.1 = .ok q.2 := by decide +kernel
theorem dX7_count_0 : decode cX7_count 0 = .ok (.iload_n 1, 1) := DX7_count (0, .iload_n 1, 1) (List.mem_of_getElem? (i := 0) rfl)
theorem dX7_count_1 : decode cX7_count 1 = .ok (.tableswitch 113 0 7 #[47, 55, 63, 71, 79, 87, 95, 103], 47) := DX7_count (1, .tableswitch 113 0 7 #[47, 55, 63, 71, 79, 87, 95, 103], 47) (List.mem_of_getElem? (i := 1) rfl)
theorem dX7_count_48 : decode cX7_count 48 = .ok (.aload_n 0, 1) := DX7_count (48, .aload_n 0, 1) (List.mem_of_getElem? (i := 2) rfl)
theorem dX7_count_49 : decode cX7_count 49 = .ok (.getfield 23, 3) := DX7_count (49, .getfield 23, 3) (List.mem_of_getElem? (i := 3) rfl)
theorem dX7_count_52 : decode cX7_count 52 = .ok (.getfield 94, 3) := DX7_count (52, .getfield 94, 3) (List.mem_of_getElem? (i := 4) rfl)
theorem dX7_count_55 : decode cX7_count 55 = .ok (.ireturn, 1) := DX7_count (55, .ireturn, 1) (List.mem_of_getElem? (i := 5) rfl)
theorem dX7_count_56 : decode cX7_count 56 = .ok (.aload_n 0, 1) := DX7_count (56, .aload_n 0, 1) (List.mem_of_getElem? (i := 6) rfl)
theorem dX7_count_57 : decode cX7_count 57 = .ok (.getfield 23, 3) := DX7_count (57, .getfield 23, 3) (List.mem_of_getElem? (i := 7) rfl)
theorem dX7_count_60 : decode cX7_count 60 = .ok (.getfield 87, 3) := DX7_count (60, .getfield 87, 3) (List.mem_of_getElem? (i := 8) rfl)
theorem dX7_count_63 : decode cX7_count 63 = .ok (.ireturn, 1) := DX7_count (63, .ireturn, 1) (List.mem_of_getElem? (i := 9) rfl)
theorem dX7_count_64 : decode cX7_count 64 = .ok (.aload_n 0, 1) := DX7_count (64, .aload_n 0, 1) (List.mem_of_getElem? (i := 10) rfl)
theorem dX7_count_65 : decode cX7_count 65 = .ok (.getfield 23, 3) := DX7_count (65, .getfield 23, 3) (List.mem_of_getElem? (i := 11) rfl)
theorem dX7_count_68 : decode cX7_count 68 = .ok (.getfield 124, 3) := DX7_count (68, .getfield 124, 3) (List.mem_of_getElem? (i := 12) rfl)
theorem dX7_count_71 : decode cX7_count 71 = .ok (.ireturn, 1) := DX7_count (71, .ireturn, 1) (List.mem_of_getElem? (i := 13) rfl)
theorem dX7_count_72 : decode cX7_count 72 = .ok (.aload_n 0, 1) := DX7_count (72, .aload_n 0, 1) (List.mem_of_getElem? (i := 14) rfl)
theorem dX7_count_73 : decode cX7_count 73 = .ok (.getfield 23, 3) := DX7_count (73, .getfield 23, 3) (List.mem_of_getElem? (i := 15) rfl)
theorem dX7_count_76 : decode cX7_count 76 = .ok (.getfield 130, 3) := DX7_count (76, .getfield 130, 3) (List.mem_of_getElem? (i := 16) rfl)
theorem dX7_count_79 : decode cX7_count 79 = .ok (.ireturn, 1) := DX7_count (79, .ireturn, 1) (List.mem_of_getElem? (i := 17) rfl)
theorem dX7_count_80 : decode cX7_count 80 = .ok (.aload_n 0, 1) := DX7_count (80, .aload_n 0, 1) (List.mem_of_getElem? (i := 18) rfl)
theorem dX7_count_81 : decode cX7_count 81 = .ok (.getfield 23, 3) := DX7_count (81, .getfield 23, 3) (List.mem_of_getElem? (i := 19) rfl)
theorem dX7_count_84 : decode cX7_count 84 = .ok (.getfield 112, 3) := DX7_count (84, .getfield 112, 3) (List.mem_of_getElem? (i := 20) rfl)
theorem dX7_count_87 : decode cX7_count 87 = .ok (.ireturn, 1) := DX7_count (87, .ireturn, 1) (List.mem_of_getElem? (i := 21) rfl)
theorem dX7_count_88 : decode cX7_count 88 = .ok (.aload_n 0, 1) := DX7_count (88, .aload_n 0, 1) (List.mem_of_getElem? (i := 22) rfl)
theorem dX7_count_89 : decode cX7_count 89 = .ok (.getfield 23, 3) := DX7_count (89, .getfield 23, 3) (List.mem_of_getElem? (i := 23) rfl)
theorem dX7_count_92 : decode cX7_count 92 = .ok (.getfield 115, 3) := DX7_count (92, .getfield 115, 3) (List.mem_of_getElem? (i := 24) rfl)
theorem dX7_count_95 : decode cX7_count 95 = .ok (.ireturn, 1) := DX7_count (95, .ireturn, 1) (List.mem_of_getElem? (i := 25) rfl)
theorem dX7_count_96 : decode cX7_count 96 = .ok (.aload_n 0, 1) := DX7_count (96, .aload_n 0, 1) (List.mem_of_getElem? (i := 26) rfl)
theorem dX7_count_97 : decode cX7_count 97 = .ok (.getfield 23, 3) := DX7_count (97, .getfield 23, 3) (List.mem_of_getElem? (i := 27) rfl)
theorem dX7_count_100 : decode cX7_count 100 = .ok (.getfield 118, 3) := DX7_count (100, .getfield 118, 3) (List.mem_of_getElem? (i := 28) rfl)
theorem dX7_count_103 : decode cX7_count 103 = .ok (.ireturn, 1) := DX7_count (103, .ireturn, 1) (List.mem_of_getElem? (i := 29) rfl)
theorem dX7_count_104 : decode cX7_count 104 = .ok (.aload_n 0, 1) := DX7_count (104, .aload_n 0, 1) (List.mem_of_getElem? (i := 30) rfl)
theorem dX7_count_105 : decode cX7_count 105 = .ok (.getfield 23, 3) := DX7_count (105, .getfield 23, 3) (List.mem_of_getElem? (i := 31) rfl)
theorem dX7_count_108 : decode cX7_count 108 = .ok (.getfield 79, 3) := DX7_count (108, .getfield 79, 3) (List.mem_of_getElem? (i := 32) rfl)
theorem dX7_count_111 : decode cX7_count 111 = .ok (.iconst 1, 1) := DX7_count (111, .iconst 1, 1) (List.mem_of_getElem? (i := 33) rfl)
theorem dX7_count_112 : decode cX7_count 112 = .ok (.iadd, 1) := DX7_count (112, .iadd, 1) (List.mem_of_getElem? (i := 34) rfl)
theorem dX7_count_113 : decode cX7_count 113 = .ok (.ireturn, 1) := DX7_count (113, .ireturn, 1) (List.mem_of_getElem? (i := 35) rfl)
theorem dX7_count_114 : decode cX7_count 114 = .ok (.iconst (-1), 1) := DX7_count (114, .iconst (-1), 1) (List.mem_of_getElem? (i := 36) rfl)
theorem dX7_count_115 : decode cX7_count 115 = .ok (.ireturn, 1) := DX7_count (115, .ireturn, 1) (List.mem_of_getElem? (i := 37) rfl)
noncomputable def fX7_count (a1 : Int32) (σ : Mem) : Option (Int32 × Mem) :=
  if a1 = 0 then
    some (σ 3 4, σ)
  else if a1 = 1 then
    some (σ 3 5, σ)
  else if a1 = 2 then
    some (σ 3 7, σ)
  else if a1 = 3 then
    some (σ 3 6, σ)
  else if a1 = 4 then
    some (σ 3 8, σ)
  else if a1 = 5 then
    some (σ 3 9, σ)
  else if a1 = 6 then
    some (σ 3 10, σ)
  else if a1 = 7 then
    some ((σ 3 0) + 1, σ)
  else some ((-1), σ)
set_option maxHeartbeats 4000000 in
set_option maxRecDepth 100000 in
theorem mX7_count {l : Launch} {D : va_G} {cI : ClassId} {ad : Nat → Nat} {a1 : Int32} {σ : Mem} {out : Int32 × Mem} (h : fX7_count a1 σ = some out) : MI l D cI layX ad yX7_count cX7_count 2 .int rmX7_count [.ref (ad 7), .int a1] σ out := by
  refine met_i (by decide) (Nat.le_of_ble_eq_true rfl) (fun E C K0 => ?_)
  show G E rmX7_count cI layX ad 2 0 [(0, .ref (ad 7)), (1, .int a1)] [] σ
  unfold fX7_count at h
  refine g_iload_n 1 C dX7_count_0 rfl (j := 1) rfl rfl ?_
  by_cases c0 : a1 = 0
  · rw [if_pos c0] at h
    refine g_tswC 48 (off := 47) C dX7_count_1 c0 (by decide) (by decide) (by decide) (by decide) ?_
    refine g_aload_n 49 C dX7_count_48 rfl (j := 0) rfl rfl ?_
    refine g_getr 52 (j := 0) C rfl rfl wu_X7 (by decide) wf_X7_23 rfl dX7_count_49 rfl ?_
    refine g_getiN 55 (j := 4) C rfl rfl wu_X3 (by decide) (List.mem_of_getElem? (i := 15) rfl) rfl dX7_count_52 rfl ?_
    cases h
    exact K0 _ _ dX7_count_55 rfl
  rw [if_neg c0] at h
  by_cases c1 : a1 = 1
  · rw [if_pos c1] at h
    refine g_tswC 56 (off := 55) C dX7_count_1 c1 (by decide) (by decide) (by decide) (by decide) ?_
    refine g_aload_n 57 C dX7_count_56 rfl (j := 0) rfl rfl ?_
    refine g_getr 60 (j := 0) C rfl rfl wu_X7 (by decide) wf_X7_23 rfl dX7_count_57 rfl ?_
    refine g_getiN 63 (j := 5) C rfl rfl wu_X3 (by decide) (List.mem_of_getElem? (i := 17) rfl) rfl dX7_count_60 rfl ?_
    cases h
    exact K0 _ _ dX7_count_63 rfl
  rw [if_neg c1] at h
  by_cases c2 : a1 = 2
  · rw [if_pos c2] at h
    refine g_tswC 64 (off := 63) C dX7_count_1 c2 (by decide) (by decide) (by decide) (by decide) ?_
    refine g_aload_n 65 C dX7_count_64 rfl (j := 0) rfl rfl ?_
    refine g_getr 68 (j := 0) C rfl rfl wu_X7 (by decide) wf_X7_23 rfl dX7_count_65 rfl ?_
    refine g_getiN 71 (j := 7) C rfl rfl wu_X3 (by decide) (List.mem_of_getElem? (i := 19) rfl) rfl dX7_count_68 rfl ?_
    cases h
    exact K0 _ _ dX7_count_71 rfl
  rw [if_neg c2] at h
  by_cases c3 : a1 = 3
  · rw [if_pos c3] at h
    refine g_tswC 72 (off := 71) C dX7_count_1 c3 (by decide) (by decide) (by decide) (by decide) ?_
    refine g_aload_n 73 C dX7_count_72 rfl (j := 0) rfl rfl ?_
    refine g_getr 76 (j := 0) C rfl rfl wu_X7 (by decide) wf_X7_23 rfl dX7_count_73 rfl ?_
    refine g_getiN 79 (j := 6) C rfl rfl wu_X3 (by decide) (List.mem_of_getElem? (i := 18) rfl) rfl dX7_count_76 rfl ?_
    cases h
    exact K0 _ _ dX7_count_79 rfl
  rw [if_neg c3] at h
  by_cases c4 : a1 = 4
  · rw [if_pos c4] at h
    refine g_tswC 80 (off := 79) C dX7_count_1 c4 (by decide) (by decide) (by decide) (by decide) ?_
    refine g_aload_n 81 C dX7_count_80 rfl (j := 0) rfl rfl ?_
    refine g_getr 84 (j := 0) C rfl rfl wu_X7 (by decide) wf_X7_23 rfl dX7_count_81 rfl ?_
    refine g_getiN 87 (j := 8) C rfl rfl wu_X3 (by decide) (List.mem_of_getElem? (i := 21) rfl) rfl dX7_count_84 rfl ?_
    cases h
    exact K0 _ _ dX7_count_87 rfl
  rw [if_neg c4] at h
  by_cases c5 : a1 = 5
  · rw [if_pos c5] at h
    refine g_tswC 88 (off := 87) C dX7_count_1 c5 (by decide) (by decide) (by decide) (by decide) ?_
    refine g_aload_n 89 C dX7_count_88 rfl (j := 0) rfl rfl ?_
    refine g_getr 92 (j := 0) C rfl rfl wu_X7 (by decide) wf_X7_23 rfl dX7_count_89 rfl ?_
    refine g_getiN 95 (j := 9) C rfl rfl wu_X3 (by decide) (List.mem_of_getElem? (i := 23) rfl) rfl dX7_count_92 rfl ?_
    cases h
    exact K0 _ _ dX7_count_95 rfl
  rw [if_neg c5] at h
  by_cases c6 : a1 = 6
  · rw [if_pos c6] at h
    refine g_tswC 96 (off := 95) C dX7_count_1 c6 (by decide) (by decide) (by decide) (by decide) ?_
    refine g_aload_n 97 C dX7_count_96 rfl (j := 0) rfl rfl ?_
    refine g_getr 100 (j := 0) C rfl rfl wu_X7 (by decide) wf_X7_23 rfl dX7_count_97 rfl ?_
    refine g_getiN 103 (j := 10) C rfl rfl wu_X3 (by decide) (List.mem_of_getElem? (i := 25) rfl) rfl dX7_count_100 rfl ?_
    cases h
    exact K0 _ _ dX7_count_103 rfl
  rw [if_neg c6] at h
  by_cases c7 : a1 = 7
  · rw [if_pos c7] at h
    refine g_tswC 104 (off := 103) C dX7_count_1 c7 (by decide) (by decide) (by decide) (by decide) ?_
    refine g_aload_n 105 C dX7_count_104 rfl (j := 0) rfl rfl ?_
    refine g_getr 108 (j := 0) C rfl rfl wu_X7 (by decide) wf_X7_23 rfl dX7_count_105 rfl ?_
    refine g_getiN 111 (j := 0) C rfl rfl wu_X3 (by decide) (List.mem_of_getElem? (i := 0) rfl) rfl dX7_count_108 rfl ?_
    refine g_iconst 112 (v := 1) C dX7_count_111 (by decide) rfl ?_
    refine g_iadd 113 C dX7_count_112 rfl ?_
    cases h
    exact K0 _ _ dX7_count_113 rfl
  rw [if_neg c7] at h
  have hout : a1.toInt < 0 ∨ 7 < a1.toInt := by
    have n0 : ¬ a1.toInt = 0 := ne_toInt c0
    have n1 : ¬ a1.toInt = 1 := ne_toInt c1
    have n2 : ¬ a1.toInt = 2 := ne_toInt c2
    have n3 : ¬ a1.toInt = 3 := ne_toInt c3
    have n4 : ¬ a1.toInt = 4 := ne_toInt c4
    have n5 : ¬ a1.toInt = 5 := ne_toInt c5
    have n6 : ¬ a1.toInt = 6 := ne_toInt c6
    have n7 : ¬ a1.toInt = 7 := ne_toInt c7
    omega
  refine g_tswD 114 C dX7_count_1 hout (by decide) ?_
  refine g_iconst 115 (v := (-1)) C dX7_count_114 (by decide) rfl ?_
  cases h
  exact K0 _ _ dX7_count_115 rfl

/-! LoopReducer.seen(I)I -/
abbrev rmX7_seen : Room := { frames := 0, cells := 0, slots := 0, locals := 0 }
theorem qX7_seen : yX7_seen.cls ≠ "java/lang/invoke/MethodHandle" ∧ yX7_seen.cls ≠ "java/lang/invoke/VarHandle" ∧ (parseMethodDescriptor yX7_seen.desc).map (fun d => d.parameters.length) = some 1 := by decide +kernel
theorem DX7_seen : ∀ q ∈ ([(0, .iload_n 1, 1), (1, .iconst (-1), 1), (2, .if_icmp .ne 11, 3), (5, .aload_n 0, 1), (6, .getfield 75, 3), (9, .getfield 238, 3), (12, .ireturn, 1), (13, .iload_n 1, 1), (14, .ifCond .lt 14, 3), (17, .iload_n 1, 1), (18, .aload_n 0, 1), (19, .getfield 75, 3), (22, .getfield 238, 3), (25, .if_icmp .lt 5, 3), (28, .iconst (-1), 1), (29, .ireturn, 1), (30, .aload_n 0, 1), (31, .getfield 75, 3), (34, .getfield 241, 3), (37, .iload_n 1, 1), (38, .iaload, 1), (39, .ireturn, 1)] : List (Nat × Instr × Nat)), decode cX7_seen q.1 = .ok q.2 := by decide +kernel
theorem dX7_seen_0 : decode cX7_seen 0 = .ok (.iload_n 1, 1) := DX7_seen (0, .iload_n 1, 1) (List.mem_of_getElem? (i := 0) rfl)
theorem dX7_seen_1 : decode cX7_seen 1 = .ok (.iconst (-1), 1) := DX7_seen (1, .iconst (-1), 1) (List.mem_of_getElem? (i := 1) rfl)
theorem dX7_seen_2 : decode cX7_seen 2 = .ok (.if_icmp .ne 11, 3) := DX7_seen (2, .if_icmp .ne 11, 3) (List.mem_of_getElem? (i := 2) rfl)
theorem dX7_seen_5 : decode cX7_seen 5 = .ok (.aload_n 0, 1) := DX7_seen (5, .aload_n 0, 1) (List.mem_of_getElem? (i := 3) rfl)
theorem dX7_seen_6 : decode cX7_seen 6 = .ok (.getfield 75, 3) := DX7_seen (6, .getfield 75, 3) (List.mem_of_getElem? (i := 4) rfl)
theorem dX7_seen_9 : decode cX7_seen 9 = .ok (.getfield 238, 3) := DX7_seen (9, .getfield 238, 3) (List.mem_of_getElem? (i := 5) rfl)
theorem dX7_seen_12 : decode cX7_seen 12 = .ok (.ireturn, 1) := DX7_seen (12, .ireturn, 1) (List.mem_of_getElem? (i := 6) rfl)
theorem dX7_seen_13 : decode cX7_seen 13 = .ok (.iload_n 1, 1) := DX7_seen (13, .iload_n 1, 1) (List.mem_of_getElem? (i := 7) rfl)
theorem dX7_seen_14 : decode cX7_seen 14 = .ok (.ifCond .lt 14, 3) := DX7_seen (14, .ifCond .lt 14, 3) (List.mem_of_getElem? (i := 8) rfl)
theorem dX7_seen_17 : decode cX7_seen 17 = .ok (.iload_n 1, 1) := DX7_seen (17, .iload_n 1, 1) (List.mem_of_getElem? (i := 9) rfl)
theorem dX7_seen_18 : decode cX7_seen 18 = .ok (.aload_n 0, 1) := DX7_seen (18, .aload_n 0, 1) (List.mem_of_getElem? (i := 10) rfl)
theorem dX7_seen_19 : decode cX7_seen 19 = .ok (.getfield 75, 3) := DX7_seen (19, .getfield 75, 3) (List.mem_of_getElem? (i := 11) rfl)
theorem dX7_seen_22 : decode cX7_seen 22 = .ok (.getfield 238, 3) := DX7_seen (22, .getfield 238, 3) (List.mem_of_getElem? (i := 12) rfl)
theorem dX7_seen_25 : decode cX7_seen 25 = .ok (.if_icmp .lt 5, 3) := DX7_seen (25, .if_icmp .lt 5, 3) (List.mem_of_getElem? (i := 13) rfl)
theorem dX7_seen_28 : decode cX7_seen 28 = .ok (.iconst (-1), 1) := DX7_seen (28, .iconst (-1), 1) (List.mem_of_getElem? (i := 14) rfl)
theorem dX7_seen_29 : decode cX7_seen 29 = .ok (.ireturn, 1) := DX7_seen (29, .ireturn, 1) (List.mem_of_getElem? (i := 15) rfl)
theorem dX7_seen_30 : decode cX7_seen 30 = .ok (.aload_n 0, 1) := DX7_seen (30, .aload_n 0, 1) (List.mem_of_getElem? (i := 16) rfl)
theorem dX7_seen_31 : decode cX7_seen 31 = .ok (.getfield 75, 3) := DX7_seen (31, .getfield 75, 3) (List.mem_of_getElem? (i := 17) rfl)
theorem dX7_seen_34 : decode cX7_seen 34 = .ok (.getfield 241, 3) := DX7_seen (34, .getfield 241, 3) (List.mem_of_getElem? (i := 18) rfl)
theorem dX7_seen_37 : decode cX7_seen 37 = .ok (.iload_n 1, 1) := DX7_seen (37, .iload_n 1, 1) (List.mem_of_getElem? (i := 19) rfl)
theorem dX7_seen_38 : decode cX7_seen 38 = .ok (.iaload, 1) := DX7_seen (38, .iaload, 1) (List.mem_of_getElem? (i := 20) rfl)
theorem dX7_seen_39 : decode cX7_seen 39 = .ok (.ireturn, 1) := DX7_seen (39, .ireturn, 1) (List.mem_of_getElem? (i := 21) rfl)
noncomputable def fX7_seen_L28 (σ : Mem) : Option (Int32 × Mem) :=
  some ((-1), σ)
set_option maxHeartbeats 4000000 in
set_option maxRecDepth 100000 in
theorem tX7_seen_L28 {E : Gx} {cI : ClassId} {ad : Nat → Nat} (C : Cx E rmX7_seen cI layX ad 2 RX7 cX7_seen) {out : Int32 × Mem} (K0 : KI E rmX7_seen cI layX ad 2 cX7_seen .int out) {σ : Mem} (h : fX7_seen_L28 σ = some out) : G E rmX7_seen cI layX ad 2 28 [] [] σ := by
  unfold fX7_seen_L28 at h
  refine g_iconst 29 (v := (-1)) C dX7_seen_28 (by decide) rfl ?_
  cases h
  exact K0 _ _ dX7_seen_29 rfl
noncomputable def fX7_seen (a1 : Int32) (σ : Mem) : Option (Int32 × Mem) :=
  if a1 = (-1) then
    some (σ 6 10, σ)
  else
    if a1 < 0 then
      fX7_seen_L28 σ
    else
      if a1 < (σ 6 10) then
        chk (inb a1 400) <|
        some (σ 31 a1.toNatClampNeg, σ)
      else
        fX7_seen_L28 σ
set_option maxHeartbeats 4000000 in
set_option maxRecDepth 100000 in
theorem mX7_seen {l : Launch} {D : va_G} {cI : ClassId} {ad : Nat → Nat} {a1 : Int32} {σ : Mem} {out : Int32 × Mem} (h : fX7_seen a1 σ = some out) : MI l D cI layX ad yX7_seen cX7_seen 2 .int rmX7_seen [.ref (ad 7), .int a1] σ out := by
  refine met_i (by decide) (Nat.le_of_ble_eq_true rfl) (fun E C K0 => ?_)
  show G E rmX7_seen cI layX ad 2 0 [(0, .ref (ad 7)), (1, .int a1)] [] σ
  unfold fX7_seen at h
  refine g_iload_n 1 C dX7_seen_0 rfl (j := 1) rfl rfl ?_
  refine g_iconst 2 (v := (-1)) C dX7_seen_1 (by decide) rfl ?_
  refine g_icmp_ne 13 5 C dX7_seen_2 (by decide) rfl h (fun h => ?_) (fun h => ?_)
  · refine g_aload_n 6 C dX7_seen_5 rfl (j := 0) rfl rfl ?_
    refine g_getr 9 (j := 6) C rfl rfl wu_X7 (by decide) wf_X7_75 rfl dX7_seen_6 rfl ?_
    refine g_getiN 12 (j := 10) C rfl rfl wu_X6 (by decide) (List.mem_of_getElem? (i := 51) rfl) rfl dX7_seen_9 rfl ?_
    cases h
    exact K0 _ _ dX7_seen_12 rfl
  · refine g_iload_n 14 C dX7_seen_13 rfl (j := 1) rfl rfl ?_
    refine g_if_lt 28 17 C dX7_seen_14 (by decide) rfl h (fun h => ?_) (fun h => ?_)
    · exact g_sub [] (tX7_seen_L28 (σ := σ) C K0 h) rfl
    · refine g_iload_n 18 C dX7_seen_17 rfl (j := 1) rfl rfl ?_
      refine g_aload_n 19 C dX7_seen_18 rfl (j := 0) rfl rfl ?_
      refine g_getr 22 (j := 6) C rfl rfl wu_X7 (by decide) wf_X7_75 rfl dX7_seen_19 rfl ?_
      refine g_getiN 25 (j := 10) C rfl rfl wu_X6 (by decide) (List.mem_of_getElem? (i := 51) rfl) rfl dX7_seen_22 rfl ?_
      refine g_icmp_lt 30 28 C dX7_seen_25 (by decide) rfl h (fun h => ?_) (fun h => ?_)
      · refine g_aload_n 31 C dX7_seen_30 rfl (j := 0) rfl rfl ?_
        refine g_getr 34 (j := 6) C rfl rfl wu_X7 (by decide) wf_X7_75 rfl dX7_seen_31 rfl ?_
        refine g_getrN 37 (j := 9) C rfl rfl wu_X6 (by decide) (List.mem_of_getElem? (i := 50) rfl) rfl dX7_seen_34 rfl ?_
        refine g_iload_n 38 C dX7_seen_37 rfl (j := 1) rfl rfl ?_
        refine g_iald 39 C rfl dX7_seen_38 rfl h (fun h => ?_)
        cases h
        exact K0 _ _ dX7_seen_39 rfl
      · exact g_sub [] (tX7_seen_L28 (σ := σ) C K0 h) rfl

/-! LoopReducer.hasPoly(II)Z -/
abbrev rmX7_hasPoly : Room := { frames := 1, cells := 0, slots := 0, locals := 21 }
theorem qX7_hasPoly : yX7_hasPoly.cls ≠ "java/lang/invoke/MethodHandle" ∧ yX7_hasPoly.cls ≠ "java/lang/invoke/VarHandle" ∧ (parseMethodDescriptor yX7_hasPoly.desc).map (fun d => d.parameters.length) = some 2 := by decide +kernel
theorem DX7_hasPoly : ∀ q ∈ ([(0, .aload_n 0, 1), (1, .getfield 23, 3), (4, .iload_n 1, 1), (5, .invokevirtual 97, 3), (8, .ifCond .eq 27, 3), (11, .iload_n 2, 1), (12, .ifCond .lt 23, 3), (15, .iload_n 2, 1), (16, .iconst 3, 1), (17, .if_icmp .gt 18, 3), (20, .aload_n 0, 1), (21, .getfield 48, 3), (24, .iload_n 1, 1), (25, .invokevirtual 152, 3), (28, .ifCond .eq 7, 3), (31, .iconst 1, 1), (32, .goto 4, 3), (35, .iconst 0, 1), (36, .ireturn, 1)] : List (Nat × Instr × Nat)), decode cX7_hasPoly q.1 = .ok q.2 := by decide +kernel
theorem dX7_hasPoly_0 : decode cX7_hasPoly 0 = .ok (.aload_n 0, 1) := DX7_hasPoly (0, .aload_n 0, 1) (List.mem_of_getElem? (i := 0) rfl)
theorem dX7_hasPoly_1 : decode cX7_hasPoly 1 = .ok (.getfield 23, 3) := DX7_hasPoly (1, .getfield 23, 3) (List.mem_of_getElem? (i := 1) rfl)
theorem dX7_hasPoly_4 : decode cX7_hasPoly 4 = .ok (.iload_n 1, 1) := DX7_hasPoly (4, .iload_n 1, 1) (List.mem_of_getElem? (i := 2) rfl)
theorem dX7_hasPoly_5 : decode cX7_hasPoly 5 = .ok (.invokevirtual 97, 3) := DX7_hasPoly (5, .invokevirtual 97, 3) (List.mem_of_getElem? (i := 3) rfl)
theorem dX7_hasPoly_8 : decode cX7_hasPoly 8 = .ok (.ifCond .eq 27, 3) := DX7_hasPoly (8, .ifCond .eq 27, 3) (List.mem_of_getElem? (i := 4) rfl)
theorem dX7_hasPoly_11 : decode cX7_hasPoly 11 = .ok (.iload_n 2, 1) := DX7_hasPoly (11, .iload_n 2, 1) (List.mem_of_getElem? (i := 5) rfl)
theorem dX7_hasPoly_12 : decode cX7_hasPoly 12 = .ok (.ifCond .lt 23, 3) := DX7_hasPoly (12, .ifCond .lt 23, 3) (List.mem_of_getElem? (i := 6) rfl)
theorem dX7_hasPoly_15 : decode cX7_hasPoly 15 = .ok (.iload_n 2, 1) := DX7_hasPoly (15, .iload_n 2, 1) (List.mem_of_getElem? (i := 7) rfl)
theorem dX7_hasPoly_16 : decode cX7_hasPoly 16 = .ok (.iconst 3, 1) := DX7_hasPoly (16, .iconst 3, 1) (List.mem_of_getElem? (i := 8) rfl)
theorem dX7_hasPoly_17 : decode cX7_hasPoly 17 = .ok (.if_icmp .gt 18, 3) := DX7_hasPoly (17, .if_icmp .gt 18, 3) (List.mem_of_getElem? (i := 9) rfl)
theorem dX7_hasPoly_20 : decode cX7_hasPoly 20 = .ok (.aload_n 0, 1) := DX7_hasPoly (20, .aload_n 0, 1) (List.mem_of_getElem? (i := 10) rfl)
theorem dX7_hasPoly_21 : decode cX7_hasPoly 21 = .ok (.getfield 48, 3) := DX7_hasPoly (21, .getfield 48, 3) (List.mem_of_getElem? (i := 11) rfl)
theorem dX7_hasPoly_24 : decode cX7_hasPoly 24 = .ok (.iload_n 1, 1) := DX7_hasPoly (24, .iload_n 1, 1) (List.mem_of_getElem? (i := 12) rfl)
theorem dX7_hasPoly_25 : decode cX7_hasPoly 25 = .ok (.invokevirtual 152, 3) := DX7_hasPoly (25, .invokevirtual 152, 3) (List.mem_of_getElem? (i := 13) rfl)
theorem dX7_hasPoly_28 : decode cX7_hasPoly 28 = .ok (.ifCond .eq 7, 3) := DX7_hasPoly (28, .ifCond .eq 7, 3) (List.mem_of_getElem? (i := 14) rfl)
theorem dX7_hasPoly_31 : decode cX7_hasPoly 31 = .ok (.iconst 1, 1) := DX7_hasPoly (31, .iconst 1, 1) (List.mem_of_getElem? (i := 15) rfl)
theorem dX7_hasPoly_32 : decode cX7_hasPoly 32 = .ok (.goto 4, 3) := DX7_hasPoly (32, .goto 4, 3) (List.mem_of_getElem? (i := 16) rfl)
theorem dX7_hasPoly_35 : decode cX7_hasPoly 35 = .ok (.iconst 0, 1) := DX7_hasPoly (35, .iconst 0, 1) (List.mem_of_getElem? (i := 17) rfl)
theorem dX7_hasPoly_36 : decode cX7_hasPoly 36 = .ok (.ireturn, 1) := DX7_hasPoly (36, .ireturn, 1) (List.mem_of_getElem? (i := 18) rfl)
noncomputable def fX7_hasPoly_L36 (s0 : Int32) (σ : Mem) : Option (Int32 × Mem) :=
  chk (s0 == 0 || s0 == 1) <|
  some (s0, σ)
set_option maxHeartbeats 4000000 in
set_option maxRecDepth 100000 in
theorem tX7_hasPoly_L36 {E : Gx} {cI : ClassId} {ad : Nat → Nat} (C : Cx E rmX7_hasPoly cI layX ad 3 RX7 cX7_hasPoly) {out : Int32 × Mem} (K0 : KI E rmX7_hasPoly cI layX ad 3 cX7_hasPoly .boolean out) {s0 : Int32} {σ : Mem} (h : fX7_hasPoly_L36 s0 σ = some out) : G E rmX7_hasPoly cI layX ad 3 36 [] [.int s0] σ := by
  unfold fX7_hasPoly_L36 at h
  obtain ⟨hz, h⟩ := chk_some h
  cases h
  exact K0 _ _ dX7_hasPoly_36 (zb_nar hz)
noncomputable def fX7_hasPoly_L35 (σ : Mem) : Option (Int32 × Mem) :=
  fX7_hasPoly_L36 0 σ
set_option maxHeartbeats 4000000 in
set_option maxRecDepth 100000 in
theorem tX7_hasPoly_L35 {E : Gx} {cI : ClassId} {ad : Nat → Nat} (C : Cx E rmX7_hasPoly cI layX ad 3 RX7 cX7_hasPoly) {out : Int32 × Mem} (K0 : KI E rmX7_hasPoly cI layX ad 3 cX7_hasPoly .boolean out) {σ : Mem} (h : fX7_hasPoly_L35 σ = some out) : G E rmX7_hasPoly cI layX ad 3 35 [] [] σ := by
  unfold fX7_hasPoly_L35 at h
  refine g_iconst 36 (v := 0) C dX7_hasPoly_35 (by decide) rfl ?_
  exact tX7_hasPoly_L36 (s0 := 0) (σ := σ) C K0 h
noncomputable def fX7_hasPoly (a1 : Int32) (a2 : Int32) (σ : Mem) : Option (Int32 × Mem) :=
  (fX3_has a1 σ).bind fun o1 =>
  if o1.1 = 0 then
    fX7_hasPoly_L35 o1.2
  else
    if a2 < 0 then
      fX7_hasPoly_L35 o1.2
    else
      if 3 < a2 then
        fX7_hasPoly_L35 o1.2
      else
        (fX1_isThere a1 o1.2).bind fun o2 =>
        if o2.1 = 0 then
          fX7_hasPoly_L35 o2.2
        else
          fX7_hasPoly_L36 1 o2.2
set_option maxHeartbeats 4000000 in
set_option maxRecDepth 100000 in
theorem mX7_hasPoly {l : Launch} {D : va_G} {cI : ClassId} {ad : Nat → Nat} {a1 : Int32} {a2 : Int32} {σ : Mem} {out : Int32 × Mem} (h : fX7_hasPoly a1 a2 σ = some out) : MI l D cI layX ad yX7_hasPoly cX7_hasPoly 3 .boolean rmX7_hasPoly [.ref (ad 7), .int a1, .int a2] σ out := by
  refine met_i (by decide) (Nat.le_of_ble_eq_true rfl) (fun E C K0 => ?_)
  show G E rmX7_hasPoly cI layX ad 3 0 [(0, .ref (ad 7)), (1, .int a1), (2, .int a2)] [] σ
  unfold fX7_hasPoly at h
  refine g_aload_n 1 C dX7_hasPoly_0 rfl (j := 0) rfl rfl ?_
  refine g_getr 4 (j := 0) C rfl rfl wu_X7 (by decide) wf_X7_23 rfl dX7_hasPoly_1 rfl ?_
  refine g_iload_n 5 C dX7_hasPoly_4 rfl (j := 1) rfl rfl ?_
  refine g_cni 8 C (As := [.int a1]) (fun _ h => mX3_has (a1 := a1) (σ := σ) h) (List.mem_of_getElem? (i := 9) rfl) wi_X3_has wz_X3_has wc_X3_has wn_X3 qX3_has rfl rfl ⟨Nat.le_of_ble_eq_true rfl, Nat.le_of_ble_eq_true rfl⟩ rfl rfl rfl rfl (Nat.le_of_ble_eq_true rfl) dX7_hasPoly_5 rfl h (fun o1 h => ?_)
  refine g_if_eq 35 11 C dX7_hasPoly_8 (by decide) rfl h (fun h => ?_) (fun h => ?_)
  · exact g_sub [] (tX7_hasPoly_L35 (σ := o1.2) C K0 h) rfl
  · refine g_iload_n 12 C dX7_hasPoly_11 rfl (j := 2) rfl rfl ?_
    refine g_if_lt 35 15 C dX7_hasPoly_12 (by decide) rfl h (fun h => ?_) (fun h => ?_)
    · exact g_sub [] (tX7_hasPoly_L35 (σ := o1.2) C K0 h) rfl
    · refine g_iload_n 16 C dX7_hasPoly_15 rfl (j := 2) rfl rfl ?_
      refine g_iconst 17 (v := 3) C dX7_hasPoly_16 (by decide) rfl ?_
      refine g_icmp_gt 35 20 C dX7_hasPoly_17 (by decide) rfl h (fun h => ?_) (fun h => ?_)
      · exact g_sub [] (tX7_hasPoly_L35 (σ := o1.2) C K0 h) rfl
      · refine g_aload_n 21 C dX7_hasPoly_20 rfl (j := 0) rfl rfl ?_
        refine g_getr 24 (j := 3) C rfl rfl wu_X7 (by decide) wf_X7_48 rfl dX7_hasPoly_21 rfl ?_
        refine g_iload_n 25 C dX7_hasPoly_24 rfl (j := 1) rfl rfl ?_
        refine g_cni 28 C (As := [.int a1]) (fun _ h => mX1_isThere (a1 := a1) (σ := o1.2) h) (List.mem_of_getElem? (i := 31) rfl) wi_X1_isThere wz_X1_isThere wc_X1_isThere wn_X1 qX1_isThere rfl rfl ⟨Nat.le_of_ble_eq_true rfl, Nat.le_of_ble_eq_true rfl⟩ rfl rfl rfl rfl (Nat.le_of_ble_eq_true rfl) dX7_hasPoly_25 rfl h (fun o2 h => ?_)
        refine g_if_eq 35 31 C dX7_hasPoly_28 (by decide) rfl h (fun h => ?_) (fun h => ?_)
        · exact g_sub [] (tX7_hasPoly_L35 (σ := o2.2) C K0 h) rfl
        · refine g_iconst 32 (v := 1) C dX7_hasPoly_31 (by decide) rfl ?_
          refine g_goto 36 C dX7_hasPoly_32 (by decide) ?_
          exact g_sub [] (tX7_hasPoly_L36 (s0 := 1) (σ := o2.2) C K0 h) rfl

/-! LoopReducer.period(I)I -/
abbrev rmX7_period : Room := { frames := 0, cells := 0, slots := 0, locals := 0 }
theorem qX7_period : yX7_period.cls ≠ "java/lang/invoke/MethodHandle" ∧ yX7_period.cls ≠ "java/lang/invoke/VarHandle" ∧ (parseMethodDescriptor yX7_period.desc).map (fun d => d.parameters.length) = some 1 := by decide +kernel
theorem DX7_period : ∀ q ∈ ([(0, .iload_n 1, 1), (1, .iload_n 1, 1), (2, .ineg, 1), (3, .iand, 1), (4, .istore_n 2, 1), (5, .iload_n 2, 1), (6, .ifCond .gt 7, 3), (9, .iconst 1, 1), (10, .goto 14, 3), (13, .aload_n 0, 1), (14, .getfield 23, 3), (17, .getfield 79, 3), (20, .iconst 1, 1), (21, .iadd, 1), (22, .iload_n 2, 1), (23, .idiv, 1), (24, .ireturn, 1)] : List (Nat × Instr × Nat)), decode cX7_period q.1 = .ok q.2 := by decide +kernel
theorem dX7_period_0 : decode cX7_period 0 = .ok (.iload_n 1, 1) := DX7_period (0, .iload_n 1, 1) (List.mem_of_getElem? (i := 0) rfl)
theorem dX7_period_1 : decode cX7_period 1 = .ok (.iload_n 1, 1) := DX7_period (1, .iload_n 1, 1) (List.mem_of_getElem? (i := 1) rfl)
theorem dX7_period_2 : decode cX7_period 2 = .ok (.ineg, 1) := DX7_period (2, .ineg, 1) (List.mem_of_getElem? (i := 2) rfl)
theorem dX7_period_3 : decode cX7_period 3 = .ok (.iand, 1) := DX7_period (3, .iand, 1) (List.mem_of_getElem? (i := 3) rfl)
theorem dX7_period_4 : decode cX7_period 4 = .ok (.istore_n 2, 1) := DX7_period (4, .istore_n 2, 1) (List.mem_of_getElem? (i := 4) rfl)
theorem dX7_period_5 : decode cX7_period 5 = .ok (.iload_n 2, 1) := DX7_period (5, .iload_n 2, 1) (List.mem_of_getElem? (i := 5) rfl)
theorem dX7_period_6 : decode cX7_period 6 = .ok (.ifCond .gt 7, 3) := DX7_period (6, .ifCond .gt 7, 3) (List.mem_of_getElem? (i := 6) rfl)
theorem dX7_period_9 : decode cX7_period 9 = .ok (.iconst 1, 1) := DX7_period (9, .iconst 1, 1) (List.mem_of_getElem? (i := 7) rfl)
theorem dX7_period_10 : decode cX7_period 10 = .ok (.goto 14, 3) := DX7_period (10, .goto 14, 3) (List.mem_of_getElem? (i := 8) rfl)
theorem dX7_period_13 : decode cX7_period 13 = .ok (.aload_n 0, 1) := DX7_period (13, .aload_n 0, 1) (List.mem_of_getElem? (i := 9) rfl)
theorem dX7_period_14 : decode cX7_period 14 = .ok (.getfield 23, 3) := DX7_period (14, .getfield 23, 3) (List.mem_of_getElem? (i := 10) rfl)
theorem dX7_period_17 : decode cX7_period 17 = .ok (.getfield 79, 3) := DX7_period (17, .getfield 79, 3) (List.mem_of_getElem? (i := 11) rfl)
theorem dX7_period_20 : decode cX7_period 20 = .ok (.iconst 1, 1) := DX7_period (20, .iconst 1, 1) (List.mem_of_getElem? (i := 12) rfl)
theorem dX7_period_21 : decode cX7_period 21 = .ok (.iadd, 1) := DX7_period (21, .iadd, 1) (List.mem_of_getElem? (i := 13) rfl)
theorem dX7_period_22 : decode cX7_period 22 = .ok (.iload_n 2, 1) := DX7_period (22, .iload_n 2, 1) (List.mem_of_getElem? (i := 14) rfl)
theorem dX7_period_23 : decode cX7_period 23 = .ok (.idiv, 1) := DX7_period (23, .idiv, 1) (List.mem_of_getElem? (i := 15) rfl)
theorem dX7_period_24 : decode cX7_period 24 = .ok (.ireturn, 1) := DX7_period (24, .ireturn, 1) (List.mem_of_getElem? (i := 16) rfl)
noncomputable def fX7_period_L24 (s0 : Int32) (σ : Mem) : Option (Int32 × Mem) :=
  some (s0, σ)
set_option maxHeartbeats 4000000 in
set_option maxRecDepth 100000 in
theorem tX7_period_L24 {E : Gx} {cI : ClassId} {ad : Nat → Nat} (C : Cx E rmX7_period cI layX ad 3 RX7 cX7_period) {out : Int32 × Mem} (K0 : KI E rmX7_period cI layX ad 3 cX7_period .int out) {s0 : Int32} {σ : Mem} (h : fX7_period_L24 s0 σ = some out) : G E rmX7_period cI layX ad 3 24 [] [.int s0] σ := by
  unfold fX7_period_L24 at h
  cases h
  exact K0 _ _ dX7_period_24 rfl
noncomputable def fX7_period (a1 : Int32) (σ : Mem) : Option (Int32 × Mem) :=
  if 0 < (a1 &&& (-a1)) then
    chk ((a1 &&& (-a1)) != 0) <|
    fX7_period_L24 (((σ 3 0) + 1) / (a1 &&& (-a1))) σ
  else
    fX7_period_L24 1 σ
set_option maxHeartbeats 4000000 in
set_option maxRecDepth 100000 in
theorem mX7_period {l : Launch} {D : va_G} {cI : ClassId} {ad : Nat → Nat} {a1 : Int32} {σ : Mem} {out : Int32 × Mem} (h : fX7_period a1 σ = some out) : MI l D cI layX ad yX7_period cX7_period 3 .int rmX7_period [.ref (ad 7), .int a1] σ out := by
  refine met_i (by decide) (Nat.le_of_ble_eq_true rfl) (fun E C K0 => ?_)
  show G E rmX7_period cI layX ad 3 0 [(0, .ref (ad 7)), (1, .int a1)] [] σ
  unfold fX7_period at h
  refine g_iload_n 1 C dX7_period_0 rfl (j := 1) rfl rfl ?_
  refine g_iload_n 2 C dX7_period_1 rfl (j := 1) rfl rfl ?_
  refine g_ineg 3 C dX7_period_2 rfl ?_
  refine g_iand 4 C dX7_period_3 rfl ?_
  refine g_istore_n 5 [(2, .int (a1 &&& (-a1))), (0, .ref (ad 7)), (1, .int a1)] C dX7_period_4 rfl (by decide) rfl rfl ?_
  refine g_iload_n 6 C dX7_period_5 rfl (j := 0) rfl rfl ?_
  refine g_if_gt 13 9 C dX7_period_6 (by decide) rfl h (fun h => ?_) (fun h => ?_)
  · refine g_aload_n 14 C dX7_period_13 rfl (j := 1) rfl rfl ?_
    refine g_getr 17 (j := 0) C rfl rfl wu_X7 (by decide) wf_X7_23 rfl dX7_period_14 rfl ?_
    refine g_getiN 20 (j := 0) C rfl rfl wu_X3 (by decide) (List.mem_of_getElem? (i := 0) rfl) rfl dX7_period_17 rfl ?_
    refine g_iconst 21 (v := 1) C dX7_period_20 (by decide) rfl ?_
    refine g_iadd 22 C dX7_period_21 rfl ?_
    refine g_iload_n 23 C dX7_period_22 rfl (j := 0) rfl rfl ?_
    obtain ⟨hne, h⟩ := chk_some h
    refine g_idiv 24 C dX7_period_23 (by simpa using hne) rfl ?_
    exact g_sub [] (tX7_period_L24 (s0 := (((σ 3 0) + 1) / (a1 &&& (-a1)))) (σ := σ) C K0 h) rfl
  · refine g_iconst 10 (v := 1) C dX7_period_9 (by decide) rfl ?_
    refine g_goto 24 C dX7_period_10 (by decide) ?_
    exact g_sub [] (tX7_period_L24 (s0 := 1) (σ := σ) C K0 h) rfl

/-! LoopReducer.inverse(I)I -/
abbrev rmX7_inverse : Room := { frames := 0, cells := 0, slots := 0, locals := 0 }
theorem qX7_inverse : yX7_inverse.cls ≠ "java/lang/invoke/MethodHandle" ∧ yX7_inverse.cls ≠ "java/lang/invoke/VarHandle" ∧ (parseMethodDescriptor yX7_inverse.desc).map (fun d => d.parameters.length) = some 1 := by decide +kernel
theorem DX7_inverse : ∀ q ∈ ([(0, .iload_n 0, 1), (1, .istore_n 1, 1), (2, .iconst 0, 1), (3, .istore_n 2, 1), (4, .iload_n 2, 1), (5, .iconst 4, 1), (6, .if_icmp .ge 17, 3), (9, .iload_n 1, 1), (10, .iconst 2, 1), (11, .iload_n 0, 1), (12, .iload_n 1, 1), (13, .imul, 1), (14, .isub, 1), (15, .imul, 1), (16, .istore_n 1, 1), (17, .iinc 2 1, 3), (20, .goto (-16), 3), (23, .iload_n 1, 1), (24, .ireturn, 1)] : List (Nat × Instr × Nat)), decode cX7_inverse q.1 = .ok q.2 := by decide +kernel
theorem dX7_inverse_0 : decode cX7_inverse 0 = .ok (.iload_n 0, 1) := DX7_inverse (0, .iload_n 0, 1) (List.mem_of_getElem? (i := 0) rfl)
theorem dX7_inverse_1 : decode cX7_inverse 1 = .ok (.istore_n 1, 1) := DX7_inverse (1, .istore_n 1, 1) (List.mem_of_getElem? (i := 1) rfl)
theorem dX7_inverse_2 : decode cX7_inverse 2 = .ok (.iconst 0, 1) := DX7_inverse (2, .iconst 0, 1) (List.mem_of_getElem? (i := 2) rfl)
theorem dX7_inverse_3 : decode cX7_inverse 3 = .ok (.istore_n 2, 1) := DX7_inverse (3, .istore_n 2, 1) (List.mem_of_getElem? (i := 3) rfl)
theorem dX7_inverse_4 : decode cX7_inverse 4 = .ok (.iload_n 2, 1) := DX7_inverse (4, .iload_n 2, 1) (List.mem_of_getElem? (i := 4) rfl)
theorem dX7_inverse_5 : decode cX7_inverse 5 = .ok (.iconst 4, 1) := DX7_inverse (5, .iconst 4, 1) (List.mem_of_getElem? (i := 5) rfl)
theorem dX7_inverse_6 : decode cX7_inverse 6 = .ok (.if_icmp .ge 17, 3) := DX7_inverse (6, .if_icmp .ge 17, 3) (List.mem_of_getElem? (i := 6) rfl)
theorem dX7_inverse_9 : decode cX7_inverse 9 = .ok (.iload_n 1, 1) := DX7_inverse (9, .iload_n 1, 1) (List.mem_of_getElem? (i := 7) rfl)
theorem dX7_inverse_10 : decode cX7_inverse 10 = .ok (.iconst 2, 1) := DX7_inverse (10, .iconst 2, 1) (List.mem_of_getElem? (i := 8) rfl)
theorem dX7_inverse_11 : decode cX7_inverse 11 = .ok (.iload_n 0, 1) := DX7_inverse (11, .iload_n 0, 1) (List.mem_of_getElem? (i := 9) rfl)
theorem dX7_inverse_12 : decode cX7_inverse 12 = .ok (.iload_n 1, 1) := DX7_inverse (12, .iload_n 1, 1) (List.mem_of_getElem? (i := 10) rfl)
theorem dX7_inverse_13 : decode cX7_inverse 13 = .ok (.imul, 1) := DX7_inverse (13, .imul, 1) (List.mem_of_getElem? (i := 11) rfl)
theorem dX7_inverse_14 : decode cX7_inverse 14 = .ok (.isub, 1) := DX7_inverse (14, .isub, 1) (List.mem_of_getElem? (i := 12) rfl)
theorem dX7_inverse_15 : decode cX7_inverse 15 = .ok (.imul, 1) := DX7_inverse (15, .imul, 1) (List.mem_of_getElem? (i := 13) rfl)
theorem dX7_inverse_16 : decode cX7_inverse 16 = .ok (.istore_n 1, 1) := DX7_inverse (16, .istore_n 1, 1) (List.mem_of_getElem? (i := 14) rfl)
theorem dX7_inverse_17 : decode cX7_inverse 17 = .ok (.iinc 2 1, 3) := DX7_inverse (17, .iinc 2 1, 3) (List.mem_of_getElem? (i := 15) rfl)
theorem dX7_inverse_20 : decode cX7_inverse 20 = .ok (.goto (-16), 3) := DX7_inverse (20, .goto (-16), 3) (List.mem_of_getElem? (i := 16) rfl)
theorem dX7_inverse_23 : decode cX7_inverse 23 = .ok (.iload_n 1, 1) := DX7_inverse (23, .iload_n 1, 1) (List.mem_of_getElem? (i := 17) rfl)
theorem dX7_inverse_24 : decode cX7_inverse 24 = .ok (.ireturn, 1) := DX7_inverse (24, .ireturn, 1) (List.mem_of_getElem? (i := 18) rfl)
noncomputable def fX7_inverse_B4 (l0 : Int32) (l1 : Int32) (l2 : Int32) (σ : Mem) : Option ((Int32 × Int32 × Mem) ⊕ (Int32 × Mem)) :=
  if 4 ≤ l2 then
    some (.inr (l1, σ))
  else
    some (.inl (l1 * (2 - (l0 * l1)), l2 + 1, σ))
set_option maxHeartbeats 4000000 in
set_option maxRecDepth 100000 in
theorem tX7_inverse_B4 {E : Gx} {cI : ClassId} {ad : Nat → Nat} (C : Cx E rmX7_inverse cI layX ad 3 RX7 cX7_inverse) {out : Int32 × Mem} (K0 : KI E rmX7_inverse cI layX ad 3 cX7_inverse .int out) {l0 : Int32} {l1 : Int32} {l2 : Int32} {σ : Mem} {res : (Int32 × Int32 × Mem) ⊕ (Int32 × Mem)} (h : fX7_inverse_B4 l0 l1 l2 σ = some res) (K : Sum.elim (fun a => G E rmX7_inverse cI layX ad 3 4 [(0, .int l0), (1, .int a.1), (2, .int a.2.1)] [] a.2.2) (fun b => G E rmX7_inverse cI layX ad 3 23 [(1, .int b.1)] [] b.2) res) : G E rmX7_inverse cI layX ad 3 4 [(0, .int l0), (1, .int l1), (2, .int l2)] [] σ := by
  unfold fX7_inverse_B4 at h
  refine g_iload_n 5 C dX7_inverse_4 rfl (j := 2) rfl rfl ?_
  refine g_iconst 6 (v := 4) C dX7_inverse_5 (by decide) rfl ?_
  refine g_icmp_ge 23 9 C dX7_inverse_6 (by decide) rfl h (fun h => ?_) (fun h => ?_)
  · have hh := end_inr h K
    exact g_sub [1] (hh) rfl
  · refine g_iload_n 10 C dX7_inverse_9 rfl (j := 1) rfl rfl ?_
    refine g_iconst 11 (v := 2) C dX7_inverse_10 (by decide) rfl ?_
    refine g_iload_n 12 C dX7_inverse_11 rfl (j := 0) rfl rfl ?_
    refine g_iload_n 13 C dX7_inverse_12 rfl (j := 1) rfl rfl ?_
    refine g_imul 14 C dX7_inverse_13 rfl ?_
    refine g_isub 15 C dX7_inverse_14 rfl ?_
    refine g_imul 16 C dX7_inverse_15 rfl ?_
    refine g_istore_n 17 [(1, .int (l1 * (2 - (l0 * l1)))), (0, .int l0), (2, .int l2)] C dX7_inverse_16 rfl (by decide) rfl rfl ?_
    refine g_iinc 20 [(2, .int (l2 + 1)), (1, .int (l1 * (2 - (l0 * l1)))), (0, .int l0)] C dX7_inverse_17 (j := 2) rfl (by rfl) (by decide) rfl rfl ?_
    refine g_goto 4 C dX7_inverse_20 (by decide) ?_
    have hh := end_inl h K
    exact g_sub [2, 1, 0] (hh) rfl
noncomputable def fX7_inverse_L23 (l1 : Int32) (σ : Mem) : Option (Int32 × Mem) :=
  some (l1, σ)
set_option maxHeartbeats 4000000 in
set_option maxRecDepth 100000 in
theorem tX7_inverse_L23 {E : Gx} {cI : ClassId} {ad : Nat → Nat} (C : Cx E rmX7_inverse cI layX ad 3 RX7 cX7_inverse) {out : Int32 × Mem} (K0 : KI E rmX7_inverse cI layX ad 3 cX7_inverse .int out) {l1 : Int32} {σ : Mem} (h : fX7_inverse_L23 l1 σ = some out) : G E rmX7_inverse cI layX ad 3 23 [(1, .int l1)] [] σ := by
  unfold fX7_inverse_L23 at h
  refine g_iload_n 24 C dX7_inverse_23 rfl (j := 0) rfl rfl ?_
  cases h
  exact K0 _ _ dX7_inverse_24 rfl
noncomputable def fX7_inverse (a1 : Int32) (σ : Mem) : Option (Int32 × Mem) :=
  (loop (fun a => fX7_inverse_B4 a1 a.1 a.2.1 a.2.2) (a1, 0, σ)).bind fun b1 =>
  fX7_inverse_L23 b1.1 b1.2
set_option maxHeartbeats 4000000 in
set_option maxRecDepth 100000 in
theorem mX7_inverse {l : Launch} {D : va_G} {cI : ClassId} {ad : Nat → Nat} {a1 : Int32} {σ : Mem} {out : Int32 × Mem} (h : fX7_inverse a1 σ = some out) : MI l D cI layX ad yX7_inverse cX7_inverse 3 .int rmX7_inverse [.int a1] σ out := by
  refine met_i (by decide) (Nat.le_of_ble_eq_true rfl) (fun E C K0 => ?_)
  show G E rmX7_inverse cI layX ad 3 0 [(0, .int a1)] [] σ
  unfold fX7_inverse at h
  refine g_iload_n 1 C dX7_inverse_0 rfl (j := 0) rfl rfl ?_
  refine g_istore_n 2 [(1, .int a1), (0, .int a1)] C dX7_inverse_1 rfl (by decide) rfl rfl ?_
  refine g_iconst 3 (v := 0) C dX7_inverse_2 (by decide) rfl ?_
  refine g_istore_n 4 [(2, .int 0), (1, .int a1), (0, .int a1)] C dX7_inverse_3 rfl (by decide) rfl rfl ?_
  obtain ⟨b1, hb, h⟩ := bind_some h
  refine g_sub [2, 1, 0] (g_loop (a := (a1, 0, σ)) (fun a => G E rmX7_inverse cI layX ad 3 4 [(0, .int a1), (1, .int a.1), (2, .int a.2.1)] [] a.2.2) (fun b => G E rmX7_inverse cI layX ad 3 23 [(1, .int b.1)] [] b.2) hb (fun a res h K => tX7_inverse_B4 (l0 := a1) (l1 := a.1) (l2 := a.2.1) (σ := a.2.2) (res := res) C K0 h K) ?_) rfl
  show G E rmX7_inverse cI layX ad 3 23 [(1, .int b1.1)] [] b1.2
  exact tX7_inverse_L23 (l1 := b1.1) (σ := b1.2) C K0 h

/-! LoopReducer.show(IZ)Z -/
abbrev rmX7_show : Room := { frames := 1, cells := 0, slots := 0, locals := 21 }
theorem qX7_show : yX7_show.cls ≠ "java/lang/invoke/MethodHandle" ∧ yX7_show.cls ≠ "java/lang/invoke/VarHandle" ∧ (parseMethodDescriptor yX7_show.desc).map (fun d => d.parameters.length) = some 2 := by decide +kernel
theorem DX7_show : ∀ q ∈ ([(0, .aload_n 0, 1), (1, .getfield 23, 3), (4, .iload_n 1, 1), (5, .invokevirtual 97, 3), (8, .ifCond .eq 18, 3), (11, .aload_n 0, 1), (12, .getfield 23, 3), (15, .getfield 124, 3), (18, .iload_n 1, 1), (19, .invokestatic 127, 3), (22, .iload_n 2, 1), (23, .if_icmp .ne 5, 3), (26, .iconst 0, 1), (27, .ireturn, 1), (28, .aload_n 0, 1), (29, .getfield 23, 3), (32, .dup, 1), (33, .getfield 124, 3), (36, .iconst 1, 1), (37, .iload_n 1, 1), (38, .ishl, 1), (39, .ixor, 1), (40, .putfield 124, 3), (43, .aload_n 0, 1), (44, .getfield 23, 3), (47, .dup, 1), (48, .getfield 121, 3), (51, .iconst 1, 1), (52, .iadd, 1), (53, .putfield 121, 3), (56, .iconst 1, 1), (57, .ireturn, 1)] : List (Nat × Instr × Nat)), decode cX7_show q.1 = .ok q.2 := by decide +kernel
theorem dX7_show_0 : decode cX7_show 0 = .ok (.aload_n 0, 1) := DX7_show (0, .aload_n 0, 1) (List.mem_of_getElem? (i := 0) rfl)
theorem dX7_show_1 : decode cX7_show 1 = .ok (.getfield 23, 3) := DX7_show (1, .getfield 23, 3) (List.mem_of_getElem? (i := 1) rfl)
theorem dX7_show_4 : decode cX7_show 4 = .ok (.iload_n 1, 1) := DX7_show (4, .iload_n 1, 1) (List.mem_of_getElem? (i := 2) rfl)
theorem dX7_show_5 : decode cX7_show 5 = .ok (.invokevirtual 97, 3) := DX7_show (5, .invokevirtual 97, 3) (List.mem_of_getElem? (i := 3) rfl)
theorem dX7_show_8 : decode cX7_show 8 = .ok (.ifCond .eq 18, 3) := DX7_show (8, .ifCond .eq 18, 3) (List.mem_of_getElem? (i := 4) rfl)
theorem dX7_show_11 : decode cX7_show 11 = .ok (.aload_n 0, 1) := DX7_show (11, .aload_n 0, 1) (List.mem_of_getElem? (i := 5) rfl)
theorem dX7_show_12 : decode cX7_show 12 = .ok (.getfield 23, 3) := DX7_show (12, .getfield 23, 3) (List.mem_of_getElem? (i := 6) rfl)
theorem dX7_show_15 : decode cX7_show 15 = .ok (.getfield 124, 3) := DX7_show (15, .getfield 124, 3) (List.mem_of_getElem? (i := 7) rfl)
theorem dX7_show_18 : decode cX7_show 18 = .ok (.iload_n 1, 1) := DX7_show (18, .iload_n 1, 1) (List.mem_of_getElem? (i := 8) rfl)
theorem dX7_show_19 : decode cX7_show 19 = .ok (.invokestatic 127, 3) := DX7_show (19, .invokestatic 127, 3) (List.mem_of_getElem? (i := 9) rfl)
theorem dX7_show_22 : decode cX7_show 22 = .ok (.iload_n 2, 1) := DX7_show (22, .iload_n 2, 1) (List.mem_of_getElem? (i := 10) rfl)
theorem dX7_show_23 : decode cX7_show 23 = .ok (.if_icmp .ne 5, 3) := DX7_show (23, .if_icmp .ne 5, 3) (List.mem_of_getElem? (i := 11) rfl)
theorem dX7_show_26 : decode cX7_show 26 = .ok (.iconst 0, 1) := DX7_show (26, .iconst 0, 1) (List.mem_of_getElem? (i := 12) rfl)
theorem dX7_show_27 : decode cX7_show 27 = .ok (.ireturn, 1) := DX7_show (27, .ireturn, 1) (List.mem_of_getElem? (i := 13) rfl)
theorem dX7_show_28 : decode cX7_show 28 = .ok (.aload_n 0, 1) := DX7_show (28, .aload_n 0, 1) (List.mem_of_getElem? (i := 14) rfl)
theorem dX7_show_29 : decode cX7_show 29 = .ok (.getfield 23, 3) := DX7_show (29, .getfield 23, 3) (List.mem_of_getElem? (i := 15) rfl)
theorem dX7_show_32 : decode cX7_show 32 = .ok (.dup, 1) := DX7_show (32, .dup, 1) (List.mem_of_getElem? (i := 16) rfl)
theorem dX7_show_33 : decode cX7_show 33 = .ok (.getfield 124, 3) := DX7_show (33, .getfield 124, 3) (List.mem_of_getElem? (i := 17) rfl)
theorem dX7_show_36 : decode cX7_show 36 = .ok (.iconst 1, 1) := DX7_show (36, .iconst 1, 1) (List.mem_of_getElem? (i := 18) rfl)
theorem dX7_show_37 : decode cX7_show 37 = .ok (.iload_n 1, 1) := DX7_show (37, .iload_n 1, 1) (List.mem_of_getElem? (i := 19) rfl)
theorem dX7_show_38 : decode cX7_show 38 = .ok (.ishl, 1) := DX7_show (38, .ishl, 1) (List.mem_of_getElem? (i := 20) rfl)
theorem dX7_show_39 : decode cX7_show 39 = .ok (.ixor, 1) := DX7_show (39, .ixor, 1) (List.mem_of_getElem? (i := 21) rfl)
theorem dX7_show_40 : decode cX7_show 40 = .ok (.putfield 124, 3) := DX7_show (40, .putfield 124, 3) (List.mem_of_getElem? (i := 22) rfl)
theorem dX7_show_43 : decode cX7_show 43 = .ok (.aload_n 0, 1) := DX7_show (43, .aload_n 0, 1) (List.mem_of_getElem? (i := 23) rfl)
theorem dX7_show_44 : decode cX7_show 44 = .ok (.getfield 23, 3) := DX7_show (44, .getfield 23, 3) (List.mem_of_getElem? (i := 24) rfl)
theorem dX7_show_47 : decode cX7_show 47 = .ok (.dup, 1) := DX7_show (47, .dup, 1) (List.mem_of_getElem? (i := 25) rfl)
theorem dX7_show_48 : decode cX7_show 48 = .ok (.getfield 121, 3) := DX7_show (48, .getfield 121, 3) (List.mem_of_getElem? (i := 26) rfl)
theorem dX7_show_51 : decode cX7_show 51 = .ok (.iconst 1, 1) := DX7_show (51, .iconst 1, 1) (List.mem_of_getElem? (i := 27) rfl)
theorem dX7_show_52 : decode cX7_show 52 = .ok (.iadd, 1) := DX7_show (52, .iadd, 1) (List.mem_of_getElem? (i := 28) rfl)
theorem dX7_show_53 : decode cX7_show 53 = .ok (.putfield 121, 3) := DX7_show (53, .putfield 121, 3) (List.mem_of_getElem? (i := 29) rfl)
theorem dX7_show_56 : decode cX7_show 56 = .ok (.iconst 1, 1) := DX7_show (56, .iconst 1, 1) (List.mem_of_getElem? (i := 30) rfl)
theorem dX7_show_57 : decode cX7_show 57 = .ok (.ireturn, 1) := DX7_show (57, .ireturn, 1) (List.mem_of_getElem? (i := 31) rfl)
noncomputable def fX7_show_L26 (σ : Mem) : Option (Int32 × Mem) :=
  some (0, σ)
set_option maxHeartbeats 4000000 in
set_option maxRecDepth 100000 in
theorem tX7_show_L26 {E : Gx} {cI : ClassId} {ad : Nat → Nat} (C : Cx E rmX7_show cI layX ad 3 RX7 cX7_show) {out : Int32 × Mem} (K0 : KI E rmX7_show cI layX ad 3 cX7_show .boolean out) {σ : Mem} (h : fX7_show_L26 σ = some out) : G E rmX7_show cI layX ad 3 26 [] [] σ := by
  unfold fX7_show_L26 at h
  refine g_iconst 27 (v := 0) C dX7_show_26 (by decide) rfl ?_
  cases h
  exact K0 _ _ dX7_show_27 (zb_nar (x := 0) (by decide))
noncomputable def fX7_show (a1 : Int32) (a2 : Int32) (σ : Mem) : Option (Int32 × Mem) :=
  (fX3_has a1 σ).bind fun o1 =>
  if o1.1 = 0 then
    fX7_show_L26 o1.2
  else
    (fX7_isIn (o1.2 3 7) a1 o1.2).bind fun o2 =>
    if o2.1 = a2 then
      fX7_show_L26 o2.2
    else
      some (1, up2 (up2 o2.2 3 7 ((o2.2 3 7) ^^^ (1 <<< (a1 &&& 31)))) 3 12 (((up2 o2.2 3 7 ((o2.2 3 7) ^^^ (1 <<< (a1 &&& 31)))) 3 12) + 1))
set_option maxHeartbeats 4000000 in
set_option maxRecDepth 100000 in
theorem mX7_show {l : Launch} {D : va_G} {cI : ClassId} {ad : Nat → Nat} {a1 : Int32} {a2 : Int32} {σ : Mem} {out : Int32 × Mem} (h : fX7_show a1 a2 σ = some out) : MI l D cI layX ad yX7_show cX7_show 3 .boolean rmX7_show [.ref (ad 7), .int a1, .int a2] σ out := by
  refine met_i (by decide) (Nat.le_of_ble_eq_true rfl) (fun E C K0 => ?_)
  show G E rmX7_show cI layX ad 3 0 [(0, .ref (ad 7)), (1, .int a1), (2, .int a2)] [] σ
  unfold fX7_show at h
  refine g_aload_n 1 C dX7_show_0 rfl (j := 0) rfl rfl ?_
  refine g_getr 4 (j := 0) C rfl rfl wu_X7 (by decide) wf_X7_23 rfl dX7_show_1 rfl ?_
  refine g_iload_n 5 C dX7_show_4 rfl (j := 1) rfl rfl ?_
  refine g_cni 8 C (As := [.int a1]) (fun _ h => mX3_has (a1 := a1) (σ := σ) h) (List.mem_of_getElem? (i := 9) rfl) wi_X3_has wz_X3_has wc_X3_has wn_X3 qX3_has rfl rfl ⟨Nat.le_of_ble_eq_true rfl, Nat.le_of_ble_eq_true rfl⟩ rfl rfl rfl rfl (Nat.le_of_ble_eq_true rfl) dX7_show_5 rfl h (fun o1 h => ?_)
  refine g_if_eq 26 11 C dX7_show_8 (by decide) rfl h (fun h => ?_) (fun h => ?_)
  · exact g_sub [] (tX7_show_L26 (σ := o1.2) C K0 h) rfl
  · refine g_aload_n 12 C dX7_show_11 rfl (j := 0) rfl rfl ?_
    refine g_getr 15 (j := 0) C rfl rfl wu_X7 (by decide) wf_X7_23 rfl dX7_show_12 rfl ?_
    refine g_getiN 18 (j := 7) C rfl rfl wu_X3 (by decide) (List.mem_of_getElem? (i := 19) rfl) rfl dX7_show_15 rfl ?_
    refine g_iload_n 19 C dX7_show_18 rfl (j := 1) rfl rfl ?_
    refine g_csi 22 C (As := [.int (o1.2 3 7), .int a1]) (fun _ h => mX7_isIn (a1 := o1.2 3 7) (a2 := a1) (σ := o1.2) h) wl_X7_127 ws_X7_isIn wc_X7_isIn wn_X7 qX7_isIn rfl rfl ⟨Nat.le_of_ble_eq_true rfl, Nat.le_of_ble_eq_true rfl⟩ rfl rfl (Nat.le_of_ble_eq_true rfl) dX7_show_19 rfl h (fun o2 h => ?_)
    refine g_iload_n 23 C dX7_show_22 rfl (j := 2) rfl rfl ?_
    refine g_icmp_ne 28 26 C dX7_show_23 (by decide) rfl h (fun h => ?_) (fun h => ?_)
    · exact g_sub [] (tX7_show_L26 (σ := o2.2) C K0 h) rfl
    · refine g_aload_n 29 C dX7_show_28 rfl (j := 0) rfl rfl ?_
      refine g_getr 32 (j := 0) C rfl rfl wu_X7 (by decide) wf_X7_23 rfl dX7_show_29 rfl ?_
      refine g_dup 33 C dX7_show_32 rfl rfl ?_
      refine g_getiN 36 (j := 7) C rfl rfl wu_X3 (by decide) (List.mem_of_getElem? (i := 19) rfl) rfl dX7_show_33 rfl ?_
      refine g_iconst 37 (v := 1) C dX7_show_36 (by decide) rfl ?_
      refine g_iload_n 38 C dX7_show_37 rfl (j := 1) rfl rfl ?_
      refine g_ishl 39 C dX7_show_38 rfl ?_
      refine g_ixor 40 C dX7_show_39 rfl ?_
      refine g_putiN 43 (j := 7) C rfl rfl wu_X3 (by decide) (List.mem_of_getElem? (i := 19) rfl) tyX3 tyX3_ok nmX3 rfl rfl rfl rfl dX7_show_40 rfl ?_
      refine g_aload_n 44 C dX7_show_43 rfl (j := 0) rfl rfl ?_
      refine g_getr 47 (j := 0) C rfl rfl wu_X7 (by decide) wf_X7_23 rfl dX7_show_44 rfl ?_
      refine g_dup 48 C dX7_show_47 rfl rfl ?_
      refine g_getiN 51 (j := 12) C rfl rfl wu_X3 (by decide) (List.mem_of_getElem? (i := 31) rfl) rfl dX7_show_48 rfl ?_
      refine g_iconst 52 (v := 1) C dX7_show_51 (by decide) rfl ?_
      refine g_iadd 53 C dX7_show_52 rfl ?_
      refine g_putiN 56 (j := 12) C rfl rfl wu_X3 (by decide) (List.mem_of_getElem? (i := 31) rfl) tyX3 tyX3_ok nmX3 rfl rfl rfl rfl dX7_show_53 rfl ?_
      refine g_iconst 57 (v := 1) C dX7_show_56 (by decide) rfl ?_
      cases h
      exact K0 _ _ dX7_show_57 (zb_nar (x := 1) (by decide))

/-! LoopReducer.firstZero(II)I -/
abbrev rmX7_firstZero : Room := { frames := 1, cells := 0, slots := 0, locals := 22 }
theorem qX7_firstZero : yX7_firstZero.cls ≠ "java/lang/invoke/MethodHandle" ∧ yX7_firstZero.cls ≠ "java/lang/invoke/VarHandle" ∧ (parseMethodDescriptor yX7_firstZero.desc).map (fun d => d.parameters.length) = some 2 := by decide +kernel
theorem DX7_firstZero : ∀ q ∈ ([(0, .iload_n 1, 1), (1, .ifCond .ne 5, 3), (4, .iconst 0, 1), (5, .ireturn, 1), (6, .iload_n 2, 1), (7, .iload_n 2, 1), (8, .ineg, 1), (9, .iand, 1), (10, .istore_n 3, 1), (11, .iload_n 3, 1), (12, .ifCond .le 9, 3), (15, .iload_n 1, 1), (16, .iload_n 3, 1), (17, .irem, 1), (18, .ifCond .eq 5, 3), (21, .iconst (-1), 1), (22, .ireturn, 1), (23, .iload_n 1, 1), (24, .iload_n 3, 1), (25, .idiv, 1), (26, .ineg, 1), (27, .iload_n 2, 1), (28, .iload_n 3, 1), (29, .idiv, 1), (30, .invokestatic 257, 3), (33, .imul, 1), (34, .aload_n 0, 1), (35, .iload_n 2, 1), (36, .invokevirtual 247, 3), (39, .iconst 1, 1), (40, .isub, 1), (41, .iand, 1), (42, .ireturn, 1)] : List (Nat × Instr × Nat)), decode cX7_firstZero q.1 = .ok q.2 := by decide +kernel
theorem dX7_firstZero_0 : decode cX7_firstZero 0 = .ok (.iload_n 1, 1) := DX7_firstZero (0, .iload_n 1, 1) (List.mem_of_getElem? (i := 0) rfl)
theorem dX7_firstZero_1 : decode cX7_firstZero 1 = .ok (.ifCond .ne 5, 3) := DX7_firstZero (1, .ifCond .ne 5, 3) (List.mem_of_getElem? (i := 1) rfl)
theorem dX7_firstZero_4 : decode cX7_firstZero 4 = .ok (.iconst 0, 1) := DX7_firstZero (4, .iconst 0, 1) (List.mem_of_getElem? (i := 2) rfl)
theorem dX7_firstZero_5 : decode cX7_firstZero 5 = .ok (.ireturn, 1) := DX7_firstZero (5, .ireturn, 1) (List.mem_of_getElem? (i := 3) rfl)
theorem dX7_firstZero_6 : decode cX7_firstZero 6 = .ok (.iload_n 2, 1) := DX7_firstZero (6, .iload_n 2, 1) (List.mem_of_getElem? (i := 4) rfl)
theorem dX7_firstZero_7 : decode cX7_firstZero 7 = .ok (.iload_n 2, 1) := DX7_firstZero (7, .iload_n 2, 1) (List.mem_of_getElem? (i := 5) rfl)
theorem dX7_firstZero_8 : decode cX7_firstZero 8 = .ok (.ineg, 1) := DX7_firstZero (8, .ineg, 1) (List.mem_of_getElem? (i := 6) rfl)
theorem dX7_firstZero_9 : decode cX7_firstZero 9 = .ok (.iand, 1) := DX7_firstZero (9, .iand, 1) (List.mem_of_getElem? (i := 7) rfl)
theorem dX7_firstZero_10 : decode cX7_firstZero 10 = .ok (.istore_n 3, 1) := DX7_firstZero (10, .istore_n 3, 1) (List.mem_of_getElem? (i := 8) rfl)
theorem dX7_firstZero_11 : decode cX7_firstZero 11 = .ok (.iload_n 3, 1) := DX7_firstZero (11, .iload_n 3, 1) (List.mem_of_getElem? (i := 9) rfl)
theorem dX7_firstZero_12 : decode cX7_firstZero 12 = .ok (.ifCond .le 9, 3) := DX7_firstZero (12, .ifCond .le 9, 3) (List.mem_of_getElem? (i := 10) rfl)
theorem dX7_firstZero_15 : decode cX7_firstZero 15 = .ok (.iload_n 1, 1) := DX7_firstZero (15, .iload_n 1, 1) (List.mem_of_getElem? (i := 11) rfl)
theorem dX7_firstZero_16 : decode cX7_firstZero 16 = .ok (.iload_n 3, 1) := DX7_firstZero (16, .iload_n 3, 1) (List.mem_of_getElem? (i := 12) rfl)
theorem dX7_firstZero_17 : decode cX7_firstZero 17 = .ok (.irem, 1) := DX7_firstZero (17, .irem, 1) (List.mem_of_getElem? (i := 13) rfl)
theorem dX7_firstZero_18 : decode cX7_firstZero 18 = .ok (.ifCond .eq 5, 3) := DX7_firstZero (18, .ifCond .eq 5, 3) (List.mem_of_getElem? (i := 14) rfl)
theorem dX7_firstZero_21 : decode cX7_firstZero 21 = .ok (.iconst (-1), 1) := DX7_firstZero (21, .iconst (-1), 1) (List.mem_of_getElem? (i := 15) rfl)
theorem dX7_firstZero_22 : decode cX7_firstZero 22 = .ok (.ireturn, 1) := DX7_firstZero (22, .ireturn, 1) (List.mem_of_getElem? (i := 16) rfl)
theorem dX7_firstZero_23 : decode cX7_firstZero 23 = .ok (.iload_n 1, 1) := DX7_firstZero (23, .iload_n 1, 1) (List.mem_of_getElem? (i := 17) rfl)
theorem dX7_firstZero_24 : decode cX7_firstZero 24 = .ok (.iload_n 3, 1) := DX7_firstZero (24, .iload_n 3, 1) (List.mem_of_getElem? (i := 18) rfl)
theorem dX7_firstZero_25 : decode cX7_firstZero 25 = .ok (.idiv, 1) := DX7_firstZero (25, .idiv, 1) (List.mem_of_getElem? (i := 19) rfl)
theorem dX7_firstZero_26 : decode cX7_firstZero 26 = .ok (.ineg, 1) := DX7_firstZero (26, .ineg, 1) (List.mem_of_getElem? (i := 20) rfl)
theorem dX7_firstZero_27 : decode cX7_firstZero 27 = .ok (.iload_n 2, 1) := DX7_firstZero (27, .iload_n 2, 1) (List.mem_of_getElem? (i := 21) rfl)
theorem dX7_firstZero_28 : decode cX7_firstZero 28 = .ok (.iload_n 3, 1) := DX7_firstZero (28, .iload_n 3, 1) (List.mem_of_getElem? (i := 22) rfl)
theorem dX7_firstZero_29 : decode cX7_firstZero 29 = .ok (.idiv, 1) := DX7_firstZero (29, .idiv, 1) (List.mem_of_getElem? (i := 23) rfl)
theorem dX7_firstZero_30 : decode cX7_firstZero 30 = .ok (.invokestatic 257, 3) := DX7_firstZero (30, .invokestatic 257, 3) (List.mem_of_getElem? (i := 24) rfl)
theorem dX7_firstZero_33 : decode cX7_firstZero 33 = .ok (.imul, 1) := DX7_firstZero (33, .imul, 1) (List.mem_of_getElem? (i := 25) rfl)
theorem dX7_firstZero_34 : decode cX7_firstZero 34 = .ok (.aload_n 0, 1) := DX7_firstZero (34, .aload_n 0, 1) (List.mem_of_getElem? (i := 26) rfl)
theorem dX7_firstZero_35 : decode cX7_firstZero 35 = .ok (.iload_n 2, 1) := DX7_firstZero (35, .iload_n 2, 1) (List.mem_of_getElem? (i := 27) rfl)
theorem dX7_firstZero_36 : decode cX7_firstZero 36 = .ok (.invokevirtual 247, 3) := DX7_firstZero (36, .invokevirtual 247, 3) (List.mem_of_getElem? (i := 28) rfl)
theorem dX7_firstZero_39 : decode cX7_firstZero 39 = .ok (.iconst 1, 1) := DX7_firstZero (39, .iconst 1, 1) (List.mem_of_getElem? (i := 29) rfl)
theorem dX7_firstZero_40 : decode cX7_firstZero 40 = .ok (.isub, 1) := DX7_firstZero (40, .isub, 1) (List.mem_of_getElem? (i := 30) rfl)
theorem dX7_firstZero_41 : decode cX7_firstZero 41 = .ok (.iand, 1) := DX7_firstZero (41, .iand, 1) (List.mem_of_getElem? (i := 31) rfl)
theorem dX7_firstZero_42 : decode cX7_firstZero 42 = .ok (.ireturn, 1) := DX7_firstZero (42, .ireturn, 1) (List.mem_of_getElem? (i := 32) rfl)
noncomputable def fX7_firstZero_L21 (σ : Mem) : Option (Int32 × Mem) :=
  some ((-1), σ)
set_option maxHeartbeats 4000000 in
set_option maxRecDepth 100000 in
theorem tX7_firstZero_L21 {E : Gx} {cI : ClassId} {ad : Nat → Nat} (C : Cx E rmX7_firstZero cI layX ad 4 RX7 cX7_firstZero) {out : Int32 × Mem} (K0 : KI E rmX7_firstZero cI layX ad 4 cX7_firstZero .int out) {σ : Mem} (h : fX7_firstZero_L21 σ = some out) : G E rmX7_firstZero cI layX ad 4 21 [] [] σ := by
  unfold fX7_firstZero_L21 at h
  refine g_iconst 22 (v := (-1)) C dX7_firstZero_21 (by decide) rfl ?_
  cases h
  exact K0 _ _ dX7_firstZero_22 rfl
noncomputable def fX7_firstZero (a1 : Int32) (a2 : Int32) (σ : Mem) : Option (Int32 × Mem) :=
  if a1 = 0 then
    some (0, σ)
  else
    if (a2 &&& (-a2)) ≤ 0 then
      fX7_firstZero_L21 σ
    else
      chk ((a2 &&& (-a2)) != 0) <|
      if (a1 - a1 / (a2 &&& (-a2)) * (a2 &&& (-a2))) = 0 then
        chk ((a2 &&& (-a2)) != 0) <|
        chk ((a2 &&& (-a2)) != 0) <|
        (fX7_inverse (a2 / (a2 &&& (-a2))) σ).bind fun o1 =>
        (fX7_period a2 o1.2).bind fun o2 =>
        some (((-(a1 / (a2 &&& (-a2)))) * o1.1) &&& (o2.1 - 1), o2.2)
      else
        fX7_firstZero_L21 σ
set_option maxHeartbeats 4000000 in
set_option maxRecDepth 100000 in
theorem mX7_firstZero {l : Launch} {D : va_G} {cI : ClassId} {ad : Nat → Nat} {a1 : Int32} {a2 : Int32} {σ : Mem} {out : Int32 × Mem} (h : fX7_firstZero a1 a2 σ = some out) : MI l D cI layX ad yX7_firstZero cX7_firstZero 4 .int rmX7_firstZero [.ref (ad 7), .int a1, .int a2] σ out := by
  refine met_i (by decide) (Nat.le_of_ble_eq_true rfl) (fun E C K0 => ?_)
  show G E rmX7_firstZero cI layX ad 4 0 [(0, .ref (ad 7)), (1, .int a1), (2, .int a2)] [] σ
  unfold fX7_firstZero at h
  refine g_iload_n 1 C dX7_firstZero_0 rfl (j := 1) rfl rfl ?_
  refine g_if_ne 6 4 C dX7_firstZero_1 (by decide) rfl h (fun h => ?_) (fun h => ?_)
  · refine g_iconst 5 (v := 0) C dX7_firstZero_4 (by decide) rfl ?_
    cases h
    exact K0 _ _ dX7_firstZero_5 rfl
  · refine g_iload_n 7 C dX7_firstZero_6 rfl (j := 2) rfl rfl ?_
    refine g_iload_n 8 C dX7_firstZero_7 rfl (j := 2) rfl rfl ?_
    refine g_ineg 9 C dX7_firstZero_8 rfl ?_
    refine g_iand 10 C dX7_firstZero_9 rfl ?_
    refine g_istore_n 11 [(3, .int (a2 &&& (-a2))), (0, .ref (ad 7)), (1, .int a1), (2, .int a2)] C dX7_firstZero_10 rfl (by decide) rfl rfl ?_
    refine g_iload_n 12 C dX7_firstZero_11 rfl (j := 0) rfl rfl ?_
    refine g_if_le 21 15 C dX7_firstZero_12 (by decide) rfl h (fun h => ?_) (fun h => ?_)
    · exact g_sub [] (tX7_firstZero_L21 (σ := σ) C K0 h) rfl
    · refine g_iload_n 16 C dX7_firstZero_15 rfl (j := 2) rfl rfl ?_
      refine g_iload_n 17 C dX7_firstZero_16 rfl (j := 0) rfl rfl ?_
      obtain ⟨hne, h⟩ := chk_some h
      refine g_irem 18 C dX7_firstZero_17 (by simpa using hne) rfl ?_
      refine g_if_eq 23 21 C dX7_firstZero_18 (by decide) rfl h (fun h => ?_) (fun h => ?_)
      · refine g_iload_n 24 C dX7_firstZero_23 rfl (j := 2) rfl rfl ?_
        refine g_iload_n 25 C dX7_firstZero_24 rfl (j := 0) rfl rfl ?_
        obtain ⟨hne, h⟩ := chk_some h
        refine g_idiv 26 C dX7_firstZero_25 (by simpa using hne) rfl ?_
        refine g_ineg 27 C dX7_firstZero_26 rfl ?_
        refine g_iload_n 28 C dX7_firstZero_27 rfl (j := 3) rfl rfl ?_
        refine g_iload_n 29 C dX7_firstZero_28 rfl (j := 0) rfl rfl ?_
        obtain ⟨hne, h⟩ := chk_some h
        refine g_idiv 30 C dX7_firstZero_29 (by simpa using hne) rfl ?_
        refine g_csi 33 C (As := [.int (a2 / (a2 &&& (-a2)))]) (fun _ h => mX7_inverse (a1 := a2 / (a2 &&& (-a2))) (σ := σ) h) wl_X7_257 ws_X7_inverse wc_X7_inverse wn_X7 qX7_inverse rfl rfl ⟨Nat.le_of_ble_eq_true rfl, Nat.le_of_ble_eq_true rfl⟩ rfl rfl (Nat.le_of_ble_eq_true rfl) dX7_firstZero_30 rfl h (fun o1 h => ?_)
        refine g_imul 34 C dX7_firstZero_33 rfl ?_
        refine g_aload_n 35 C dX7_firstZero_34 rfl (j := 1) rfl rfl ?_
        refine g_iload_n 36 C dX7_firstZero_35 rfl (j := 3) rfl rfl ?_
        refine g_cvi 39 C (As := [.int a2]) (fun _ h => mX7_period (a1 := a2) (σ := o1.2) h) wl_X7_247 wi_X7_period wz_X7_period wc_X7_period wn_X7 qX7_period rfl rfl ⟨Nat.le_of_ble_eq_true rfl, Nat.le_of_ble_eq_true rfl⟩ rfl rfl rfl rfl (Nat.le_of_ble_eq_true rfl) dX7_firstZero_36 rfl h (fun o2 h => ?_)
        refine g_iconst 40 (v := 1) C dX7_firstZero_39 (by decide) rfl ?_
        refine g_isub 41 C dX7_firstZero_40 rfl ?_
        refine g_iand 42 C dX7_firstZero_41 rfl ?_
        cases h
        exact K0 _ _ dX7_firstZero_42 rfl
      · exact g_sub [] (tX7_firstZero_L21 (σ := σ) C K0 h) rfl

/-! LoopReducer.pop()I -/
abbrev rmX7_pop : Room := { frames := 3, cells := 0, slots := 0, locals := 65 }
theorem qX7_pop : yX7_pop.cls ≠ "java/lang/invoke/MethodHandle" ∧ yX7_pop.cls ≠ "java/lang/invoke/VarHandle" ∧ (parseMethodDescriptor yX7_pop.desc).map (fun d => d.parameters.length) = some 0 := by decide +kernel
theorem DX7_pop : ∀ q ∈ ([(0, .aload_n 0, 1), (1, .getfield 23, 3), (4, .invokevirtual 108, 3), (7, .ireturn, 1)] : List (Nat × Instr × Nat)), decode cX7_pop q.1 = .ok q.2 := by decide +kernel
theorem dX7_pop_0 : decode cX7_pop 0 = .ok (.aload_n 0, 1) := DX7_pop (0, .aload_n 0, 1) (List.mem_of_getElem? (i := 0) rfl)
theorem dX7_pop_1 : decode cX7_pop 1 = .ok (.getfield 23, 3) := DX7_pop (1, .getfield 23, 3) (List.mem_of_getElem? (i := 1) rfl)
theorem dX7_pop_4 : decode cX7_pop 4 = .ok (.invokevirtual 108, 3) := DX7_pop (4, .invokevirtual 108, 3) (List.mem_of_getElem? (i := 2) rfl)
theorem dX7_pop_7 : decode cX7_pop 7 = .ok (.ireturn, 1) := DX7_pop (7, .ireturn, 1) (List.mem_of_getElem? (i := 3) rfl)
noncomputable def fX7_pop (σ : Mem) : Option (Int32 × Mem) :=
  (fX3_takeLast σ).bind fun o1 =>
  some (o1.1, o1.2)
set_option maxHeartbeats 4000000 in
set_option maxRecDepth 100000 in
theorem mX7_pop {l : Launch} {D : va_G} {cI : ClassId} {ad : Nat → Nat} {σ : Mem} {out : Int32 × Mem} (h : fX7_pop σ = some out) : MI l D cI layX ad yX7_pop cX7_pop 1 .int rmX7_pop [.ref (ad 7)] σ out := by
  refine met_i (by decide) (Nat.le_of_ble_eq_true rfl) (fun E C K0 => ?_)
  show G E rmX7_pop cI layX ad 1 0 [(0, .ref (ad 7))] [] σ
  unfold fX7_pop at h
  refine g_aload_n 1 C dX7_pop_0 rfl (j := 0) rfl rfl ?_
  refine g_getr 4 (j := 0) C rfl rfl wu_X7 (by decide) wf_X7_23 rfl dX7_pop_1 rfl ?_
  refine g_cni 7 C (As := []) (fun _ h => mX3_takeLast (σ := σ) h) (List.mem_of_getElem? (i := 10) rfl) wi_X3_takeLast wz_X3_takeLast wc_X3_takeLast wn_X3 qX3_takeLast rfl rfl ⟨Nat.le_of_ble_eq_true rfl, Nat.le_of_ble_eq_true rfl⟩ rfl rfl rfl rfl (Nat.le_of_ble_eq_true rfl) dX7_pop_4 rfl h (fun o1 h => ?_)
  cases h
  exact K0 _ _ dX7_pop_7 rfl

/-! LoopReducer.turnAhead(III)I -/
abbrev rmX7_turnAhead : Room := { frames := 3, cells := 0, slots := 0, locals := 75 }
theorem qX7_turnAhead : yX7_turnAhead.cls ≠ "java/lang/invoke/MethodHandle" ∧ yX7_turnAhead.cls ≠ "java/lang/invoke/VarHandle" ∧ (parseMethodDescriptor yX7_turnAhead.desc).map (fun d => d.parameters.length) = some 3 := by decide +kernel
theorem DX7_turnAhead : ∀ q ∈ ([(0, .aload_n 0, 1), (1, .getfield 23, 3), (4, .getfield 112, 3), (7, .ifCond .eq 6, 3), (10, .bipush (-2), 2), (12, .ireturn, 1), (13, .aload_n 0, 1), (14, .getfield 48, 3), (17, .getfield 162, 3), (20, .aload_n 0, 1), (21, .getfield 23, 3), (24, .getfield 115, 3), (27, .iaload, 1), (28, .ifCond .ne 21, 3), (31, .aload_n 0, 1), (32, .getfield 48, 3), (35, .getfield 162, 3), (38, .aload_n 0, 1), (39, .getfield 23, 3), (42, .getfield 118, 3), (45, .iaload, 1), (46, .ifCond .eq 6, 3), (49, .bipush (-2), 2), (51, .ireturn, 1), (52, .aload_n 0, 1), (53, .getfield 48, 3), (56, .bipush 30, 2), (58, .aload_n 0, 1), (59, .getfield 23, 3), (62, .getfield 115, 3), (65, .aload_n 0, 1), (66, .getfield 23, 3), (69, .getfield 118, 3), (72, .iconst (-1), 1), (73, .invokevirtual 250, 3), (76, .aload_n 0, 1), (77, .getfield 48, 3), (80, .bipush 30, 2), (82, .invokevirtual 158, 3), (85, .iconst 1, 1), (86, .if_icmp .le 6, 3), (89, .bipush (-2), 2), (91, .ireturn, 1), (92, .aload_n 0, 1), (93, .getfield 30, 3), (96, .iload_n 1, 1), (97, .iload_n 2, 1), (98, .iload_n 3, 1), (99, .invokevirtual 188, 3), (102, .aload_n 0, 1), (103, .aload_n 0, 1), (104, .getfield 39, 3), (107, .bipush 120, 2), (109, .invokevirtual 192, 3), (112, .aload_n 0, 1), (113, .getfield 39, 3), (116, .bipush 121, 2), (118, .invokevirtual 192, 3), (121, .invokevirtual 254, 3), (124, .ireturn, 1)] : List (Nat × Instr × Nat)), decode cX7_turnAhead q.1 = .ok q.2 := by decide +kernel
theorem dX7_turnAhead_0 : decode cX7_turnAhead 0 = .ok (.aload_n 0, 1) := DX7_turnAhead (0, .aload_n 0, 1) (List.mem_of_getElem? (i := 0) rfl)
theorem dX7_turnAhead_1 : decode cX7_turnAhead 1 = .ok (.getfield 23, 3) := DX7_turnAhead (1, .getfield 23, 3) (List.mem_of_getElem? (i := 1) rfl)
theorem dX7_turnAhead_4 : decode cX7_turnAhead 4 = .ok (.getfield 112, 3) := DX7_turnAhead (4, .getfield 112, 3) (List.mem_of_getElem? (i := 2) rfl)
theorem dX7_turnAhead_7 : decode cX7_turnAhead 7 = .ok (.ifCond .eq 6, 3) := DX7_turnAhead (7, .ifCond .eq 6, 3) (List.mem_of_getElem? (i := 3) rfl)
theorem dX7_turnAhead_10 : decode cX7_turnAhead 10 = .ok (.bipush (-2), 2) := DX7_turnAhead (10, .bipush (-2), 2) (List.mem_of_getElem? (i := 4) rfl)
theorem dX7_turnAhead_12 : decode cX7_turnAhead 12 = .ok (.ireturn, 1) := DX7_turnAhead (12, .ireturn, 1) (List.mem_of_getElem? (i := 5) rfl)
theorem dX7_turnAhead_13 : decode cX7_turnAhead 13 = .ok (.aload_n 0, 1) := DX7_turnAhead (13, .aload_n 0, 1) (List.mem_of_getElem? (i := 6) rfl)
theorem dX7_turnAhead_14 : decode cX7_turnAhead 14 = .ok (.getfield 48, 3) := DX7_turnAhead (14, .getfield 48, 3) (List.mem_of_getElem? (i := 7) rfl)
theorem dX7_turnAhead_17 : decode cX7_turnAhead 17 = .ok (.getfield 162, 3) := DX7_turnAhead (17, .getfield 162, 3) (List.mem_of_getElem? (i := 8) rfl)
theorem dX7_turnAhead_20 : decode cX7_turnAhead 20 = .ok (.aload_n 0, 1) := DX7_turnAhead (20, .aload_n 0, 1) (List.mem_of_getElem? (i := 9) rfl)
theorem dX7_turnAhead_21 : decode cX7_turnAhead 21 = .ok (.getfield 23, 3) := DX7_turnAhead (21, .getfield 23, 3) (List.mem_of_getElem? (i := 10) rfl)
theorem dX7_turnAhead_24 : decode cX7_turnAhead 24 = .ok (.getfield 115, 3) := DX7_turnAhead (24, .getfield 115, 3) (List.mem_of_getElem? (i := 11) rfl)
theorem dX7_turnAhead_27 : decode cX7_turnAhead 27 = .ok (.iaload, 1) := DX7_turnAhead (27, .iaload, 1) (List.mem_of_getElem? (i := 12) rfl)
theorem dX7_turnAhead_28 : decode cX7_turnAhead 28 = .ok (.ifCond .ne 21, 3) := DX7_turnAhead (28, .ifCond .ne 21, 3) (List.mem_of_getElem? (i := 13) rfl)
theorem dX7_turnAhead_31 : decode cX7_turnAhead 31 = .ok (.aload_n 0, 1) := DX7_turnAhead (31, .aload_n 0, 1) (List.mem_of_getElem? (i := 14) rfl)
theorem dX7_turnAhead_32 : decode cX7_turnAhead 32 = .ok (.getfield 48, 3) := DX7_turnAhead (32, .getfield 48, 3) (List.mem_of_getElem? (i := 15) rfl)
theorem dX7_turnAhead_35 : decode cX7_turnAhead 35 = .ok (.getfield 162, 3) := DX7_turnAhead (35, .getfield 162, 3) (List.mem_of_getElem? (i := 16) rfl)
theorem dX7_turnAhead_38 : decode cX7_turnAhead 38 = .ok (.aload_n 0, 1) := DX7_turnAhead (38, .aload_n 0, 1) (List.mem_of_getElem? (i := 17) rfl)
theorem dX7_turnAhead_39 : decode cX7_turnAhead 39 = .ok (.getfield 23, 3) := DX7_turnAhead (39, .getfield 23, 3) (List.mem_of_getElem? (i := 18) rfl)
theorem dX7_turnAhead_42 : decode cX7_turnAhead 42 = .ok (.getfield 118, 3) := DX7_turnAhead (42, .getfield 118, 3) (List.mem_of_getElem? (i := 19) rfl)
theorem dX7_turnAhead_45 : decode cX7_turnAhead 45 = .ok (.iaload, 1) := DX7_turnAhead (45, .iaload, 1) (List.mem_of_getElem? (i := 20) rfl)
theorem dX7_turnAhead_46 : decode cX7_turnAhead 46 = .ok (.ifCond .eq 6, 3) := DX7_turnAhead (46, .ifCond .eq 6, 3) (List.mem_of_getElem? (i := 21) rfl)
theorem dX7_turnAhead_49 : decode cX7_turnAhead 49 = .ok (.bipush (-2), 2) := DX7_turnAhead (49, .bipush (-2), 2) (List.mem_of_getElem? (i := 22) rfl)
theorem dX7_turnAhead_51 : decode cX7_turnAhead 51 = .ok (.ireturn, 1) := DX7_turnAhead (51, .ireturn, 1) (List.mem_of_getElem? (i := 23) rfl)
theorem dX7_turnAhead_52 : decode cX7_turnAhead 52 = .ok (.aload_n 0, 1) := DX7_turnAhead (52, .aload_n 0, 1) (List.mem_of_getElem? (i := 24) rfl)
theorem dX7_turnAhead_53 : decode cX7_turnAhead 53 = .ok (.getfield 48, 3) := DX7_turnAhead (53, .getfield 48, 3) (List.mem_of_getElem? (i := 25) rfl)
theorem dX7_turnAhead_56 : decode cX7_turnAhead 56 = .ok (.bipush 30, 2) := DX7_turnAhead (56, .bipush 30, 2) (List.mem_of_getElem? (i := 26) rfl)
theorem dX7_turnAhead_58 : decode cX7_turnAhead 58 = .ok (.aload_n 0, 1) := DX7_turnAhead (58, .aload_n 0, 1) (List.mem_of_getElem? (i := 27) rfl)
theorem dX7_turnAhead_59 : decode cX7_turnAhead 59 = .ok (.getfield 23, 3) := DX7_turnAhead (59, .getfield 23, 3) (List.mem_of_getElem? (i := 28) rfl)
theorem dX7_turnAhead_62 : decode cX7_turnAhead 62 = .ok (.getfield 115, 3) := DX7_turnAhead (62, .getfield 115, 3) (List.mem_of_getElem? (i := 29) rfl)
theorem dX7_turnAhead_65 : decode cX7_turnAhead 65 = .ok (.aload_n 0, 1) := DX7_turnAhead (65, .aload_n 0, 1) (List.mem_of_getElem? (i := 30) rfl)
theorem dX7_turnAhead_66 : decode cX7_turnAhead 66 = .ok (.getfield 23, 3) := DX7_turnAhead (66, .getfield 23, 3) (List.mem_of_getElem? (i := 31) rfl)
theorem dX7_turnAhead_69 : decode cX7_turnAhead 69 = .ok (.getfield 118, 3) := DX7_turnAhead (69, .getfield 118, 3) (List.mem_of_getElem? (i := 32) rfl)
theorem dX7_turnAhead_72 : decode cX7_turnAhead 72 = .ok (.iconst (-1), 1) := DX7_turnAhead (72, .iconst (-1), 1) (List.mem_of_getElem? (i := 33) rfl)
theorem dX7_turnAhead_73 : decode cX7_turnAhead 73 = .ok (.invokevirtual 250, 3) := DX7_turnAhead (73, .invokevirtual 250, 3) (List.mem_of_getElem? (i := 34) rfl)
theorem dX7_turnAhead_76 : decode cX7_turnAhead 76 = .ok (.aload_n 0, 1) := DX7_turnAhead (76, .aload_n 0, 1) (List.mem_of_getElem? (i := 35) rfl)
theorem dX7_turnAhead_77 : decode cX7_turnAhead 77 = .ok (.getfield 48, 3) := DX7_turnAhead (77, .getfield 48, 3) (List.mem_of_getElem? (i := 36) rfl)
theorem dX7_turnAhead_80 : decode cX7_turnAhead 80 = .ok (.bipush 30, 2) := DX7_turnAhead (80, .bipush 30, 2) (List.mem_of_getElem? (i := 37) rfl)
theorem dX7_turnAhead_82 : decode cX7_turnAhead 82 = .ok (.invokevirtual 158, 3) := DX7_turnAhead (82, .invokevirtual 158, 3) (List.mem_of_getElem? (i := 38) rfl)
theorem dX7_turnAhead_85 : decode cX7_turnAhead 85 = .ok (.iconst 1, 1) := DX7_turnAhead (85, .iconst 1, 1) (List.mem_of_getElem? (i := 39) rfl)
theorem dX7_turnAhead_86 : decode cX7_turnAhead 86 = .ok (.if_icmp .le 6, 3) := DX7_turnAhead (86, .if_icmp .le 6, 3) (List.mem_of_getElem? (i := 40) rfl)
theorem dX7_turnAhead_89 : decode cX7_turnAhead 89 = .ok (.bipush (-2), 2) := DX7_turnAhead (89, .bipush (-2), 2) (List.mem_of_getElem? (i := 41) rfl)
theorem dX7_turnAhead_91 : decode cX7_turnAhead 91 = .ok (.ireturn, 1) := DX7_turnAhead (91, .ireturn, 1) (List.mem_of_getElem? (i := 42) rfl)
theorem dX7_turnAhead_92 : decode cX7_turnAhead 92 = .ok (.aload_n 0, 1) := DX7_turnAhead (92, .aload_n 0, 1) (List.mem_of_getElem? (i := 43) rfl)
theorem dX7_turnAhead_93 : decode cX7_turnAhead 93 = .ok (.getfield 30, 3) := DX7_turnAhead (93, .getfield 30, 3) (List.mem_of_getElem? (i := 44) rfl)
theorem dX7_turnAhead_96 : decode cX7_turnAhead 96 = .ok (.iload_n 1, 1) := DX7_turnAhead (96, .iload_n 1, 1) (List.mem_of_getElem? (i := 45) rfl)
theorem dX7_turnAhead_97 : decode cX7_turnAhead 97 = .ok (.iload_n 2, 1) := DX7_turnAhead (97, .iload_n 2, 1) (List.mem_of_getElem? (i := 46) rfl)
theorem dX7_turnAhead_98 : decode cX7_turnAhead 98 = .ok (.iload_n 3, 1) := DX7_turnAhead (98, .iload_n 3, 1) (List.mem_of_getElem? (i := 47) rfl)
theorem dX7_turnAhead_99 : decode cX7_turnAhead 99 = .ok (.invokevirtual 188, 3) := DX7_turnAhead (99, .invokevirtual 188, 3) (List.mem_of_getElem? (i := 48) rfl)
theorem dX7_turnAhead_102 : decode cX7_turnAhead 102 = .ok (.aload_n 0, 1) := DX7_turnAhead (102, .aload_n 0, 1) (List.mem_of_getElem? (i := 49) rfl)
theorem dX7_turnAhead_103 : decode cX7_turnAhead 103 = .ok (.aload_n 0, 1) := DX7_turnAhead (103, .aload_n 0, 1) (List.mem_of_getElem? (i := 50) rfl)
theorem dX7_turnAhead_104 : decode cX7_turnAhead 104 = .ok (.getfield 39, 3) := DX7_turnAhead (104, .getfield 39, 3) (List.mem_of_getElem? (i := 51) rfl)
theorem dX7_turnAhead_107 : decode cX7_turnAhead 107 = .ok (.bipush 120, 2) := DX7_turnAhead (107, .bipush 120, 2) (List.mem_of_getElem? (i := 52) rfl)
theorem dX7_turnAhead_109 : decode cX7_turnAhead 109 = .ok (.invokevirtual 192, 3) := DX7_turnAhead (109, .invokevirtual 192, 3) (List.mem_of_getElem? (i := 53) rfl)
theorem dX7_turnAhead_112 : decode cX7_turnAhead 112 = .ok (.aload_n 0, 1) := DX7_turnAhead (112, .aload_n 0, 1) (List.mem_of_getElem? (i := 54) rfl)
theorem dX7_turnAhead_113 : decode cX7_turnAhead 113 = .ok (.getfield 39, 3) := DX7_turnAhead (113, .getfield 39, 3) (List.mem_of_getElem? (i := 55) rfl)
theorem dX7_turnAhead_116 : decode cX7_turnAhead 116 = .ok (.bipush 121, 2) := DX7_turnAhead (116, .bipush 121, 2) (List.mem_of_getElem? (i := 56) rfl)
theorem dX7_turnAhead_118 : decode cX7_turnAhead 118 = .ok (.invokevirtual 192, 3) := DX7_turnAhead (118, .invokevirtual 192, 3) (List.mem_of_getElem? (i := 57) rfl)
theorem dX7_turnAhead_121 : decode cX7_turnAhead 121 = .ok (.invokevirtual 254, 3) := DX7_turnAhead (121, .invokevirtual 254, 3) (List.mem_of_getElem? (i := 58) rfl)
theorem dX7_turnAhead_124 : decode cX7_turnAhead 124 = .ok (.ireturn, 1) := DX7_turnAhead (124, .ireturn, 1) (List.mem_of_getElem? (i := 59) rfl)
noncomputable def fX7_turnAhead_L49 (σ : Mem) : Option (Int32 × Mem) :=
  some ((-2), σ)
set_option maxHeartbeats 4000000 in
set_option maxRecDepth 100000 in
theorem tX7_turnAhead_L49 {E : Gx} {cI : ClassId} {ad : Nat → Nat} (C : Cx E rmX7_turnAhead cI layX ad 4 RX7 cX7_turnAhead) {out : Int32 × Mem} (K0 : KI E rmX7_turnAhead cI layX ad 4 cX7_turnAhead .int out) {σ : Mem} (h : fX7_turnAhead_L49 σ = some out) : G E rmX7_turnAhead cI layX ad 4 49 [] [] σ := by
  unfold fX7_turnAhead_L49 at h
  refine g_bipush 51 (v := (-2)) C dX7_turnAhead_49 (by decide) rfl ?_
  cases h
  exact K0 _ _ dX7_turnAhead_51 rfl
noncomputable def fX7_turnAhead (a1 : Int32) (a2 : Int32) (a3 : Int32) (σ : Mem) : Option (Int32 × Mem) :=
  if (σ 3 8) = 0 then
    chk (inb (σ 3 9) 31) <|
    if (σ 17 (σ 3 9).toNatClampNeg) = 0 then
      chk (inb (σ 3 10) 31) <|
      if (σ 17 (σ 3 10).toNatClampNeg) = 0 then
        (fX1_putSum 30 (σ 3 9) (σ 3 10) (-1) σ).bind fun o1 =>
        (fX1_degree 30 o1).bind fun o2 =>
        if o2.1 ≤ 1 then
          (fX2_give a1 a2 a3 o2.2).bind fun o3 =>
          (fX5_worth 120 o3).bind fun o4 =>
          (fX5_worth 121 o4.2).bind fun o5 =>
          (fX7_firstZero o4.1 o5.1 o5.2).bind fun o6 =>
          some (o6.1, o6.2)
        else
          some ((-2), o2.2)
      else
        fX7_turnAhead_L49 σ
    else
      fX7_turnAhead_L49 σ
  else
    some ((-2), σ)
set_option maxHeartbeats 4000000 in
set_option maxRecDepth 100000 in
theorem mX7_turnAhead {l : Launch} {D : va_G} {cI : ClassId} {ad : Nat → Nat} {a1 : Int32} {a2 : Int32} {a3 : Int32} {σ : Mem} {out : Int32 × Mem} (h : fX7_turnAhead a1 a2 a3 σ = some out) : MI l D cI layX ad yX7_turnAhead cX7_turnAhead 4 .int rmX7_turnAhead [.ref (ad 7), .int a1, .int a2, .int a3] σ out := by
  refine met_i (by decide) (Nat.le_of_ble_eq_true rfl) (fun E C K0 => ?_)
  show G E rmX7_turnAhead cI layX ad 4 0 [(0, .ref (ad 7)), (1, .int a1), (2, .int a2), (3, .int a3)] [] σ
  unfold fX7_turnAhead at h
  refine g_aload_n 1 C dX7_turnAhead_0 rfl (j := 0) rfl rfl ?_
  refine g_getr 4 (j := 0) C rfl rfl wu_X7 (by decide) wf_X7_23 rfl dX7_turnAhead_1 rfl ?_
  refine g_getiN 7 (j := 8) C rfl rfl wu_X3 (by decide) (List.mem_of_getElem? (i := 21) rfl) rfl dX7_turnAhead_4 rfl ?_
  refine g_if_eq 13 10 C dX7_turnAhead_7 (by decide) rfl h (fun h => ?_) (fun h => ?_)
  · refine g_aload_n 14 C dX7_turnAhead_13 rfl (j := 0) rfl rfl ?_
    refine g_getr 17 (j := 3) C rfl rfl wu_X7 (by decide) wf_X7_48 rfl dX7_turnAhead_14 rfl ?_
    refine g_getrN 20 (j := 2) C rfl rfl wu_X1 (by decide) (List.mem_of_getElem? (i := 35) rfl) rfl dX7_turnAhead_17 rfl ?_
    refine g_aload_n 21 C dX7_turnAhead_20 rfl (j := 0) rfl rfl ?_
    refine g_getr 24 (j := 0) C rfl rfl wu_X7 (by decide) wf_X7_23 rfl dX7_turnAhead_21 rfl ?_
    refine g_getiN 27 (j := 9) C rfl rfl wu_X3 (by decide) (List.mem_of_getElem? (i := 23) rfl) rfl dX7_turnAhead_24 rfl ?_
    refine g_iald 28 C rfl dX7_turnAhead_27 rfl h (fun h => ?_)
    refine g_if_ne 49 31 C dX7_turnAhead_28 (by decide) rfl h (fun h => ?_) (fun h => ?_)
    · refine g_aload_n 32 C dX7_turnAhead_31 rfl (j := 0) rfl rfl ?_
      refine g_getr 35 (j := 3) C rfl rfl wu_X7 (by decide) wf_X7_48 rfl dX7_turnAhead_32 rfl ?_
      refine g_getrN 38 (j := 2) C rfl rfl wu_X1 (by decide) (List.mem_of_getElem? (i := 35) rfl) rfl dX7_turnAhead_35 rfl ?_
      refine g_aload_n 39 C dX7_turnAhead_38 rfl (j := 0) rfl rfl ?_
      refine g_getr 42 (j := 0) C rfl rfl wu_X7 (by decide) wf_X7_23 rfl dX7_turnAhead_39 rfl ?_
      refine g_getiN 45 (j := 10) C rfl rfl wu_X3 (by decide) (List.mem_of_getElem? (i := 25) rfl) rfl dX7_turnAhead_42 rfl ?_
      refine g_iald 46 C rfl dX7_turnAhead_45 rfl h (fun h => ?_)
      refine g_if_eq 52 49 C dX7_turnAhead_46 (by decide) rfl h (fun h => ?_) (fun h => ?_)
      · refine g_aload_n 53 C dX7_turnAhead_52 rfl (j := 0) rfl rfl ?_
        refine g_getr 56 (j := 3) C rfl rfl wu_X7 (by decide) wf_X7_48 rfl dX7_turnAhead_53 rfl ?_
        refine g_bipush 58 (v := 30) C dX7_turnAhead_56 (by decide) rfl ?_
        refine g_aload_n 59 C dX7_turnAhead_58 rfl (j := 0) rfl rfl ?_
        refine g_getr 62 (j := 0) C rfl rfl wu_X7 (by decide) wf_X7_23 rfl dX7_turnAhead_59 rfl ?_
        refine g_getiN 65 (j := 9) C rfl rfl wu_X3 (by decide) (List.mem_of_getElem? (i := 23) rfl) rfl dX7_turnAhead_62 rfl ?_
        refine g_aload_n 66 C dX7_turnAhead_65 rfl (j := 0) rfl rfl ?_
        refine g_getr 69 (j := 0) C rfl rfl wu_X7 (by decide) wf_X7_23 rfl dX7_turnAhead_66 rfl ?_
        refine g_getiN 72 (j := 10) C rfl rfl wu_X3 (by decide) (List.mem_of_getElem? (i := 25) rfl) rfl dX7_turnAhead_69 rfl ?_
        refine g_iconst 73 (v := (-1)) C dX7_turnAhead_72 (by decide) rfl ?_
        refine g_cnv 76 C (As := [.int 30, .int (σ 3 9), .int (σ 3 10), .int (-1)]) (fun _ h => mX1_putSum (a1 := 30) (a2 := σ 3 9) (a3 := σ 3 10) (a4 := (-1)) (σ := σ) h) (List.mem_of_getElem? (i := 66) rfl) wi_X1_putSum wz_X1_putSum wc_X1_putSum wn_X1 qX1_putSum rfl rfl ⟨Nat.le_of_ble_eq_true rfl, Nat.le_of_ble_eq_true rfl⟩ rfl rfl rfl rfl (Nat.le_of_ble_eq_true rfl) dX7_turnAhead_73 rfl h (fun o1 h => ?_)
        refine g_aload_n 77 C dX7_turnAhead_76 rfl (j := 0) rfl rfl ?_
        refine g_getr 80 (j := 3) C rfl rfl wu_X7 (by decide) wf_X7_48 rfl dX7_turnAhead_77 rfl ?_
        refine g_bipush 82 (v := 30) C dX7_turnAhead_80 (by decide) rfl ?_
        refine g_cni 85 C (As := [.int 30]) (fun _ h => mX1_degree (a1 := 30) (σ := o1) h) (List.mem_of_getElem? (i := 32) rfl) wi_X1_degree wz_X1_degree wc_X1_degree wn_X1 qX1_degree rfl rfl ⟨Nat.le_of_ble_eq_true rfl, Nat.le_of_ble_eq_true rfl⟩ rfl rfl rfl rfl (Nat.le_of_ble_eq_true rfl) dX7_turnAhead_82 rfl h (fun o2 h => ?_)
        refine g_iconst 86 (v := 1) C dX7_turnAhead_85 (by decide) rfl ?_
        refine g_icmp_le 92 89 C dX7_turnAhead_86 (by decide) rfl h (fun h => ?_) (fun h => ?_)
        · refine g_aload_n 93 C dX7_turnAhead_92 rfl (j := 0) rfl rfl ?_
          refine g_getr 96 (j := 1) C rfl rfl wu_X7 (by decide) wf_X7_30 rfl dX7_turnAhead_93 rfl ?_
          refine g_iload_n 97 C dX7_turnAhead_96 rfl (j := 1) rfl rfl ?_
          refine g_iload_n 98 C dX7_turnAhead_97 rfl (j := 2) rfl rfl ?_
          refine g_iload_n 99 C dX7_turnAhead_98 rfl (j := 3) rfl rfl ?_
          refine g_cnv 102 C (As := [.int a1, .int a2, .int a3]) (fun _ h => mX2_give (a1 := a1) (a2 := a2) (a3 := a3) (σ := o2.2) h) (List.mem_of_getElem? (i := 39) rfl) wi_X2_give wz_X2_give wc_X2_give wn_X2 qX2_give rfl rfl ⟨Nat.le_of_ble_eq_true rfl, Nat.le_of_ble_eq_true rfl⟩ rfl rfl rfl rfl (Nat.le_of_ble_eq_true rfl) dX7_turnAhead_99 rfl h (fun o3 h => ?_)
          refine g_aload_n 103 C dX7_turnAhead_102 rfl (j := 0) rfl rfl ?_
          refine g_aload_n 104 C dX7_turnAhead_103 rfl (j := 0) rfl rfl ?_
          refine g_getr 107 (j := 2) C rfl rfl wu_X7 (by decide) wf_X7_39 rfl dX7_turnAhead_104 rfl ?_
          refine g_bipush 109 (v := 120) C dX7_turnAhead_107 (by decide) rfl ?_
          refine g_cni 112 C (As := [.int 120]) (fun _ h => mX5_worth (a1 := 120) (σ := o3) h) (List.mem_of_getElem? (i := 40) rfl) wi_X5_worth wz_X5_worth wc_X5_worth wn_X5 qX5_worth rfl rfl ⟨Nat.le_of_ble_eq_true rfl, Nat.le_of_ble_eq_true rfl⟩ rfl rfl rfl rfl (Nat.le_of_ble_eq_true rfl) dX7_turnAhead_109 rfl h (fun o4 h => ?_)
          refine g_aload_n 113 C dX7_turnAhead_112 rfl (j := 0) rfl rfl ?_
          refine g_getr 116 (j := 2) C rfl rfl wu_X7 (by decide) wf_X7_39 rfl dX7_turnAhead_113 rfl ?_
          refine g_bipush 118 (v := 121) C dX7_turnAhead_116 (by decide) rfl ?_
          refine g_cni 121 C (As := [.int 121]) (fun _ h => mX5_worth (a1 := 121) (σ := o4.2) h) (List.mem_of_getElem? (i := 40) rfl) wi_X5_worth wz_X5_worth wc_X5_worth wn_X5 qX5_worth rfl rfl ⟨Nat.le_of_ble_eq_true rfl, Nat.le_of_ble_eq_true rfl⟩ rfl rfl rfl rfl (Nat.le_of_ble_eq_true rfl) dX7_turnAhead_118 rfl h (fun o5 h => ?_)
          refine g_cvi 124 C (As := [.int o4.1, .int o5.1]) (fun _ h => mX7_firstZero (a1 := o4.1) (a2 := o5.1) (σ := o5.2) h) wl_X7_254 wi_X7_firstZero wz_X7_firstZero wc_X7_firstZero wn_X7 qX7_firstZero rfl rfl ⟨Nat.le_of_ble_eq_true rfl, Nat.le_of_ble_eq_true rfl⟩ rfl rfl rfl rfl (Nat.le_of_ble_eq_true rfl) dX7_turnAhead_121 rfl h (fun o6 h => ?_)
          cases h
          exact K0 _ _ dX7_turnAhead_124 rfl
        · refine g_bipush 91 (v := (-2)) C dX7_turnAhead_89 (by decide) rfl ?_
          cases h
          exact K0 _ _ dX7_turnAhead_91 rfl
      · exact g_sub [] (tX7_turnAhead_L49 (σ := σ) C K0 h) rfl
    · exact g_sub [] (tX7_turnAhead_L49 (σ := σ) C K0 h) rfl
  · refine g_bipush 12 (v := (-2)) C dX7_turnAhead_10 (by decide) rfl ?_
    cases h
    exact K0 _ _ dX7_turnAhead_12 rfl

/-! LoopReducer.run(III)I -/
abbrev rmX7_run : Room := { frames := 5, cells := 0, slots := 0, locals := 109 }
theorem qX7_run : yX7_run.cls ≠ "java/lang/invoke/MethodHandle" ∧ yX7_run.cls ≠ "java/lang/invoke/VarHandle" ∧ (parseMethodDescriptor yX7_run.desc).map (fun d => d.parameters.length) = some 3 := by decide +kernel
theorem DX7_run : ∀ q ∈ ([(0, .aload_n 0, 1), (1, .getfield 23, 3), (4, .getfield 112, 3), (7, .iconst (-1), 1), (8, .if_icmp .ne 5, 3), (11, .iconst (-1), 1), (12, .ireturn, 1), (13, .aload_n 0, 1), (14, .getfield 75, 3), (17, .iload_n 1, 1), (18, .iload_n 2, 1), (19, .iload_n 3, 1), (20, .invokevirtual 196, 3), (23, .aload_n 0, 1), (24, .getfield 75, 3), (27, .invokevirtual 232, 3), (30, .ireturn, 1)] : List (Nat × Instr × Nat)), decode cX7_run q.1 = .ok q.2 := by decide +kernel
theorem dX7_run_0 : decode cX7_run 0 = .ok (.aload_n 0, 1) := DX7_run (0, .aload_n 0, 1) (List.mem_of_getElem? (i := 0) rfl)
theorem dX7_run_1 : decode cX7_run 1 = .ok (.getfield 23, 3) := DX7_run (1, .getfield 23, 3) (List.mem_of_getElem? (i := 1) rfl)
theorem dX7_run_4 : decode cX7_run 4 = .ok (.getfield 112, 3) := DX7_run (4, .getfield 112, 3) (List.mem_of_getElem? (i := 2) rfl)
theorem dX7_run_7 : decode cX7_run 7 = .ok (.iconst (-1), 1) := DX7_run (7, .iconst (-1), 1) (List.mem_of_getElem? (i := 3) rfl)
theorem dX7_run_8 : decode cX7_run 8 = .ok (.if_icmp .ne 5, 3) := DX7_run (8, .if_icmp .ne 5, 3) (List.mem_of_getElem? (i := 4) rfl)
theorem dX7_run_11 : decode cX7_run 11 = .ok (.iconst (-1), 1) := DX7_run (11, .iconst (-1), 1) (List.mem_of_getElem? (i := 5) rfl)
theorem dX7_run_12 : decode cX7_run 12 = .ok (.ireturn, 1) := DX7_run (12, .ireturn, 1) (List.mem_of_getElem? (i := 6) rfl)
theorem dX7_run_13 : decode cX7_run 13 = .ok (.aload_n 0, 1) := DX7_run (13, .aload_n 0, 1) (List.mem_of_getElem? (i := 7) rfl)
theorem dX7_run_14 : decode cX7_run 14 = .ok (.getfield 75, 3) := DX7_run (14, .getfield 75, 3) (List.mem_of_getElem? (i := 8) rfl)
theorem dX7_run_17 : decode cX7_run 17 = .ok (.iload_n 1, 1) := DX7_run (17, .iload_n 1, 1) (List.mem_of_getElem? (i := 9) rfl)
theorem dX7_run_18 : decode cX7_run 18 = .ok (.iload_n 2, 1) := DX7_run (18, .iload_n 2, 1) (List.mem_of_getElem? (i := 10) rfl)
theorem dX7_run_19 : decode cX7_run 19 = .ok (.iload_n 3, 1) := DX7_run (19, .iload_n 3, 1) (List.mem_of_getElem? (i := 11) rfl)
theorem dX7_run_20 : decode cX7_run 20 = .ok (.invokevirtual 196, 3) := DX7_run (20, .invokevirtual 196, 3) (List.mem_of_getElem? (i := 12) rfl)
theorem dX7_run_23 : decode cX7_run 23 = .ok (.aload_n 0, 1) := DX7_run (23, .aload_n 0, 1) (List.mem_of_getElem? (i := 13) rfl)
theorem dX7_run_24 : decode cX7_run 24 = .ok (.getfield 75, 3) := DX7_run (24, .getfield 75, 3) (List.mem_of_getElem? (i := 14) rfl)
theorem dX7_run_27 : decode cX7_run 27 = .ok (.invokevirtual 232, 3) := DX7_run (27, .invokevirtual 232, 3) (List.mem_of_getElem? (i := 15) rfl)
theorem dX7_run_30 : decode cX7_run 30 = .ok (.ireturn, 1) := DX7_run (30, .ireturn, 1) (List.mem_of_getElem? (i := 16) rfl)
noncomputable def fX7_run (a1 : Int32) (a2 : Int32) (a3 : Int32) (σ : Mem) : Option (Int32 × Mem) :=
  if (σ 3 8) = (-1) then
    some ((-1), σ)
  else
    (fX6_give a1 a2 a3 σ).bind fun o1 =>
    (fX6_goPlainly o1).bind fun o2 =>
    some (o2.1, o2.2)
set_option maxHeartbeats 4000000 in
set_option maxRecDepth 100000 in
theorem mX7_run {l : Launch} {D : va_G} {cI : ClassId} {ad : Nat → Nat} {a1 : Int32} {a2 : Int32} {a3 : Int32} {σ : Mem} {out : Int32 × Mem} (h : fX7_run a1 a2 a3 σ = some out) : MI l D cI layX ad yX7_run cX7_run 4 .int rmX7_run [.ref (ad 7), .int a1, .int a2, .int a3] σ out := by
  refine met_i (by decide) (Nat.le_of_ble_eq_true rfl) (fun E C K0 => ?_)
  show G E rmX7_run cI layX ad 4 0 [(0, .ref (ad 7)), (1, .int a1), (2, .int a2), (3, .int a3)] [] σ
  unfold fX7_run at h
  refine g_aload_n 1 C dX7_run_0 rfl (j := 0) rfl rfl ?_
  refine g_getr 4 (j := 0) C rfl rfl wu_X7 (by decide) wf_X7_23 rfl dX7_run_1 rfl ?_
  refine g_getiN 7 (j := 8) C rfl rfl wu_X3 (by decide) (List.mem_of_getElem? (i := 21) rfl) rfl dX7_run_4 rfl ?_
  refine g_iconst 8 (v := (-1)) C dX7_run_7 (by decide) rfl ?_
  refine g_icmp_ne 13 11 C dX7_run_8 (by decide) rfl h (fun h => ?_) (fun h => ?_)
  · refine g_iconst 12 (v := (-1)) C dX7_run_11 (by decide) rfl ?_
    cases h
    exact K0 _ _ dX7_run_12 rfl
  · refine g_aload_n 14 C dX7_run_13 rfl (j := 0) rfl rfl ?_
    refine g_getr 17 (j := 6) C rfl rfl wu_X7 (by decide) wf_X7_75 rfl dX7_run_14 rfl ?_
    refine g_iload_n 18 C dX7_run_17 rfl (j := 1) rfl rfl ?_
    refine g_iload_n 19 C dX7_run_18 rfl (j := 2) rfl rfl ?_
    refine g_iload_n 20 C dX7_run_19 rfl (j := 3) rfl rfl ?_
    refine g_cnv 23 C (As := [.int a1, .int a2, .int a3]) (fun _ h => mX6_give (a1 := a1) (a2 := a2) (a3 := a3) (σ := σ) h) (List.mem_of_getElem? (i := 42) rfl) wi_X6_give wz_X6_give wc_X6_give wn_X6 qX6_give rfl rfl ⟨Nat.le_of_ble_eq_true rfl, Nat.le_of_ble_eq_true rfl⟩ rfl rfl rfl rfl (Nat.le_of_ble_eq_true rfl) dX7_run_20 rfl h (fun o1 h => ?_)
    refine g_aload_n 24 C dX7_run_23 rfl (j := 0) rfl rfl ?_
    refine g_getr 27 (j := 6) C rfl rfl wu_X7 (by decide) wf_X7_75 rfl dX7_run_24 rfl ?_
    refine g_cni 30 C (As := []) (fun _ h => mX6_goPlainly (σ := o1) h) (List.mem_of_getElem? (i := 58) rfl) wi_X6_goPlainly wz_X6_goPlainly wc_X6_goPlainly wn_X6 qX6_goPlainly rfl rfl ⟨Nat.le_of_ble_eq_true rfl, Nat.le_of_ble_eq_true rfl⟩ rfl rfl rfl rfl (Nat.le_of_ble_eq_true rfl) dX7_run_27 rfl h (fun o2 h => ?_)
    cases h
    exact K0 _ _ dX7_run_30 rfl

/-! LoopReducer.cycle(I)I -/
abbrev rmX7_cycle : Room := { frames := 7, cells := 0, slots := 0, locals := 175 }
theorem qX7_cycle : yX7_cycle.cls ≠ "java/lang/invoke/MethodHandle" ∧ yX7_cycle.cls ≠ "java/lang/invoke/VarHandle" ∧ (parseMethodDescriptor yX7_cycle.desc).map (fun d => d.parameters.length) = some 1 := by decide +kernel
theorem DX7_cycle : ∀ q ∈ ([(0, .aload_n 0, 1), (1, .getfield 23, 3), (4, .iload_n 1, 1), (5, .invokevirtual 97, 3), (8, .ifCond .ne 5, 3), (11, .iconst (-1), 1), (12, .ireturn, 1), (13, .aload_n 0, 1), (14, .getfield 57, 3), (17, .invokevirtual 146, 3), (20, .aload_n 0, 1), (21, .getfield 57, 3), (24, .getfield 149, 3), (27, .iload_n 1, 1), (28, .iaload, 1), (29, .ireturn, 1)] : List (Nat × Instr × Nat)), decode cX7_cycle q.1 = .ok q.2 := by decide +kernel
theorem dX7_cycle_0 : decode cX7_cycle 0 = .ok (.aload_n 0, 1) := DX7_cycle (0, .aload_n 0, 1) (List.mem_of_getElem? (i := 0) rfl)
theorem dX7_cycle_1 : decode cX7_cycle 1 = .ok (.getfield 23, 3) := DX7_cycle (1, .getfield 23, 3) (List.mem_of_getElem? (i := 1) rfl)
theorem dX7_cycle_4 : decode cX7_cycle 4 = .ok (.iload_n 1, 1) := DX7_cycle (4, .iload_n 1, 1) (List.mem_of_getElem? (i := 2) rfl)
theorem dX7_cycle_5 : decode cX7_cycle 5 = .ok (.invokevirtual 97, 3) := DX7_cycle (5, .invokevirtual 97, 3) (List.mem_of_getElem? (i := 3) rfl)
theorem dX7_cycle_8 : decode cX7_cycle 8 = .ok (.ifCond .ne 5, 3) := DX7_cycle (8, .ifCond .ne 5, 3) (List.mem_of_getElem? (i := 4) rfl)
theorem dX7_cycle_11 : decode cX7_cycle 11 = .ok (.iconst (-1), 1) := DX7_cycle (11, .iconst (-1), 1) (List.mem_of_getElem? (i := 5) rfl)
theorem dX7_cycle_12 : decode cX7_cycle 12 = .ok (.ireturn, 1) := DX7_cycle (12, .ireturn, 1) (List.mem_of_getElem? (i := 6) rfl)
theorem dX7_cycle_13 : decode cX7_cycle 13 = .ok (.aload_n 0, 1) := DX7_cycle (13, .aload_n 0, 1) (List.mem_of_getElem? (i := 7) rfl)
theorem dX7_cycle_14 : decode cX7_cycle 14 = .ok (.getfield 57, 3) := DX7_cycle (14, .getfield 57, 3) (List.mem_of_getElem? (i := 8) rfl)
theorem dX7_cycle_17 : decode cX7_cycle 17 = .ok (.invokevirtual 146, 3) := DX7_cycle (17, .invokevirtual 146, 3) (List.mem_of_getElem? (i := 9) rfl)
theorem dX7_cycle_20 : decode cX7_cycle 20 = .ok (.aload_n 0, 1) := DX7_cycle (20, .aload_n 0, 1) (List.mem_of_getElem? (i := 10) rfl)
theorem dX7_cycle_21 : decode cX7_cycle 21 = .ok (.getfield 57, 3) := DX7_cycle (21, .getfield 57, 3) (List.mem_of_getElem? (i := 11) rfl)
theorem dX7_cycle_24 : decode cX7_cycle 24 = .ok (.getfield 149, 3) := DX7_cycle (24, .getfield 149, 3) (List.mem_of_getElem? (i := 12) rfl)
theorem dX7_cycle_27 : decode cX7_cycle 27 = .ok (.iload_n 1, 1) := DX7_cycle (27, .iload_n 1, 1) (List.mem_of_getElem? (i := 13) rfl)
theorem dX7_cycle_28 : decode cX7_cycle 28 = .ok (.iaload, 1) := DX7_cycle (28, .iaload, 1) (List.mem_of_getElem? (i := 14) rfl)
theorem dX7_cycle_29 : decode cX7_cycle 29 = .ok (.ireturn, 1) := DX7_cycle (29, .ireturn, 1) (List.mem_of_getElem? (i := 15) rfl)
noncomputable def fX7_cycle (a1 : Int32) (σ : Mem) : Option (Int32 × Mem) :=
  (fX3_has a1 σ).bind fun o1 =>
  if o1.1 = 0 then
    some ((-1), o1.2)
  else
    (fX0_refresh o1.2).bind fun o2 =>
    chk (inb a1 30) <|
    some (o2 19 a1.toNatClampNeg, o2)
set_option maxHeartbeats 4000000 in
set_option maxRecDepth 100000 in
theorem mX7_cycle {l : Launch} {D : va_G} {cI : ClassId} {ad : Nat → Nat} {a1 : Int32} {σ : Mem} {out : Int32 × Mem} (h : fX7_cycle a1 σ = some out) : MI l D cI layX ad yX7_cycle cX7_cycle 2 .int rmX7_cycle [.ref (ad 7), .int a1] σ out := by
  refine met_i (by decide) (Nat.le_of_ble_eq_true rfl) (fun E C K0 => ?_)
  show G E rmX7_cycle cI layX ad 2 0 [(0, .ref (ad 7)), (1, .int a1)] [] σ
  unfold fX7_cycle at h
  refine g_aload_n 1 C dX7_cycle_0 rfl (j := 0) rfl rfl ?_
  refine g_getr 4 (j := 0) C rfl rfl wu_X7 (by decide) wf_X7_23 rfl dX7_cycle_1 rfl ?_
  refine g_iload_n 5 C dX7_cycle_4 rfl (j := 1) rfl rfl ?_
  refine g_cni 8 C (As := [.int a1]) (fun _ h => mX3_has (a1 := a1) (σ := σ) h) (List.mem_of_getElem? (i := 9) rfl) wi_X3_has wz_X3_has wc_X3_has wn_X3 qX3_has rfl rfl ⟨Nat.le_of_ble_eq_true rfl, Nat.le_of_ble_eq_true rfl⟩ rfl rfl rfl rfl (Nat.le_of_ble_eq_true rfl) dX7_cycle_5 rfl h (fun o1 h => ?_)
  refine g_if_ne 13 11 C dX7_cycle_8 (by decide) rfl h (fun h => ?_) (fun h => ?_)
  · refine g_iconst 12 (v := (-1)) C dX7_cycle_11 (by decide) rfl ?_
    cases h
    exact K0 _ _ dX7_cycle_12 rfl
  · refine g_aload_n 14 C dX7_cycle_13 rfl (j := 0) rfl rfl ?_
    refine g_getr 17 (j := 4) C rfl rfl wu_X7 (by decide) wf_X7_57 rfl dX7_cycle_14 rfl ?_
    refine g_cnv 20 C (As := []) (fun _ h => mX0_refresh (σ := o1.2) h) (List.mem_of_getElem? (i := 12) rfl) wi_X0_refresh wz_X0_refresh wc_X0_refresh wn_X0 qX0_refresh rfl rfl ⟨Nat.le_of_ble_eq_true rfl, Nat.le_of_ble_eq_true rfl⟩ rfl rfl rfl rfl (Nat.le_of_ble_eq_true rfl) dX7_cycle_17 rfl h (fun o2 h => ?_)
    refine g_aload_n 21 C dX7_cycle_20 rfl (j := 0) rfl rfl ?_
    refine g_getr 24 (j := 4) C rfl rfl wu_X7 (by decide) wf_X7_57 rfl dX7_cycle_21 rfl ?_
    refine g_getrN 27 (j := 3) C rfl rfl wu_X0 (by decide) (List.mem_of_getElem? (i := 36) rfl) rfl dX7_cycle_24 rfl ?_
    refine g_iload_n 28 C dX7_cycle_27 rfl (j := 1) rfl rfl ?_
    refine g_iald 29 C rfl dX7_cycle_28 rfl h (fun h => ?_)
    cases h
    exact K0 _ _ dX7_cycle_29 rfl

/-! LoopReducer.form(II)I -/
abbrev rmX7_form : Room := { frames := 7, cells := 0, slots := 0, locals := 175 }
theorem qX7_form : yX7_form.cls ≠ "java/lang/invoke/MethodHandle" ∧ yX7_form.cls ≠ "java/lang/invoke/VarHandle" ∧ (parseMethodDescriptor yX7_form.desc).map (fun d => d.parameters.length) = some 2 := by decide +kernel
theorem DX7_form : ∀ q ∈ ([(0, .aload_n 0, 1), (1, .getfield 23, 3), (4, .iload_n 1, 1), (5, .invokevirtual 97, 3), (8, .ifCond .ne 5, 3), (11, .iconst (-1), 1), (12, .ireturn, 1), (13, .aload_n 0, 1), (14, .getfield 57, 3), (17, .invokevirtual 146, 3), (20, .aload_n 0, 1), (21, .getfield 48, 3), (24, .iload_n 1, 1), (25, .invokevirtual 152, 3), (28, .istore_n 3, 1), (29, .iload_n 2, 1), (30, .tableswitch 130 0 4 #[34, 44, 62, 81, 112], 34), (64, .aload_n 0, 1), (65, .getfield 57, 3), (68, .getfield 155, 3), (71, .iload_n 1, 1), (72, .iaload, 1), (73, .ireturn, 1), (74, .iload_n 3, 1), (75, .ifCond .eq 14, 3), (78, .aload_n 0, 1), (79, .getfield 48, 3), (82, .iload_n 1, 1), (83, .invokevirtual 158, 3), (86, .goto 5, 3), (89, .bipush (-2), 2), (91, .ireturn, 1), (92, .iload_n 3, 1), (93, .ifCond .eq 15, 3), (96, .aload_n 0, 1), (97, .getfield 48, 3), (100, .getfield 162, 3), (103, .iload_n 1, 1), (104, .iaload, 1), (105, .goto 5, 3), (108, .bipush (-2), 2), (110, .ireturn, 1), (111, .aload_n 0, 1), (112, .getfield 57, 3), (115, .getfield 155, 3), (118, .iload_n 1, 1), (119, .iaload, 1), (120, .iconst 3, 1), (121, .if_icmp .ne 18, 3), (124, .aload_n 0, 1), (125, .getfield 57, 3), (128, .getfield 149, 3), (131, .iload_n 1, 1), (132, .iaload, 1), (133, .invokestatic 165, 3), (136, .goto 5, 3), (139, .bipush (-2), 2), (141, .ireturn, 1), (142, .iload_n 3, 1), (143, .ifCond .eq 14, 3), (146, .aload_n 0, 1), (147, .getfield 57, 3), (150, .iload_n 1, 1), (151, .invokevirtual 170, 3), (154, .goto 5, 3), (157, .bipush (-2), 2), (159, .ireturn, 1), (160, .iconst (-1), 1), (161, .ireturn, 1)] : List (Nat × Instr × Nat)), decode cX7_form q.1 = .ok q.2 := by decide +kernel
theorem dX7_form_0 : decode cX7_form 0 = .ok (.aload_n 0, 1) := DX7_form (0, .aload_n 0, 1) (List.mem_of_getElem? (i := 0) rfl)
theorem dX7_form_1 : decode cX7_form 1 = .ok (.getfield 23, 3) := DX7_form (1, .getfield 23, 3) (List.mem_of_getElem? (i := 1) rfl)
theorem dX7_form_4 : decode cX7_form 4 = .ok (.iload_n 1, 1) := DX7_form (4, .iload_n 1, 1) (List.mem_of_getElem? (i := 2) rfl)
theorem dX7_form_5 : decode cX7_form 5 = .ok (.invokevirtual 97, 3) := DX7_form (5, .invokevirtual 97, 3) (List.mem_of_getElem? (i := 3) rfl)
theorem dX7_form_8 : decode cX7_form 8 = .ok (.ifCond .ne 5, 3) := DX7_form (8, .ifCond .ne 5, 3) (List.mem_of_getElem? (i := 4) rfl)
theorem dX7_form_11 : decode cX7_form 11 = .ok (.iconst (-1), 1) := DX7_form (11, .iconst (-1), 1) (List.mem_of_getElem? (i := 5) rfl)
theorem dX7_form_12 : decode cX7_form 12 = .ok (.ireturn, 1) := DX7_form (12, .ireturn, 1) (List.mem_of_getElem? (i := 6) rfl)
theorem dX7_form_13 : decode cX7_form 13 = .ok (.aload_n 0, 1) := DX7_form (13, .aload_n 0, 1) (List.mem_of_getElem? (i := 7) rfl)
theorem dX7_form_14 : decode cX7_form 14 = .ok (.getfield 57, 3) := DX7_form (14, .getfield 57, 3) (List.mem_of_getElem? (i := 8) rfl)
theorem dX7_form_17 : decode cX7_form 17 = .ok (.invokevirtual 146, 3) := DX7_form (17, .invokevirtual 146, 3) (List.mem_of_getElem? (i := 9) rfl)
theorem dX7_form_20 : decode cX7_form 20 = .ok (.aload_n 0, 1) := DX7_form (20, .aload_n 0, 1) (List.mem_of_getElem? (i := 10) rfl)
theorem dX7_form_21 : decode cX7_form 21 = .ok (.getfield 48, 3) := DX7_form (21, .getfield 48, 3) (List.mem_of_getElem? (i := 11) rfl)
theorem dX7_form_24 : decode cX7_form 24 = .ok (.iload_n 1, 1) := DX7_form (24, .iload_n 1, 1) (List.mem_of_getElem? (i := 12) rfl)
theorem dX7_form_25 : decode cX7_form 25 = .ok (.invokevirtual 152, 3) := DX7_form (25, .invokevirtual 152, 3) (List.mem_of_getElem? (i := 13) rfl)
theorem dX7_form_28 : decode cX7_form 28 = .ok (.istore_n 3, 1) := DX7_form (28, .istore_n 3, 1) (List.mem_of_getElem? (i := 14) rfl)
theorem dX7_form_29 : decode cX7_form 29 = .ok (.iload_n 2, 1) := DX7_form (29, .iload_n 2, 1) (List.mem_of_getElem? (i := 15) rfl)
theorem dX7_form_30 : decode cX7_form 30 = .ok (.tableswitch 130 0 4 #[34, 44, 62, 81, 112], 34) := DX7_form (30, .tableswitch 130 0 4 #[34, 44, 62, 81, 112], 34) (List.mem_of_getElem? (i := 16) rfl)
theorem dX7_form_64 : decode cX7_form 64 = .ok (.aload_n 0, 1) := DX7_form (64, .aload_n 0, 1) (List.mem_of_getElem? (i := 17) rfl)
theorem dX7_form_65 : decode cX7_form 65 = .ok (.getfield 57, 3) := DX7_form (65, .getfield 57, 3) (List.mem_of_getElem? (i := 18) rfl)
theorem dX7_form_68 : decode cX7_form 68 = .ok (.getfield 155, 3) := DX7_form (68, .getfield 155, 3) (List.mem_of_getElem? (i := 19) rfl)
theorem dX7_form_71 : decode cX7_form 71 = .ok (.iload_n 1, 1) := DX7_form (71, .iload_n 1, 1) (List.mem_of_getElem? (i := 20) rfl)
theorem dX7_form_72 : decode cX7_form 72 = .ok (.iaload, 1) := DX7_form (72, .iaload, 1) (List.mem_of_getElem? (i := 21) rfl)
theorem dX7_form_73 : decode cX7_form 73 = .ok (.ireturn, 1) := DX7_form (73, .ireturn, 1) (List.mem_of_getElem? (i := 22) rfl)
theorem dX7_form_74 : decode cX7_form 74 = .ok (.iload_n 3, 1) := DX7_form (74, .iload_n 3, 1) (List.mem_of_getElem? (i := 23) rfl)
theorem dX7_form_75 : decode cX7_form 75 = .ok (.ifCond .eq 14, 3) := DX7_form (75, .ifCond .eq 14, 3) (List.mem_of_getElem? (i := 24) rfl)
theorem dX7_form_78 : decode cX7_form 78 = .ok (.aload_n 0, 1) := DX7_form (78, .aload_n 0, 1) (List.mem_of_getElem? (i := 25) rfl)
theorem dX7_form_79 : decode cX7_form 79 = .ok (.getfield 48, 3) := DX7_form (79, .getfield 48, 3) (List.mem_of_getElem? (i := 26) rfl)
theorem dX7_form_82 : decode cX7_form 82 = .ok (.iload_n 1, 1) := DX7_form (82, .iload_n 1, 1) (List.mem_of_getElem? (i := 27) rfl)
theorem dX7_form_83 : decode cX7_form 83 = .ok (.invokevirtual 158, 3) := DX7_form (83, .invokevirtual 158, 3) (List.mem_of_getElem? (i := 28) rfl)
theorem dX7_form_86 : decode cX7_form 86 = .ok (.goto 5, 3) := DX7_form (86, .goto 5, 3) (List.mem_of_getElem? (i := 29) rfl)
theorem dX7_form_89 : decode cX7_form 89 = .ok (.bipush (-2), 2) := DX7_form (89, .bipush (-2), 2) (List.mem_of_getElem? (i := 30) rfl)
theorem dX7_form_91 : decode cX7_form 91 = .ok (.ireturn, 1) := DX7_form (91, .ireturn, 1) (List.mem_of_getElem? (i := 31) rfl)
theorem dX7_form_92 : decode cX7_form 92 = .ok (.iload_n 3, 1) := DX7_form (92, .iload_n 3, 1) (List.mem_of_getElem? (i := 32) rfl)
theorem dX7_form_93 : decode cX7_form 93 = .ok (.ifCond .eq 15, 3) := DX7_form (93, .ifCond .eq 15, 3) (List.mem_of_getElem? (i := 33) rfl)
theorem dX7_form_96 : decode cX7_form 96 = .ok (.aload_n 0, 1) := DX7_form (96, .aload_n 0, 1) (List.mem_of_getElem? (i := 34) rfl)
theorem dX7_form_97 : decode cX7_form 97 = .ok (.getfield 48, 3) := DX7_form (97, .getfield 48, 3) (List.mem_of_getElem? (i := 35) rfl)
theorem dX7_form_100 : decode cX7_form 100 = .ok (.getfield 162, 3) := DX7_form (100, .getfield 162, 3) (List.mem_of_getElem? (i := 36) rfl)
theorem dX7_form_103 : decode cX7_form 103 = .ok (.iload_n 1, 1) := DX7_form (103, .iload_n 1, 1) (List.mem_of_getElem? (i := 37) rfl)
theorem dX7_form_104 : decode cX7_form 104 = .ok (.iaload, 1) := DX7_form (104, .iaload, 1) (List.mem_of_getElem? (i := 38) rfl)
theorem dX7_form_105 : decode cX7_form 105 = .ok (.goto 5, 3) := DX7_form (105, .goto 5, 3) (List.mem_of_getElem? (i := 39) rfl)
theorem dX7_form_108 : decode cX7_form 108 = .ok (.bipush (-2), 2) := DX7_form (108, .bipush (-2), 2) (List.mem_of_getElem? (i := 40) rfl)
theorem dX7_form_110 : decode cX7_form 110 = .ok (.ireturn, 1) := DX7_form (110, .ireturn, 1) (List.mem_of_getElem? (i := 41) rfl)
theorem dX7_form_111 : decode cX7_form 111 = .ok (.aload_n 0, 1) := DX7_form (111, .aload_n 0, 1) (List.mem_of_getElem? (i := 42) rfl)
theorem dX7_form_112 : decode cX7_form 112 = .ok (.getfield 57, 3) := DX7_form (112, .getfield 57, 3) (List.mem_of_getElem? (i := 43) rfl)
theorem dX7_form_115 : decode cX7_form 115 = .ok (.getfield 155, 3) := DX7_form (115, .getfield 155, 3) (List.mem_of_getElem? (i := 44) rfl)
theorem dX7_form_118 : decode cX7_form 118 = .ok (.iload_n 1, 1) := DX7_form (118, .iload_n 1, 1) (List.mem_of_getElem? (i := 45) rfl)
theorem dX7_form_119 : decode cX7_form 119 = .ok (.iaload, 1) := DX7_form (119, .iaload, 1) (List.mem_of_getElem? (i := 46) rfl)
theorem dX7_form_120 : decode cX7_form 120 = .ok (.iconst 3, 1) := DX7_form (120, .iconst 3, 1) (List.mem_of_getElem? (i := 47) rfl)
theorem dX7_form_121 : decode cX7_form 121 = .ok (.if_icmp .ne 18, 3) := DX7_form (121, .if_icmp .ne 18, 3) (List.mem_of_getElem? (i := 48) rfl)
theorem dX7_form_124 : decode cX7_form 124 = .ok (.aload_n 0, 1) := DX7_form (124, .aload_n 0, 1) (List.mem_of_getElem? (i := 49) rfl)
theorem dX7_form_125 : decode cX7_form 125 = .ok (.getfield 57, 3) := DX7_form (125, .getfield 57, 3) (List.mem_of_getElem? (i := 50) rfl)
theorem dX7_form_128 : decode cX7_form 128 = .ok (.getfield 149, 3) := DX7_form (128, .getfield 149, 3) (List.mem_of_getElem? (i := 51) rfl)
theorem dX7_form_131 : decode cX7_form 131 = .ok (.iload_n 1, 1) := DX7_form (131, .iload_n 1, 1) (List.mem_of_getElem? (i := 52) rfl)
theorem dX7_form_132 : decode cX7_form 132 = .ok (.iaload, 1) := DX7_form (132, .iaload, 1) (List.mem_of_getElem? (i := 53) rfl)
theorem dX7_form_133 : decode cX7_form 133 = .ok (.invokestatic 165, 3) := DX7_form (133, .invokestatic 165, 3) (List.mem_of_getElem? (i := 54) rfl)
theorem dX7_form_136 : decode cX7_form 136 = .ok (.goto 5, 3) := DX7_form (136, .goto 5, 3) (List.mem_of_getElem? (i := 55) rfl)
theorem dX7_form_139 : decode cX7_form 139 = .ok (.bipush (-2), 2) := DX7_form (139, .bipush (-2), 2) (List.mem_of_getElem? (i := 56) rfl)
theorem dX7_form_141 : decode cX7_form 141 = .ok (.ireturn, 1) := DX7_form (141, .ireturn, 1) (List.mem_of_getElem? (i := 57) rfl)
theorem dX7_form_142 : decode cX7_form 142 = .ok (.iload_n 3, 1) := DX7_form (142, .iload_n 3, 1) (List.mem_of_getElem? (i := 58) rfl)
theorem dX7_form_143 : decode cX7_form 143 = .ok (.ifCond .eq 14, 3) := DX7_form (143, .ifCond .eq 14, 3) (List.mem_of_getElem? (i := 59) rfl)
theorem dX7_form_146 : decode cX7_form 146 = .ok (.aload_n 0, 1) := DX7_form (146, .aload_n 0, 1) (List.mem_of_getElem? (i := 60) rfl)
theorem dX7_form_147 : decode cX7_form 147 = .ok (.getfield 57, 3) := DX7_form (147, .getfield 57, 3) (List.mem_of_getElem? (i := 61) rfl)
theorem dX7_form_150 : decode cX7_form 150 = .ok (.iload_n 1, 1) := DX7_form (150, .iload_n 1, 1) (List.mem_of_getElem? (i := 62) rfl)
theorem dX7_form_151 : decode cX7_form 151 = .ok (.invokevirtual 170, 3) := DX7_form (151, .invokevirtual 170, 3) (List.mem_of_getElem? (i := 63) rfl)
theorem dX7_form_154 : decode cX7_form 154 = .ok (.goto 5, 3) := DX7_form (154, .goto 5, 3) (List.mem_of_getElem? (i := 64) rfl)
theorem dX7_form_157 : decode cX7_form 157 = .ok (.bipush (-2), 2) := DX7_form (157, .bipush (-2), 2) (List.mem_of_getElem? (i := 65) rfl)
theorem dX7_form_159 : decode cX7_form 159 = .ok (.ireturn, 1) := DX7_form (159, .ireturn, 1) (List.mem_of_getElem? (i := 66) rfl)
theorem dX7_form_160 : decode cX7_form 160 = .ok (.iconst (-1), 1) := DX7_form (160, .iconst (-1), 1) (List.mem_of_getElem? (i := 67) rfl)
theorem dX7_form_161 : decode cX7_form 161 = .ok (.ireturn, 1) := DX7_form (161, .ireturn, 1) (List.mem_of_getElem? (i := 68) rfl)
noncomputable def fX7_form_L91 (s0 : Int32) (σ : Mem) : Option (Int32 × Mem) :=
  some (s0, σ)
set_option maxHeartbeats 4000000 in
set_option maxRecDepth 100000 in
theorem tX7_form_L91 {E : Gx} {cI : ClassId} {ad : Nat → Nat} (C : Cx E rmX7_form cI layX ad 4 RX7 cX7_form) {out : Int32 × Mem} (K0 : KI E rmX7_form cI layX ad 4 cX7_form .int out) {s0 : Int32} {σ : Mem} (h : fX7_form_L91 s0 σ = some out) : G E rmX7_form cI layX ad 4 91 [] [.int s0] σ := by
  unfold fX7_form_L91 at h
  cases h
  exact K0 _ _ dX7_form_91 rfl
noncomputable def fX7_form_L110 (s0 : Int32) (σ : Mem) : Option (Int32 × Mem) :=
  some (s0, σ)
set_option maxHeartbeats 4000000 in
set_option maxRecDepth 100000 in
theorem tX7_form_L110 {E : Gx} {cI : ClassId} {ad : Nat → Nat} (C : Cx E rmX7_form cI layX ad 4 RX7 cX7_form) {out : Int32 × Mem} (K0 : KI E rmX7_form cI layX ad 4 cX7_form .int out) {s0 : Int32} {σ : Mem} (h : fX7_form_L110 s0 σ = some out) : G E rmX7_form cI layX ad 4 110 [] [.int s0] σ := by
  unfold fX7_form_L110 at h
  cases h
  exact K0 _ _ dX7_form_110 rfl
noncomputable def fX7_form_L141 (s0 : Int32) (σ : Mem) : Option (Int32 × Mem) :=
  some (s0, σ)
set_option maxHeartbeats 4000000 in
set_option maxRecDepth 100000 in
theorem tX7_form_L141 {E : Gx} {cI : ClassId} {ad : Nat → Nat} (C : Cx E rmX7_form cI layX ad 4 RX7 cX7_form) {out : Int32 × Mem} (K0 : KI E rmX7_form cI layX ad 4 cX7_form .int out) {s0 : Int32} {σ : Mem} (h : fX7_form_L141 s0 σ = some out) : G E rmX7_form cI layX ad 4 141 [] [.int s0] σ := by
  unfold fX7_form_L141 at h
  cases h
  exact K0 _ _ dX7_form_141 rfl
noncomputable def fX7_form_L159 (s0 : Int32) (σ : Mem) : Option (Int32 × Mem) :=
  some (s0, σ)
set_option maxHeartbeats 4000000 in
set_option maxRecDepth 100000 in
theorem tX7_form_L159 {E : Gx} {cI : ClassId} {ad : Nat → Nat} (C : Cx E rmX7_form cI layX ad 4 RX7 cX7_form) {out : Int32 × Mem} (K0 : KI E rmX7_form cI layX ad 4 cX7_form .int out) {s0 : Int32} {σ : Mem} (h : fX7_form_L159 s0 σ = some out) : G E rmX7_form cI layX ad 4 159 [] [.int s0] σ := by
  unfold fX7_form_L159 at h
  cases h
  exact K0 _ _ dX7_form_159 rfl
noncomputable def fX7_form (a1 : Int32) (a2 : Int32) (σ : Mem) : Option (Int32 × Mem) :=
  (fX3_has a1 σ).bind fun o1 =>
  if o1.1 = 0 then
    some ((-1), o1.2)
  else
    (fX0_refresh o1.2).bind fun o2 =>
    (fX1_isThere a1 o2).bind fun o3 =>
    if a2 = 0 then
      chk (inb a1 30) <|
      some (o3.2 20 a1.toNatClampNeg, o3.2)
    else if a2 = 1 then
      if o3.1 = 0 then
        fX7_form_L91 (-2) o3.2
      else
        (fX1_degree a1 o3.2).bind fun o4 =>
        fX7_form_L91 o4.1 o4.2
    else if a2 = 2 then
      if o3.1 = 0 then
        fX7_form_L110 (-2) o3.2
      else
        chk (inb a1 31) <|
        fX7_form_L110 (o3.2 17 a1.toNatClampNeg) o3.2
    else if a2 = 3 then
      chk (inb a1 30) <|
      if (o3.2 20 a1.toNatClampNeg) = 3 then
        chk (inb a1 30) <|
        (fJ6_bitCount_0f7a4 (o3.2 19 a1.toNatClampNeg) o3.2).bind fun o5 =>
        fX7_form_L141 o5.1 o5.2
      else
        fX7_form_L141 (-2) o3.2
    else if a2 = 4 then
      if o3.1 = 0 then
        fX7_form_L159 (-2) o3.2
      else
        (fX0_leastAlike a1 o3.2).bind fun o6 =>
        fX7_form_L159 o6.1 o6.2
    else some ((-1), o3.2)
set_option maxHeartbeats 4000000 in
set_option maxRecDepth 100000 in
theorem mX7_form {l : Launch} {D : va_G} {cI : ClassId} {ad : Nat → Nat} {a1 : Int32} {a2 : Int32} {σ : Mem} {out : Int32 × Mem} (h : fX7_form a1 a2 σ = some out) : MI l D cI layX ad yX7_form cX7_form 4 .int rmX7_form [.ref (ad 7), .int a1, .int a2] σ out := by
  refine met_i (by decide) (Nat.le_of_ble_eq_true rfl) (fun E C K0 => ?_)
  show G E rmX7_form cI layX ad 4 0 [(0, .ref (ad 7)), (1, .int a1), (2, .int a2)] [] σ
  unfold fX7_form at h
  refine g_aload_n 1 C dX7_form_0 rfl (j := 0) rfl rfl ?_
  refine g_getr 4 (j := 0) C rfl rfl wu_X7 (by decide) wf_X7_23 rfl dX7_form_1 rfl ?_
  refine g_iload_n 5 C dX7_form_4 rfl (j := 1) rfl rfl ?_
  refine g_cni 8 C (As := [.int a1]) (fun _ h => mX3_has (a1 := a1) (σ := σ) h) (List.mem_of_getElem? (i := 9) rfl) wi_X3_has wz_X3_has wc_X3_has wn_X3 qX3_has rfl rfl ⟨Nat.le_of_ble_eq_true rfl, Nat.le_of_ble_eq_true rfl⟩ rfl rfl rfl rfl (Nat.le_of_ble_eq_true rfl) dX7_form_5 rfl h (fun o1 h => ?_)
  refine g_if_ne 13 11 C dX7_form_8 (by decide) rfl h (fun h => ?_) (fun h => ?_)
  · refine g_iconst 12 (v := (-1)) C dX7_form_11 (by decide) rfl ?_
    cases h
    exact K0 _ _ dX7_form_12 rfl
  · refine g_aload_n 14 C dX7_form_13 rfl (j := 0) rfl rfl ?_
    refine g_getr 17 (j := 4) C rfl rfl wu_X7 (by decide) wf_X7_57 rfl dX7_form_14 rfl ?_
    refine g_cnv 20 C (As := []) (fun _ h => mX0_refresh (σ := o1.2) h) (List.mem_of_getElem? (i := 12) rfl) wi_X0_refresh wz_X0_refresh wc_X0_refresh wn_X0 qX0_refresh rfl rfl ⟨Nat.le_of_ble_eq_true rfl, Nat.le_of_ble_eq_true rfl⟩ rfl rfl rfl rfl (Nat.le_of_ble_eq_true rfl) dX7_form_17 rfl h (fun o2 h => ?_)
    refine g_aload_n 21 C dX7_form_20 rfl (j := 0) rfl rfl ?_
    refine g_getr 24 (j := 3) C rfl rfl wu_X7 (by decide) wf_X7_48 rfl dX7_form_21 rfl ?_
    refine g_iload_n 25 C dX7_form_24 rfl (j := 1) rfl rfl ?_
    refine g_cni 28 C (As := [.int a1]) (fun _ h => mX1_isThere (a1 := a1) (σ := o2) h) (List.mem_of_getElem? (i := 31) rfl) wi_X1_isThere wz_X1_isThere wc_X1_isThere wn_X1 qX1_isThere rfl rfl ⟨Nat.le_of_ble_eq_true rfl, Nat.le_of_ble_eq_true rfl⟩ rfl rfl rfl rfl (Nat.le_of_ble_eq_true rfl) dX7_form_25 rfl h (fun o3 h => ?_)
    refine g_istore_n 29 [(3, .int o3.1), (0, .ref (ad 7)), (1, .int a1), (2, .int a2)] C dX7_form_28 rfl (by decide) rfl rfl ?_
    refine g_iload_n 30 C dX7_form_29 rfl (j := 3) rfl rfl ?_
    by_cases c0 : a2 = 0
    · rw [if_pos c0] at h
      refine g_tswC 64 (off := 34) C dX7_form_30 c0 (by decide) (by decide) (by decide) (by decide) ?_
      refine g_aload_n 65 C dX7_form_64 rfl (j := 1) rfl rfl ?_
      refine g_getr 68 (j := 4) C rfl rfl wu_X7 (by decide) wf_X7_57 rfl dX7_form_65 rfl ?_
      refine g_getrN 71 (j := 4) C rfl rfl wu_X0 (by decide) (List.mem_of_getElem? (i := 39) rfl) rfl dX7_form_68 rfl ?_
      refine g_iload_n 72 C dX7_form_71 rfl (j := 2) rfl rfl ?_
      refine g_iald 73 C rfl dX7_form_72 rfl h (fun h => ?_)
      cases h
      exact K0 _ _ dX7_form_73 rfl
    rw [if_neg c0] at h
    by_cases c1 : a2 = 1
    · rw [if_pos c1] at h
      refine g_tswC 74 (off := 44) C dX7_form_30 c1 (by decide) (by decide) (by decide) (by decide) ?_
      refine g_iload_n 75 C dX7_form_74 rfl (j := 0) rfl rfl ?_
      refine g_if_eq 89 78 C dX7_form_75 (by decide) rfl h (fun h => ?_) (fun h => ?_)
      · refine g_bipush 91 (v := (-2)) C dX7_form_89 (by decide) rfl ?_
        exact g_sub [] (tX7_form_L91 (s0 := (-2)) (σ := o3.2) C K0 h) rfl
      · refine g_aload_n 79 C dX7_form_78 rfl (j := 1) rfl rfl ?_
        refine g_getr 82 (j := 3) C rfl rfl wu_X7 (by decide) wf_X7_48 rfl dX7_form_79 rfl ?_
        refine g_iload_n 83 C dX7_form_82 rfl (j := 2) rfl rfl ?_
        refine g_cni 86 C (As := [.int a1]) (fun _ h => mX1_degree (a1 := a1) (σ := o3.2) h) (List.mem_of_getElem? (i := 32) rfl) wi_X1_degree wz_X1_degree wc_X1_degree wn_X1 qX1_degree rfl rfl ⟨Nat.le_of_ble_eq_true rfl, Nat.le_of_ble_eq_true rfl⟩ rfl rfl rfl rfl (Nat.le_of_ble_eq_true rfl) dX7_form_83 rfl h (fun o4 h => ?_)
        refine g_goto 91 C dX7_form_86 (by decide) ?_
        exact g_sub [] (tX7_form_L91 (s0 := o4.1) (σ := o4.2) C K0 h) rfl
    rw [if_neg c1] at h
    by_cases c2 : a2 = 2
    · rw [if_pos c2] at h
      refine g_tswC 92 (off := 62) C dX7_form_30 c2 (by decide) (by decide) (by decide) (by decide) ?_
      refine g_iload_n 93 C dX7_form_92 rfl (j := 0) rfl rfl ?_
      refine g_if_eq 108 96 C dX7_form_93 (by decide) rfl h (fun h => ?_) (fun h => ?_)
      · refine g_bipush 110 (v := (-2)) C dX7_form_108 (by decide) rfl ?_
        exact g_sub [] (tX7_form_L110 (s0 := (-2)) (σ := o3.2) C K0 h) rfl
      · refine g_aload_n 97 C dX7_form_96 rfl (j := 1) rfl rfl ?_
        refine g_getr 100 (j := 3) C rfl rfl wu_X7 (by decide) wf_X7_48 rfl dX7_form_97 rfl ?_
        refine g_getrN 103 (j := 2) C rfl rfl wu_X1 (by decide) (List.mem_of_getElem? (i := 35) rfl) rfl dX7_form_100 rfl ?_
        refine g_iload_n 104 C dX7_form_103 rfl (j := 2) rfl rfl ?_
        refine g_iald 105 C rfl dX7_form_104 rfl h (fun h => ?_)
        refine g_goto 110 C dX7_form_105 (by decide) ?_
        exact g_sub [] (tX7_form_L110 (s0 := (o3.2 17 a1.toNatClampNeg)) (σ := o3.2) C K0 h) rfl
    rw [if_neg c2] at h
    by_cases c3 : a2 = 3
    · rw [if_pos c3] at h
      refine g_tswC 111 (off := 81) C dX7_form_30 c3 (by decide) (by decide) (by decide) (by decide) ?_
      refine g_aload_n 112 C dX7_form_111 rfl (j := 1) rfl rfl ?_
      refine g_getr 115 (j := 4) C rfl rfl wu_X7 (by decide) wf_X7_57 rfl dX7_form_112 rfl ?_
      refine g_getrN 118 (j := 4) C rfl rfl wu_X0 (by decide) (List.mem_of_getElem? (i := 39) rfl) rfl dX7_form_115 rfl ?_
      refine g_iload_n 119 C dX7_form_118 rfl (j := 2) rfl rfl ?_
      refine g_iald 120 C rfl dX7_form_119 rfl h (fun h => ?_)
      refine g_iconst 121 (v := 3) C dX7_form_120 (by decide) rfl ?_
      refine g_icmp_ne 139 124 C dX7_form_121 (by decide) rfl h (fun h => ?_) (fun h => ?_)
      · refine g_aload_n 125 C dX7_form_124 rfl (j := 1) rfl rfl ?_
        refine g_getr 128 (j := 4) C rfl rfl wu_X7 (by decide) wf_X7_57 rfl dX7_form_125 rfl ?_
        refine g_getrN 131 (j := 3) C rfl rfl wu_X0 (by decide) (List.mem_of_getElem? (i := 36) rfl) rfl dX7_form_128 rfl ?_
        refine g_iload_n 132 C dX7_form_131 rfl (j := 2) rfl rfl ?_
        refine g_iald 133 C rfl dX7_form_132 rfl h (fun h => ?_)
        refine g_csi 136 C (As := [.int (o3.2 19 a1.toNatClampNeg)]) (fun _ h => mJ6_bitCount_0f7a4 (a1 := o3.2 19 a1.toNatClampNeg) (σ := o3.2) h) wl_X7_165 ws_J6_bitCount_0f7a4 wc_J6_bitCount_0f7a4 wn_J6 qJ6_bitCount_0f7a4 rfl rfl ⟨Nat.le_of_ble_eq_true rfl, Nat.le_of_ble_eq_true rfl⟩ rfl rfl (Nat.le_of_ble_eq_true rfl) dX7_form_133 rfl h (fun o5 h => ?_)
        refine g_goto 141 C dX7_form_136 (by decide) ?_
        exact g_sub [] (tX7_form_L141 (s0 := o5.1) (σ := o5.2) C K0 h) rfl
      · refine g_bipush 141 (v := (-2)) C dX7_form_139 (by decide) rfl ?_
        exact g_sub [] (tX7_form_L141 (s0 := (-2)) (σ := o3.2) C K0 h) rfl
    rw [if_neg c3] at h
    by_cases c4 : a2 = 4
    · rw [if_pos c4] at h
      refine g_tswC 142 (off := 112) C dX7_form_30 c4 (by decide) (by decide) (by decide) (by decide) ?_
      refine g_iload_n 143 C dX7_form_142 rfl (j := 0) rfl rfl ?_
      refine g_if_eq 157 146 C dX7_form_143 (by decide) rfl h (fun h => ?_) (fun h => ?_)
      · refine g_bipush 159 (v := (-2)) C dX7_form_157 (by decide) rfl ?_
        exact g_sub [] (tX7_form_L159 (s0 := (-2)) (σ := o3.2) C K0 h) rfl
      · refine g_aload_n 147 C dX7_form_146 rfl (j := 1) rfl rfl ?_
        refine g_getr 150 (j := 4) C rfl rfl wu_X7 (by decide) wf_X7_57 rfl dX7_form_147 rfl ?_
        refine g_iload_n 151 C dX7_form_150 rfl (j := 2) rfl rfl ?_
        refine g_cni 154 C (As := [.int a1]) (fun _ h => mX0_leastAlike (a1 := a1) (σ := o3.2) h) (List.mem_of_getElem? (i := 33) rfl) wi_X0_leastAlike wz_X0_leastAlike wc_X0_leastAlike wn_X0 qX0_leastAlike rfl rfl ⟨Nat.le_of_ble_eq_true rfl, Nat.le_of_ble_eq_true rfl⟩ rfl rfl rfl rfl (Nat.le_of_ble_eq_true rfl) dX7_form_151 rfl h (fun o6 h => ?_)
        refine g_goto 159 C dX7_form_154 (by decide) ?_
        exact g_sub [] (tX7_form_L159 (s0 := o6.1) (σ := o6.2) C K0 h) rfl
    rw [if_neg c4] at h
    have hout : a2.toInt < 0 ∨ 4 < a2.toInt := by
      have n0 : ¬ a2.toInt = 0 := ne_toInt c0
      have n1 : ¬ a2.toInt = 1 := ne_toInt c1
      have n2 : ¬ a2.toInt = 2 := ne_toInt c2
      have n3 : ¬ a2.toInt = 3 := ne_toInt c3
      have n4 : ¬ a2.toInt = 4 := ne_toInt c4
      omega
    refine g_tswD 160 C dX7_form_30 hout (by decide) ?_
    refine g_iconst 161 (v := (-1)) C dX7_form_160 (by decide) rfl ?_
    cases h
    exact K0 _ _ dX7_form_161 rfl

/-! LoopReducer.poly(IIII)I -/
abbrev rmX7_poly : Room := { frames := 7, cells := 0, slots := 0, locals := 175 }
theorem qX7_poly : yX7_poly.cls ≠ "java/lang/invoke/MethodHandle" ∧ yX7_poly.cls ≠ "java/lang/invoke/VarHandle" ∧ (parseMethodDescriptor yX7_poly.desc).map (fun d => d.parameters.length) = some 4 := by decide +kernel
theorem DX7_poly : ∀ q ∈ ([(0, .aload_n 0, 1), (1, .getfield 57, 3), (4, .invokevirtual 146, 3), (7, .aload_n 0, 1), (8, .iload_n 1, 1), (9, .iload_n 2, 1), (10, .invokevirtual 173, 3), (13, .ifCond .ne 5, 3), (16, .iconst (-1), 1), (17, .ireturn, 1), (18, .iload_n 1, 1), (19, .iconst 4, 1), (20, .imul, 1), (21, .iload_n 2, 1), (22, .iadd, 1), (23, .istore 5, 2), (25, .iload_n 3, 1), (26, .iconst (-1), 1), (27, .if_icmp .ne 13, 3), (30, .aload_n 0, 1), (31, .getfield 39, 3), (34, .iload 5, 2), (36, .invokevirtual 176, 3), (39, .ireturn, 1), (40, .aload_n 0, 1), (41, .getfield 39, 3), (44, .iload 5, 2), (46, .iload_n 3, 1), (47, .invokevirtual 179, 3), (50, .istore 6, 2), (52, .iload 6, 2), (54, .iconst (-1), 1), (55, .if_icmp .eq 14, 3), (58, .iload 4, 2), (60, .ifCond .lt 9, 3), (63, .iload 4, 2), (65, .iconst 3, 1), (66, .if_icmp .le 5, 3), (69, .iconst (-1), 1), (70, .ireturn, 1), (71, .iload 4, 2), (73, .iconst 3, 1), (74, .if_icmp .ne 17, 3), (77, .aload_n 0, 1), (78, .getfield 39, 3), (81, .iload 5, 2), (83, .iload 6, 2), (85, .invokevirtual 182, 3), (88, .goto 14, 3), (91, .aload_n 0, 1), (92, .getfield 30, 3), (95, .iload 6, 2), (97, .iload 4, 2), (99, .invokevirtual 185, 3), (102, .ireturn, 1)] : List (Nat × Instr × Nat)), decode cX7_poly q.1 = .ok q.2 := by decide +kernel
theorem dX7_poly_0 : decode cX7_poly 0 = .ok (.aload_n 0, 1) := DX7_poly (0, .aload_n 0, 1) (List.mem_of_getElem? (i := 0) rfl)
theorem dX7_poly_1 : decode cX7_poly 1 = .ok (.getfield 57, 3) := DX7_poly (1, .getfield 57, 3) (List.mem_of_getElem? (i := 1) rfl)
theorem dX7_poly_4 : decode cX7_poly 4 = .ok (.invokevirtual 146, 3) := DX7_poly (4, .invokevirtual 146, 3) (List.mem_of_getElem? (i := 2) rfl)
theorem dX7_poly_7 : decode cX7_poly 7 = .ok (.aload_n 0, 1) := DX7_poly (7, .aload_n 0, 1) (List.mem_of_getElem? (i := 3) rfl)
theorem dX7_poly_8 : decode cX7_poly 8 = .ok (.iload_n 1, 1) := DX7_poly (8, .iload_n 1, 1) (List.mem_of_getElem? (i := 4) rfl)
theorem dX7_poly_9 : decode cX7_poly 9 = .ok (.iload_n 2, 1) := DX7_poly (9, .iload_n 2, 1) (List.mem_of_getElem? (i := 5) rfl)
theorem dX7_poly_10 : decode cX7_poly 10 = .ok (.invokevirtual 173, 3) := DX7_poly (10, .invokevirtual 173, 3) (List.mem_of_getElem? (i := 6) rfl)
theorem dX7_poly_13 : decode cX7_poly 13 = .ok (.ifCond .ne 5, 3) := DX7_poly (13, .ifCond .ne 5, 3) (List.mem_of_getElem? (i := 7) rfl)
theorem dX7_poly_16 : decode cX7_poly 16 = .ok (.iconst (-1), 1) := DX7_poly (16, .iconst (-1), 1) (List.mem_of_getElem? (i := 8) rfl)
theorem dX7_poly_17 : decode cX7_poly 17 = .ok (.ireturn, 1) := DX7_poly (17, .ireturn, 1) (List.mem_of_getElem? (i := 9) rfl)
theorem dX7_poly_18 : decode cX7_poly 18 = .ok (.iload_n 1, 1) := DX7_poly (18, .iload_n 1, 1) (List.mem_of_getElem? (i := 10) rfl)
theorem dX7_poly_19 : decode cX7_poly 19 = .ok (.iconst 4, 1) := DX7_poly (19, .iconst 4, 1) (List.mem_of_getElem? (i := 11) rfl)
theorem dX7_poly_20 : decode cX7_poly 20 = .ok (.imul, 1) := DX7_poly (20, .imul, 1) (List.mem_of_getElem? (i := 12) rfl)
theorem dX7_poly_21 : decode cX7_poly 21 = .ok (.iload_n 2, 1) := DX7_poly (21, .iload_n 2, 1) (List.mem_of_getElem? (i := 13) rfl)
theorem dX7_poly_22 : decode cX7_poly 22 = .ok (.iadd, 1) := DX7_poly (22, .iadd, 1) (List.mem_of_getElem? (i := 14) rfl)
theorem dX7_poly_23 : decode cX7_poly 23 = .ok (.istore 5, 2) := DX7_poly (23, .istore 5, 2) (List.mem_of_getElem? (i := 15) rfl)
theorem dX7_poly_25 : decode cX7_poly 25 = .ok (.iload_n 3, 1) := DX7_poly (25, .iload_n 3, 1) (List.mem_of_getElem? (i := 16) rfl)
theorem dX7_poly_26 : decode cX7_poly 26 = .ok (.iconst (-1), 1) := DX7_poly (26, .iconst (-1), 1) (List.mem_of_getElem? (i := 17) rfl)
theorem dX7_poly_27 : decode cX7_poly 27 = .ok (.if_icmp .ne 13, 3) := DX7_poly (27, .if_icmp .ne 13, 3) (List.mem_of_getElem? (i := 18) rfl)
theorem dX7_poly_30 : decode cX7_poly 30 = .ok (.aload_n 0, 1) := DX7_poly (30, .aload_n 0, 1) (List.mem_of_getElem? (i := 19) rfl)
theorem dX7_poly_31 : decode cX7_poly 31 = .ok (.getfield 39, 3) := DX7_poly (31, .getfield 39, 3) (List.mem_of_getElem? (i := 20) rfl)
theorem dX7_poly_34 : decode cX7_poly 34 = .ok (.iload 5, 2) := DX7_poly (34, .iload 5, 2) (List.mem_of_getElem? (i := 21) rfl)
theorem dX7_poly_36 : decode cX7_poly 36 = .ok (.invokevirtual 176, 3) := DX7_poly (36, .invokevirtual 176, 3) (List.mem_of_getElem? (i := 22) rfl)
theorem dX7_poly_39 : decode cX7_poly 39 = .ok (.ireturn, 1) := DX7_poly (39, .ireturn, 1) (List.mem_of_getElem? (i := 23) rfl)
theorem dX7_poly_40 : decode cX7_poly 40 = .ok (.aload_n 0, 1) := DX7_poly (40, .aload_n 0, 1) (List.mem_of_getElem? (i := 24) rfl)
theorem dX7_poly_41 : decode cX7_poly 41 = .ok (.getfield 39, 3) := DX7_poly (41, .getfield 39, 3) (List.mem_of_getElem? (i := 25) rfl)
theorem dX7_poly_44 : decode cX7_poly 44 = .ok (.iload 5, 2) := DX7_poly (44, .iload 5, 2) (List.mem_of_getElem? (i := 26) rfl)
theorem dX7_poly_46 : decode cX7_poly 46 = .ok (.iload_n 3, 1) := DX7_poly (46, .iload_n 3, 1) (List.mem_of_getElem? (i := 27) rfl)
theorem dX7_poly_47 : decode cX7_poly 47 = .ok (.invokevirtual 179, 3) := DX7_poly (47, .invokevirtual 179, 3) (List.mem_of_getElem? (i := 28) rfl)
theorem dX7_poly_50 : decode cX7_poly 50 = .ok (.istore 6, 2) := DX7_poly (50, .istore 6, 2) (List.mem_of_getElem? (i := 29) rfl)
theorem dX7_poly_52 : decode cX7_poly 52 = .ok (.iload 6, 2) := DX7_poly (52, .iload 6, 2) (List.mem_of_getElem? (i := 30) rfl)
theorem dX7_poly_54 : decode cX7_poly 54 = .ok (.iconst (-1), 1) := DX7_poly (54, .iconst (-1), 1) (List.mem_of_getElem? (i := 31) rfl)
theorem dX7_poly_55 : decode cX7_poly 55 = .ok (.if_icmp .eq 14, 3) := DX7_poly (55, .if_icmp .eq 14, 3) (List.mem_of_getElem? (i := 32) rfl)
theorem dX7_poly_58 : decode cX7_poly 58 = .ok (.iload 4, 2) := DX7_poly (58, .iload 4, 2) (List.mem_of_getElem? (i := 33) rfl)
theorem dX7_poly_60 : decode cX7_poly 60 = .ok (.ifCond .lt 9, 3) := DX7_poly (60, .ifCond .lt 9, 3) (List.mem_of_getElem? (i := 34) rfl)
theorem dX7_poly_63 : decode cX7_poly 63 = .ok (.iload 4, 2) := DX7_poly (63, .iload 4, 2) (List.mem_of_getElem? (i := 35) rfl)
theorem dX7_poly_65 : decode cX7_poly 65 = .ok (.iconst 3, 1) := DX7_poly (65, .iconst 3, 1) (List.mem_of_getElem? (i := 36) rfl)
theorem dX7_poly_66 : decode cX7_poly 66 = .ok (.if_icmp .le 5, 3) := DX7_poly (66, .if_icmp .le 5, 3) (List.mem_of_getElem? (i := 37) rfl)
theorem dX7_poly_69 : decode cX7_poly 69 = .ok (.iconst (-1), 1) := DX7_poly (69, .iconst (-1), 1) (List.mem_of_getElem? (i := 38) rfl)
theorem dX7_poly_70 : decode cX7_poly 70 = .ok (.ireturn, 1) := DX7_poly (70, .ireturn, 1) (List.mem_of_getElem? (i := 39) rfl)
theorem dX7_poly_71 : decode cX7_poly 71 = .ok (.iload 4, 2) := DX7_poly (71, .iload 4, 2) (List.mem_of_getElem? (i := 40) rfl)
theorem dX7_poly_73 : decode cX7_poly 73 = .ok (.iconst 3, 1) := DX7_poly (73, .iconst 3, 1) (List.mem_of_getElem? (i := 41) rfl)
theorem dX7_poly_74 : decode cX7_poly 74 = .ok (.if_icmp .ne 17, 3) := DX7_poly (74, .if_icmp .ne 17, 3) (List.mem_of_getElem? (i := 42) rfl)
theorem dX7_poly_77 : decode cX7_poly 77 = .ok (.aload_n 0, 1) := DX7_poly (77, .aload_n 0, 1) (List.mem_of_getElem? (i := 43) rfl)
theorem dX7_poly_78 : decode cX7_poly 78 = .ok (.getfield 39, 3) := DX7_poly (78, .getfield 39, 3) (List.mem_of_getElem? (i := 44) rfl)
theorem dX7_poly_81 : decode cX7_poly 81 = .ok (.iload 5, 2) := DX7_poly (81, .iload 5, 2) (List.mem_of_getElem? (i := 45) rfl)
theorem dX7_poly_83 : decode cX7_poly 83 = .ok (.iload 6, 2) := DX7_poly (83, .iload 6, 2) (List.mem_of_getElem? (i := 46) rfl)
theorem dX7_poly_85 : decode cX7_poly 85 = .ok (.invokevirtual 182, 3) := DX7_poly (85, .invokevirtual 182, 3) (List.mem_of_getElem? (i := 47) rfl)
theorem dX7_poly_88 : decode cX7_poly 88 = .ok (.goto 14, 3) := DX7_poly (88, .goto 14, 3) (List.mem_of_getElem? (i := 48) rfl)
theorem dX7_poly_91 : decode cX7_poly 91 = .ok (.aload_n 0, 1) := DX7_poly (91, .aload_n 0, 1) (List.mem_of_getElem? (i := 49) rfl)
theorem dX7_poly_92 : decode cX7_poly 92 = .ok (.getfield 30, 3) := DX7_poly (92, .getfield 30, 3) (List.mem_of_getElem? (i := 50) rfl)
theorem dX7_poly_95 : decode cX7_poly 95 = .ok (.iload 6, 2) := DX7_poly (95, .iload 6, 2) (List.mem_of_getElem? (i := 51) rfl)
theorem dX7_poly_97 : decode cX7_poly 97 = .ok (.iload 4, 2) := DX7_poly (97, .iload 4, 2) (List.mem_of_getElem? (i := 52) rfl)
theorem dX7_poly_99 : decode cX7_poly 99 = .ok (.invokevirtual 185, 3) := DX7_poly (99, .invokevirtual 185, 3) (List.mem_of_getElem? (i := 53) rfl)
theorem dX7_poly_102 : decode cX7_poly 102 = .ok (.ireturn, 1) := DX7_poly (102, .ireturn, 1) (List.mem_of_getElem? (i := 54) rfl)
noncomputable def fX7_poly_L69 (σ : Mem) : Option (Int32 × Mem) :=
  some ((-1), σ)
set_option maxHeartbeats 4000000 in
set_option maxRecDepth 100000 in
theorem tX7_poly_L69 {E : Gx} {cI : ClassId} {ad : Nat → Nat} (C : Cx E rmX7_poly cI layX ad 7 RX7 cX7_poly) {out : Int32 × Mem} (K0 : KI E rmX7_poly cI layX ad 7 cX7_poly .int out) {σ : Mem} (h : fX7_poly_L69 σ = some out) : G E rmX7_poly cI layX ad 7 69 [] [] σ := by
  unfold fX7_poly_L69 at h
  refine g_iconst 70 (v := (-1)) C dX7_poly_69 (by decide) rfl ?_
  cases h
  exact K0 _ _ dX7_poly_70 rfl
noncomputable def fX7_poly_L102 (s0 : Int32) (σ : Mem) : Option (Int32 × Mem) :=
  some (s0, σ)
set_option maxHeartbeats 4000000 in
set_option maxRecDepth 100000 in
theorem tX7_poly_L102 {E : Gx} {cI : ClassId} {ad : Nat → Nat} (C : Cx E rmX7_poly cI layX ad 7 RX7 cX7_poly) {out : Int32 × Mem} (K0 : KI E rmX7_poly cI layX ad 7 cX7_poly .int out) {s0 : Int32} {σ : Mem} (h : fX7_poly_L102 s0 σ = some out) : G E rmX7_poly cI layX ad 7 102 [] [.int s0] σ := by
  unfold fX7_poly_L102 at h
  cases h
  exact K0 _ _ dX7_poly_102 rfl
noncomputable def fX7_poly (a1 : Int32) (a2 : Int32) (a3 : Int32) (a4 : Int32) (σ : Mem) : Option (Int32 × Mem) :=
  (fX0_refresh σ).bind fun o1 =>
  (fX7_hasPoly a1 a2 o1).bind fun o2 =>
  if o2.1 = 0 then
    some ((-1), o2.2)
  else
    if a3 = (-1) then
      (fX5_amount ((a1 * 4) + a2) o2.2).bind fun o6 =>
      some (o6.1, o6.2)
    else
      (fX5_placeOf ((a1 * 4) + a2) a3 o2.2).bind fun o3 =>
      if o3.1 = (-1) then
        fX7_poly_L69 o3.2
      else
        if a4 < 0 then
          fX7_poly_L69 o3.2
        else
          if a4 ≤ 3 then
            if a4 = 3 then
              (fX5_factorAt ((a1 * 4) + a2) o3.1 o3.2).bind fun o5 =>
              fX7_poly_L102 o5.1 o5.2
            else
              (fX2_exponent o3.1 a4 o3.2).bind fun o4 =>
              fX7_poly_L102 o4.1 o4.2
          else
            fX7_poly_L69 o3.2
set_option maxHeartbeats 4000000 in
set_option maxRecDepth 100000 in
theorem mX7_poly {l : Launch} {D : va_G} {cI : ClassId} {ad : Nat → Nat} {a1 : Int32} {a2 : Int32} {a3 : Int32} {a4 : Int32} {σ : Mem} {out : Int32 × Mem} (h : fX7_poly a1 a2 a3 a4 σ = some out) : MI l D cI layX ad yX7_poly cX7_poly 7 .int rmX7_poly [.ref (ad 7), .int a1, .int a2, .int a3, .int a4] σ out := by
  refine met_i (by decide) (Nat.le_of_ble_eq_true rfl) (fun E C K0 => ?_)
  show G E rmX7_poly cI layX ad 7 0 [(0, .ref (ad 7)), (1, .int a1), (2, .int a2), (3, .int a3), (4, .int a4)] [] σ
  unfold fX7_poly at h
  refine g_aload_n 1 C dX7_poly_0 rfl (j := 0) rfl rfl ?_
  refine g_getr 4 (j := 4) C rfl rfl wu_X7 (by decide) wf_X7_57 rfl dX7_poly_1 rfl ?_
  refine g_cnv 7 C (As := []) (fun _ h => mX0_refresh (σ := σ) h) (List.mem_of_getElem? (i := 12) rfl) wi_X0_refresh wz_X0_refresh wc_X0_refresh wn_X0 qX0_refresh rfl rfl ⟨Nat.le_of_ble_eq_true rfl, Nat.le_of_ble_eq_true rfl⟩ rfl rfl rfl rfl (Nat.le_of_ble_eq_true rfl) dX7_poly_4 rfl h (fun o1 h => ?_)
  refine g_aload_n 8 C dX7_poly_7 rfl (j := 0) rfl rfl ?_
  refine g_iload_n 9 C dX7_poly_8 rfl (j := 1) rfl rfl ?_
  refine g_iload_n 10 C dX7_poly_9 rfl (j := 2) rfl rfl ?_
  refine g_cvi 13 C (As := [.int a1, .int a2]) (fun _ h => mX7_hasPoly (a1 := a1) (a2 := a2) (σ := o1) h) wl_X7_173 wi_X7_hasPoly wz_X7_hasPoly wc_X7_hasPoly wn_X7 qX7_hasPoly rfl rfl ⟨Nat.le_of_ble_eq_true rfl, Nat.le_of_ble_eq_true rfl⟩ rfl rfl rfl rfl (Nat.le_of_ble_eq_true rfl) dX7_poly_10 rfl h (fun o2 h => ?_)
  refine g_if_ne 18 16 C dX7_poly_13 (by decide) rfl h (fun h => ?_) (fun h => ?_)
  · refine g_iconst 17 (v := (-1)) C dX7_poly_16 (by decide) rfl ?_
    cases h
    exact K0 _ _ dX7_poly_17 rfl
  · refine g_iload_n 19 C dX7_poly_18 rfl (j := 1) rfl rfl ?_
    refine g_iconst 20 (v := 4) C dX7_poly_19 (by decide) rfl ?_
    refine g_imul 21 C dX7_poly_20 rfl ?_
    refine g_iload_n 22 C dX7_poly_21 rfl (j := 2) rfl rfl ?_
    refine g_iadd 23 C dX7_poly_22 rfl ?_
    refine g_istore 25 [(5, .int ((a1 * 4) + a2)), (0, .ref (ad 7)), (1, .int a1), (2, .int a2), (3, .int a3), (4, .int a4)] C dX7_poly_23 (by decide) rfl rfl ?_
    refine g_iload_n 26 C dX7_poly_25 rfl (j := 4) rfl rfl ?_
    refine g_iconst 27 (v := (-1)) C dX7_poly_26 (by decide) rfl ?_
    refine g_icmp_ne 40 30 C dX7_poly_27 (by decide) rfl h (fun h => ?_) (fun h => ?_)
    · refine g_aload_n 31 C dX7_poly_30 rfl (j := 1) rfl rfl ?_
      refine g_getr 34 (j := 2) C rfl rfl wu_X7 (by decide) wf_X7_39 rfl dX7_poly_31 rfl ?_
      refine g_iload 36 C dX7_poly_34 (j := 0) rfl rfl ?_
      refine g_cni 39 C (As := [.int ((a1 * 4) + a2)]) (fun _ h => mX5_amount (a1 := (a1 * 4) + a2) (σ := o2.2) h) (List.mem_of_getElem? (i := 35) rfl) wi_X5_amount wz_X5_amount wc_X5_amount wn_X5 qX5_amount rfl rfl ⟨Nat.le_of_ble_eq_true rfl, Nat.le_of_ble_eq_true rfl⟩ rfl rfl rfl rfl (Nat.le_of_ble_eq_true rfl) dX7_poly_36 rfl h (fun o6 h => ?_)
      cases h
      exact K0 _ _ dX7_poly_39 rfl
    · refine g_aload_n 41 C dX7_poly_40 rfl (j := 1) rfl rfl ?_
      refine g_getr 44 (j := 2) C rfl rfl wu_X7 (by decide) wf_X7_39 rfl dX7_poly_41 rfl ?_
      refine g_iload 46 C dX7_poly_44 (j := 0) rfl rfl ?_
      refine g_iload_n 47 C dX7_poly_46 rfl (j := 4) rfl rfl ?_
      refine g_cni 50 C (As := [.int ((a1 * 4) + a2), .int a3]) (fun _ h => mX5_placeOf (a1 := (a1 * 4) + a2) (a2 := a3) (σ := o2.2) h) (List.mem_of_getElem? (i := 36) rfl) wi_X5_placeOf wz_X5_placeOf wc_X5_placeOf wn_X5 qX5_placeOf rfl rfl ⟨Nat.le_of_ble_eq_true rfl, Nat.le_of_ble_eq_true rfl⟩ rfl rfl rfl rfl (Nat.le_of_ble_eq_true rfl) dX7_poly_47 rfl h (fun o3 h => ?_)
      refine g_istore 52 [(6, .int o3.1), (5, .int ((a1 * 4) + a2)), (0, .ref (ad 7)), (1, .int a1), (2, .int a2), (3, .int a3), (4, .int a4)] C dX7_poly_50 (by decide) rfl rfl ?_
      refine g_iload 54 C dX7_poly_52 (j := 0) rfl rfl ?_
      refine g_iconst 55 (v := (-1)) C dX7_poly_54 (by decide) rfl ?_
      refine g_icmp_eq 69 58 C dX7_poly_55 (by decide) rfl h (fun h => ?_) (fun h => ?_)
      · exact g_sub [] (tX7_poly_L69 (σ := o3.2) C K0 h) rfl
      · refine g_iload 60 C dX7_poly_58 (j := 6) rfl rfl ?_
        refine g_if_lt 69 63 C dX7_poly_60 (by decide) rfl h (fun h => ?_) (fun h => ?_)
        · exact g_sub [] (tX7_poly_L69 (σ := o3.2) C K0 h) rfl
        · refine g_iload 65 C dX7_poly_63 (j := 6) rfl rfl ?_
          refine g_iconst 66 (v := 3) C dX7_poly_65 (by decide) rfl ?_
          refine g_icmp_le 71 69 C dX7_poly_66 (by decide) rfl h (fun h => ?_) (fun h => ?_)
          · refine g_iload 73 C dX7_poly_71 (j := 6) rfl rfl ?_
            refine g_iconst 74 (v := 3) C dX7_poly_73 (by decide) rfl ?_
            refine g_icmp_ne 91 77 C dX7_poly_74 (by decide) rfl h (fun h => ?_) (fun h => ?_)
            · refine g_aload_n 78 C dX7_poly_77 rfl (j := 2) rfl rfl ?_
              refine g_getr 81 (j := 2) C rfl rfl wu_X7 (by decide) wf_X7_39 rfl dX7_poly_78 rfl ?_
              refine g_iload 83 C dX7_poly_81 (j := 1) rfl rfl ?_
              refine g_iload 85 C dX7_poly_83 (j := 0) rfl rfl ?_
              refine g_cni 88 C (As := [.int ((a1 * 4) + a2), .int o3.1]) (fun _ h => mX5_factorAt (a1 := (a1 * 4) + a2) (a2 := o3.1) (σ := o3.2) h) (List.mem_of_getElem? (i := 37) rfl) wi_X5_factorAt wz_X5_factorAt wc_X5_factorAt wn_X5 qX5_factorAt rfl rfl ⟨Nat.le_of_ble_eq_true rfl, Nat.le_of_ble_eq_true rfl⟩ rfl rfl rfl rfl (Nat.le_of_ble_eq_true rfl) dX7_poly_85 rfl h (fun o5 h => ?_)
              refine g_goto 102 C dX7_poly_88 (by decide) ?_
              exact g_sub [] (tX7_poly_L102 (s0 := o5.1) (σ := o5.2) C K0 h) rfl
            · refine g_aload_n 92 C dX7_poly_91 rfl (j := 2) rfl rfl ?_
              refine g_getr 95 (j := 1) C rfl rfl wu_X7 (by decide) wf_X7_30 rfl dX7_poly_92 rfl ?_
              refine g_iload 97 C dX7_poly_95 (j := 0) rfl rfl ?_
              refine g_iload 99 C dX7_poly_97 (j := 6) rfl rfl ?_
              refine g_cni 102 C (As := [.int o3.1, .int a4]) (fun _ h => mX2_exponent (a1 := o3.1) (a2 := a4) (σ := o3.2) h) (List.mem_of_getElem? (i := 38) rfl) wi_X2_exponent wz_X2_exponent wc_X2_exponent wn_X2 qX2_exponent rfl rfl ⟨Nat.le_of_ble_eq_true rfl, Nat.le_of_ble_eq_true rfl⟩ rfl rfl rfl rfl (Nat.le_of_ble_eq_true rfl) dX7_poly_99 rfl h (fun o4 h => ?_)
              exact g_sub [] (tX7_poly_L102 (s0 := o4.1) (σ := o4.2) C K0 h) rfl
          · exact g_sub [] (tX7_poly_L69 (σ := o3.2) C K0 h) rfl

/-! LoopReducer.value(IIIII)I -/
abbrev rmX7_value : Room := { frames := 7, cells := 0, slots := 0, locals := 175 }
theorem qX7_value : yX7_value.cls ≠ "java/lang/invoke/MethodHandle" ∧ yX7_value.cls ≠ "java/lang/invoke/VarHandle" ∧ (parseMethodDescriptor yX7_value.desc).map (fun d => d.parameters.length) = some 5 := by decide +kernel
theorem DX7_value : ∀ q ∈ ([(0, .aload_n 0, 1), (1, .getfield 57, 3), (4, .invokevirtual 146, 3), (7, .aload_n 0, 1), (8, .iload_n 1, 1), (9, .iload_n 2, 1), (10, .invokevirtual 173, 3), (13, .ifCond .ne 5, 3), (16, .iconst (-1), 1), (17, .ireturn, 1), (18, .aload_n 0, 1), (19, .getfield 30, 3), (22, .iload_n 3, 1), (23, .iload 4, 2), (25, .iload 5, 2), (27, .invokevirtual 188, 3), (30, .aload_n 0, 1), (31, .getfield 39, 3), (34, .iload_n 1, 1), (35, .iconst 4, 1), (36, .imul, 1), (37, .iload_n 2, 1), (38, .iadd, 1), (39, .invokevirtual 192, 3), (42, .ireturn, 1)] : List (Nat × Instr × Nat)), decode cX7_value q.1 = .ok q.2 := by decide +kernel
theorem dX7_value_0 : decode cX7_value 0 = .ok (.aload_n 0, 1) := DX7_value (0, .aload_n 0, 1) (List.mem_of_getElem? (i := 0) rfl)
theorem dX7_value_1 : decode cX7_value 1 = .ok (.getfield 57, 3) := DX7_value (1, .getfield 57, 3) (List.mem_of_getElem? (i := 1) rfl)
theorem dX7_value_4 : decode cX7_value 4 = .ok (.invokevirtual 146, 3) := DX7_value (4, .invokevirtual 146, 3) (List.mem_of_getElem? (i := 2) rfl)
theorem dX7_value_7 : decode cX7_value 7 = .ok (.aload_n 0, 1) := DX7_value (7, .aload_n 0, 1) (List.mem_of_getElem? (i := 3) rfl)
theorem dX7_value_8 : decode cX7_value 8 = .ok (.iload_n 1, 1) := DX7_value (8, .iload_n 1, 1) (List.mem_of_getElem? (i := 4) rfl)
theorem dX7_value_9 : decode cX7_value 9 = .ok (.iload_n 2, 1) := DX7_value (9, .iload_n 2, 1) (List.mem_of_getElem? (i := 5) rfl)
theorem dX7_value_10 : decode cX7_value 10 = .ok (.invokevirtual 173, 3) := DX7_value (10, .invokevirtual 173, 3) (List.mem_of_getElem? (i := 6) rfl)
theorem dX7_value_13 : decode cX7_value 13 = .ok (.ifCond .ne 5, 3) := DX7_value (13, .ifCond .ne 5, 3) (List.mem_of_getElem? (i := 7) rfl)
theorem dX7_value_16 : decode cX7_value 16 = .ok (.iconst (-1), 1) := DX7_value (16, .iconst (-1), 1) (List.mem_of_getElem? (i := 8) rfl)
theorem dX7_value_17 : decode cX7_value 17 = .ok (.ireturn, 1) := DX7_value (17, .ireturn, 1) (List.mem_of_getElem? (i := 9) rfl)
theorem dX7_value_18 : decode cX7_value 18 = .ok (.aload_n 0, 1) := DX7_value (18, .aload_n 0, 1) (List.mem_of_getElem? (i := 10) rfl)
theorem dX7_value_19 : decode cX7_value 19 = .ok (.getfield 30, 3) := DX7_value (19, .getfield 30, 3) (List.mem_of_getElem? (i := 11) rfl)
theorem dX7_value_22 : decode cX7_value 22 = .ok (.iload_n 3, 1) := DX7_value (22, .iload_n 3, 1) (List.mem_of_getElem? (i := 12) rfl)
theorem dX7_value_23 : decode cX7_value 23 = .ok (.iload 4, 2) := DX7_value (23, .iload 4, 2) (List.mem_of_getElem? (i := 13) rfl)
theorem dX7_value_25 : decode cX7_value 25 = .ok (.iload 5, 2) := DX7_value (25, .iload 5, 2) (List.mem_of_getElem? (i := 14) rfl)
theorem dX7_value_27 : decode cX7_value 27 = .ok (.invokevirtual 188, 3) := DX7_value (27, .invokevirtual 188, 3) (List.mem_of_getElem? (i := 15) rfl)
theorem dX7_value_30 : decode cX7_value 30 = .ok (.aload_n 0, 1) := DX7_value (30, .aload_n 0, 1) (List.mem_of_getElem? (i := 16) rfl)
theorem dX7_value_31 : decode cX7_value 31 = .ok (.getfield 39, 3) := DX7_value (31, .getfield 39, 3) (List.mem_of_getElem? (i := 17) rfl)
theorem dX7_value_34 : decode cX7_value 34 = .ok (.iload_n 1, 1) := DX7_value (34, .iload_n 1, 1) (List.mem_of_getElem? (i := 18) rfl)
theorem dX7_value_35 : decode cX7_value 35 = .ok (.iconst 4, 1) := DX7_value (35, .iconst 4, 1) (List.mem_of_getElem? (i := 19) rfl)
theorem dX7_value_36 : decode cX7_value 36 = .ok (.imul, 1) := DX7_value (36, .imul, 1) (List.mem_of_getElem? (i := 20) rfl)
theorem dX7_value_37 : decode cX7_value 37 = .ok (.iload_n 2, 1) := DX7_value (37, .iload_n 2, 1) (List.mem_of_getElem? (i := 21) rfl)
theorem dX7_value_38 : decode cX7_value 38 = .ok (.iadd, 1) := DX7_value (38, .iadd, 1) (List.mem_of_getElem? (i := 22) rfl)
theorem dX7_value_39 : decode cX7_value 39 = .ok (.invokevirtual 192, 3) := DX7_value (39, .invokevirtual 192, 3) (List.mem_of_getElem? (i := 23) rfl)
theorem dX7_value_42 : decode cX7_value 42 = .ok (.ireturn, 1) := DX7_value (42, .ireturn, 1) (List.mem_of_getElem? (i := 24) rfl)
noncomputable def fX7_value (a1 : Int32) (a2 : Int32) (a3 : Int32) (a4 : Int32) (a5 : Int32) (σ : Mem) : Option (Int32 × Mem) :=
  (fX0_refresh σ).bind fun o1 =>
  (fX7_hasPoly a1 a2 o1).bind fun o2 =>
  if o2.1 = 0 then
    some ((-1), o2.2)
  else
    (fX2_give a3 a4 a5 o2.2).bind fun o3 =>
    (fX5_worth ((a1 * 4) + a2) o3).bind fun o4 =>
    some (o4.1, o4.2)
set_option maxHeartbeats 4000000 in
set_option maxRecDepth 100000 in
theorem mX7_value {l : Launch} {D : va_G} {cI : ClassId} {ad : Nat → Nat} {a1 : Int32} {a2 : Int32} {a3 : Int32} {a4 : Int32} {a5 : Int32} {σ : Mem} {out : Int32 × Mem} (h : fX7_value a1 a2 a3 a4 a5 σ = some out) : MI l D cI layX ad yX7_value cX7_value 6 .int rmX7_value [.ref (ad 7), .int a1, .int a2, .int a3, .int a4, .int a5] σ out := by
  refine met_i (by decide) (Nat.le_of_ble_eq_true rfl) (fun E C K0 => ?_)
  show G E rmX7_value cI layX ad 6 0 [(0, .ref (ad 7)), (1, .int a1), (2, .int a2), (3, .int a3), (4, .int a4), (5, .int a5)] [] σ
  unfold fX7_value at h
  refine g_aload_n 1 C dX7_value_0 rfl (j := 0) rfl rfl ?_
  refine g_getr 4 (j := 4) C rfl rfl wu_X7 (by decide) wf_X7_57 rfl dX7_value_1 rfl ?_
  refine g_cnv 7 C (As := []) (fun _ h => mX0_refresh (σ := σ) h) (List.mem_of_getElem? (i := 12) rfl) wi_X0_refresh wz_X0_refresh wc_X0_refresh wn_X0 qX0_refresh rfl rfl ⟨Nat.le_of_ble_eq_true rfl, Nat.le_of_ble_eq_true rfl⟩ rfl rfl rfl rfl (Nat.le_of_ble_eq_true rfl) dX7_value_4 rfl h (fun o1 h => ?_)
  refine g_aload_n 8 C dX7_value_7 rfl (j := 0) rfl rfl ?_
  refine g_iload_n 9 C dX7_value_8 rfl (j := 1) rfl rfl ?_
  refine g_iload_n 10 C dX7_value_9 rfl (j := 2) rfl rfl ?_
  refine g_cvi 13 C (As := [.int a1, .int a2]) (fun _ h => mX7_hasPoly (a1 := a1) (a2 := a2) (σ := o1) h) wl_X7_173 wi_X7_hasPoly wz_X7_hasPoly wc_X7_hasPoly wn_X7 qX7_hasPoly rfl rfl ⟨Nat.le_of_ble_eq_true rfl, Nat.le_of_ble_eq_true rfl⟩ rfl rfl rfl rfl (Nat.le_of_ble_eq_true rfl) dX7_value_10 rfl h (fun o2 h => ?_)
  refine g_if_ne 18 16 C dX7_value_13 (by decide) rfl h (fun h => ?_) (fun h => ?_)
  · refine g_iconst 17 (v := (-1)) C dX7_value_16 (by decide) rfl ?_
    cases h
    exact K0 _ _ dX7_value_17 rfl
  · refine g_aload_n 19 C dX7_value_18 rfl (j := 0) rfl rfl ?_
    refine g_getr 22 (j := 1) C rfl rfl wu_X7 (by decide) wf_X7_30 rfl dX7_value_19 rfl ?_
    refine g_iload_n 23 C dX7_value_22 rfl (j := 3) rfl rfl ?_
    refine g_iload 25 C dX7_value_23 (j := 4) rfl rfl ?_
    refine g_iload 27 C dX7_value_25 (j := 5) rfl rfl ?_
    refine g_cnv 30 C (As := [.int a3, .int a4, .int a5]) (fun _ h => mX2_give (a1 := a3) (a2 := a4) (a3 := a5) (σ := o2.2) h) (List.mem_of_getElem? (i := 39) rfl) wi_X2_give wz_X2_give wc_X2_give wn_X2 qX2_give rfl rfl ⟨Nat.le_of_ble_eq_true rfl, Nat.le_of_ble_eq_true rfl⟩ rfl rfl rfl rfl (Nat.le_of_ble_eq_true rfl) dX7_value_27 rfl h (fun o3 h => ?_)
    refine g_aload_n 31 C dX7_value_30 rfl (j := 0) rfl rfl ?_
    refine g_getr 34 (j := 2) C rfl rfl wu_X7 (by decide) wf_X7_39 rfl dX7_value_31 rfl ?_
    refine g_iload_n 35 C dX7_value_34 rfl (j := 1) rfl rfl ?_
    refine g_iconst 36 (v := 4) C dX7_value_35 (by decide) rfl ?_
    refine g_imul 37 C dX7_value_36 rfl ?_
    refine g_iload_n 38 C dX7_value_37 rfl (j := 2) rfl rfl ?_
    refine g_iadd 39 C dX7_value_38 rfl ?_
    refine g_cni 42 C (As := [.int ((a1 * 4) + a2)]) (fun _ h => mX5_worth (a1 := (a1 * 4) + a2) (σ := o3) h) (List.mem_of_getElem? (i := 40) rfl) wi_X5_worth wz_X5_worth wc_X5_worth wn_X5 qX5_worth rfl rfl ⟨Nat.le_of_ble_eq_true rfl, Nat.le_of_ble_eq_true rfl⟩ rfl rfl rfl rfl (Nat.le_of_ble_eq_true rfl) dX7_value_39 rfl h (fun o4 h => ?_)
    cases h
    exact K0 _ _ dX7_value_42 rfl

/-! LoopReducer.told(IIIII)I -/
abbrev rmX7_told : Room := { frames := 7, cells := 0, slots := 0, locals := 175 }
theorem qX7_told : yX7_told.cls ≠ "java/lang/invoke/MethodHandle" ∧ yX7_told.cls ≠ "java/lang/invoke/VarHandle" ∧ (parseMethodDescriptor yX7_told.desc).map (fun d => d.parameters.length) = some 5 := by decide +kernel
theorem DX7_told : ∀ q ∈ ([(0, .aload_n 0, 1), (1, .getfield 23, 3), (4, .iload_n 1, 1), (5, .invokevirtual 97, 3), (8, .ifCond .eq 13, 3), (11, .iload_n 2, 1), (12, .ifCond .lt 9, 3), (15, .iload_n 2, 1), (16, .ldc 195, 2), (18, .if_icmp .le 5, 3), (21, .iconst (-1), 1), (22, .ireturn, 1), (23, .aload_n 0, 1), (24, .getfield 57, 3), (27, .invokevirtual 146, 3), (30, .aload_n 0, 1), (31, .getfield 57, 3), (34, .getfield 155, 3), (37, .iload_n 1, 1), (38, .iaload, 1), (39, .iconst 3, 1), (40, .if_icmp .ne 32, 3), (43, .aload_n 0, 1), (44, .getfield 75, 3), (47, .iload_n 3, 1), (48, .iload 4, 2), (50, .iload 5, 2), (52, .invokevirtual 196, 3), (55, .aload_n 0, 1), (56, .getfield 75, 3), (59, .aload_n 0, 1), (60, .getfield 57, 3), (63, .iload_n 1, 1), (64, .iload_n 2, 1), (65, .invokevirtual 197, 3), (68, .invokevirtual 200, 3), (71, .ireturn, 1), (72, .aload_n 0, 1), (73, .getfield 48, 3), (76, .iload_n 1, 1), (77, .invokevirtual 152, 3), (80, .ifCond .eq 16, 3), (83, .iload_n 2, 1), (84, .aload_n 0, 1), (85, .getfield 48, 3), (88, .getfield 162, 3), (91, .iload_n 1, 1), (92, .iaload, 1), (93, .if_icmp .ge 5, 3), (96, .iconst (-1), 1), (97, .ireturn, 1), (98, .aload_n 0, 1), (99, .getfield 30, 3), (102, .iload_n 3, 1), (103, .iload 4, 2), (105, .iload 5, 2), (107, .invokevirtual 188, 3), (110, .aload_n 0, 1), (111, .getfield 48, 3), (114, .iload_n 1, 1), (115, .iload_n 2, 1), (116, .invokevirtual 203, 3), (119, .ireturn, 1)] : List (Nat × Instr × Nat)), decode cX7_told q.1 = .ok q.2 := by decide +kernel
theorem dX7_told_0 : decode cX7_told 0 = .ok (.aload_n 0, 1) := DX7_told (0, .aload_n 0, 1) (List.mem_of_getElem? (i := 0) rfl)
theorem dX7_told_1 : decode cX7_told 1 = .ok (.getfield 23, 3) := DX7_told (1, .getfield 23, 3) (List.mem_of_getElem? (i := 1) rfl)
theorem dX7_told_4 : decode cX7_told 4 = .ok (.iload_n 1, 1) := DX7_told (4, .iload_n 1, 1) (List.mem_of_getElem? (i := 2) rfl)
theorem dX7_told_5 : decode cX7_told 5 = .ok (.invokevirtual 97, 3) := DX7_told (5, .invokevirtual 97, 3) (List.mem_of_getElem? (i := 3) rfl)
theorem dX7_told_8 : decode cX7_told 8 = .ok (.ifCond .eq 13, 3) := DX7_told (8, .ifCond .eq 13, 3) (List.mem_of_getElem? (i := 4) rfl)
theorem dX7_told_11 : decode cX7_told 11 = .ok (.iload_n 2, 1) := DX7_told (11, .iload_n 2, 1) (List.mem_of_getElem? (i := 5) rfl)
theorem dX7_told_12 : decode cX7_told 12 = .ok (.ifCond .lt 9, 3) := DX7_told (12, .ifCond .lt 9, 3) (List.mem_of_getElem? (i := 6) rfl)
theorem dX7_told_15 : decode cX7_told 15 = .ok (.iload_n 2, 1) := DX7_told (15, .iload_n 2, 1) (List.mem_of_getElem? (i := 7) rfl)
theorem dX7_told_16 : decode cX7_told 16 = .ok (.ldc 195, 2) := DX7_told (16, .ldc 195, 2) (List.mem_of_getElem? (i := 8) rfl)
theorem dX7_told_18 : decode cX7_told 18 = .ok (.if_icmp .le 5, 3) := DX7_told (18, .if_icmp .le 5, 3) (List.mem_of_getElem? (i := 9) rfl)
theorem dX7_told_21 : decode cX7_told 21 = .ok (.iconst (-1), 1) := DX7_told (21, .iconst (-1), 1) (List.mem_of_getElem? (i := 10) rfl)
theorem dX7_told_22 : decode cX7_told 22 = .ok (.ireturn, 1) := DX7_told (22, .ireturn, 1) (List.mem_of_getElem? (i := 11) rfl)
theorem dX7_told_23 : decode cX7_told 23 = .ok (.aload_n 0, 1) := DX7_told (23, .aload_n 0, 1) (List.mem_of_getElem? (i := 12) rfl)
theorem dX7_told_24 : decode cX7_told 24 = .ok (.getfield 57, 3) := DX7_told (24, .getfield 57, 3) (List.mem_of_getElem? (i := 13) rfl)
theorem dX7_told_27 : decode cX7_told 27 = .ok (.invokevirtual 146, 3) := DX7_told (27, .invokevirtual 146, 3) (List.mem_of_getElem? (i := 14) rfl)
theorem dX7_told_30 : decode cX7_told 30 = .ok (.aload_n 0, 1) := DX7_told (30, .aload_n 0, 1) (List.mem_of_getElem? (i := 15) rfl)
theorem dX7_told_31 : decode cX7_told 31 = .ok (.getfield 57, 3) := DX7_told (31, .getfield 57, 3) (List.mem_of_getElem? (i := 16) rfl)
theorem dX7_told_34 : decode cX7_told 34 = .ok (.getfield 155, 3) := DX7_told (34, .getfield 155, 3) (List.mem_of_getElem? (i := 17) rfl)
theorem dX7_told_37 : decode cX7_told 37 = .ok (.iload_n 1, 1) := DX7_told (37, .iload_n 1, 1) (List.mem_of_getElem? (i := 18) rfl)
theorem dX7_told_38 : decode cX7_told 38 = .ok (.iaload, 1) := DX7_told (38, .iaload, 1) (List.mem_of_getElem? (i := 19) rfl)
theorem dX7_told_39 : decode cX7_told 39 = .ok (.iconst 3, 1) := DX7_told (39, .iconst 3, 1) (List.mem_of_getElem? (i := 20) rfl)
theorem dX7_told_40 : decode cX7_told 40 = .ok (.if_icmp .ne 32, 3) := DX7_told (40, .if_icmp .ne 32, 3) (List.mem_of_getElem? (i := 21) rfl)
theorem dX7_told_43 : decode cX7_told 43 = .ok (.aload_n 0, 1) := DX7_told (43, .aload_n 0, 1) (List.mem_of_getElem? (i := 22) rfl)
theorem dX7_told_44 : decode cX7_told 44 = .ok (.getfield 75, 3) := DX7_told (44, .getfield 75, 3) (List.mem_of_getElem? (i := 23) rfl)
theorem dX7_told_47 : decode cX7_told 47 = .ok (.iload_n 3, 1) := DX7_told (47, .iload_n 3, 1) (List.mem_of_getElem? (i := 24) rfl)
theorem dX7_told_48 : decode cX7_told 48 = .ok (.iload 4, 2) := DX7_told (48, .iload 4, 2) (List.mem_of_getElem? (i := 25) rfl)
theorem dX7_told_50 : decode cX7_told 50 = .ok (.iload 5, 2) := DX7_told (50, .iload 5, 2) (List.mem_of_getElem? (i := 26) rfl)
theorem dX7_told_52 : decode cX7_told 52 = .ok (.invokevirtual 196, 3) := DX7_told (52, .invokevirtual 196, 3) (List.mem_of_getElem? (i := 27) rfl)
theorem dX7_told_55 : decode cX7_told 55 = .ok (.aload_n 0, 1) := DX7_told (55, .aload_n 0, 1) (List.mem_of_getElem? (i := 28) rfl)
theorem dX7_told_56 : decode cX7_told 56 = .ok (.getfield 75, 3) := DX7_told (56, .getfield 75, 3) (List.mem_of_getElem? (i := 29) rfl)
theorem dX7_told_59 : decode cX7_told 59 = .ok (.aload_n 0, 1) := DX7_told (59, .aload_n 0, 1) (List.mem_of_getElem? (i := 30) rfl)
theorem dX7_told_60 : decode cX7_told 60 = .ok (.getfield 57, 3) := DX7_told (60, .getfield 57, 3) (List.mem_of_getElem? (i := 31) rfl)
theorem dX7_told_63 : decode cX7_told 63 = .ok (.iload_n 1, 1) := DX7_told (63, .iload_n 1, 1) (List.mem_of_getElem? (i := 32) rfl)
theorem dX7_told_64 : decode cX7_told 64 = .ok (.iload_n 2, 1) := DX7_told (64, .iload_n 2, 1) (List.mem_of_getElem? (i := 33) rfl)
theorem dX7_told_65 : decode cX7_told 65 = .ok (.invokevirtual 197, 3) := DX7_told (65, .invokevirtual 197, 3) (List.mem_of_getElem? (i := 34) rfl)
theorem dX7_told_68 : decode cX7_told 68 = .ok (.invokevirtual 200, 3) := DX7_told (68, .invokevirtual 200, 3) (List.mem_of_getElem? (i := 35) rfl)
theorem dX7_told_71 : decode cX7_told 71 = .ok (.ireturn, 1) := DX7_told (71, .ireturn, 1) (List.mem_of_getElem? (i := 36) rfl)
theorem dX7_told_72 : decode cX7_told 72 = .ok (.aload_n 0, 1) := DX7_told (72, .aload_n 0, 1) (List.mem_of_getElem? (i := 37) rfl)
theorem dX7_told_73 : decode cX7_told 73 = .ok (.getfield 48, 3) := DX7_told (73, .getfield 48, 3) (List.mem_of_getElem? (i := 38) rfl)
theorem dX7_told_76 : decode cX7_told 76 = .ok (.iload_n 1, 1) := DX7_told (76, .iload_n 1, 1) (List.mem_of_getElem? (i := 39) rfl)
theorem dX7_told_77 : decode cX7_told 77 = .ok (.invokevirtual 152, 3) := DX7_told (77, .invokevirtual 152, 3) (List.mem_of_getElem? (i := 40) rfl)
theorem dX7_told_80 : decode cX7_told 80 = .ok (.ifCond .eq 16, 3) := DX7_told (80, .ifCond .eq 16, 3) (List.mem_of_getElem? (i := 41) rfl)
theorem dX7_told_83 : decode cX7_told 83 = .ok (.iload_n 2, 1) := DX7_told (83, .iload_n 2, 1) (List.mem_of_getElem? (i := 42) rfl)
theorem dX7_told_84 : decode cX7_told 84 = .ok (.aload_n 0, 1) := DX7_told (84, .aload_n 0, 1) (List.mem_of_getElem? (i := 43) rfl)
theorem dX7_told_85 : decode cX7_told 85 = .ok (.getfield 48, 3) := DX7_told (85, .getfield 48, 3) (List.mem_of_getElem? (i := 44) rfl)
theorem dX7_told_88 : decode cX7_told 88 = .ok (.getfield 162, 3) := DX7_told (88, .getfield 162, 3) (List.mem_of_getElem? (i := 45) rfl)
theorem dX7_told_91 : decode cX7_told 91 = .ok (.iload_n 1, 1) := DX7_told (91, .iload_n 1, 1) (List.mem_of_getElem? (i := 46) rfl)
theorem dX7_told_92 : decode cX7_told 92 = .ok (.iaload, 1) := DX7_told (92, .iaload, 1) (List.mem_of_getElem? (i := 47) rfl)
theorem dX7_told_93 : decode cX7_told 93 = .ok (.if_icmp .ge 5, 3) := DX7_told (93, .if_icmp .ge 5, 3) (List.mem_of_getElem? (i := 48) rfl)
theorem dX7_told_96 : decode cX7_told 96 = .ok (.iconst (-1), 1) := DX7_told (96, .iconst (-1), 1) (List.mem_of_getElem? (i := 49) rfl)
theorem dX7_told_97 : decode cX7_told 97 = .ok (.ireturn, 1) := DX7_told (97, .ireturn, 1) (List.mem_of_getElem? (i := 50) rfl)
theorem dX7_told_98 : decode cX7_told 98 = .ok (.aload_n 0, 1) := DX7_told (98, .aload_n 0, 1) (List.mem_of_getElem? (i := 51) rfl)
theorem dX7_told_99 : decode cX7_told 99 = .ok (.getfield 30, 3) := DX7_told (99, .getfield 30, 3) (List.mem_of_getElem? (i := 52) rfl)
theorem dX7_told_102 : decode cX7_told 102 = .ok (.iload_n 3, 1) := DX7_told (102, .iload_n 3, 1) (List.mem_of_getElem? (i := 53) rfl)
theorem dX7_told_103 : decode cX7_told 103 = .ok (.iload 4, 2) := DX7_told (103, .iload 4, 2) (List.mem_of_getElem? (i := 54) rfl)
theorem dX7_told_105 : decode cX7_told 105 = .ok (.iload 5, 2) := DX7_told (105, .iload 5, 2) (List.mem_of_getElem? (i := 55) rfl)
theorem dX7_told_107 : decode cX7_told 107 = .ok (.invokevirtual 188, 3) := DX7_told (107, .invokevirtual 188, 3) (List.mem_of_getElem? (i := 56) rfl)
theorem dX7_told_110 : decode cX7_told 110 = .ok (.aload_n 0, 1) := DX7_told (110, .aload_n 0, 1) (List.mem_of_getElem? (i := 57) rfl)
theorem dX7_told_111 : decode cX7_told 111 = .ok (.getfield 48, 3) := DX7_told (111, .getfield 48, 3) (List.mem_of_getElem? (i := 58) rfl)
theorem dX7_told_114 : decode cX7_told 114 = .ok (.iload_n 1, 1) := DX7_told (114, .iload_n 1, 1) (List.mem_of_getElem? (i := 59) rfl)
theorem dX7_told_115 : decode cX7_told 115 = .ok (.iload_n 2, 1) := DX7_told (115, .iload_n 2, 1) (List.mem_of_getElem? (i := 60) rfl)
theorem dX7_told_116 : decode cX7_told 116 = .ok (.invokevirtual 203, 3) := DX7_told (116, .invokevirtual 203, 3) (List.mem_of_getElem? (i := 61) rfl)
theorem dX7_told_119 : decode cX7_told 119 = .ok (.ireturn, 1) := DX7_told (119, .ireturn, 1) (List.mem_of_getElem? (i := 62) rfl)
noncomputable def fX7_told_L21 (σ : Mem) : Option (Int32 × Mem) :=
  some ((-1), σ)
set_option maxHeartbeats 4000000 in
set_option maxRecDepth 100000 in
theorem tX7_told_L21 {E : Gx} {cI : ClassId} {ad : Nat → Nat} (C : Cx E rmX7_told cI layX ad 6 RX7 cX7_told) {out : Int32 × Mem} (K0 : KI E rmX7_told cI layX ad 6 cX7_told .int out) {σ : Mem} (h : fX7_told_L21 σ = some out) : G E rmX7_told cI layX ad 6 21 [] [] σ := by
  unfold fX7_told_L21 at h
  refine g_iconst 22 (v := (-1)) C dX7_told_21 (by decide) rfl ?_
  cases h
  exact K0 _ _ dX7_told_22 rfl
noncomputable def fX7_told_L96 (σ : Mem) : Option (Int32 × Mem) :=
  some ((-1), σ)
set_option maxHeartbeats 4000000 in
set_option maxRecDepth 100000 in
theorem tX7_told_L96 {E : Gx} {cI : ClassId} {ad : Nat → Nat} (C : Cx E rmX7_told cI layX ad 6 RX7 cX7_told) {out : Int32 × Mem} (K0 : KI E rmX7_told cI layX ad 6 cX7_told .int out) {σ : Mem} (h : fX7_told_L96 σ = some out) : G E rmX7_told cI layX ad 6 96 [] [] σ := by
  unfold fX7_told_L96 at h
  refine g_iconst 97 (v := (-1)) C dX7_told_96 (by decide) rfl ?_
  cases h
  exact K0 _ _ dX7_told_97 rfl
noncomputable def fX7_told (a1 : Int32) (a2 : Int32) (a3 : Int32) (a4 : Int32) (a5 : Int32) (σ : Mem) : Option (Int32 × Mem) :=
  (fX3_has a1 σ).bind fun o1 =>
  if o1.1 = 0 then
    fX7_told_L21 o1.2
  else
    if a2 < 0 then
      fX7_told_L21 o1.2
    else
      if a2 ≤ 1000000 then
        (fX0_refresh o1.2).bind fun o2 =>
        chk (inb a1 30) <|
        if (o2 20 a1.toNatClampNeg) = 3 then
          (fX6_give a3 a4 a5 o2).bind fun o6 =>
          (fX0_roundBy a1 a2 o6).bind fun o7 =>
          (fX6_startOf o7.1 o7.2).bind fun o8 =>
          some (o8.1, o8.2)
        else
          (fX1_isThere a1 o2).bind fun o3 =>
          if o3.1 = 0 then
            fX7_told_L96 o3.2
          else
            chk (inb a1 31) <|
            if (o3.2 17 a1.toNatClampNeg) ≤ a2 then
              (fX2_give a3 a4 a5 o3.2).bind fun o4 =>
              (fX1_tell a1 a2 o4).bind fun o5 =>
              some (o5.1, o5.2)
            else
              fX7_told_L96 o3.2
      else
        fX7_told_L21 o1.2
set_option maxHeartbeats 4000000 in
set_option maxRecDepth 100000 in
theorem mX7_told {l : Launch} {D : va_G} {cI : ClassId} {ad : Nat → Nat} {a1 : Int32} {a2 : Int32} {a3 : Int32} {a4 : Int32} {a5 : Int32} {σ : Mem} {out : Int32 × Mem} (h : fX7_told a1 a2 a3 a4 a5 σ = some out) : MI l D cI layX ad yX7_told cX7_told 6 .int rmX7_told [.ref (ad 7), .int a1, .int a2, .int a3, .int a4, .int a5] σ out := by
  refine met_i (by decide) (Nat.le_of_ble_eq_true rfl) (fun E C K0 => ?_)
  show G E rmX7_told cI layX ad 6 0 [(0, .ref (ad 7)), (1, .int a1), (2, .int a2), (3, .int a3), (4, .int a4), (5, .int a5)] [] σ
  unfold fX7_told at h
  refine g_aload_n 1 C dX7_told_0 rfl (j := 0) rfl rfl ?_
  refine g_getr 4 (j := 0) C rfl rfl wu_X7 (by decide) wf_X7_23 rfl dX7_told_1 rfl ?_
  refine g_iload_n 5 C dX7_told_4 rfl (j := 1) rfl rfl ?_
  refine g_cni 8 C (As := [.int a1]) (fun _ h => mX3_has (a1 := a1) (σ := σ) h) (List.mem_of_getElem? (i := 9) rfl) wi_X3_has wz_X3_has wc_X3_has wn_X3 qX3_has rfl rfl ⟨Nat.le_of_ble_eq_true rfl, Nat.le_of_ble_eq_true rfl⟩ rfl rfl rfl rfl (Nat.le_of_ble_eq_true rfl) dX7_told_5 rfl h (fun o1 h => ?_)
  refine g_if_eq 21 11 C dX7_told_8 (by decide) rfl h (fun h => ?_) (fun h => ?_)
  · exact g_sub [] (tX7_told_L21 (σ := o1.2) C K0 h) rfl
  · refine g_iload_n 12 C dX7_told_11 rfl (j := 2) rfl rfl ?_
    refine g_if_lt 21 15 C dX7_told_12 (by decide) rfl h (fun h => ?_) (fun h => ?_)
    · exact g_sub [] (tX7_told_L21 (σ := o1.2) C K0 h) rfl
    · refine g_iload_n 16 C dX7_told_15 rfl (j := 2) rfl rfl ?_
      refine g_ldc 18 (v := 1000000) C dX7_told_16 wk_X7_195 rfl ?_
      refine g_icmp_le 23 21 C dX7_told_18 (by decide) rfl h (fun h => ?_) (fun h => ?_)
      · refine g_aload_n 24 C dX7_told_23 rfl (j := 0) rfl rfl ?_
        refine g_getr 27 (j := 4) C rfl rfl wu_X7 (by decide) wf_X7_57 rfl dX7_told_24 rfl ?_
        refine g_cnv 30 C (As := []) (fun _ h => mX0_refresh (σ := o1.2) h) (List.mem_of_getElem? (i := 12) rfl) wi_X0_refresh wz_X0_refresh wc_X0_refresh wn_X0 qX0_refresh rfl rfl ⟨Nat.le_of_ble_eq_true rfl, Nat.le_of_ble_eq_true rfl⟩ rfl rfl rfl rfl (Nat.le_of_ble_eq_true rfl) dX7_told_27 rfl h (fun o2 h => ?_)
        refine g_aload_n 31 C dX7_told_30 rfl (j := 0) rfl rfl ?_
        refine g_getr 34 (j := 4) C rfl rfl wu_X7 (by decide) wf_X7_57 rfl dX7_told_31 rfl ?_
        refine g_getrN 37 (j := 4) C rfl rfl wu_X0 (by decide) (List.mem_of_getElem? (i := 39) rfl) rfl dX7_told_34 rfl ?_
        refine g_iload_n 38 C dX7_told_37 rfl (j := 1) rfl rfl ?_
        refine g_iald 39 C rfl dX7_told_38 rfl h (fun h => ?_)
        refine g_iconst 40 (v := 3) C dX7_told_39 (by decide) rfl ?_
        refine g_icmp_ne 72 43 C dX7_told_40 (by decide) rfl h (fun h => ?_) (fun h => ?_)
        · refine g_aload_n 44 C dX7_told_43 rfl (j := 0) rfl rfl ?_
          refine g_getr 47 (j := 6) C rfl rfl wu_X7 (by decide) wf_X7_75 rfl dX7_told_44 rfl ?_
          refine g_iload_n 48 C dX7_told_47 rfl (j := 3) rfl rfl ?_
          refine g_iload 50 C dX7_told_48 (j := 4) rfl rfl ?_
          refine g_iload 52 C dX7_told_50 (j := 5) rfl rfl ?_
          refine g_cnv 55 C (As := [.int a3, .int a4, .int a5]) (fun _ h => mX6_give (a1 := a3) (a2 := a4) (a3 := a5) (σ := o2) h) (List.mem_of_getElem? (i := 42) rfl) wi_X6_give wz_X6_give wc_X6_give wn_X6 qX6_give rfl rfl ⟨Nat.le_of_ble_eq_true rfl, Nat.le_of_ble_eq_true rfl⟩ rfl rfl rfl rfl (Nat.le_of_ble_eq_true rfl) dX7_told_52 rfl h (fun o6 h => ?_)
          refine g_aload_n 56 C dX7_told_55 rfl (j := 0) rfl rfl ?_
          refine g_getr 59 (j := 6) C rfl rfl wu_X7 (by decide) wf_X7_75 rfl dX7_told_56 rfl ?_
          refine g_aload_n 60 C dX7_told_59 rfl (j := 0) rfl rfl ?_
          refine g_getr 63 (j := 4) C rfl rfl wu_X7 (by decide) wf_X7_57 rfl dX7_told_60 rfl ?_
          refine g_iload_n 64 C dX7_told_63 rfl (j := 1) rfl rfl ?_
          refine g_iload_n 65 C dX7_told_64 rfl (j := 2) rfl rfl ?_
          refine g_cni 68 C (As := [.int a1, .int a2]) (fun _ h => mX0_roundBy (a1 := a1) (a2 := a2) (σ := o6) h) (List.mem_of_getElem? (i := 43) rfl) wi_X0_roundBy wz_X0_roundBy wc_X0_roundBy wn_X0 qX0_roundBy rfl rfl ⟨Nat.le_of_ble_eq_true rfl, Nat.le_of_ble_eq_true rfl⟩ rfl rfl rfl rfl (Nat.le_of_ble_eq_true rfl) dX7_told_65 rfl h (fun o7 h => ?_)
          refine g_cni 71 C (As := [.int o7.1]) (fun _ h => mX6_startOf (a1 := o7.1) (σ := o7.2) h) (List.mem_of_getElem? (i := 44) rfl) wi_X6_startOf wz_X6_startOf wc_X6_startOf wn_X6 qX6_startOf rfl rfl ⟨Nat.le_of_ble_eq_true rfl, Nat.le_of_ble_eq_true rfl⟩ rfl rfl rfl rfl (Nat.le_of_ble_eq_true rfl) dX7_told_68 rfl h (fun o8 h => ?_)
          cases h
          exact K0 _ _ dX7_told_71 rfl
        · refine g_aload_n 73 C dX7_told_72 rfl (j := 0) rfl rfl ?_
          refine g_getr 76 (j := 3) C rfl rfl wu_X7 (by decide) wf_X7_48 rfl dX7_told_73 rfl ?_
          refine g_iload_n 77 C dX7_told_76 rfl (j := 1) rfl rfl ?_
          refine g_cni 80 C (As := [.int a1]) (fun _ h => mX1_isThere (a1 := a1) (σ := o2) h) (List.mem_of_getElem? (i := 31) rfl) wi_X1_isThere wz_X1_isThere wc_X1_isThere wn_X1 qX1_isThere rfl rfl ⟨Nat.le_of_ble_eq_true rfl, Nat.le_of_ble_eq_true rfl⟩ rfl rfl rfl rfl (Nat.le_of_ble_eq_true rfl) dX7_told_77 rfl h (fun o3 h => ?_)
          refine g_if_eq 96 83 C dX7_told_80 (by decide) rfl h (fun h => ?_) (fun h => ?_)
          · exact g_sub [] (tX7_told_L96 (σ := o3.2) C K0 h) rfl
          · refine g_iload_n 84 C dX7_told_83 rfl (j := 2) rfl rfl ?_
            refine g_aload_n 85 C dX7_told_84 rfl (j := 0) rfl rfl ?_
            refine g_getr 88 (j := 3) C rfl rfl wu_X7 (by decide) wf_X7_48 rfl dX7_told_85 rfl ?_
            refine g_getrN 91 (j := 2) C rfl rfl wu_X1 (by decide) (List.mem_of_getElem? (i := 35) rfl) rfl dX7_told_88 rfl ?_
            refine g_iload_n 92 C dX7_told_91 rfl (j := 1) rfl rfl ?_
            refine g_iald 93 C rfl dX7_told_92 rfl h (fun h => ?_)
            refine g_icmp_ge 98 96 C dX7_told_93 (by decide) rfl h (fun h => ?_) (fun h => ?_)
            · refine g_aload_n 99 C dX7_told_98 rfl (j := 0) rfl rfl ?_
              refine g_getr 102 (j := 1) C rfl rfl wu_X7 (by decide) wf_X7_30 rfl dX7_told_99 rfl ?_
              refine g_iload_n 103 C dX7_told_102 rfl (j := 3) rfl rfl ?_
              refine g_iload 105 C dX7_told_103 (j := 4) rfl rfl ?_
              refine g_iload 107 C dX7_told_105 (j := 5) rfl rfl ?_
              refine g_cnv 110 C (As := [.int a3, .int a4, .int a5]) (fun _ h => mX2_give (a1 := a3) (a2 := a4) (a3 := a5) (σ := o3.2) h) (List.mem_of_getElem? (i := 39) rfl) wi_X2_give wz_X2_give wc_X2_give wn_X2 qX2_give rfl rfl ⟨Nat.le_of_ble_eq_true rfl, Nat.le_of_ble_eq_true rfl⟩ rfl rfl rfl rfl (Nat.le_of_ble_eq_true rfl) dX7_told_107 rfl h (fun o4 h => ?_)
              refine g_aload_n 111 C dX7_told_110 rfl (j := 0) rfl rfl ?_
              refine g_getr 114 (j := 3) C rfl rfl wu_X7 (by decide) wf_X7_48 rfl dX7_told_111 rfl ?_
              refine g_iload_n 115 C dX7_told_114 rfl (j := 1) rfl rfl ?_
              refine g_iload_n 116 C dX7_told_115 rfl (j := 2) rfl rfl ?_
              refine g_cni 119 C (As := [.int a1, .int a2]) (fun _ h => mX1_tell (a1 := a1) (a2 := a2) (σ := o4) h) (List.mem_of_getElem? (i := 45) rfl) wi_X1_tell wz_X1_tell wc_X1_tell wn_X1 qX1_tell rfl rfl ⟨Nat.le_of_ble_eq_true rfl, Nat.le_of_ble_eq_true rfl⟩ rfl rfl rfl rfl (Nat.le_of_ble_eq_true rfl) dX7_told_116 rfl h (fun o5 h => ?_)
              cases h
              exact K0 _ _ dX7_told_119 rfl
            · exact g_sub [] (tX7_told_L96 (σ := o3.2) C K0 h) rfl
      · exact g_sub [] (tX7_told_L21 (σ := o1.2) C K0 h) rfl

/-! LoopReducer.reduced(I)I -/
abbrev rmX7_reduced : Room := { frames := 7, cells := 0, slots := 0, locals := 175 }
theorem qX7_reduced : yX7_reduced.cls ≠ "java/lang/invoke/MethodHandle" ∧ yX7_reduced.cls ≠ "java/lang/invoke/VarHandle" ∧ (parseMethodDescriptor yX7_reduced.desc).map (fun d => d.parameters.length) = some 1 := by decide +kernel
theorem DX7_reduced : ∀ q ∈ ([(0, .aload_n 0, 1), (1, .getfield 57, 3), (4, .invokevirtual 146, 3), (7, .aload_n 0, 1), (8, .getfield 66, 3), (11, .invokevirtual 206, 3), (14, .iload_n 1, 1), (15, .tableswitch 104 0 5 #[37, 45, 53, 71, 80, 96], 37), (52, .aload_n 0, 1), (53, .getfield 66, 3), (56, .getfield 207, 3), (59, .ireturn, 1), (60, .aload_n 0, 1), (61, .getfield 66, 3), (64, .getfield 210, 3), (67, .ireturn, 1), (68, .aload_n 0, 1), (69, .getfield 23, 3), (72, .iconst 2, 1), (73, .invokevirtual 213, 3), (76, .aload_n 0, 1), (77, .getfield 23, 3), (80, .iconst 3, 1), (81, .invokevirtual 213, 3), (84, .iadd, 1), (85, .ireturn, 1), (86, .aload_n 0, 1), (87, .getfield 23, 3), (90, .iconst 4, 1), (91, .invokevirtual 213, 3), (94, .ireturn, 1), (95, .aload_n 0, 1), (96, .getfield 66, 3), (99, .invokevirtual 216, 3), (102, .aload_n 0, 1), (103, .getfield 66, 3), (106, .getfield 210, 3), (109, .iadd, 1), (110, .ireturn, 1), (111, .aload_n 0, 1), (112, .getfield 66, 3), (115, .invokevirtual 219, 3), (118, .ireturn, 1), (119, .iconst (-1), 1), (120, .ireturn, 1)] : List (Nat × Instr × Nat)), decode cX7_reduced q.1 = .ok q.2 := by decide +kernel
theorem dX7_reduced_0 : decode cX7_reduced 0 = .ok (.aload_n 0, 1) := DX7_reduced (0, .aload_n 0, 1) (List.mem_of_getElem? (i := 0) rfl)
theorem dX7_reduced_1 : decode cX7_reduced 1 = .ok (.getfield 57, 3) := DX7_reduced (1, .getfield 57, 3) (List.mem_of_getElem? (i := 1) rfl)
theorem dX7_reduced_4 : decode cX7_reduced 4 = .ok (.invokevirtual 146, 3) := DX7_reduced (4, .invokevirtual 146, 3) (List.mem_of_getElem? (i := 2) rfl)
theorem dX7_reduced_7 : decode cX7_reduced 7 = .ok (.aload_n 0, 1) := DX7_reduced (7, .aload_n 0, 1) (List.mem_of_getElem? (i := 3) rfl)
theorem dX7_reduced_8 : decode cX7_reduced 8 = .ok (.getfield 66, 3) := DX7_reduced (8, .getfield 66, 3) (List.mem_of_getElem? (i := 4) rfl)
theorem dX7_reduced_11 : decode cX7_reduced 11 = .ok (.invokevirtual 206, 3) := DX7_reduced (11, .invokevirtual 206, 3) (List.mem_of_getElem? (i := 5) rfl)
theorem dX7_reduced_14 : decode cX7_reduced 14 = .ok (.iload_n 1, 1) := DX7_reduced (14, .iload_n 1, 1) (List.mem_of_getElem? (i := 6) rfl)
theorem dX7_reduced_15 : decode cX7_reduced 15 = .ok (.tableswitch 104 0 5 #[37, 45, 53, 71, 80, 96], 37) := DX7_reduced (15, .tableswitch 104 0 5 #[37, 45, 53, 71, 80, 96], 37) (List.mem_of_getElem? (i := 7) rfl)
theorem dX7_reduced_52 : decode cX7_reduced 52 = .ok (.aload_n 0, 1) := DX7_reduced (52, .aload_n 0, 1) (List.mem_of_getElem? (i := 8) rfl)
theorem dX7_reduced_53 : decode cX7_reduced 53 = .ok (.getfield 66, 3) := DX7_reduced (53, .getfield 66, 3) (List.mem_of_getElem? (i := 9) rfl)
theorem dX7_reduced_56 : decode cX7_reduced 56 = .ok (.getfield 207, 3) := DX7_reduced (56, .getfield 207, 3) (List.mem_of_getElem? (i := 10) rfl)
theorem dX7_reduced_59 : decode cX7_reduced 59 = .ok (.ireturn, 1) := DX7_reduced (59, .ireturn, 1) (List.mem_of_getElem? (i := 11) rfl)
theorem dX7_reduced_60 : decode cX7_reduced 60 = .ok (.aload_n 0, 1) := DX7_reduced (60, .aload_n 0, 1) (List.mem_of_getElem? (i := 12) rfl)
theorem dX7_reduced_61 : decode cX7_reduced 61 = .ok (.getfield 66, 3) := DX7_reduced (61, .getfield 66, 3) (List.mem_of_getElem? (i := 13) rfl)
theorem dX7_reduced_64 : decode cX7_reduced 64 = .ok (.getfield 210, 3) := DX7_reduced (64, .getfield 210, 3) (List.mem_of_getElem? (i := 14) rfl)
theorem dX7_reduced_67 : decode cX7_reduced 67 = .ok (.ireturn, 1) := DX7_reduced (67, .ireturn, 1) (List.mem_of_getElem? (i := 15) rfl)
theorem dX7_reduced_68 : decode cX7_reduced 68 = .ok (.aload_n 0, 1) := DX7_reduced (68, .aload_n 0, 1) (List.mem_of_getElem? (i := 16) rfl)
theorem dX7_reduced_69 : decode cX7_reduced 69 = .ok (.getfield 23, 3) := DX7_reduced (69, .getfield 23, 3) (List.mem_of_getElem? (i := 17) rfl)
theorem dX7_reduced_72 : decode cX7_reduced 72 = .ok (.iconst 2, 1) := DX7_reduced (72, .iconst 2, 1) (List.mem_of_getElem? (i := 18) rfl)
theorem dX7_reduced_73 : decode cX7_reduced 73 = .ok (.invokevirtual 213, 3) := DX7_reduced (73, .invokevirtual 213, 3) (List.mem_of_getElem? (i := 19) rfl)
theorem dX7_reduced_76 : decode cX7_reduced 76 = .ok (.aload_n 0, 1) := DX7_reduced (76, .aload_n 0, 1) (List.mem_of_getElem? (i := 20) rfl)
theorem dX7_reduced_77 : decode cX7_reduced 77 = .ok (.getfield 23, 3) := DX7_reduced (77, .getfield 23, 3) (List.mem_of_getElem? (i := 21) rfl)
theorem dX7_reduced_80 : decode cX7_reduced 80 = .ok (.iconst 3, 1) := DX7_reduced (80, .iconst 3, 1) (List.mem_of_getElem? (i := 22) rfl)
theorem dX7_reduced_81 : decode cX7_reduced 81 = .ok (.invokevirtual 213, 3) := DX7_reduced (81, .invokevirtual 213, 3) (List.mem_of_getElem? (i := 23) rfl)
theorem dX7_reduced_84 : decode cX7_reduced 84 = .ok (.iadd, 1) := DX7_reduced (84, .iadd, 1) (List.mem_of_getElem? (i := 24) rfl)
theorem dX7_reduced_85 : decode cX7_reduced 85 = .ok (.ireturn, 1) := DX7_reduced (85, .ireturn, 1) (List.mem_of_getElem? (i := 25) rfl)
theorem dX7_reduced_86 : decode cX7_reduced 86 = .ok (.aload_n 0, 1) := DX7_reduced (86, .aload_n 0, 1) (List.mem_of_getElem? (i := 26) rfl)
theorem dX7_reduced_87 : decode cX7_reduced 87 = .ok (.getfield 23, 3) := DX7_reduced (87, .getfield 23, 3) (List.mem_of_getElem? (i := 27) rfl)
theorem dX7_reduced_90 : decode cX7_reduced 90 = .ok (.iconst 4, 1) := DX7_reduced (90, .iconst 4, 1) (List.mem_of_getElem? (i := 28) rfl)
theorem dX7_reduced_91 : decode cX7_reduced 91 = .ok (.invokevirtual 213, 3) := DX7_reduced (91, .invokevirtual 213, 3) (List.mem_of_getElem? (i := 29) rfl)
theorem dX7_reduced_94 : decode cX7_reduced 94 = .ok (.ireturn, 1) := DX7_reduced (94, .ireturn, 1) (List.mem_of_getElem? (i := 30) rfl)
theorem dX7_reduced_95 : decode cX7_reduced 95 = .ok (.aload_n 0, 1) := DX7_reduced (95, .aload_n 0, 1) (List.mem_of_getElem? (i := 31) rfl)
theorem dX7_reduced_96 : decode cX7_reduced 96 = .ok (.getfield 66, 3) := DX7_reduced (96, .getfield 66, 3) (List.mem_of_getElem? (i := 32) rfl)
theorem dX7_reduced_99 : decode cX7_reduced 99 = .ok (.invokevirtual 216, 3) := DX7_reduced (99, .invokevirtual 216, 3) (List.mem_of_getElem? (i := 33) rfl)
theorem dX7_reduced_102 : decode cX7_reduced 102 = .ok (.aload_n 0, 1) := DX7_reduced (102, .aload_n 0, 1) (List.mem_of_getElem? (i := 34) rfl)
theorem dX7_reduced_103 : decode cX7_reduced 103 = .ok (.getfield 66, 3) := DX7_reduced (103, .getfield 66, 3) (List.mem_of_getElem? (i := 35) rfl)
theorem dX7_reduced_106 : decode cX7_reduced 106 = .ok (.getfield 210, 3) := DX7_reduced (106, .getfield 210, 3) (List.mem_of_getElem? (i := 36) rfl)
theorem dX7_reduced_109 : decode cX7_reduced 109 = .ok (.iadd, 1) := DX7_reduced (109, .iadd, 1) (List.mem_of_getElem? (i := 37) rfl)
theorem dX7_reduced_110 : decode cX7_reduced 110 = .ok (.ireturn, 1) := DX7_reduced (110, .ireturn, 1) (List.mem_of_getElem? (i := 38) rfl)
theorem dX7_reduced_111 : decode cX7_reduced 111 = .ok (.aload_n 0, 1) := DX7_reduced (111, .aload_n 0, 1) (List.mem_of_getElem? (i := 39) rfl)
theorem dX7_reduced_112 : decode cX7_reduced 112 = .ok (.getfield 66, 3) := DX7_reduced (112, .getfield 66, 3) (List.mem_of_getElem? (i := 40) rfl)
theorem dX7_reduced_115 : decode cX7_reduced 115 = .ok (.invokevirtual 219, 3) := DX7_reduced (115, .invokevirtual 219, 3) (List.mem_of_getElem? (i := 41) rfl)
theorem dX7_reduced_118 : decode cX7_reduced 118 = .ok (.ireturn, 1) := DX7_reduced (118, .ireturn, 1) (List.mem_of_getElem? (i := 42) rfl)
theorem dX7_reduced_119 : decode cX7_reduced 119 = .ok (.iconst (-1), 1) := DX7_reduced (119, .iconst (-1), 1) (List.mem_of_getElem? (i := 43) rfl)
theorem dX7_reduced_120 : decode cX7_reduced 120 = .ok (.ireturn, 1) := DX7_reduced (120, .ireturn, 1) (List.mem_of_getElem? (i := 44) rfl)
noncomputable def fX7_reduced (a1 : Int32) (σ : Mem) : Option (Int32 × Mem) :=
  (fX0_refresh σ).bind fun o1 =>
  (fX4_refresh o1).bind fun o2 =>
  if a1 = 0 then
    some (o2 4 3, o2)
  else if a1 = 1 then
    some (o2 4 4, o2)
  else if a1 = 2 then
    (fX3_amountOf 2 o2).bind fun o3 =>
    (fX3_amountOf 3 o3.2).bind fun o4 =>
    some (o3.1 + o4.1, o4.2)
  else if a1 = 3 then
    (fX3_amountOf 4 o2).bind fun o5 =>
    some (o5.1, o5.2)
  else if a1 = 4 then
    (fX4_sumsLeft o2).bind fun o6 =>
    some (o6.1 + (o6.2 4 4), o6.2)
  else if a1 = 5 then
    (fX4_productsLeft o2).bind fun o7 =>
    some (o7.1, o7.2)
  else some ((-1), o2)
set_option maxHeartbeats 4000000 in
set_option maxRecDepth 100000 in
theorem mX7_reduced {l : Launch} {D : va_G} {cI : ClassId} {ad : Nat → Nat} {a1 : Int32} {σ : Mem} {out : Int32 × Mem} (h : fX7_reduced a1 σ = some out) : MI l D cI layX ad yX7_reduced cX7_reduced 2 .int rmX7_reduced [.ref (ad 7), .int a1] σ out := by
  refine met_i (by decide) (Nat.le_of_ble_eq_true rfl) (fun E C K0 => ?_)
  show G E rmX7_reduced cI layX ad 2 0 [(0, .ref (ad 7)), (1, .int a1)] [] σ
  unfold fX7_reduced at h
  refine g_aload_n 1 C dX7_reduced_0 rfl (j := 0) rfl rfl ?_
  refine g_getr 4 (j := 4) C rfl rfl wu_X7 (by decide) wf_X7_57 rfl dX7_reduced_1 rfl ?_
  refine g_cnv 7 C (As := []) (fun _ h => mX0_refresh (σ := σ) h) (List.mem_of_getElem? (i := 12) rfl) wi_X0_refresh wz_X0_refresh wc_X0_refresh wn_X0 qX0_refresh rfl rfl ⟨Nat.le_of_ble_eq_true rfl, Nat.le_of_ble_eq_true rfl⟩ rfl rfl rfl rfl (Nat.le_of_ble_eq_true rfl) dX7_reduced_4 rfl h (fun o1 h => ?_)
  refine g_aload_n 8 C dX7_reduced_7 rfl (j := 0) rfl rfl ?_
  refine g_getr 11 (j := 5) C rfl rfl wu_X7 (by decide) wf_X7_66 rfl dX7_reduced_8 rfl ?_
  refine g_cnv 14 C (As := []) (fun _ h => mX4_refresh (σ := o1) h) (List.mem_of_getElem? (i := 47) rfl) wi_X4_refresh wz_X4_refresh wc_X4_refresh wn_X4 qX4_refresh rfl rfl ⟨Nat.le_of_ble_eq_true rfl, Nat.le_of_ble_eq_true rfl⟩ rfl rfl rfl rfl (Nat.le_of_ble_eq_true rfl) dX7_reduced_11 rfl h (fun o2 h => ?_)
  refine g_iload_n 15 C dX7_reduced_14 rfl (j := 1) rfl rfl ?_
  by_cases c0 : a1 = 0
  · rw [if_pos c0] at h
    refine g_tswC 52 (off := 37) C dX7_reduced_15 c0 (by decide) (by decide) (by decide) (by decide) ?_
    refine g_aload_n 53 C dX7_reduced_52 rfl (j := 0) rfl rfl ?_
    refine g_getr 56 (j := 5) C rfl rfl wu_X7 (by decide) wf_X7_66 rfl dX7_reduced_53 rfl ?_
    refine g_getiN 59 (j := 3) C rfl rfl wu_X4 (by decide) (List.mem_of_getElem? (i := 41) rfl) rfl dX7_reduced_56 rfl ?_
    cases h
    exact K0 _ _ dX7_reduced_59 rfl
  rw [if_neg c0] at h
  by_cases c1 : a1 = 1
  · rw [if_pos c1] at h
    refine g_tswC 60 (off := 45) C dX7_reduced_15 c1 (by decide) (by decide) (by decide) (by decide) ?_
    refine g_aload_n 61 C dX7_reduced_60 rfl (j := 0) rfl rfl ?_
    refine g_getr 64 (j := 5) C rfl rfl wu_X7 (by decide) wf_X7_66 rfl dX7_reduced_61 rfl ?_
    refine g_getiN 67 (j := 4) C rfl rfl wu_X4 (by decide) (List.mem_of_getElem? (i := 43) rfl) rfl dX7_reduced_64 rfl ?_
    cases h
    exact K0 _ _ dX7_reduced_67 rfl
  rw [if_neg c1] at h
  by_cases c2 : a1 = 2
  · rw [if_pos c2] at h
    refine g_tswC 68 (off := 53) C dX7_reduced_15 c2 (by decide) (by decide) (by decide) (by decide) ?_
    refine g_aload_n 69 C dX7_reduced_68 rfl (j := 0) rfl rfl ?_
    refine g_getr 72 (j := 0) C rfl rfl wu_X7 (by decide) wf_X7_23 rfl dX7_reduced_69 rfl ?_
    refine g_iconst 73 (v := 2) C dX7_reduced_72 (by decide) rfl ?_
    refine g_cni 76 C (As := [.int 2]) (fun _ h => mX3_amountOf (a1 := 2) (σ := o2) h) (List.mem_of_getElem? (i := 53) rfl) wi_X3_amountOf wz_X3_amountOf wc_X3_amountOf wn_X3 qX3_amountOf rfl rfl ⟨Nat.le_of_ble_eq_true rfl, Nat.le_of_ble_eq_true rfl⟩ rfl rfl rfl rfl (Nat.le_of_ble_eq_true rfl) dX7_reduced_73 rfl h (fun o3 h => ?_)
    refine g_aload_n 77 C dX7_reduced_76 rfl (j := 0) rfl rfl ?_
    refine g_getr 80 (j := 0) C rfl rfl wu_X7 (by decide) wf_X7_23 rfl dX7_reduced_77 rfl ?_
    refine g_iconst 81 (v := 3) C dX7_reduced_80 (by decide) rfl ?_
    refine g_cni 84 C (As := [.int 3]) (fun _ h => mX3_amountOf (a1 := 3) (σ := o3.2) h) (List.mem_of_getElem? (i := 53) rfl) wi_X3_amountOf wz_X3_amountOf wc_X3_amountOf wn_X3 qX3_amountOf rfl rfl ⟨Nat.le_of_ble_eq_true rfl, Nat.le_of_ble_eq_true rfl⟩ rfl rfl rfl rfl (Nat.le_of_ble_eq_true rfl) dX7_reduced_81 rfl h (fun o4 h => ?_)
    refine g_iadd 85 C dX7_reduced_84 rfl ?_
    cases h
    exact K0 _ _ dX7_reduced_85 rfl
  rw [if_neg c2] at h
  by_cases c3 : a1 = 3
  · rw [if_pos c3] at h
    refine g_tswC 86 (off := 71) C dX7_reduced_15 c3 (by decide) (by decide) (by decide) (by decide) ?_
    refine g_aload_n 87 C dX7_reduced_86 rfl (j := 0) rfl rfl ?_
    refine g_getr 90 (j := 0) C rfl rfl wu_X7 (by decide) wf_X7_23 rfl dX7_reduced_87 rfl ?_
    refine g_iconst 91 (v := 4) C dX7_reduced_90 (by decide) rfl ?_
    refine g_cni 94 C (As := [.int 4]) (fun _ h => mX3_amountOf (a1 := 4) (σ := o2) h) (List.mem_of_getElem? (i := 53) rfl) wi_X3_amountOf wz_X3_amountOf wc_X3_amountOf wn_X3 qX3_amountOf rfl rfl ⟨Nat.le_of_ble_eq_true rfl, Nat.le_of_ble_eq_true rfl⟩ rfl rfl rfl rfl (Nat.le_of_ble_eq_true rfl) dX7_reduced_91 rfl h (fun o5 h => ?_)
    cases h
    exact K0 _ _ dX7_reduced_94 rfl
  rw [if_neg c3] at h
  by_cases c4 : a1 = 4
  · rw [if_pos c4] at h
    refine g_tswC 95 (off := 80) C dX7_reduced_15 c4 (by decide) (by decide) (by decide) (by decide) ?_
    refine g_aload_n 96 C dX7_reduced_95 rfl (j := 0) rfl rfl ?_
    refine g_getr 99 (j := 5) C rfl rfl wu_X7 (by decide) wf_X7_66 rfl dX7_reduced_96 rfl ?_
    refine g_cni 102 C (As := []) (fun _ h => mX4_sumsLeft (σ := o2) h) (List.mem_of_getElem? (i := 54) rfl) wi_X4_sumsLeft wz_X4_sumsLeft wc_X4_sumsLeft wn_X4 qX4_sumsLeft rfl rfl ⟨Nat.le_of_ble_eq_true rfl, Nat.le_of_ble_eq_true rfl⟩ rfl rfl rfl rfl (Nat.le_of_ble_eq_true rfl) dX7_reduced_99 rfl h (fun o6 h => ?_)
    refine g_aload_n 103 C dX7_reduced_102 rfl (j := 0) rfl rfl ?_
    refine g_getr 106 (j := 5) C rfl rfl wu_X7 (by decide) wf_X7_66 rfl dX7_reduced_103 rfl ?_
    refine g_getiN 109 (j := 4) C rfl rfl wu_X4 (by decide) (List.mem_of_getElem? (i := 43) rfl) rfl dX7_reduced_106 rfl ?_
    refine g_iadd 110 C dX7_reduced_109 rfl ?_
    cases h
    exact K0 _ _ dX7_reduced_110 rfl
  rw [if_neg c4] at h
  by_cases c5 : a1 = 5
  · rw [if_pos c5] at h
    refine g_tswC 111 (off := 96) C dX7_reduced_15 c5 (by decide) (by decide) (by decide) (by decide) ?_
    refine g_aload_n 112 C dX7_reduced_111 rfl (j := 0) rfl rfl ?_
    refine g_getr 115 (j := 5) C rfl rfl wu_X7 (by decide) wf_X7_66 rfl dX7_reduced_112 rfl ?_
    refine g_cni 118 C (As := []) (fun _ h => mX4_productsLeft (σ := o2) h) (List.mem_of_getElem? (i := 55) rfl) wi_X4_productsLeft wz_X4_productsLeft wc_X4_productsLeft wn_X4 qX4_productsLeft rfl rfl ⟨Nat.le_of_ble_eq_true rfl, Nat.le_of_ble_eq_true rfl⟩ rfl rfl rfl rfl (Nat.le_of_ble_eq_true rfl) dX7_reduced_115 rfl h (fun o7 h => ?_)
    cases h
    exact K0 _ _ dX7_reduced_118 rfl
  rw [if_neg c5] at h
  have hout : a1.toInt < 0 ∨ 5 < a1.toInt := by
    have n0 : ¬ a1.toInt = 0 := ne_toInt c0
    have n1 : ¬ a1.toInt = 1 := ne_toInt c1
    have n2 : ¬ a1.toInt = 2 := ne_toInt c2
    have n3 : ¬ a1.toInt = 3 := ne_toInt c3
    have n4 : ¬ a1.toInt = 4 := ne_toInt c4
    have n5 : ¬ a1.toInt = 5 := ne_toInt c5
    omega
  refine g_tswD 119 C dX7_reduced_15 hout (by decide) ?_
  refine g_iconst 120 (v := (-1)) C dX7_reduced_119 (by decide) rfl ?_
  cases h
  exact K0 _ _ dX7_reduced_120 rfl

/-! LoopReducer.cell(II)I -/
abbrev rmX7_cell : Room := { frames := 7, cells := 0, slots := 0, locals := 175 }
theorem qX7_cell : yX7_cell.cls ≠ "java/lang/invoke/MethodHandle" ∧ yX7_cell.cls ≠ "java/lang/invoke/VarHandle" ∧ (parseMethodDescriptor yX7_cell.desc).map (fun d => d.parameters.length) = some 2 := by decide +kernel
theorem DX7_cell : ∀ q ∈ ([(0, .aload_n 0, 1), (1, .getfield 57, 3), (4, .invokevirtual 146, 3), (7, .aload_n 0, 1), (8, .getfield 66, 3), (11, .invokevirtual 206, 3), (14, .iload_n 1, 1), (15, .ifCond .lt 14, 3), (18, .iload_n 1, 1), (19, .aload_n 0, 1), (20, .getfield 66, 3), (23, .getfield 210, 3), (26, .if_icmp .lt 5, 3), (29, .iconst (-1), 1), (30, .ireturn, 1), (31, .iload_n 2, 1), (32, .tableswitch 57 0 2 #[28, 37, 47], 28), (60, .aload_n 0, 1), (61, .getfield 66, 3), (64, .iload_n 1, 1), (65, .invokevirtual 222, 3), (68, .ireturn, 1), (69, .aload_n 0, 1), (70, .getfield 66, 3), (73, .getfield 223, 3), (76, .iload_n 1, 1), (77, .iaload, 1), (78, .ireturn, 1), (79, .aload_n 0, 1), (80, .getfield 66, 3), (83, .getfield 226, 3), (86, .iload_n 1, 1), (87, .iaload, 1), (88, .ireturn, 1), (89, .iconst (-1), 1), (90, .ireturn, 1)] : List (Nat × Instr × Nat)), decode cX7_cell q.1 = .ok q.2 := by decide +kernel
theorem dX7_cell_0 : decode cX7_cell 0 = .ok (.aload_n 0, 1) := DX7_cell (0, .aload_n 0, 1) (List.mem_of_getElem? (i := 0) rfl)
theorem dX7_cell_1 : decode cX7_cell 1 = .ok (.getfield 57, 3) := DX7_cell (1, .getfield 57, 3) (List.mem_of_getElem? (i := 1) rfl)
theorem dX7_cell_4 : decode cX7_cell 4 = .ok (.invokevirtual 146, 3) := DX7_cell (4, .invokevirtual 146, 3) (List.mem_of_getElem? (i := 2) rfl)
theorem dX7_cell_7 : decode cX7_cell 7 = .ok (.aload_n 0, 1) := DX7_cell (7, .aload_n 0, 1) (List.mem_of_getElem? (i := 3) rfl)
theorem dX7_cell_8 : decode cX7_cell 8 = .ok (.getfield 66, 3) := DX7_cell (8, .getfield 66, 3) (List.mem_of_getElem? (i := 4) rfl)
theorem dX7_cell_11 : decode cX7_cell 11 = .ok (.invokevirtual 206, 3) := DX7_cell (11, .invokevirtual 206, 3) (List.mem_of_getElem? (i := 5) rfl)
theorem dX7_cell_14 : decode cX7_cell 14 = .ok (.iload_n 1, 1) := DX7_cell (14, .iload_n 1, 1) (List.mem_of_getElem? (i := 6) rfl)
theorem dX7_cell_15 : decode cX7_cell 15 = .ok (.ifCond .lt 14, 3) := DX7_cell (15, .ifCond .lt 14, 3) (List.mem_of_getElem? (i := 7) rfl)
theorem dX7_cell_18 : decode cX7_cell 18 = .ok (.iload_n 1, 1) := DX7_cell (18, .iload_n 1, 1) (List.mem_of_getElem? (i := 8) rfl)
theorem dX7_cell_19 : decode cX7_cell 19 = .ok (.aload_n 0, 1) := DX7_cell (19, .aload_n 0, 1) (List.mem_of_getElem? (i := 9) rfl)
theorem dX7_cell_20 : decode cX7_cell 20 = .ok (.getfield 66, 3) := DX7_cell (20, .getfield 66, 3) (List.mem_of_getElem? (i := 10) rfl)
theorem dX7_cell_23 : decode cX7_cell 23 = .ok (.getfield 210, 3) := DX7_cell (23, .getfield 210, 3) (List.mem_of_getElem? (i := 11) rfl)
theorem dX7_cell_26 : decode cX7_cell 26 = .ok (.if_icmp .lt 5, 3) := DX7_cell (26, .if_icmp .lt 5, 3) (List.mem_of_getElem? (i := 12) rfl)
theorem dX7_cell_29 : decode cX7_cell 29 = .ok (.iconst (-1), 1) := DX7_cell (29, .iconst (-1), 1) (List.mem_of_getElem? (i := 13) rfl)
theorem dX7_cell_30 : decode cX7_cell 30 = .ok (.ireturn, 1) := DX7_cell (30, .ireturn, 1) (List.mem_of_getElem? (i := 14) rfl)
theorem dX7_cell_31 : decode cX7_cell 31 = .ok (.iload_n 2, 1) := DX7_cell (31, .iload_n 2, 1) (List.mem_of_getElem? (i := 15) rfl)
theorem dX7_cell_32 : decode cX7_cell 32 = .ok (.tableswitch 57 0 2 #[28, 37, 47], 28) := DX7_cell (32, .tableswitch 57 0 2 #[28, 37, 47], 28) (List.mem_of_getElem? (i := 16) rfl)
theorem dX7_cell_60 : decode cX7_cell 60 = .ok (.aload_n 0, 1) := DX7_cell (60, .aload_n 0, 1) (List.mem_of_getElem? (i := 17) rfl)
theorem dX7_cell_61 : decode cX7_cell 61 = .ok (.getfield 66, 3) := DX7_cell (61, .getfield 66, 3) (List.mem_of_getElem? (i := 18) rfl)
theorem dX7_cell_64 : decode cX7_cell 64 = .ok (.iload_n 1, 1) := DX7_cell (64, .iload_n 1, 1) (List.mem_of_getElem? (i := 19) rfl)
theorem dX7_cell_65 : decode cX7_cell 65 = .ok (.invokevirtual 222, 3) := DX7_cell (65, .invokevirtual 222, 3) (List.mem_of_getElem? (i := 20) rfl)
theorem dX7_cell_68 : decode cX7_cell 68 = .ok (.ireturn, 1) := DX7_cell (68, .ireturn, 1) (List.mem_of_getElem? (i := 21) rfl)
theorem dX7_cell_69 : decode cX7_cell 69 = .ok (.aload_n 0, 1) := DX7_cell (69, .aload_n 0, 1) (List.mem_of_getElem? (i := 22) rfl)
theorem dX7_cell_70 : decode cX7_cell 70 = .ok (.getfield 66, 3) := DX7_cell (70, .getfield 66, 3) (List.mem_of_getElem? (i := 23) rfl)
theorem dX7_cell_73 : decode cX7_cell 73 = .ok (.getfield 223, 3) := DX7_cell (73, .getfield 223, 3) (List.mem_of_getElem? (i := 24) rfl)
theorem dX7_cell_76 : decode cX7_cell 76 = .ok (.iload_n 1, 1) := DX7_cell (76, .iload_n 1, 1) (List.mem_of_getElem? (i := 25) rfl)
theorem dX7_cell_77 : decode cX7_cell 77 = .ok (.iaload, 1) := DX7_cell (77, .iaload, 1) (List.mem_of_getElem? (i := 26) rfl)
theorem dX7_cell_78 : decode cX7_cell 78 = .ok (.ireturn, 1) := DX7_cell (78, .ireturn, 1) (List.mem_of_getElem? (i := 27) rfl)
theorem dX7_cell_79 : decode cX7_cell 79 = .ok (.aload_n 0, 1) := DX7_cell (79, .aload_n 0, 1) (List.mem_of_getElem? (i := 28) rfl)
theorem dX7_cell_80 : decode cX7_cell 80 = .ok (.getfield 66, 3) := DX7_cell (80, .getfield 66, 3) (List.mem_of_getElem? (i := 29) rfl)
theorem dX7_cell_83 : decode cX7_cell 83 = .ok (.getfield 226, 3) := DX7_cell (83, .getfield 226, 3) (List.mem_of_getElem? (i := 30) rfl)
theorem dX7_cell_86 : decode cX7_cell 86 = .ok (.iload_n 1, 1) := DX7_cell (86, .iload_n 1, 1) (List.mem_of_getElem? (i := 31) rfl)
theorem dX7_cell_87 : decode cX7_cell 87 = .ok (.iaload, 1) := DX7_cell (87, .iaload, 1) (List.mem_of_getElem? (i := 32) rfl)
theorem dX7_cell_88 : decode cX7_cell 88 = .ok (.ireturn, 1) := DX7_cell (88, .ireturn, 1) (List.mem_of_getElem? (i := 33) rfl)
theorem dX7_cell_89 : decode cX7_cell 89 = .ok (.iconst (-1), 1) := DX7_cell (89, .iconst (-1), 1) (List.mem_of_getElem? (i := 34) rfl)
theorem dX7_cell_90 : decode cX7_cell 90 = .ok (.ireturn, 1) := DX7_cell (90, .ireturn, 1) (List.mem_of_getElem? (i := 35) rfl)
noncomputable def fX7_cell_L29 (σ : Mem) : Option (Int32 × Mem) :=
  some ((-1), σ)
set_option maxHeartbeats 4000000 in
set_option maxRecDepth 100000 in
theorem tX7_cell_L29 {E : Gx} {cI : ClassId} {ad : Nat → Nat} (C : Cx E rmX7_cell cI layX ad 3 RX7 cX7_cell) {out : Int32 × Mem} (K0 : KI E rmX7_cell cI layX ad 3 cX7_cell .int out) {σ : Mem} (h : fX7_cell_L29 σ = some out) : G E rmX7_cell cI layX ad 3 29 [] [] σ := by
  unfold fX7_cell_L29 at h
  refine g_iconst 30 (v := (-1)) C dX7_cell_29 (by decide) rfl ?_
  cases h
  exact K0 _ _ dX7_cell_30 rfl
noncomputable def fX7_cell (a1 : Int32) (a2 : Int32) (σ : Mem) : Option (Int32 × Mem) :=
  (fX0_refresh σ).bind fun o1 =>
  (fX4_refresh o1).bind fun o2 =>
  if a1 < 0 then
    fX7_cell_L29 o2
  else
    if a1 < (o2 4 4) then
      if a2 = 0 then
        (fX4_degree a1 o2).bind fun o3 =>
        some (o3.1, o3.2)
      else if a2 = 1 then
        chk (inb a1 90) <|
        some (o2 24 a1.toNatClampNeg, o2)
      else if a2 = 2 then
        chk (inb a1 90) <|
        some (o2 22 a1.toNatClampNeg, o2)
      else some ((-1), o2)
    else
      fX7_cell_L29 o2
set_option maxHeartbeats 4000000 in
set_option maxRecDepth 100000 in
theorem mX7_cell {l : Launch} {D : va_G} {cI : ClassId} {ad : Nat → Nat} {a1 : Int32} {a2 : Int32} {σ : Mem} {out : Int32 × Mem} (h : fX7_cell a1 a2 σ = some out) : MI l D cI layX ad yX7_cell cX7_cell 3 .int rmX7_cell [.ref (ad 7), .int a1, .int a2] σ out := by
  refine met_i (by decide) (Nat.le_of_ble_eq_true rfl) (fun E C K0 => ?_)
  show G E rmX7_cell cI layX ad 3 0 [(0, .ref (ad 7)), (1, .int a1), (2, .int a2)] [] σ
  unfold fX7_cell at h
  refine g_aload_n 1 C dX7_cell_0 rfl (j := 0) rfl rfl ?_
  refine g_getr 4 (j := 4) C rfl rfl wu_X7 (by decide) wf_X7_57 rfl dX7_cell_1 rfl ?_
  refine g_cnv 7 C (As := []) (fun _ h => mX0_refresh (σ := σ) h) (List.mem_of_getElem? (i := 12) rfl) wi_X0_refresh wz_X0_refresh wc_X0_refresh wn_X0 qX0_refresh rfl rfl ⟨Nat.le_of_ble_eq_true rfl, Nat.le_of_ble_eq_true rfl⟩ rfl rfl rfl rfl (Nat.le_of_ble_eq_true rfl) dX7_cell_4 rfl h (fun o1 h => ?_)
  refine g_aload_n 8 C dX7_cell_7 rfl (j := 0) rfl rfl ?_
  refine g_getr 11 (j := 5) C rfl rfl wu_X7 (by decide) wf_X7_66 rfl dX7_cell_8 rfl ?_
  refine g_cnv 14 C (As := []) (fun _ h => mX4_refresh (σ := o1) h) (List.mem_of_getElem? (i := 47) rfl) wi_X4_refresh wz_X4_refresh wc_X4_refresh wn_X4 qX4_refresh rfl rfl ⟨Nat.le_of_ble_eq_true rfl, Nat.le_of_ble_eq_true rfl⟩ rfl rfl rfl rfl (Nat.le_of_ble_eq_true rfl) dX7_cell_11 rfl h (fun o2 h => ?_)
  refine g_iload_n 15 C dX7_cell_14 rfl (j := 1) rfl rfl ?_
  refine g_if_lt 29 18 C dX7_cell_15 (by decide) rfl h (fun h => ?_) (fun h => ?_)
  · exact g_sub [] (tX7_cell_L29 (σ := o2) C K0 h) rfl
  · refine g_iload_n 19 C dX7_cell_18 rfl (j := 1) rfl rfl ?_
    refine g_aload_n 20 C dX7_cell_19 rfl (j := 0) rfl rfl ?_
    refine g_getr 23 (j := 5) C rfl rfl wu_X7 (by decide) wf_X7_66 rfl dX7_cell_20 rfl ?_
    refine g_getiN 26 (j := 4) C rfl rfl wu_X4 (by decide) (List.mem_of_getElem? (i := 43) rfl) rfl dX7_cell_23 rfl ?_
    refine g_icmp_lt 31 29 C dX7_cell_26 (by decide) rfl h (fun h => ?_) (fun h => ?_)
    · refine g_iload_n 32 C dX7_cell_31 rfl (j := 2) rfl rfl ?_
      by_cases c0 : a2 = 0
      · rw [if_pos c0] at h
        refine g_tswC 60 (off := 28) C dX7_cell_32 c0 (by decide) (by decide) (by decide) (by decide) ?_
        refine g_aload_n 61 C dX7_cell_60 rfl (j := 0) rfl rfl ?_
        refine g_getr 64 (j := 5) C rfl rfl wu_X7 (by decide) wf_X7_66 rfl dX7_cell_61 rfl ?_
        refine g_iload_n 65 C dX7_cell_64 rfl (j := 1) rfl rfl ?_
        refine g_cni 68 C (As := [.int a1]) (fun _ h => mX4_degree (a1 := a1) (σ := o2) h) (List.mem_of_getElem? (i := 56) rfl) wi_X4_degree wz_X4_degree wc_X4_degree wn_X4 qX4_degree rfl rfl ⟨Nat.le_of_ble_eq_true rfl, Nat.le_of_ble_eq_true rfl⟩ rfl rfl rfl rfl (Nat.le_of_ble_eq_true rfl) dX7_cell_65 rfl h (fun o3 h => ?_)
        cases h
        exact K0 _ _ dX7_cell_68 rfl
      rw [if_neg c0] at h
      by_cases c1 : a2 = 1
      · rw [if_pos c1] at h
        refine g_tswC 69 (off := 37) C dX7_cell_32 c1 (by decide) (by decide) (by decide) (by decide) ?_
        refine g_aload_n 70 C dX7_cell_69 rfl (j := 0) rfl rfl ?_
        refine g_getr 73 (j := 5) C rfl rfl wu_X7 (by decide) wf_X7_66 rfl dX7_cell_70 rfl ?_
        refine g_getrN 76 (j := 7) C rfl rfl wu_X4 (by decide) (List.mem_of_getElem? (i := 48) rfl) rfl dX7_cell_73 rfl ?_
        refine g_iload_n 77 C dX7_cell_76 rfl (j := 1) rfl rfl ?_
        refine g_iald 78 C rfl dX7_cell_77 rfl h (fun h => ?_)
        cases h
        exact K0 _ _ dX7_cell_78 rfl
      rw [if_neg c1] at h
      by_cases c2 : a2 = 2
      · rw [if_pos c2] at h
        refine g_tswC 79 (off := 47) C dX7_cell_32 c2 (by decide) (by decide) (by decide) (by decide) ?_
        refine g_aload_n 80 C dX7_cell_79 rfl (j := 0) rfl rfl ?_
        refine g_getr 83 (j := 5) C rfl rfl wu_X7 (by decide) wf_X7_66 rfl dX7_cell_80 rfl ?_
        refine g_getrN 86 (j := 5) C rfl rfl wu_X4 (by decide) (List.mem_of_getElem? (i := 45) rfl) rfl dX7_cell_83 rfl ?_
        refine g_iload_n 87 C dX7_cell_86 rfl (j := 1) rfl rfl ?_
        refine g_iald 88 C rfl dX7_cell_87 rfl h (fun h => ?_)
        cases h
        exact K0 _ _ dX7_cell_88 rfl
      rw [if_neg c2] at h
      have hout : a2.toInt < 0 ∨ 2 < a2.toInt := by
        have n0 : ¬ a2.toInt = 0 := ne_toInt c0
        have n1 : ¬ a2.toInt = 1 := ne_toInt c1
        have n2 : ¬ a2.toInt = 2 := ne_toInt c2
        omega
      refine g_tswD 89 C dX7_cell_32 hout (by decide) ?_
      refine g_iconst 90 (v := (-1)) C dX7_cell_89 (by decide) rfl ?_
      cases h
      exact K0 _ _ dX7_cell_90 rfl
    · exact g_sub [] (tX7_cell_L29 (σ := o2) C K0 h) rfl

/-! LoopReducer.needed(I)I -/
abbrev rmX7_needed : Room := { frames := 7, cells := 0, slots := 0, locals := 175 }
theorem qX7_needed : yX7_needed.cls ≠ "java/lang/invoke/MethodHandle" ∧ yX7_needed.cls ≠ "java/lang/invoke/VarHandle" ∧ (parseMethodDescriptor yX7_needed.desc).map (fun d => d.parameters.length) = some 1 := by decide +kernel
theorem DX7_needed : ∀ q ∈ ([(0, .aload_n 0, 1), (1, .getfield 23, 3), (4, .iload_n 1, 1), (5, .invokevirtual 97, 3), (8, .ifCond .eq 14, 3), (11, .aload_n 0, 1), (12, .getfield 23, 3), (15, .getfield 112, 3), (18, .iconst (-1), 1), (19, .if_icmp .ne 5, 3), (22, .iconst (-1), 1), (23, .ireturn, 1), (24, .aload_n 0, 1), (25, .getfield 57, 3), (28, .invokevirtual 146, 3), (31, .aload_n 0, 1), (32, .getfield 66, 3), (35, .aload_n 0, 1), (36, .getfield 23, 3), (39, .getfield 124, 3), (42, .iconst 1, 1), (43, .iload_n 1, 1), (44, .ishl, 1), (45, .ior, 1), (46, .invokevirtual 229, 3), (49, .ireturn, 1)] : List (Nat × Instr × Nat)), decode cX7_needed q.1 = .ok q.2 := by decide +kernel
theorem dX7_needed_0 : decode cX7_needed 0 = .ok (.aload_n 0, 1) := DX7_needed (0, .aload_n 0, 1) (List.mem_of_getElem? (i := 0) rfl)
theorem dX7_needed_1 : decode cX7_needed 1 = .ok (.getfield 23, 3) := DX7_needed (1, .getfield 23, 3) (List.mem_of_getElem? (i := 1) rfl)
theorem dX7_needed_4 : decode cX7_needed 4 = .ok (.iload_n 1, 1) := DX7_needed (4, .iload_n 1, 1) (List.mem_of_getElem? (i := 2) rfl)
theorem dX7_needed_5 : decode cX7_needed 5 = .ok (.invokevirtual 97, 3) := DX7_needed (5, .invokevirtual 97, 3) (List.mem_of_getElem? (i := 3) rfl)
theorem dX7_needed_8 : decode cX7_needed 8 = .ok (.ifCond .eq 14, 3) := DX7_needed (8, .ifCond .eq 14, 3) (List.mem_of_getElem? (i := 4) rfl)
theorem dX7_needed_11 : decode cX7_needed 11 = .ok (.aload_n 0, 1) := DX7_needed (11, .aload_n 0, 1) (List.mem_of_getElem? (i := 5) rfl)
theorem dX7_needed_12 : decode cX7_needed 12 = .ok (.getfield 23, 3) := DX7_needed (12, .getfield 23, 3) (List.mem_of_getElem? (i := 6) rfl)
theorem dX7_needed_15 : decode cX7_needed 15 = .ok (.getfield 112, 3) := DX7_needed (15, .getfield 112, 3) (List.mem_of_getElem? (i := 7) rfl)
theorem dX7_needed_18 : decode cX7_needed 18 = .ok (.iconst (-1), 1) := DX7_needed (18, .iconst (-1), 1) (List.mem_of_getElem? (i := 8) rfl)
theorem dX7_needed_19 : decode cX7_needed 19 = .ok (.if_icmp .ne 5, 3) := DX7_needed (19, .if_icmp .ne 5, 3) (List.mem_of_getElem? (i := 9) rfl)
theorem dX7_needed_22 : decode cX7_needed 22 = .ok (.iconst (-1), 1) := DX7_needed (22, .iconst (-1), 1) (List.mem_of_getElem? (i := 10) rfl)
theorem dX7_needed_23 : decode cX7_needed 23 = .ok (.ireturn, 1) := DX7_needed (23, .ireturn, 1) (List.mem_of_getElem? (i := 11) rfl)
theorem dX7_needed_24 : decode cX7_needed 24 = .ok (.aload_n 0, 1) := DX7_needed (24, .aload_n 0, 1) (List.mem_of_getElem? (i := 12) rfl)
theorem dX7_needed_25 : decode cX7_needed 25 = .ok (.getfield 57, 3) := DX7_needed (25, .getfield 57, 3) (List.mem_of_getElem? (i := 13) rfl)
theorem dX7_needed_28 : decode cX7_needed 28 = .ok (.invokevirtual 146, 3) := DX7_needed (28, .invokevirtual 146, 3) (List.mem_of_getElem? (i := 14) rfl)
theorem dX7_needed_31 : decode cX7_needed 31 = .ok (.aload_n 0, 1) := DX7_needed (31, .aload_n 0, 1) (List.mem_of_getElem? (i := 15) rfl)
theorem dX7_needed_32 : decode cX7_needed 32 = .ok (.getfield 66, 3) := DX7_needed (32, .getfield 66, 3) (List.mem_of_getElem? (i := 16) rfl)
theorem dX7_needed_35 : decode cX7_needed 35 = .ok (.aload_n 0, 1) := DX7_needed (35, .aload_n 0, 1) (List.mem_of_getElem? (i := 17) rfl)
theorem dX7_needed_36 : decode cX7_needed 36 = .ok (.getfield 23, 3) := DX7_needed (36, .getfield 23, 3) (List.mem_of_getElem? (i := 18) rfl)
theorem dX7_needed_39 : decode cX7_needed 39 = .ok (.getfield 124, 3) := DX7_needed (39, .getfield 124, 3) (List.mem_of_getElem? (i := 19) rfl)
theorem dX7_needed_42 : decode cX7_needed 42 = .ok (.iconst 1, 1) := DX7_needed (42, .iconst 1, 1) (List.mem_of_getElem? (i := 20) rfl)
theorem dX7_needed_43 : decode cX7_needed 43 = .ok (.iload_n 1, 1) := DX7_needed (43, .iload_n 1, 1) (List.mem_of_getElem? (i := 21) rfl)
theorem dX7_needed_44 : decode cX7_needed 44 = .ok (.ishl, 1) := DX7_needed (44, .ishl, 1) (List.mem_of_getElem? (i := 22) rfl)
theorem dX7_needed_45 : decode cX7_needed 45 = .ok (.ior, 1) := DX7_needed (45, .ior, 1) (List.mem_of_getElem? (i := 23) rfl)
theorem dX7_needed_46 : decode cX7_needed 46 = .ok (.invokevirtual 229, 3) := DX7_needed (46, .invokevirtual 229, 3) (List.mem_of_getElem? (i := 24) rfl)
theorem dX7_needed_49 : decode cX7_needed 49 = .ok (.ireturn, 1) := DX7_needed (49, .ireturn, 1) (List.mem_of_getElem? (i := 25) rfl)
noncomputable def fX7_needed_L22 (σ : Mem) : Option (Int32 × Mem) :=
  some ((-1), σ)
set_option maxHeartbeats 4000000 in
set_option maxRecDepth 100000 in
theorem tX7_needed_L22 {E : Gx} {cI : ClassId} {ad : Nat → Nat} (C : Cx E rmX7_needed cI layX ad 2 RX7 cX7_needed) {out : Int32 × Mem} (K0 : KI E rmX7_needed cI layX ad 2 cX7_needed .int out) {σ : Mem} (h : fX7_needed_L22 σ = some out) : G E rmX7_needed cI layX ad 2 22 [] [] σ := by
  unfold fX7_needed_L22 at h
  refine g_iconst 23 (v := (-1)) C dX7_needed_22 (by decide) rfl ?_
  cases h
  exact K0 _ _ dX7_needed_23 rfl
noncomputable def fX7_needed (a1 : Int32) (σ : Mem) : Option (Int32 × Mem) :=
  (fX3_has a1 σ).bind fun o1 =>
  if o1.1 = 0 then
    fX7_needed_L22 o1.2
  else
    if (o1.2 3 8) = (-1) then
      fX7_needed_L22 o1.2
    else
      (fX0_refresh o1.2).bind fun o2 =>
      (fX4_neededFor ((o2 3 7) ||| (1 <<< (a1 &&& 31))) o2).bind fun o3 =>
      some (o3.1, o3.2)
set_option maxHeartbeats 4000000 in
set_option maxRecDepth 100000 in
theorem mX7_needed {l : Launch} {D : va_G} {cI : ClassId} {ad : Nat → Nat} {a1 : Int32} {σ : Mem} {out : Int32 × Mem} (h : fX7_needed a1 σ = some out) : MI l D cI layX ad yX7_needed cX7_needed 2 .int rmX7_needed [.ref (ad 7), .int a1] σ out := by
  refine met_i (by decide) (Nat.le_of_ble_eq_true rfl) (fun E C K0 => ?_)
  show G E rmX7_needed cI layX ad 2 0 [(0, .ref (ad 7)), (1, .int a1)] [] σ
  unfold fX7_needed at h
  refine g_aload_n 1 C dX7_needed_0 rfl (j := 0) rfl rfl ?_
  refine g_getr 4 (j := 0) C rfl rfl wu_X7 (by decide) wf_X7_23 rfl dX7_needed_1 rfl ?_
  refine g_iload_n 5 C dX7_needed_4 rfl (j := 1) rfl rfl ?_
  refine g_cni 8 C (As := [.int a1]) (fun _ h => mX3_has (a1 := a1) (σ := σ) h) (List.mem_of_getElem? (i := 9) rfl) wi_X3_has wz_X3_has wc_X3_has wn_X3 qX3_has rfl rfl ⟨Nat.le_of_ble_eq_true rfl, Nat.le_of_ble_eq_true rfl⟩ rfl rfl rfl rfl (Nat.le_of_ble_eq_true rfl) dX7_needed_5 rfl h (fun o1 h => ?_)
  refine g_if_eq 22 11 C dX7_needed_8 (by decide) rfl h (fun h => ?_) (fun h => ?_)
  · exact g_sub [] (tX7_needed_L22 (σ := o1.2) C K0 h) rfl
  · refine g_aload_n 12 C dX7_needed_11 rfl (j := 0) rfl rfl ?_
    refine g_getr 15 (j := 0) C rfl rfl wu_X7 (by decide) wf_X7_23 rfl dX7_needed_12 rfl ?_
    refine g_getiN 18 (j := 8) C rfl rfl wu_X3 (by decide) (List.mem_of_getElem? (i := 21) rfl) rfl dX7_needed_15 rfl ?_
    refine g_iconst 19 (v := (-1)) C dX7_needed_18 (by decide) rfl ?_
    refine g_icmp_ne 24 22 C dX7_needed_19 (by decide) rfl h (fun h => ?_) (fun h => ?_)
    · exact g_sub [] (tX7_needed_L22 (σ := o1.2) C K0 h) rfl
    · refine g_aload_n 25 C dX7_needed_24 rfl (j := 0) rfl rfl ?_
      refine g_getr 28 (j := 4) C rfl rfl wu_X7 (by decide) wf_X7_57 rfl dX7_needed_25 rfl ?_
      refine g_cnv 31 C (As := []) (fun _ h => mX0_refresh (σ := o1.2) h) (List.mem_of_getElem? (i := 12) rfl) wi_X0_refresh wz_X0_refresh wc_X0_refresh wn_X0 qX0_refresh rfl rfl ⟨Nat.le_of_ble_eq_true rfl, Nat.le_of_ble_eq_true rfl⟩ rfl rfl rfl rfl (Nat.le_of_ble_eq_true rfl) dX7_needed_28 rfl h (fun o2 h => ?_)
      refine g_aload_n 32 C dX7_needed_31 rfl (j := 0) rfl rfl ?_
      refine g_getr 35 (j := 5) C rfl rfl wu_X7 (by decide) wf_X7_66 rfl dX7_needed_32 rfl ?_
      refine g_aload_n 36 C dX7_needed_35 rfl (j := 0) rfl rfl ?_
      refine g_getr 39 (j := 0) C rfl rfl wu_X7 (by decide) wf_X7_23 rfl dX7_needed_36 rfl ?_
      refine g_getiN 42 (j := 7) C rfl rfl wu_X3 (by decide) (List.mem_of_getElem? (i := 19) rfl) rfl dX7_needed_39 rfl ?_
      refine g_iconst 43 (v := 1) C dX7_needed_42 (by decide) rfl ?_
      refine g_iload_n 44 C dX7_needed_43 rfl (j := 1) rfl rfl ?_
      refine g_ishl 45 C dX7_needed_44 rfl ?_
      refine g_ior 46 C dX7_needed_45 rfl ?_
      refine g_cni 49 C (As := [.int ((o2 3 7) ||| (1 <<< (a1 &&& 31)))]) (fun _ h => mX4_neededFor (a1 := (o2 3 7) ||| (1 <<< (a1 &&& 31))) (σ := o2) h) (List.mem_of_getElem? (i := 57) rfl) wi_X4_neededFor wz_X4_neededFor wc_X4_neededFor wn_X4 qX4_neededFor rfl rfl ⟨Nat.le_of_ble_eq_true rfl, Nat.le_of_ble_eq_true rfl⟩ rfl rfl rfl rfl (Nat.le_of_ble_eq_true rfl) dX7_needed_46 rfl h (fun o3 h => ?_)
      cases h
      exact K0 _ _ dX7_needed_49 rfl

/-! LoopReducer.runReduced(III)I -/
abbrev rmX7_runReduced : Room := { frames := 7, cells := 0, slots := 0, locals := 175 }
theorem qX7_runReduced : yX7_runReduced.cls ≠ "java/lang/invoke/MethodHandle" ∧ yX7_runReduced.cls ≠ "java/lang/invoke/VarHandle" ∧ (parseMethodDescriptor yX7_runReduced.desc).map (fun d => d.parameters.length) = some 3 := by decide +kernel
theorem DX7_runReduced : ∀ q ∈ ([(0, .aload_n 0, 1), (1, .getfield 23, 3), (4, .getfield 112, 3), (7, .iconst (-1), 1), (8, .if_icmp .ne 5, 3), (11, .iconst (-1), 1), (12, .ireturn, 1), (13, .aload_n 0, 1), (14, .getfield 57, 3), (17, .invokevirtual 146, 3), (20, .aload_n 0, 1), (21, .getfield 66, 3), (24, .invokevirtual 206, 3), (27, .aload_n 0, 1), (28, .getfield 75, 3), (31, .iload_n 1, 1), (32, .iload_n 2, 1), (33, .iload_n 3, 1), (34, .invokevirtual 196, 3), (37, .aload_n 0, 1), (38, .getfield 30, 3), (41, .iload_n 1, 1), (42, .iload_n 2, 1), (43, .iload_n 3, 1), (44, .invokevirtual 188, 3), (47, .aload_n 0, 1), (48, .getfield 75, 3), (51, .invokevirtual 235, 3), (54, .ireturn, 1)] : List (Nat × Instr × Nat)), decode cX7_runReduced q.1 = .ok q.2 := by decide +kernel
theorem dX7_runReduced_0 : decode cX7_runReduced 0 = .ok (.aload_n 0, 1) := DX7_runReduced (0, .aload_n 0, 1) (List.mem_of_getElem? (i := 0) rfl)
theorem dX7_runReduced_1 : decode cX7_runReduced 1 = .ok (.getfield 23, 3) := DX7_runReduced (1, .getfield 23, 3) (List.mem_of_getElem? (i := 1) rfl)
theorem dX7_runReduced_4 : decode cX7_runReduced 4 = .ok (.getfield 112, 3) := DX7_runReduced (4, .getfield 112, 3) (List.mem_of_getElem? (i := 2) rfl)
theorem dX7_runReduced_7 : decode cX7_runReduced 7 = .ok (.iconst (-1), 1) := DX7_runReduced (7, .iconst (-1), 1) (List.mem_of_getElem? (i := 3) rfl)
theorem dX7_runReduced_8 : decode cX7_runReduced 8 = .ok (.if_icmp .ne 5, 3) := DX7_runReduced (8, .if_icmp .ne 5, 3) (List.mem_of_getElem? (i := 4) rfl)
theorem dX7_runReduced_11 : decode cX7_runReduced 11 = .ok (.iconst (-1), 1) := DX7_runReduced (11, .iconst (-1), 1) (List.mem_of_getElem? (i := 5) rfl)
theorem dX7_runReduced_12 : decode cX7_runReduced 12 = .ok (.ireturn, 1) := DX7_runReduced (12, .ireturn, 1) (List.mem_of_getElem? (i := 6) rfl)
theorem dX7_runReduced_13 : decode cX7_runReduced 13 = .ok (.aload_n 0, 1) := DX7_runReduced (13, .aload_n 0, 1) (List.mem_of_getElem? (i := 7) rfl)
theorem dX7_runReduced_14 : decode cX7_runReduced 14 = .ok (.getfield 57, 3) := DX7_runReduced (14, .getfield 57, 3) (List.mem_of_getElem? (i := 8) rfl)
theorem dX7_runReduced_17 : decode cX7_runReduced 17 = .ok (.invokevirtual 146, 3) := DX7_runReduced (17, .invokevirtual 146, 3) (List.mem_of_getElem? (i := 9) rfl)
theorem dX7_runReduced_20 : decode cX7_runReduced 20 = .ok (.aload_n 0, 1) := DX7_runReduced (20, .aload_n 0, 1) (List.mem_of_getElem? (i := 10) rfl)
theorem dX7_runReduced_21 : decode cX7_runReduced 21 = .ok (.getfield 66, 3) := DX7_runReduced (21, .getfield 66, 3) (List.mem_of_getElem? (i := 11) rfl)
theorem dX7_runReduced_24 : decode cX7_runReduced 24 = .ok (.invokevirtual 206, 3) := DX7_runReduced (24, .invokevirtual 206, 3) (List.mem_of_getElem? (i := 12) rfl)
theorem dX7_runReduced_27 : decode cX7_runReduced 27 = .ok (.aload_n 0, 1) := DX7_runReduced (27, .aload_n 0, 1) (List.mem_of_getElem? (i := 13) rfl)
theorem dX7_runReduced_28 : decode cX7_runReduced 28 = .ok (.getfield 75, 3) := DX7_runReduced (28, .getfield 75, 3) (List.mem_of_getElem? (i := 14) rfl)
theorem dX7_runReduced_31 : decode cX7_runReduced 31 = .ok (.iload_n 1, 1) := DX7_runReduced (31, .iload_n 1, 1) (List.mem_of_getElem? (i := 15) rfl)
theorem dX7_runReduced_32 : decode cX7_runReduced 32 = .ok (.iload_n 2, 1) := DX7_runReduced (32, .iload_n 2, 1) (List.mem_of_getElem? (i := 16) rfl)
theorem dX7_runReduced_33 : decode cX7_runReduced 33 = .ok (.iload_n 3, 1) := DX7_runReduced (33, .iload_n 3, 1) (List.mem_of_getElem? (i := 17) rfl)
theorem dX7_runReduced_34 : decode cX7_runReduced 34 = .ok (.invokevirtual 196, 3) := DX7_runReduced (34, .invokevirtual 196, 3) (List.mem_of_getElem? (i := 18) rfl)
theorem dX7_runReduced_37 : decode cX7_runReduced 37 = .ok (.aload_n 0, 1) := DX7_runReduced (37, .aload_n 0, 1) (List.mem_of_getElem? (i := 19) rfl)
theorem dX7_runReduced_38 : decode cX7_runReduced 38 = .ok (.getfield 30, 3) := DX7_runReduced (38, .getfield 30, 3) (List.mem_of_getElem? (i := 20) rfl)
theorem dX7_runReduced_41 : decode cX7_runReduced 41 = .ok (.iload_n 1, 1) := DX7_runReduced (41, .iload_n 1, 1) (List.mem_of_getElem? (i := 21) rfl)
theorem dX7_runReduced_42 : decode cX7_runReduced 42 = .ok (.iload_n 2, 1) := DX7_runReduced (42, .iload_n 2, 1) (List.mem_of_getElem? (i := 22) rfl)
theorem dX7_runReduced_43 : decode cX7_runReduced 43 = .ok (.iload_n 3, 1) := DX7_runReduced (43, .iload_n 3, 1) (List.mem_of_getElem? (i := 23) rfl)
theorem dX7_runReduced_44 : decode cX7_runReduced 44 = .ok (.invokevirtual 188, 3) := DX7_runReduced (44, .invokevirtual 188, 3) (List.mem_of_getElem? (i := 24) rfl)
theorem dX7_runReduced_47 : decode cX7_runReduced 47 = .ok (.aload_n 0, 1) := DX7_runReduced (47, .aload_n 0, 1) (List.mem_of_getElem? (i := 25) rfl)
theorem dX7_runReduced_48 : decode cX7_runReduced 48 = .ok (.getfield 75, 3) := DX7_runReduced (48, .getfield 75, 3) (List.mem_of_getElem? (i := 26) rfl)
theorem dX7_runReduced_51 : decode cX7_runReduced 51 = .ok (.invokevirtual 235, 3) := DX7_runReduced (51, .invokevirtual 235, 3) (List.mem_of_getElem? (i := 27) rfl)
theorem dX7_runReduced_54 : decode cX7_runReduced 54 = .ok (.ireturn, 1) := DX7_runReduced (54, .ireturn, 1) (List.mem_of_getElem? (i := 28) rfl)
noncomputable def fX7_runReduced (a1 : Int32) (a2 : Int32) (a3 : Int32) (σ : Mem) : Option (Int32 × Mem) :=
  if (σ 3 8) = (-1) then
    some ((-1), σ)
  else
    (fX0_refresh σ).bind fun o1 =>
    (fX4_refresh o1).bind fun o2 =>
    (fX6_give a1 a2 a3 o2).bind fun o3 =>
    (fX2_give a1 a2 a3 o3).bind fun o4 =>
    (fX6_goReduced o4).bind fun o5 =>
    some (o5.1, o5.2)
set_option maxHeartbeats 4000000 in
set_option maxRecDepth 100000 in
theorem mX7_runReduced {l : Launch} {D : va_G} {cI : ClassId} {ad : Nat → Nat} {a1 : Int32} {a2 : Int32} {a3 : Int32} {σ : Mem} {out : Int32 × Mem} (h : fX7_runReduced a1 a2 a3 σ = some out) : MI l D cI layX ad yX7_runReduced cX7_runReduced 4 .int rmX7_runReduced [.ref (ad 7), .int a1, .int a2, .int a3] σ out := by
  refine met_i (by decide) (Nat.le_of_ble_eq_true rfl) (fun E C K0 => ?_)
  show G E rmX7_runReduced cI layX ad 4 0 [(0, .ref (ad 7)), (1, .int a1), (2, .int a2), (3, .int a3)] [] σ
  unfold fX7_runReduced at h
  refine g_aload_n 1 C dX7_runReduced_0 rfl (j := 0) rfl rfl ?_
  refine g_getr 4 (j := 0) C rfl rfl wu_X7 (by decide) wf_X7_23 rfl dX7_runReduced_1 rfl ?_
  refine g_getiN 7 (j := 8) C rfl rfl wu_X3 (by decide) (List.mem_of_getElem? (i := 21) rfl) rfl dX7_runReduced_4 rfl ?_
  refine g_iconst 8 (v := (-1)) C dX7_runReduced_7 (by decide) rfl ?_
  refine g_icmp_ne 13 11 C dX7_runReduced_8 (by decide) rfl h (fun h => ?_) (fun h => ?_)
  · refine g_iconst 12 (v := (-1)) C dX7_runReduced_11 (by decide) rfl ?_
    cases h
    exact K0 _ _ dX7_runReduced_12 rfl
  · refine g_aload_n 14 C dX7_runReduced_13 rfl (j := 0) rfl rfl ?_
    refine g_getr 17 (j := 4) C rfl rfl wu_X7 (by decide) wf_X7_57 rfl dX7_runReduced_14 rfl ?_
    refine g_cnv 20 C (As := []) (fun _ h => mX0_refresh (σ := σ) h) (List.mem_of_getElem? (i := 12) rfl) wi_X0_refresh wz_X0_refresh wc_X0_refresh wn_X0 qX0_refresh rfl rfl ⟨Nat.le_of_ble_eq_true rfl, Nat.le_of_ble_eq_true rfl⟩ rfl rfl rfl rfl (Nat.le_of_ble_eq_true rfl) dX7_runReduced_17 rfl h (fun o1 h => ?_)
    refine g_aload_n 21 C dX7_runReduced_20 rfl (j := 0) rfl rfl ?_
    refine g_getr 24 (j := 5) C rfl rfl wu_X7 (by decide) wf_X7_66 rfl dX7_runReduced_21 rfl ?_
    refine g_cnv 27 C (As := []) (fun _ h => mX4_refresh (σ := o1) h) (List.mem_of_getElem? (i := 47) rfl) wi_X4_refresh wz_X4_refresh wc_X4_refresh wn_X4 qX4_refresh rfl rfl ⟨Nat.le_of_ble_eq_true rfl, Nat.le_of_ble_eq_true rfl⟩ rfl rfl rfl rfl (Nat.le_of_ble_eq_true rfl) dX7_runReduced_24 rfl h (fun o2 h => ?_)
    refine g_aload_n 28 C dX7_runReduced_27 rfl (j := 0) rfl rfl ?_
    refine g_getr 31 (j := 6) C rfl rfl wu_X7 (by decide) wf_X7_75 rfl dX7_runReduced_28 rfl ?_
    refine g_iload_n 32 C dX7_runReduced_31 rfl (j := 1) rfl rfl ?_
    refine g_iload_n 33 C dX7_runReduced_32 rfl (j := 2) rfl rfl ?_
    refine g_iload_n 34 C dX7_runReduced_33 rfl (j := 3) rfl rfl ?_
    refine g_cnv 37 C (As := [.int a1, .int a2, .int a3]) (fun _ h => mX6_give (a1 := a1) (a2 := a2) (a3 := a3) (σ := o2) h) (List.mem_of_getElem? (i := 42) rfl) wi_X6_give wz_X6_give wc_X6_give wn_X6 qX6_give rfl rfl ⟨Nat.le_of_ble_eq_true rfl, Nat.le_of_ble_eq_true rfl⟩ rfl rfl rfl rfl (Nat.le_of_ble_eq_true rfl) dX7_runReduced_34 rfl h (fun o3 h => ?_)
    refine g_aload_n 38 C dX7_runReduced_37 rfl (j := 0) rfl rfl ?_
    refine g_getr 41 (j := 1) C rfl rfl wu_X7 (by decide) wf_X7_30 rfl dX7_runReduced_38 rfl ?_
    refine g_iload_n 42 C dX7_runReduced_41 rfl (j := 1) rfl rfl ?_
    refine g_iload_n 43 C dX7_runReduced_42 rfl (j := 2) rfl rfl ?_
    refine g_iload_n 44 C dX7_runReduced_43 rfl (j := 3) rfl rfl ?_
    refine g_cnv 47 C (As := [.int a1, .int a2, .int a3]) (fun _ h => mX2_give (a1 := a1) (a2 := a2) (a3 := a3) (σ := o3) h) (List.mem_of_getElem? (i := 39) rfl) wi_X2_give wz_X2_give wc_X2_give wn_X2 qX2_give rfl rfl ⟨Nat.le_of_ble_eq_true rfl, Nat.le_of_ble_eq_true rfl⟩ rfl rfl rfl rfl (Nat.le_of_ble_eq_true rfl) dX7_runReduced_44 rfl h (fun o4 h => ?_)
    refine g_aload_n 48 C dX7_runReduced_47 rfl (j := 0) rfl rfl ?_
    refine g_getr 51 (j := 6) C rfl rfl wu_X7 (by decide) wf_X7_75 rfl dX7_runReduced_48 rfl ?_
    refine g_cni 54 C (As := []) (fun _ h => mX6_goReduced (σ := o4) h) (List.mem_of_getElem? (i := 64) rfl) wi_X6_goReduced wz_X6_goReduced wc_X6_goReduced wn_X6 qX6_goReduced rfl rfl ⟨Nat.le_of_ble_eq_true rfl, Nat.le_of_ble_eq_true rfl⟩ rfl rfl rfl rfl (Nat.le_of_ble_eq_true rfl) dX7_runReduced_51 rfl h (fun o5 h => ?_)
    cases h
    exact K0 _ _ dX7_runReduced_54 rfl

/-! LoopReducer.ahead(III)I -/
abbrev rmX7_ahead : Room := { frames := 7, cells := 0, slots := 0, locals := 175 }
theorem qX7_ahead : yX7_ahead.cls ≠ "java/lang/invoke/MethodHandle" ∧ yX7_ahead.cls ≠ "java/lang/invoke/VarHandle" ∧ (parseMethodDescriptor yX7_ahead.desc).map (fun d => d.parameters.length) = some 3 := by decide +kernel
theorem DX7_ahead : ∀ q ∈ ([(0, .aload_n 0, 1), (1, .getfield 57, 3), (4, .invokevirtual 146, 3), (7, .aload_n 0, 1), (8, .iload_n 1, 1), (9, .iload_n 2, 1), (10, .iload_n 3, 1), (11, .invokevirtual 244, 3), (14, .ireturn, 1)] : List (Nat × Instr × Nat)), decode cX7_ahead q.1 = .ok q.2 := by decide +kernel
theorem dX7_ahead_0 : decode cX7_ahead 0 = .ok (.aload_n 0, 1) := DX7_ahead (0, .aload_n 0, 1) (List.mem_of_getElem? (i := 0) rfl)
theorem dX7_ahead_1 : decode cX7_ahead 1 = .ok (.getfield 57, 3) := DX7_ahead (1, .getfield 57, 3) (List.mem_of_getElem? (i := 1) rfl)
theorem dX7_ahead_4 : decode cX7_ahead 4 = .ok (.invokevirtual 146, 3) := DX7_ahead (4, .invokevirtual 146, 3) (List.mem_of_getElem? (i := 2) rfl)
theorem dX7_ahead_7 : decode cX7_ahead 7 = .ok (.aload_n 0, 1) := DX7_ahead (7, .aload_n 0, 1) (List.mem_of_getElem? (i := 3) rfl)
theorem dX7_ahead_8 : decode cX7_ahead 8 = .ok (.iload_n 1, 1) := DX7_ahead (8, .iload_n 1, 1) (List.mem_of_getElem? (i := 4) rfl)
theorem dX7_ahead_9 : decode cX7_ahead 9 = .ok (.iload_n 2, 1) := DX7_ahead (9, .iload_n 2, 1) (List.mem_of_getElem? (i := 5) rfl)
theorem dX7_ahead_10 : decode cX7_ahead 10 = .ok (.iload_n 3, 1) := DX7_ahead (10, .iload_n 3, 1) (List.mem_of_getElem? (i := 6) rfl)
theorem dX7_ahead_11 : decode cX7_ahead 11 = .ok (.invokevirtual 244, 3) := DX7_ahead (11, .invokevirtual 244, 3) (List.mem_of_getElem? (i := 7) rfl)
theorem dX7_ahead_14 : decode cX7_ahead 14 = .ok (.ireturn, 1) := DX7_ahead (14, .ireturn, 1) (List.mem_of_getElem? (i := 8) rfl)
noncomputable def fX7_ahead (a1 : Int32) (a2 : Int32) (a3 : Int32) (σ : Mem) : Option (Int32 × Mem) :=
  (fX0_refresh σ).bind fun o1 =>
  (fX7_turnAhead a1 a2 a3 o1).bind fun o2 =>
  some (o2.1, o2.2)
set_option maxHeartbeats 4000000 in
set_option maxRecDepth 100000 in
theorem mX7_ahead {l : Launch} {D : va_G} {cI : ClassId} {ad : Nat → Nat} {a1 : Int32} {a2 : Int32} {a3 : Int32} {σ : Mem} {out : Int32 × Mem} (h : fX7_ahead a1 a2 a3 σ = some out) : MI l D cI layX ad yX7_ahead cX7_ahead 4 .int rmX7_ahead [.ref (ad 7), .int a1, .int a2, .int a3] σ out := by
  refine met_i (by decide) (Nat.le_of_ble_eq_true rfl) (fun E C K0 => ?_)
  show G E rmX7_ahead cI layX ad 4 0 [(0, .ref (ad 7)), (1, .int a1), (2, .int a2), (3, .int a3)] [] σ
  unfold fX7_ahead at h
  refine g_aload_n 1 C dX7_ahead_0 rfl (j := 0) rfl rfl ?_
  refine g_getr 4 (j := 4) C rfl rfl wu_X7 (by decide) wf_X7_57 rfl dX7_ahead_1 rfl ?_
  refine g_cnv 7 C (As := []) (fun _ h => mX0_refresh (σ := σ) h) (List.mem_of_getElem? (i := 12) rfl) wi_X0_refresh wz_X0_refresh wc_X0_refresh wn_X0 qX0_refresh rfl rfl ⟨Nat.le_of_ble_eq_true rfl, Nat.le_of_ble_eq_true rfl⟩ rfl rfl rfl rfl (Nat.le_of_ble_eq_true rfl) dX7_ahead_4 rfl h (fun o1 h => ?_)
  refine g_aload_n 8 C dX7_ahead_7 rfl (j := 0) rfl rfl ?_
  refine g_iload_n 9 C dX7_ahead_8 rfl (j := 1) rfl rfl ?_
  refine g_iload_n 10 C dX7_ahead_9 rfl (j := 2) rfl rfl ?_
  refine g_iload_n 11 C dX7_ahead_10 rfl (j := 3) rfl rfl ?_
  refine g_cvi 14 C (As := [.int a1, .int a2, .int a3]) (fun _ h => mX7_turnAhead (a1 := a1) (a2 := a2) (a3 := a3) (σ := o1) h) wl_X7_244 wi_X7_turnAhead wz_X7_turnAhead wc_X7_turnAhead wn_X7 qX7_turnAhead rfl rfl ⟨Nat.le_of_ble_eq_true rfl, Nat.le_of_ble_eq_true rfl⟩ rfl rfl rfl rfl (Nat.le_of_ble_eq_true rfl) dX7_ahead_11 rfl h (fun o2 h => ?_)
  cases h
  exact K0 _ _ dX7_ahead_14 rfl

/-! LoopReducer.swapped(IIII)I -/
abbrev rmX7_swapped : Room := { frames := 7, cells := 0, slots := 0, locals := 175 }
theorem qX7_swapped : yX7_swapped.cls ≠ "java/lang/invoke/MethodHandle" ∧ yX7_swapped.cls ≠ "java/lang/invoke/VarHandle" ∧ (parseMethodDescriptor yX7_swapped.desc).map (fun d => d.parameters.length) = some 4 := by decide +kernel
theorem DX7_swapped : ∀ q ∈ ([(0, .aload_n 0, 1), (1, .getfield 57, 3), (4, .invokevirtual 146, 3), (7, .aload_n 0, 1), (8, .iload_n 2, 1), (9, .iload_n 3, 1), (10, .iload 4, 2), (12, .invokevirtual 244, 3), (15, .istore 5, 2), (17, .iload 5, 2), (19, .ifCond .lt 14, 3), (22, .aload_n 0, 1), (23, .getfield 23, 3), (26, .iload_n 1, 1), (27, .invokevirtual 97, 3), (30, .ifCond .ne 6, 3), (33, .bipush (-2), 2), (35, .ireturn, 1), (36, .aload_n 0, 1), (37, .getfield 57, 3), (40, .getfield 155, 3), (43, .iload_n 1, 1), (44, .iaload, 1), (45, .iconst 1, 1), (46, .if_icmp .ne 15, 3), (49, .aload_n 0, 1), (50, .getfield 48, 3), (53, .iload_n 1, 1), (54, .invokevirtual 158, 3), (57, .iconst 1, 1), (58, .if_icmp .eq 6, 3), (61, .bipush (-2), 2), (63, .ireturn, 1), (64, .iload 5, 2), (66, .aload_n 0, 1), (67, .aload_n 0, 1), (68, .getfield 39, 3), (71, .iload_n 1, 1), (72, .iconst 4, 1), (73, .imul, 1), (74, .iconst 1, 1), (75, .iadd, 1), (76, .invokevirtual 192, 3), (79, .invokevirtual 247, 3), (82, .iconst 1, 1), (83, .isub, 1), (84, .iand, 1), (85, .istore 6, 2), (87, .iload 6, 2), (89, .iload 5, 2), (91, .if_icmp .ge 8, 3), (94, .iload 6, 2), (96, .goto 4, 3), (99, .iconst (-1), 1), (100, .ireturn, 1)] : List (Nat × Instr × Nat)), decode cX7_swapped q.1 = .ok q.2 := by decide +kernel
theorem dX7_swapped_0 : decode cX7_swapped 0 = .ok (.aload_n 0, 1) := DX7_swapped (0, .aload_n 0, 1) (List.mem_of_getElem? (i := 0) rfl)
theorem dX7_swapped_1 : decode cX7_swapped 1 = .ok (.getfield 57, 3) := DX7_swapped (1, .getfield 57, 3) (List.mem_of_getElem? (i := 1) rfl)
theorem dX7_swapped_4 : decode cX7_swapped 4 = .ok (.invokevirtual 146, 3) := DX7_swapped (4, .invokevirtual 146, 3) (List.mem_of_getElem? (i := 2) rfl)
theorem dX7_swapped_7 : decode cX7_swapped 7 = .ok (.aload_n 0, 1) := DX7_swapped (7, .aload_n 0, 1) (List.mem_of_getElem? (i := 3) rfl)
theorem dX7_swapped_8 : decode cX7_swapped 8 = .ok (.iload_n 2, 1) := DX7_swapped (8, .iload_n 2, 1) (List.mem_of_getElem? (i := 4) rfl)
theorem dX7_swapped_9 : decode cX7_swapped 9 = .ok (.iload_n 3, 1) := DX7_swapped (9, .iload_n 3, 1) (List.mem_of_getElem? (i := 5) rfl)
theorem dX7_swapped_10 : decode cX7_swapped 10 = .ok (.iload 4, 2) := DX7_swapped (10, .iload 4, 2) (List.mem_of_getElem? (i := 6) rfl)
theorem dX7_swapped_12 : decode cX7_swapped 12 = .ok (.invokevirtual 244, 3) := DX7_swapped (12, .invokevirtual 244, 3) (List.mem_of_getElem? (i := 7) rfl)
theorem dX7_swapped_15 : decode cX7_swapped 15 = .ok (.istore 5, 2) := DX7_swapped (15, .istore 5, 2) (List.mem_of_getElem? (i := 8) rfl)
theorem dX7_swapped_17 : decode cX7_swapped 17 = .ok (.iload 5, 2) := DX7_swapped (17, .iload 5, 2) (List.mem_of_getElem? (i := 9) rfl)
theorem dX7_swapped_19 : decode cX7_swapped 19 = .ok (.ifCond .lt 14, 3) := DX7_swapped (19, .ifCond .lt 14, 3) (List.mem_of_getElem? (i := 10) rfl)
theorem dX7_swapped_22 : decode cX7_swapped 22 = .ok (.aload_n 0, 1) := DX7_swapped (22, .aload_n 0, 1) (List.mem_of_getElem? (i := 11) rfl)
theorem dX7_swapped_23 : decode cX7_swapped 23 = .ok (.getfield 23, 3) := DX7_swapped (23, .getfield 23, 3) (List.mem_of_getElem? (i := 12) rfl)
theorem dX7_swapped_26 : decode cX7_swapped 26 = .ok (.iload_n 1, 1) := DX7_swapped (26, .iload_n 1, 1) (List.mem_of_getElem? (i := 13) rfl)
theorem dX7_swapped_27 : decode cX7_swapped 27 = .ok (.invokevirtual 97, 3) := DX7_swapped (27, .invokevirtual 97, 3) (List.mem_of_getElem? (i := 14) rfl)
theorem dX7_swapped_30 : decode cX7_swapped 30 = .ok (.ifCond .ne 6, 3) := DX7_swapped (30, .ifCond .ne 6, 3) (List.mem_of_getElem? (i := 15) rfl)
theorem dX7_swapped_33 : decode cX7_swapped 33 = .ok (.bipush (-2), 2) := DX7_swapped (33, .bipush (-2), 2) (List.mem_of_getElem? (i := 16) rfl)
theorem dX7_swapped_35 : decode cX7_swapped 35 = .ok (.ireturn, 1) := DX7_swapped (35, .ireturn, 1) (List.mem_of_getElem? (i := 17) rfl)
theorem dX7_swapped_36 : decode cX7_swapped 36 = .ok (.aload_n 0, 1) := DX7_swapped (36, .aload_n 0, 1) (List.mem_of_getElem? (i := 18) rfl)
theorem dX7_swapped_37 : decode cX7_swapped 37 = .ok (.getfield 57, 3) := DX7_swapped (37, .getfield 57, 3) (List.mem_of_getElem? (i := 19) rfl)
theorem dX7_swapped_40 : decode cX7_swapped 40 = .ok (.getfield 155, 3) := DX7_swapped (40, .getfield 155, 3) (List.mem_of_getElem? (i := 20) rfl)
theorem dX7_swapped_43 : decode cX7_swapped 43 = .ok (.iload_n 1, 1) := DX7_swapped (43, .iload_n 1, 1) (List.mem_of_getElem? (i := 21) rfl)
theorem dX7_swapped_44 : decode cX7_swapped 44 = .ok (.iaload, 1) := DX7_swapped (44, .iaload, 1) (List.mem_of_getElem? (i := 22) rfl)
theorem dX7_swapped_45 : decode cX7_swapped 45 = .ok (.iconst 1, 1) := DX7_swapped (45, .iconst 1, 1) (List.mem_of_getElem? (i := 23) rfl)
theorem dX7_swapped_46 : decode cX7_swapped 46 = .ok (.if_icmp .ne 15, 3) := DX7_swapped (46, .if_icmp .ne 15, 3) (List.mem_of_getElem? (i := 24) rfl)
theorem dX7_swapped_49 : decode cX7_swapped 49 = .ok (.aload_n 0, 1) := DX7_swapped (49, .aload_n 0, 1) (List.mem_of_getElem? (i := 25) rfl)
theorem dX7_swapped_50 : decode cX7_swapped 50 = .ok (.getfield 48, 3) := DX7_swapped (50, .getfield 48, 3) (List.mem_of_getElem? (i := 26) rfl)
theorem dX7_swapped_53 : decode cX7_swapped 53 = .ok (.iload_n 1, 1) := DX7_swapped (53, .iload_n 1, 1) (List.mem_of_getElem? (i := 27) rfl)
theorem dX7_swapped_54 : decode cX7_swapped 54 = .ok (.invokevirtual 158, 3) := DX7_swapped (54, .invokevirtual 158, 3) (List.mem_of_getElem? (i := 28) rfl)
theorem dX7_swapped_57 : decode cX7_swapped 57 = .ok (.iconst 1, 1) := DX7_swapped (57, .iconst 1, 1) (List.mem_of_getElem? (i := 29) rfl)
theorem dX7_swapped_58 : decode cX7_swapped 58 = .ok (.if_icmp .eq 6, 3) := DX7_swapped (58, .if_icmp .eq 6, 3) (List.mem_of_getElem? (i := 30) rfl)
theorem dX7_swapped_61 : decode cX7_swapped 61 = .ok (.bipush (-2), 2) := DX7_swapped (61, .bipush (-2), 2) (List.mem_of_getElem? (i := 31) rfl)
theorem dX7_swapped_63 : decode cX7_swapped 63 = .ok (.ireturn, 1) := DX7_swapped (63, .ireturn, 1) (List.mem_of_getElem? (i := 32) rfl)
theorem dX7_swapped_64 : decode cX7_swapped 64 = .ok (.iload 5, 2) := DX7_swapped (64, .iload 5, 2) (List.mem_of_getElem? (i := 33) rfl)
theorem dX7_swapped_66 : decode cX7_swapped 66 = .ok (.aload_n 0, 1) := DX7_swapped (66, .aload_n 0, 1) (List.mem_of_getElem? (i := 34) rfl)
theorem dX7_swapped_67 : decode cX7_swapped 67 = .ok (.aload_n 0, 1) := DX7_swapped (67, .aload_n 0, 1) (List.mem_of_getElem? (i := 35) rfl)
theorem dX7_swapped_68 : decode cX7_swapped 68 = .ok (.getfield 39, 3) := DX7_swapped (68, .getfield 39, 3) (List.mem_of_getElem? (i := 36) rfl)
theorem dX7_swapped_71 : decode cX7_swapped 71 = .ok (.iload_n 1, 1) := DX7_swapped (71, .iload_n 1, 1) (List.mem_of_getElem? (i := 37) rfl)
theorem dX7_swapped_72 : decode cX7_swapped 72 = .ok (.iconst 4, 1) := DX7_swapped (72, .iconst 4, 1) (List.mem_of_getElem? (i := 38) rfl)
theorem dX7_swapped_73 : decode cX7_swapped 73 = .ok (.imul, 1) := DX7_swapped (73, .imul, 1) (List.mem_of_getElem? (i := 39) rfl)
theorem dX7_swapped_74 : decode cX7_swapped 74 = .ok (.iconst 1, 1) := DX7_swapped (74, .iconst 1, 1) (List.mem_of_getElem? (i := 40) rfl)
theorem dX7_swapped_75 : decode cX7_swapped 75 = .ok (.iadd, 1) := DX7_swapped (75, .iadd, 1) (List.mem_of_getElem? (i := 41) rfl)
theorem dX7_swapped_76 : decode cX7_swapped 76 = .ok (.invokevirtual 192, 3) := DX7_swapped (76, .invokevirtual 192, 3) (List.mem_of_getElem? (i := 42) rfl)
theorem dX7_swapped_79 : decode cX7_swapped 79 = .ok (.invokevirtual 247, 3) := DX7_swapped (79, .invokevirtual 247, 3) (List.mem_of_getElem? (i := 43) rfl)
theorem dX7_swapped_82 : decode cX7_swapped 82 = .ok (.iconst 1, 1) := DX7_swapped (82, .iconst 1, 1) (List.mem_of_getElem? (i := 44) rfl)
theorem dX7_swapped_83 : decode cX7_swapped 83 = .ok (.isub, 1) := DX7_swapped (83, .isub, 1) (List.mem_of_getElem? (i := 45) rfl)
theorem dX7_swapped_84 : decode cX7_swapped 84 = .ok (.iand, 1) := DX7_swapped (84, .iand, 1) (List.mem_of_getElem? (i := 46) rfl)
theorem dX7_swapped_85 : decode cX7_swapped 85 = .ok (.istore 6, 2) := DX7_swapped (85, .istore 6, 2) (List.mem_of_getElem? (i := 47) rfl)
theorem dX7_swapped_87 : decode cX7_swapped 87 = .ok (.iload 6, 2) := DX7_swapped (87, .iload 6, 2) (List.mem_of_getElem? (i := 48) rfl)
theorem dX7_swapped_89 : decode cX7_swapped 89 = .ok (.iload 5, 2) := DX7_swapped (89, .iload 5, 2) (List.mem_of_getElem? (i := 49) rfl)
theorem dX7_swapped_91 : decode cX7_swapped 91 = .ok (.if_icmp .ge 8, 3) := DX7_swapped (91, .if_icmp .ge 8, 3) (List.mem_of_getElem? (i := 50) rfl)
theorem dX7_swapped_94 : decode cX7_swapped 94 = .ok (.iload 6, 2) := DX7_swapped (94, .iload 6, 2) (List.mem_of_getElem? (i := 51) rfl)
theorem dX7_swapped_96 : decode cX7_swapped 96 = .ok (.goto 4, 3) := DX7_swapped (96, .goto 4, 3) (List.mem_of_getElem? (i := 52) rfl)
theorem dX7_swapped_99 : decode cX7_swapped 99 = .ok (.iconst (-1), 1) := DX7_swapped (99, .iconst (-1), 1) (List.mem_of_getElem? (i := 53) rfl)
theorem dX7_swapped_100 : decode cX7_swapped 100 = .ok (.ireturn, 1) := DX7_swapped (100, .ireturn, 1) (List.mem_of_getElem? (i := 54) rfl)
noncomputable def fX7_swapped_L33 (σ : Mem) : Option (Int32 × Mem) :=
  some ((-2), σ)
set_option maxHeartbeats 4000000 in
set_option maxRecDepth 100000 in
theorem tX7_swapped_L33 {E : Gx} {cI : ClassId} {ad : Nat → Nat} (C : Cx E rmX7_swapped cI layX ad 7 RX7 cX7_swapped) {out : Int32 × Mem} (K0 : KI E rmX7_swapped cI layX ad 7 cX7_swapped .int out) {σ : Mem} (h : fX7_swapped_L33 σ = some out) : G E rmX7_swapped cI layX ad 7 33 [] [] σ := by
  unfold fX7_swapped_L33 at h
  refine g_bipush 35 (v := (-2)) C dX7_swapped_33 (by decide) rfl ?_
  cases h
  exact K0 _ _ dX7_swapped_35 rfl
noncomputable def fX7_swapped_L61 (σ : Mem) : Option (Int32 × Mem) :=
  some ((-2), σ)
set_option maxHeartbeats 4000000 in
set_option maxRecDepth 100000 in
theorem tX7_swapped_L61 {E : Gx} {cI : ClassId} {ad : Nat → Nat} (C : Cx E rmX7_swapped cI layX ad 7 RX7 cX7_swapped) {out : Int32 × Mem} (K0 : KI E rmX7_swapped cI layX ad 7 cX7_swapped .int out) {σ : Mem} (h : fX7_swapped_L61 σ = some out) : G E rmX7_swapped cI layX ad 7 61 [] [] σ := by
  unfold fX7_swapped_L61 at h
  refine g_bipush 63 (v := (-2)) C dX7_swapped_61 (by decide) rfl ?_
  cases h
  exact K0 _ _ dX7_swapped_63 rfl
noncomputable def fX7_swapped_L100 (s0 : Int32) (σ : Mem) : Option (Int32 × Mem) :=
  some (s0, σ)
set_option maxHeartbeats 4000000 in
set_option maxRecDepth 100000 in
theorem tX7_swapped_L100 {E : Gx} {cI : ClassId} {ad : Nat → Nat} (C : Cx E rmX7_swapped cI layX ad 7 RX7 cX7_swapped) {out : Int32 × Mem} (K0 : KI E rmX7_swapped cI layX ad 7 cX7_swapped .int out) {s0 : Int32} {σ : Mem} (h : fX7_swapped_L100 s0 σ = some out) : G E rmX7_swapped cI layX ad 7 100 [] [.int s0] σ := by
  unfold fX7_swapped_L100 at h
  cases h
  exact K0 _ _ dX7_swapped_100 rfl
noncomputable def fX7_swapped (a1 : Int32) (a2 : Int32) (a3 : Int32) (a4 : Int32) (σ : Mem) : Option (Int32 × Mem) :=
  (fX0_refresh σ).bind fun o1 =>
  (fX7_turnAhead a2 a3 a4 o1).bind fun o2 =>
  if o2.1 < 0 then
    fX7_swapped_L33 o2.2
  else
    (fX3_has a1 o2.2).bind fun o3 =>
    if o3.1 = 0 then
      fX7_swapped_L33 o3.2
    else
      chk (inb a1 30) <|
      if (o3.2 20 a1.toNatClampNeg) = 1 then
        (fX1_degree a1 o3.2).bind fun o4 =>
        if o4.1 = 1 then
          (fX5_worth ((a1 * 4) + 1) o4.2).bind fun o5 =>
          (fX7_period o5.1 o5.2).bind fun o6 =>
          if o2.1 ≤ (o2.1 &&& (o6.1 - 1)) then
            fX7_swapped_L100 (-1) o6.2
          else
            fX7_swapped_L100 (o2.1 &&& (o6.1 - 1)) o6.2
        else
          fX7_swapped_L61 o4.2
      else
        fX7_swapped_L61 o3.2
set_option maxHeartbeats 4000000 in
set_option maxRecDepth 100000 in
theorem mX7_swapped {l : Launch} {D : va_G} {cI : ClassId} {ad : Nat → Nat} {a1 : Int32} {a2 : Int32} {a3 : Int32} {a4 : Int32} {σ : Mem} {out : Int32 × Mem} (h : fX7_swapped a1 a2 a3 a4 σ = some out) : MI l D cI layX ad yX7_swapped cX7_swapped 7 .int rmX7_swapped [.ref (ad 7), .int a1, .int a2, .int a3, .int a4] σ out := by
  refine met_i (by decide) (Nat.le_of_ble_eq_true rfl) (fun E C K0 => ?_)
  show G E rmX7_swapped cI layX ad 7 0 [(0, .ref (ad 7)), (1, .int a1), (2, .int a2), (3, .int a3), (4, .int a4)] [] σ
  unfold fX7_swapped at h
  refine g_aload_n 1 C dX7_swapped_0 rfl (j := 0) rfl rfl ?_
  refine g_getr 4 (j := 4) C rfl rfl wu_X7 (by decide) wf_X7_57 rfl dX7_swapped_1 rfl ?_
  refine g_cnv 7 C (As := []) (fun _ h => mX0_refresh (σ := σ) h) (List.mem_of_getElem? (i := 12) rfl) wi_X0_refresh wz_X0_refresh wc_X0_refresh wn_X0 qX0_refresh rfl rfl ⟨Nat.le_of_ble_eq_true rfl, Nat.le_of_ble_eq_true rfl⟩ rfl rfl rfl rfl (Nat.le_of_ble_eq_true rfl) dX7_swapped_4 rfl h (fun o1 h => ?_)
  refine g_aload_n 8 C dX7_swapped_7 rfl (j := 0) rfl rfl ?_
  refine g_iload_n 9 C dX7_swapped_8 rfl (j := 2) rfl rfl ?_
  refine g_iload_n 10 C dX7_swapped_9 rfl (j := 3) rfl rfl ?_
  refine g_iload 12 C dX7_swapped_10 (j := 4) rfl rfl ?_
  refine g_cvi 15 C (As := [.int a2, .int a3, .int a4]) (fun _ h => mX7_turnAhead (a1 := a2) (a2 := a3) (a3 := a4) (σ := o1) h) wl_X7_244 wi_X7_turnAhead wz_X7_turnAhead wc_X7_turnAhead wn_X7 qX7_turnAhead rfl rfl ⟨Nat.le_of_ble_eq_true rfl, Nat.le_of_ble_eq_true rfl⟩ rfl rfl rfl rfl (Nat.le_of_ble_eq_true rfl) dX7_swapped_12 rfl h (fun o2 h => ?_)
  refine g_istore 17 [(5, .int o2.1), (0, .ref (ad 7)), (1, .int a1), (2, .int a2), (3, .int a3), (4, .int a4)] C dX7_swapped_15 (by decide) rfl rfl ?_
  refine g_iload 19 C dX7_swapped_17 (j := 0) rfl rfl ?_
  refine g_if_lt 33 22 C dX7_swapped_19 (by decide) rfl h (fun h => ?_) (fun h => ?_)
  · exact g_sub [] (tX7_swapped_L33 (σ := o2.2) C K0 h) rfl
  · refine g_aload_n 23 C dX7_swapped_22 rfl (j := 1) rfl rfl ?_
    refine g_getr 26 (j := 0) C rfl rfl wu_X7 (by decide) wf_X7_23 rfl dX7_swapped_23 rfl ?_
    refine g_iload_n 27 C dX7_swapped_26 rfl (j := 2) rfl rfl ?_
    refine g_cni 30 C (As := [.int a1]) (fun _ h => mX3_has (a1 := a1) (σ := o2.2) h) (List.mem_of_getElem? (i := 9) rfl) wi_X3_has wz_X3_has wc_X3_has wn_X3 qX3_has rfl rfl ⟨Nat.le_of_ble_eq_true rfl, Nat.le_of_ble_eq_true rfl⟩ rfl rfl rfl rfl (Nat.le_of_ble_eq_true rfl) dX7_swapped_27 rfl h (fun o3 h => ?_)
    refine g_if_ne 36 33 C dX7_swapped_30 (by decide) rfl h (fun h => ?_) (fun h => ?_)
    · exact g_sub [] (tX7_swapped_L33 (σ := o3.2) C K0 h) rfl
    · refine g_aload_n 37 C dX7_swapped_36 rfl (j := 1) rfl rfl ?_
      refine g_getr 40 (j := 4) C rfl rfl wu_X7 (by decide) wf_X7_57 rfl dX7_swapped_37 rfl ?_
      refine g_getrN 43 (j := 4) C rfl rfl wu_X0 (by decide) (List.mem_of_getElem? (i := 39) rfl) rfl dX7_swapped_40 rfl ?_
      refine g_iload_n 44 C dX7_swapped_43 rfl (j := 2) rfl rfl ?_
      refine g_iald 45 C rfl dX7_swapped_44 rfl h (fun h => ?_)
      refine g_iconst 46 (v := 1) C dX7_swapped_45 (by decide) rfl ?_
      refine g_icmp_ne 61 49 C dX7_swapped_46 (by decide) rfl h (fun h => ?_) (fun h => ?_)
      · refine g_aload_n 50 C dX7_swapped_49 rfl (j := 1) rfl rfl ?_
        refine g_getr 53 (j := 3) C rfl rfl wu_X7 (by decide) wf_X7_48 rfl dX7_swapped_50 rfl ?_
        refine g_iload_n 54 C dX7_swapped_53 rfl (j := 2) rfl rfl ?_
        refine g_cni 57 C (As := [.int a1]) (fun _ h => mX1_degree (a1 := a1) (σ := o3.2) h) (List.mem_of_getElem? (i := 32) rfl) wi_X1_degree wz_X1_degree wc_X1_degree wn_X1 qX1_degree rfl rfl ⟨Nat.le_of_ble_eq_true rfl, Nat.le_of_ble_eq_true rfl⟩ rfl rfl rfl rfl (Nat.le_of_ble_eq_true rfl) dX7_swapped_54 rfl h (fun o4 h => ?_)
        refine g_iconst 58 (v := 1) C dX7_swapped_57 (by decide) rfl ?_
        refine g_icmp_eq 64 61 C dX7_swapped_58 (by decide) rfl h (fun h => ?_) (fun h => ?_)
        · refine g_iload 66 C dX7_swapped_64 (j := 0) rfl rfl ?_
          refine g_aload_n 67 C dX7_swapped_66 rfl (j := 1) rfl rfl ?_
          refine g_aload_n 68 C dX7_swapped_67 rfl (j := 1) rfl rfl ?_
          refine g_getr 71 (j := 2) C rfl rfl wu_X7 (by decide) wf_X7_39 rfl dX7_swapped_68 rfl ?_
          refine g_iload_n 72 C dX7_swapped_71 rfl (j := 2) rfl rfl ?_
          refine g_iconst 73 (v := 4) C dX7_swapped_72 (by decide) rfl ?_
          refine g_imul 74 C dX7_swapped_73 rfl ?_
          refine g_iconst 75 (v := 1) C dX7_swapped_74 (by decide) rfl ?_
          refine g_iadd 76 C dX7_swapped_75 rfl ?_
          refine g_cni 79 C (As := [.int ((a1 * 4) + 1)]) (fun _ h => mX5_worth (a1 := (a1 * 4) + 1) (σ := o4.2) h) (List.mem_of_getElem? (i := 40) rfl) wi_X5_worth wz_X5_worth wc_X5_worth wn_X5 qX5_worth rfl rfl ⟨Nat.le_of_ble_eq_true rfl, Nat.le_of_ble_eq_true rfl⟩ rfl rfl rfl rfl (Nat.le_of_ble_eq_true rfl) dX7_swapped_76 rfl h (fun o5 h => ?_)
          refine g_cvi 82 C (As := [.int o5.1]) (fun _ h => mX7_period (a1 := o5.1) (σ := o5.2) h) wl_X7_247 wi_X7_period wz_X7_period wc_X7_period wn_X7 qX7_period rfl rfl ⟨Nat.le_of_ble_eq_true rfl, Nat.le_of_ble_eq_true rfl⟩ rfl rfl rfl rfl (Nat.le_of_ble_eq_true rfl) dX7_swapped_79 rfl h (fun o6 h => ?_)
          refine g_iconst 83 (v := 1) C dX7_swapped_82 (by decide) rfl ?_
          refine g_isub 84 C dX7_swapped_83 rfl ?_
          refine g_iand 85 C dX7_swapped_84 rfl ?_
          refine g_istore 87 [(6, .int (o2.1 &&& (o6.1 - 1))), (5, .int o2.1), (0, .ref (ad 7)), (1, .int a1), (2, .int a2), (3, .int a3), (4, .int a4)] C dX7_swapped_85 (by decide) rfl rfl ?_
          refine g_iload 89 C dX7_swapped_87 (j := 0) rfl rfl ?_
          refine g_iload 91 C dX7_swapped_89 (j := 1) rfl rfl ?_
          refine g_icmp_ge 99 94 C dX7_swapped_91 (by decide) rfl h (fun h => ?_) (fun h => ?_)
          · refine g_iconst 100 (v := (-1)) C dX7_swapped_99 (by decide) rfl ?_
            exact g_sub [] (tX7_swapped_L100 (s0 := (-1)) (σ := o6.2) C K0 h) rfl
          · refine g_iload 96 C dX7_swapped_94 (j := 0) rfl rfl ?_
            refine g_goto 100 C dX7_swapped_96 (by decide) ?_
            exact g_sub [] (tX7_swapped_L100 (s0 := (o2.1 &&& (o6.1 - 1))) (σ := o6.2) C K0 h) rfl
        · exact g_sub [] (tX7_swapped_L61 (σ := o4.2) C K0 h) rfl
      · exact g_sub [] (tX7_swapped_L61 (σ := o3.2) C K0 h) rfl
