/-! LoopReducerModel.thrown()I -/
abbrev rmX8_thrown : Room := { frames := 0, cells := 0, slots := 0, locals := 0 }
theorem qX8_thrown : yX8_thrown.cls ≠ "java/lang/invoke/MethodHandle" ∧ yX8_thrown.cls ≠ "java/lang/invoke/VarHandle" ∧ (parseMethodDescriptor yX8_thrown.desc).map (fun d => d.parameters.length) = some 0 := by decide +kernel
theorem DX8_thrown : ∀ q ∈ ([(0, .aload_n 0, 1), (1, .getfield 69, 3), (4, .ireturn, 1)] : List (Nat × Instr × Nat)), decode cX8_thrown q.1 = .ok q.2 := by decide +kernel
theorem dX8_thrown_0 : decode cX8_thrown 0 = .ok (.aload_n 0, 1) := DX8_thrown (0, .aload_n 0, 1) (List.mem_of_getElem? (i := 0) rfl)
theorem dX8_thrown_1 : decode cX8_thrown 1 = .ok (.getfield 69, 3) := DX8_thrown (1, .getfield 69, 3) (List.mem_of_getElem? (i := 1) rfl)
theorem dX8_thrown_4 : decode cX8_thrown 4 = .ok (.ireturn, 1) := DX8_thrown (4, .ireturn, 1) (List.mem_of_getElem? (i := 2) rfl)
noncomputable def fX8_thrown (σ : Mem) : Option (Int32 × Mem) :=
  some (σ 0 2, σ)
set_option maxHeartbeats 4000000 in
set_option maxRecDepth 100000 in
theorem mX8_thrown {l : Launch} {D : va_G} {cI : ClassId} {ad : Nat → Nat} {σ : Mem} {out : Int32 × Mem} (h : fX8_thrown σ = some out) : MI l D cI layM ad yX8_thrown cX8_thrown 1 .int rmX8_thrown [.ref (ad 0)] σ out := by
  refine met_i (by decide) (Nat.le_of_ble_eq_true rfl) (fun E C K0 => ?_)
  show G E rmX8_thrown cI layM ad 1 0 [(0, .ref (ad 0))] [] σ
  unfold fX8_thrown at h
  refine g_aload_n 1 C dX8_thrown_0 rfl (j := 0) rfl rfl ?_
  refine g_geti 4 (j := 2) C rfl rfl wu_X8 (by decide) wf_X8_69 rfl dX8_thrown_1 rfl ?_
  cases h
  exact K0 _ _ dX8_thrown_4 rfl

/-! LoopReducerModel.isIn(III)Z -/
abbrev rmX8_isIn : Room := { frames := 0, cells := 0, slots := 0, locals := 0 }
theorem qX8_isIn : yX8_isIn.cls ≠ "java/lang/invoke/MethodHandle" ∧ yX8_isIn.cls ≠ "java/lang/invoke/VarHandle" ∧ (parseMethodDescriptor yX8_isIn.desc).map (fun d => d.parameters.length) = some 3 := by decide +kernel
theorem DX8_isIn : ∀ q ∈ ([(0, .iload_n 0, 1), (1, .iload_n 1, 1), (2, .if_icmp .lt 12, 3), (5, .iload_n 0, 1), (6, .iload_n 2, 1), (7, .if_icmp .gt 7, 3), (10, .iconst 1, 1), (11, .goto 4, 3), (14, .iconst 0, 1), (15, .ireturn, 1)] : List (Nat × Instr × Nat)), decode cX8_isIn q.1 = .ok q.2 := by decide +kernel
theorem dX8_isIn_0 : decode cX8_isIn 0 = .ok (.iload_n 0, 1) := DX8_isIn (0, .iload_n 0, 1) (List.mem_of_getElem? (i := 0) rfl)
theorem dX8_isIn_1 : decode cX8_isIn 1 = .ok (.iload_n 1, 1) := DX8_isIn (1, .iload_n 1, 1) (List.mem_of_getElem? (i := 1) rfl)
theorem dX8_isIn_2 : decode cX8_isIn 2 = .ok (.if_icmp .lt 12, 3) := DX8_isIn (2, .if_icmp .lt 12, 3) (List.mem_of_getElem? (i := 2) rfl)
theorem dX8_isIn_5 : decode cX8_isIn 5 = .ok (.iload_n 0, 1) := DX8_isIn (5, .iload_n 0, 1) (List.mem_of_getElem? (i := 3) rfl)
theorem dX8_isIn_6 : decode cX8_isIn 6 = .ok (.iload_n 2, 1) := DX8_isIn (6, .iload_n 2, 1) (List.mem_of_getElem? (i := 4) rfl)
theorem dX8_isIn_7 : decode cX8_isIn 7 = .ok (.if_icmp .gt 7, 3) := DX8_isIn (7, .if_icmp .gt 7, 3) (List.mem_of_getElem? (i := 5) rfl)
theorem dX8_isIn_10 : decode cX8_isIn 10 = .ok (.iconst 1, 1) := DX8_isIn (10, .iconst 1, 1) (List.mem_of_getElem? (i := 6) rfl)
theorem dX8_isIn_11 : decode cX8_isIn 11 = .ok (.goto 4, 3) := DX8_isIn (11, .goto 4, 3) (List.mem_of_getElem? (i := 7) rfl)
theorem dX8_isIn_14 : decode cX8_isIn 14 = .ok (.iconst 0, 1) := DX8_isIn (14, .iconst 0, 1) (List.mem_of_getElem? (i := 8) rfl)
theorem dX8_isIn_15 : decode cX8_isIn 15 = .ok (.ireturn, 1) := DX8_isIn (15, .ireturn, 1) (List.mem_of_getElem? (i := 9) rfl)
noncomputable def fX8_isIn_L15 (s0 : Int32) (σ : Mem) : Option (Int32 × Mem) :=
  chk (s0 == 0 || s0 == 1) <|
  some (s0, σ)
set_option maxHeartbeats 4000000 in
set_option maxRecDepth 100000 in
theorem tX8_isIn_L15 {E : Gx} {cI : ClassId} {ad : Nat → Nat} (C : Cx E rmX8_isIn cI layM ad 3 RX8 cX8_isIn) {out : Int32 × Mem} (K0 : KI E rmX8_isIn cI layM ad 3 cX8_isIn .boolean out) {s0 : Int32} {σ : Mem} (h : fX8_isIn_L15 s0 σ = some out) : G E rmX8_isIn cI layM ad 3 15 [] [.int s0] σ := by
  unfold fX8_isIn_L15 at h
  obtain ⟨hz, h⟩ := chk_some h
  cases h
  exact K0 _ _ dX8_isIn_15 (zb_nar hz)
noncomputable def fX8_isIn_L14 (σ : Mem) : Option (Int32 × Mem) :=
  fX8_isIn_L15 0 σ
set_option maxHeartbeats 4000000 in
set_option maxRecDepth 100000 in
theorem tX8_isIn_L14 {E : Gx} {cI : ClassId} {ad : Nat → Nat} (C : Cx E rmX8_isIn cI layM ad 3 RX8 cX8_isIn) {out : Int32 × Mem} (K0 : KI E rmX8_isIn cI layM ad 3 cX8_isIn .boolean out) {σ : Mem} (h : fX8_isIn_L14 σ = some out) : G E rmX8_isIn cI layM ad 3 14 [] [] σ := by
  unfold fX8_isIn_L14 at h
  refine g_iconst 15 (v := 0) C dX8_isIn_14 (by decide) rfl ?_
  exact tX8_isIn_L15 (s0 := 0) (σ := σ) C K0 h
noncomputable def fX8_isIn (a1 : Int32) (a2 : Int32) (a3 : Int32) (σ : Mem) : Option (Int32 × Mem) :=
  if a1 < a2 then
    fX8_isIn_L14 σ
  else
    if a3 < a1 then
      fX8_isIn_L14 σ
    else
      fX8_isIn_L15 1 σ
set_option maxHeartbeats 4000000 in
set_option maxRecDepth 100000 in
theorem mX8_isIn {l : Launch} {D : va_G} {cI : ClassId} {ad : Nat → Nat} {a1 : Int32} {a2 : Int32} {a3 : Int32} {σ : Mem} {out : Int32 × Mem} (h : fX8_isIn a1 a2 a3 σ = some out) : MI l D cI layM ad yX8_isIn cX8_isIn 3 .boolean rmX8_isIn [.int a1, .int a2, .int a3] σ out := by
  refine met_i (by decide) (Nat.le_of_ble_eq_true rfl) (fun E C K0 => ?_)
  show G E rmX8_isIn cI layM ad 3 0 [(0, .int a1), (1, .int a2), (2, .int a3)] [] σ
  unfold fX8_isIn at h
  refine g_iload_n 1 C dX8_isIn_0 rfl (j := 0) rfl rfl ?_
  refine g_iload_n 2 C dX8_isIn_1 rfl (j := 1) rfl rfl ?_
  refine g_icmp_lt 14 5 C dX8_isIn_2 (by decide) rfl h (fun h => ?_) (fun h => ?_)
  · exact g_sub [] (tX8_isIn_L14 (σ := σ) C K0 h) rfl
  · refine g_iload_n 6 C dX8_isIn_5 rfl (j := 0) rfl rfl ?_
    refine g_iload_n 7 C dX8_isIn_6 rfl (j := 2) rfl rfl ?_
    refine g_icmp_gt 14 10 C dX8_isIn_7 (by decide) rfl h (fun h => ?_) (fun h => ?_)
    · exact g_sub [] (tX8_isIn_L14 (σ := σ) C K0 h) rfl
    · refine g_iconst 11 (v := 1) C dX8_isIn_10 (by decide) rfl ?_
      refine g_goto 15 C dX8_isIn_11 (by decide) ?_
      exact g_sub [] (tX8_isIn_L15 (s0 := 1) (σ := σ) C K0 h) rfl

/-! LoopReducerModel.has(II)Z -/
abbrev rmX8_has : Room := { frames := 0, cells := 0, slots := 0, locals := 0 }
theorem qX8_has : yX8_has.cls ≠ "java/lang/invoke/MethodHandle" ∧ yX8_has.cls ≠ "java/lang/invoke/VarHandle" ∧ (parseMethodDescriptor yX8_has.desc).map (fun d => d.parameters.length) = some 2 := by decide +kernel
theorem DX8_has : ∀ q ∈ ([(0, .iload_n 0, 1), (1, .iload_n 1, 1), (2, .ishr, 1), (3, .iconst 1, 1), (4, .iand, 1), (5, .iconst 1, 1), (6, .if_icmp .ne 7, 3), (9, .iconst 1, 1), (10, .goto 4, 3), (13, .iconst 0, 1), (14, .ireturn, 1)] : List (Nat × Instr × Nat)), decode cX8_has q.1 = .ok q.2 := by decide +kernel
theorem dX8_has_0 : decode cX8_has 0 = .ok (.iload_n 0, 1) := DX8_has (0, .iload_n 0, 1) (List.mem_of_getElem? (i := 0) rfl)
theorem dX8_has_1 : decode cX8_has 1 = .ok (.iload_n 1, 1) := DX8_has (1, .iload_n 1, 1) (List.mem_of_getElem? (i := 1) rfl)
theorem dX8_has_2 : decode cX8_has 2 = .ok (.ishr, 1) := DX8_has (2, .ishr, 1) (List.mem_of_getElem? (i := 2) rfl)
theorem dX8_has_3 : decode cX8_has 3 = .ok (.iconst 1, 1) := DX8_has (3, .iconst 1, 1) (List.mem_of_getElem? (i := 3) rfl)
theorem dX8_has_4 : decode cX8_has 4 = .ok (.iand, 1) := DX8_has (4, .iand, 1) (List.mem_of_getElem? (i := 4) rfl)
theorem dX8_has_5 : decode cX8_has 5 = .ok (.iconst 1, 1) := DX8_has (5, .iconst 1, 1) (List.mem_of_getElem? (i := 5) rfl)
theorem dX8_has_6 : decode cX8_has 6 = .ok (.if_icmp .ne 7, 3) := DX8_has (6, .if_icmp .ne 7, 3) (List.mem_of_getElem? (i := 6) rfl)
theorem dX8_has_9 : decode cX8_has 9 = .ok (.iconst 1, 1) := DX8_has (9, .iconst 1, 1) (List.mem_of_getElem? (i := 7) rfl)
theorem dX8_has_10 : decode cX8_has 10 = .ok (.goto 4, 3) := DX8_has (10, .goto 4, 3) (List.mem_of_getElem? (i := 8) rfl)
theorem dX8_has_13 : decode cX8_has 13 = .ok (.iconst 0, 1) := DX8_has (13, .iconst 0, 1) (List.mem_of_getElem? (i := 9) rfl)
theorem dX8_has_14 : decode cX8_has 14 = .ok (.ireturn, 1) := DX8_has (14, .ireturn, 1) (List.mem_of_getElem? (i := 10) rfl)
noncomputable def fX8_has_L14 (s0 : Int32) (σ : Mem) : Option (Int32 × Mem) :=
  chk (s0 == 0 || s0 == 1) <|
  some (s0, σ)
set_option maxHeartbeats 4000000 in
set_option maxRecDepth 100000 in
theorem tX8_has_L14 {E : Gx} {cI : ClassId} {ad : Nat → Nat} (C : Cx E rmX8_has cI layM ad 2 RX8 cX8_has) {out : Int32 × Mem} (K0 : KI E rmX8_has cI layM ad 2 cX8_has .boolean out) {s0 : Int32} {σ : Mem} (h : fX8_has_L14 s0 σ = some out) : G E rmX8_has cI layM ad 2 14 [] [.int s0] σ := by
  unfold fX8_has_L14 at h
  obtain ⟨hz, h⟩ := chk_some h
  cases h
  exact K0 _ _ dX8_has_14 (zb_nar hz)
noncomputable def fX8_has (a1 : Int32) (a2 : Int32) (σ : Mem) : Option (Int32 × Mem) :=
  if ((a1 >>> (a2 &&& 31)) &&& 1) = 1 then
    fX8_has_L14 1 σ
  else
    fX8_has_L14 0 σ
set_option maxHeartbeats 4000000 in
set_option maxRecDepth 100000 in
theorem mX8_has {l : Launch} {D : va_G} {cI : ClassId} {ad : Nat → Nat} {a1 : Int32} {a2 : Int32} {σ : Mem} {out : Int32 × Mem} (h : fX8_has a1 a2 σ = some out) : MI l D cI layM ad yX8_has cX8_has 2 .boolean rmX8_has [.int a1, .int a2] σ out := by
  refine met_i (by decide) (Nat.le_of_ble_eq_true rfl) (fun E C K0 => ?_)
  show G E rmX8_has cI layM ad 2 0 [(0, .int a1), (1, .int a2)] [] σ
  unfold fX8_has at h
  refine g_iload_n 1 C dX8_has_0 rfl (j := 0) rfl rfl ?_
  refine g_iload_n 2 C dX8_has_1 rfl (j := 1) rfl rfl ?_
  refine g_ishr 3 C dX8_has_2 rfl ?_
  refine g_iconst 4 (v := 1) C dX8_has_3 (by decide) rfl ?_
  refine g_iand 5 C dX8_has_4 rfl ?_
  refine g_iconst 6 (v := 1) C dX8_has_5 (by decide) rfl ?_
  refine g_icmp_ne 13 9 C dX8_has_6 (by decide) rfl h (fun h => ?_) (fun h => ?_)
  · refine g_iconst 10 (v := 1) C dX8_has_9 (by decide) rfl ?_
    refine g_goto 14 C dX8_has_10 (by decide) ?_
    exact g_sub [] (tX8_has_L14 (s0 := 1) (σ := σ) C K0 h) rfl
  · refine g_iconst 14 (v := 0) C dX8_has_13 (by decide) rfl ?_
    exact g_sub [] (tX8_has_L14 (s0 := 0) (σ := σ) C K0 h) rfl

/-! LoopReducerModel.cut(J)I -/
abbrev rmX8_cut : Room := { frames := 0, cells := 0, slots := 0, locals := 0 }
theorem qX8_cut : yX8_cut.cls ≠ "java/lang/invoke/MethodHandle" ∧ yX8_cut.cls ≠ "java/lang/invoke/VarHandle" ∧ (parseMethodDescriptor yX8_cut.desc).map (fun d => d.parameters.length) = some 1 := by decide +kernel
theorem DX8_cut : ∀ q ∈ ([(0, .lload_n 1, 1), (1, .aload_n 0, 1), (2, .getfield 66, 3), (5, .i2l, 1), (6, .lconst 1, 1), (7, .lsub, 1), (8, .land, 1), (9, .l2i, 1), (10, .ireturn, 1)] : List (Nat × Instr × Nat)), decode cX8_cut q.1 = .ok q.2 := by decide +kernel
theorem dX8_cut_0 : decode cX8_cut 0 = .ok (.lload_n 1, 1) := DX8_cut (0, .lload_n 1, 1) (List.mem_of_getElem? (i := 0) rfl)
theorem dX8_cut_1 : decode cX8_cut 1 = .ok (.aload_n 0, 1) := DX8_cut (1, .aload_n 0, 1) (List.mem_of_getElem? (i := 1) rfl)
theorem dX8_cut_2 : decode cX8_cut 2 = .ok (.getfield 66, 3) := DX8_cut (2, .getfield 66, 3) (List.mem_of_getElem? (i := 2) rfl)
theorem dX8_cut_5 : decode cX8_cut 5 = .ok (.i2l, 1) := DX8_cut (5, .i2l, 1) (List.mem_of_getElem? (i := 3) rfl)
theorem dX8_cut_6 : decode cX8_cut 6 = .ok (.lconst 1, 1) := DX8_cut (6, .lconst 1, 1) (List.mem_of_getElem? (i := 4) rfl)
theorem dX8_cut_7 : decode cX8_cut 7 = .ok (.lsub, 1) := DX8_cut (7, .lsub, 1) (List.mem_of_getElem? (i := 5) rfl)
theorem dX8_cut_8 : decode cX8_cut 8 = .ok (.land, 1) := DX8_cut (8, .land, 1) (List.mem_of_getElem? (i := 6) rfl)
theorem dX8_cut_9 : decode cX8_cut 9 = .ok (.l2i, 1) := DX8_cut (9, .l2i, 1) (List.mem_of_getElem? (i := 7) rfl)
theorem dX8_cut_10 : decode cX8_cut 10 = .ok (.ireturn, 1) := DX8_cut (10, .ireturn, 1) (List.mem_of_getElem? (i := 8) rfl)
noncomputable def fX8_cut (a1 : Int64) (σ : Mem) : Option (Int32 × Mem) :=
  some ((a1 &&& (((σ 0 1).toInt64) - 1)).toInt32, σ)
set_option maxHeartbeats 4000000 in
set_option maxRecDepth 100000 in
theorem mX8_cut {l : Launch} {D : va_G} {cI : ClassId} {ad : Nat → Nat} {a1 : Int64} {σ : Mem} {out : Int32 × Mem} (h : fX8_cut a1 σ = some out) : MI l D cI layM ad yX8_cut cX8_cut 3 .int rmX8_cut [.ref (ad 0), .long a1] σ out := by
  refine met_i (by decide) (Nat.le_of_ble_eq_true rfl) (fun E C K0 => ?_)
  show G E rmX8_cut cI layM ad 3 0 [(0, .ref (ad 0)), (1, .long a1)] [] σ
  unfold fX8_cut at h
  refine g_lload_n 1 C dX8_cut_0 rfl (j := 1) rfl rfl ?_
  refine g_aload_n 2 C dX8_cut_1 rfl (j := 0) rfl rfl ?_
  refine g_geti 5 (j := 1) C rfl rfl wu_X8 (by decide) wf_X8_66 rfl dX8_cut_2 rfl ?_
  refine g_i2l 6 C dX8_cut_5 rfl ?_
  refine g_lconst 7 (v := 1) C dX8_cut_6 (by decide) rfl ?_
  refine g_lsub 8 C dX8_cut_7 rfl ?_
  refine g_land 9 C dX8_cut_8 rfl ?_
  refine g_l2i 10 C dX8_cut_9 rfl ?_
  cases h
  exact K0 _ _ dX8_cut_10 rfl

/-! LoopReducerModel.isName(I)Z -/
abbrev rmX8_isName : Room := { frames := 1, cells := 0, slots := 0, locals := 22 }
theorem qX8_isName : yX8_isName.cls ≠ "java/lang/invoke/MethodHandle" ∧ yX8_isName.cls ≠ "java/lang/invoke/VarHandle" ∧ (parseMethodDescriptor yX8_isName.desc).map (fun d => d.parameters.length) = some 1 := by decide +kernel
theorem DX8_isName : ∀ q ∈ ([(0, .iload_n 1, 1), (1, .iconst 0, 1), (2, .aload_n 0, 1), (3, .getfield 72, 3), (6, .iconst 1, 1), (7, .isub, 1), (8, .invokestatic 75, 3), (11, .ireturn, 1)] : List (Nat × Instr × Nat)), decode cX8_isName q.1 = .ok q.2 := by decide +kernel
theorem dX8_isName_0 : decode cX8_isName 0 = .ok (.iload_n 1, 1) := DX8_isName (0, .iload_n 1, 1) (List.mem_of_getElem? (i := 0) rfl)
theorem dX8_isName_1 : decode cX8_isName 1 = .ok (.iconst 0, 1) := DX8_isName (1, .iconst 0, 1) (List.mem_of_getElem? (i := 1) rfl)
theorem dX8_isName_2 : decode cX8_isName 2 = .ok (.aload_n 0, 1) := DX8_isName (2, .aload_n 0, 1) (List.mem_of_getElem? (i := 2) rfl)
theorem dX8_isName_3 : decode cX8_isName 3 = .ok (.getfield 72, 3) := DX8_isName (3, .getfield 72, 3) (List.mem_of_getElem? (i := 3) rfl)
theorem dX8_isName_6 : decode cX8_isName 6 = .ok (.iconst 1, 1) := DX8_isName (6, .iconst 1, 1) (List.mem_of_getElem? (i := 4) rfl)
theorem dX8_isName_7 : decode cX8_isName 7 = .ok (.isub, 1) := DX8_isName (7, .isub, 1) (List.mem_of_getElem? (i := 5) rfl)
theorem dX8_isName_8 : decode cX8_isName 8 = .ok (.invokestatic 75, 3) := DX8_isName (8, .invokestatic 75, 3) (List.mem_of_getElem? (i := 6) rfl)
theorem dX8_isName_11 : decode cX8_isName 11 = .ok (.ireturn, 1) := DX8_isName (11, .ireturn, 1) (List.mem_of_getElem? (i := 7) rfl)
noncomputable def fX8_isName (a1 : Int32) (σ : Mem) : Option (Int32 × Mem) :=
  (fX8_isIn a1 0 ((σ 0 6) - 1) σ).bind fun o1 =>
  chk (o1.1 == 0 || o1.1 == 1) <|
  some (o1.1, o1.2)
set_option maxHeartbeats 4000000 in
set_option maxRecDepth 100000 in
theorem mX8_isName {l : Launch} {D : va_G} {cI : ClassId} {ad : Nat → Nat} {a1 : Int32} {σ : Mem} {out : Int32 × Mem} (h : fX8_isName a1 σ = some out) : MI l D cI layM ad yX8_isName cX8_isName 2 .boolean rmX8_isName [.ref (ad 0), .int a1] σ out := by
  refine met_i (by decide) (Nat.le_of_ble_eq_true rfl) (fun E C K0 => ?_)
  show G E rmX8_isName cI layM ad 2 0 [(0, .ref (ad 0)), (1, .int a1)] [] σ
  unfold fX8_isName at h
  refine g_iload_n 1 C dX8_isName_0 rfl (j := 1) rfl rfl ?_
  refine g_iconst 2 (v := 0) C dX8_isName_1 (by decide) rfl ?_
  refine g_aload_n 3 C dX8_isName_2 rfl (j := 0) rfl rfl ?_
  refine g_geti 6 (j := 6) C rfl rfl wu_X8 (by decide) wf_X8_72 rfl dX8_isName_3 rfl ?_
  refine g_iconst 7 (v := 1) C dX8_isName_6 (by decide) rfl ?_
  refine g_isub 8 C dX8_isName_7 rfl ?_
  refine g_csi 11 C (As := [.int a1, .int 0, .int ((σ 0 6) - 1)]) (fun _ h => mX8_isIn (a1 := a1) (a2 := 0) (a3 := (σ 0 6) - 1) (σ := σ) h) wl_X8_75 ws_X8_isIn wc_X8_isIn wn_X8 qX8_isIn rfl rfl ⟨Nat.le_of_ble_eq_true rfl, Nat.le_of_ble_eq_true rfl⟩ rfl rfl (Nat.le_of_ble_eq_true rfl) dX8_isName_8 rfl h (fun o1 h => ?_)
  obtain ⟨hz, h⟩ := chk_some h
  cases h
  exact K0 _ _ dX8_isName_11 (zb_nar hz)

/-! LoopReducerModel.comes(III)I -/
abbrev rmX8_comes : Room := { frames := 0, cells := 0, slots := 0, locals := 0 }
theorem qX8_comes : yX8_comes.cls ≠ "java/lang/invoke/MethodHandle" ∧ yX8_comes.cls ≠ "java/lang/invoke/VarHandle" ∧ (parseMethodDescriptor yX8_comes.desc).map (fun d => d.parameters.length) = some 3 := by decide +kernel
theorem DX8_comes : ∀ q ∈ ([(0, .aload_n 0, 1), (1, .getfield 72, 3), (4, .bipush 30, 2), (6, .if_icmp .ne 5, 3), (9, .iconst (-1), 1), (10, .ireturn, 1), (11, .aload_n 0, 1), (12, .getfield 14, 3), (15, .aload_n 0, 1), (16, .getfield 72, 3), (19, .iload_n 1, 1), (20, .iastore, 1), (21, .aload_n 0, 1), (22, .getfield 17, 3), (25, .aload_n 0, 1), (26, .getfield 72, 3), (29, .iload_n 2, 1), (30, .iastore, 1), (31, .aload_n 0, 1), (32, .getfield 20, 3), (35, .aload_n 0, 1), (36, .getfield 72, 3), (39, .iload_n 3, 1), (40, .iastore, 1), (41, .aload_n 0, 1), (42, .dup, 1), (43, .getfield 72, 3), (46, .iconst 1, 1), (47, .iadd, 1), (48, .putfield 72, 3), (51, .aload_n 0, 1), (52, .iconst 0, 1), (53, .putfield 79, 3), (56, .aload_n 0, 1), (57, .getfield 72, 3), (60, .iconst 1, 1), (61, .isub, 1), (62, .ireturn, 1)] : List (Nat × Instr × Nat)), decode cX8_comes q.1 = .ok q.2 := by decide +kernel
theorem dX8_comes_0 : decode cX8_comes 0 = .ok (.aload_n 0, 1) := DX8_comes (0, .aload_n 0, 1) (List.mem_of_getElem? (i := 0) rfl)
theorem dX8_comes_1 : decode cX8_comes 1 = .ok (.getfield 72, 3) := DX8_comes (1, .getfield 72, 3) (List.mem_of_getElem? (i := 1) rfl)
theorem dX8_comes_4 : decode cX8_comes 4 = .ok (.bipush 30, 2) := DX8_comes (4, .bipush 30, 2) (List.mem_of_getElem? (i := 2) rfl)
theorem dX8_comes_6 : decode cX8_comes 6 = .ok (.if_icmp .ne 5, 3) := DX8_comes (6, .if_icmp .ne 5, 3) (List.mem_of_getElem? (i := 3) rfl)
theorem dX8_comes_9 : decode cX8_comes 9 = .ok (.iconst (-1), 1) := DX8_comes (9, .iconst (-1), 1) (List.mem_of_getElem? (i := 4) rfl)
theorem dX8_comes_10 : decode cX8_comes 10 = .ok (.ireturn, 1) := DX8_comes (10, .ireturn, 1) (List.mem_of_getElem? (i := 5) rfl)
theorem dX8_comes_11 : decode cX8_comes 11 = .ok (.aload_n 0, 1) := DX8_comes (11, .aload_n 0, 1) (List.mem_of_getElem? (i := 6) rfl)
theorem dX8_comes_12 : decode cX8_comes 12 = .ok (.getfield 14, 3) := DX8_comes (12, .getfield 14, 3) (List.mem_of_getElem? (i := 7) rfl)
theorem dX8_comes_15 : decode cX8_comes 15 = .ok (.aload_n 0, 1) := DX8_comes (15, .aload_n 0, 1) (List.mem_of_getElem? (i := 8) rfl)
theorem dX8_comes_16 : decode cX8_comes 16 = .ok (.getfield 72, 3) := DX8_comes (16, .getfield 72, 3) (List.mem_of_getElem? (i := 9) rfl)
theorem dX8_comes_19 : decode cX8_comes 19 = .ok (.iload_n 1, 1) := DX8_comes (19, .iload_n 1, 1) (List.mem_of_getElem? (i := 10) rfl)
theorem dX8_comes_20 : decode cX8_comes 20 = .ok (.iastore, 1) := DX8_comes (20, .iastore, 1) (List.mem_of_getElem? (i := 11) rfl)
theorem dX8_comes_21 : decode cX8_comes 21 = .ok (.aload_n 0, 1) := DX8_comes (21, .aload_n 0, 1) (List.mem_of_getElem? (i := 12) rfl)
theorem dX8_comes_22 : decode cX8_comes 22 = .ok (.getfield 17, 3) := DX8_comes (22, .getfield 17, 3) (List.mem_of_getElem? (i := 13) rfl)
theorem dX8_comes_25 : decode cX8_comes 25 = .ok (.aload_n 0, 1) := DX8_comes (25, .aload_n 0, 1) (List.mem_of_getElem? (i := 14) rfl)
theorem dX8_comes_26 : decode cX8_comes 26 = .ok (.getfield 72, 3) := DX8_comes (26, .getfield 72, 3) (List.mem_of_getElem? (i := 15) rfl)
theorem dX8_comes_29 : decode cX8_comes 29 = .ok (.iload_n 2, 1) := DX8_comes (29, .iload_n 2, 1) (List.mem_of_getElem? (i := 16) rfl)
theorem dX8_comes_30 : decode cX8_comes 30 = .ok (.iastore, 1) := DX8_comes (30, .iastore, 1) (List.mem_of_getElem? (i := 17) rfl)
theorem dX8_comes_31 : decode cX8_comes 31 = .ok (.aload_n 0, 1) := DX8_comes (31, .aload_n 0, 1) (List.mem_of_getElem? (i := 18) rfl)
theorem dX8_comes_32 : decode cX8_comes 32 = .ok (.getfield 20, 3) := DX8_comes (32, .getfield 20, 3) (List.mem_of_getElem? (i := 19) rfl)
theorem dX8_comes_35 : decode cX8_comes 35 = .ok (.aload_n 0, 1) := DX8_comes (35, .aload_n 0, 1) (List.mem_of_getElem? (i := 20) rfl)
theorem dX8_comes_36 : decode cX8_comes 36 = .ok (.getfield 72, 3) := DX8_comes (36, .getfield 72, 3) (List.mem_of_getElem? (i := 21) rfl)
theorem dX8_comes_39 : decode cX8_comes 39 = .ok (.iload_n 3, 1) := DX8_comes (39, .iload_n 3, 1) (List.mem_of_getElem? (i := 22) rfl)
theorem dX8_comes_40 : decode cX8_comes 40 = .ok (.iastore, 1) := DX8_comes (40, .iastore, 1) (List.mem_of_getElem? (i := 23) rfl)
theorem dX8_comes_41 : decode cX8_comes 41 = .ok (.aload_n 0, 1) := DX8_comes (41, .aload_n 0, 1) (List.mem_of_getElem? (i := 24) rfl)
theorem dX8_comes_42 : decode cX8_comes 42 = .ok (.dup, 1) := DX8_comes (42, .dup, 1) (List.mem_of_getElem? (i := 25) rfl)
theorem dX8_comes_43 : decode cX8_comes 43 = .ok (.getfield 72, 3) := DX8_comes (43, .getfield 72, 3) (List.mem_of_getElem? (i := 26) rfl)
theorem dX8_comes_46 : decode cX8_comes 46 = .ok (.iconst 1, 1) := DX8_comes (46, .iconst 1, 1) (List.mem_of_getElem? (i := 27) rfl)
theorem dX8_comes_47 : decode cX8_comes 47 = .ok (.iadd, 1) := DX8_comes (47, .iadd, 1) (List.mem_of_getElem? (i := 28) rfl)
theorem dX8_comes_48 : decode cX8_comes 48 = .ok (.putfield 72, 3) := DX8_comes (48, .putfield 72, 3) (List.mem_of_getElem? (i := 29) rfl)
theorem dX8_comes_51 : decode cX8_comes 51 = .ok (.aload_n 0, 1) := DX8_comes (51, .aload_n 0, 1) (List.mem_of_getElem? (i := 30) rfl)
theorem dX8_comes_52 : decode cX8_comes 52 = .ok (.iconst 0, 1) := DX8_comes (52, .iconst 0, 1) (List.mem_of_getElem? (i := 31) rfl)
theorem dX8_comes_53 : decode cX8_comes 53 = .ok (.putfield 79, 3) := DX8_comes (53, .putfield 79, 3) (List.mem_of_getElem? (i := 32) rfl)
theorem dX8_comes_56 : decode cX8_comes 56 = .ok (.aload_n 0, 1) := DX8_comes (56, .aload_n 0, 1) (List.mem_of_getElem? (i := 33) rfl)
theorem dX8_comes_57 : decode cX8_comes 57 = .ok (.getfield 72, 3) := DX8_comes (57, .getfield 72, 3) (List.mem_of_getElem? (i := 34) rfl)
theorem dX8_comes_60 : decode cX8_comes 60 = .ok (.iconst 1, 1) := DX8_comes (60, .iconst 1, 1) (List.mem_of_getElem? (i := 35) rfl)
theorem dX8_comes_61 : decode cX8_comes 61 = .ok (.isub, 1) := DX8_comes (61, .isub, 1) (List.mem_of_getElem? (i := 36) rfl)
theorem dX8_comes_62 : decode cX8_comes 62 = .ok (.ireturn, 1) := DX8_comes (62, .ireturn, 1) (List.mem_of_getElem? (i := 37) rfl)
noncomputable def fX8_comes (a1 : Int32) (a2 : Int32) (a3 : Int32) (σ : Mem) : Option (Int32 × Mem) :=
  if (σ 0 6) = 30 then
    some ((-1), σ)
  else
    chk (inb (σ 0 6) 30) <|
    chk (inb ((up2 σ 2 (σ 0 6).toNatClampNeg a1) 0 6) 30) <|
    chk (inb ((up2 (up2 σ 2 (σ 0 6).toNatClampNeg a1) 3 ((up2 σ 2 (σ 0 6).toNatClampNeg a1) 0 6).toNatClampNeg a2) 0 6) 30) <|
    some (((up2 (up2 (up2 (up2 (up2 σ 2 (σ 0 6).toNatClampNeg a1) 3 ((up2 σ 2 (σ 0 6).toNatClampNeg a1) 0 6).toNatClampNeg a2) 4 ((up2 (up2 σ 2 (σ 0 6).toNatClampNeg a1) 3 ((up2 σ 2 (σ 0 6).toNatClampNeg a1) 0 6).toNatClampNeg a2) 0 6).toNatClampNeg a3) 0 6 (((up2 (up2 (up2 σ 2 (σ 0 6).toNatClampNeg a1) 3 ((up2 σ 2 (σ 0 6).toNatClampNeg a1) 0 6).toNatClampNeg a2) 4 ((up2 (up2 σ 2 (σ 0 6).toNatClampNeg a1) 3 ((up2 σ 2 (σ 0 6).toNatClampNeg a1) 0 6).toNatClampNeg a2) 0 6).toNatClampNeg a3) 0 6) + 1)) 0 11 0) 0 6) - 1, up2 (up2 (up2 (up2 (up2 σ 2 (σ 0 6).toNatClampNeg a1) 3 ((up2 σ 2 (σ 0 6).toNatClampNeg a1) 0 6).toNatClampNeg a2) 4 ((up2 (up2 σ 2 (σ 0 6).toNatClampNeg a1) 3 ((up2 σ 2 (σ 0 6).toNatClampNeg a1) 0 6).toNatClampNeg a2) 0 6).toNatClampNeg a3) 0 6 (((up2 (up2 (up2 σ 2 (σ 0 6).toNatClampNeg a1) 3 ((up2 σ 2 (σ 0 6).toNatClampNeg a1) 0 6).toNatClampNeg a2) 4 ((up2 (up2 σ 2 (σ 0 6).toNatClampNeg a1) 3 ((up2 σ 2 (σ 0 6).toNatClampNeg a1) 0 6).toNatClampNeg a2) 0 6).toNatClampNeg a3) 0 6) + 1)) 0 11 0)
set_option maxHeartbeats 4000000 in
set_option maxRecDepth 100000 in
theorem mX8_comes {l : Launch} {D : va_G} {cI : ClassId} {ad : Nat → Nat} {a1 : Int32} {a2 : Int32} {a3 : Int32} {σ : Mem} {out : Int32 × Mem} (h : fX8_comes a1 a2 a3 σ = some out) : MI l D cI layM ad yX8_comes cX8_comes 4 .int rmX8_comes [.ref (ad 0), .int a1, .int a2, .int a3] σ out := by
  refine met_i (by decide) (Nat.le_of_ble_eq_true rfl) (fun E C K0 => ?_)
  show G E rmX8_comes cI layM ad 4 0 [(0, .ref (ad 0)), (1, .int a1), (2, .int a2), (3, .int a3)] [] σ
  unfold fX8_comes at h
  refine g_aload_n 1 C dX8_comes_0 rfl (j := 0) rfl rfl ?_
  refine g_geti 4 (j := 6) C rfl rfl wu_X8 (by decide) wf_X8_72 rfl dX8_comes_1 rfl ?_
  refine g_bipush 6 (v := 30) C dX8_comes_4 (by decide) rfl ?_
  refine g_icmp_ne 11 9 C dX8_comes_6 (by decide) rfl h (fun h => ?_) (fun h => ?_)
  · refine g_iconst 10 (v := (-1)) C dX8_comes_9 (by decide) rfl ?_
    cases h
    exact K0 _ _ dX8_comes_10 rfl
  · refine g_aload_n 12 C dX8_comes_11 rfl (j := 0) rfl rfl ?_
    refine g_getr 15 (j := 3) C rfl rfl wu_X8 (by decide) wf_X8_14 rfl dX8_comes_12 rfl ?_
    refine g_aload_n 16 C dX8_comes_15 rfl (j := 0) rfl rfl ?_
    refine g_geti 19 (j := 6) C rfl rfl wu_X8 (by decide) wf_X8_72 rfl dX8_comes_16 rfl ?_
    refine g_iload_n 20 C dX8_comes_19 rfl (j := 1) rfl rfl ?_
    refine g_iast 21 C rfl dX8_comes_20 rfl h (fun h => ?_)
    refine g_aload_n 22 C dX8_comes_21 rfl (j := 0) rfl rfl ?_
    refine g_getr 25 (j := 4) C rfl rfl wu_X8 (by decide) wf_X8_17 rfl dX8_comes_22 rfl ?_
    refine g_aload_n 26 C dX8_comes_25 rfl (j := 0) rfl rfl ?_
    refine g_geti 29 (j := 6) C rfl rfl wu_X8 (by decide) wf_X8_72 rfl dX8_comes_26 rfl ?_
    refine g_iload_n 30 C dX8_comes_29 rfl (j := 2) rfl rfl ?_
    refine g_iast 31 C rfl dX8_comes_30 rfl h (fun h => ?_)
    refine g_aload_n 32 C dX8_comes_31 rfl (j := 0) rfl rfl ?_
    refine g_getr 35 (j := 5) C rfl rfl wu_X8 (by decide) wf_X8_20 rfl dX8_comes_32 rfl ?_
    refine g_aload_n 36 C dX8_comes_35 rfl (j := 0) rfl rfl ?_
    refine g_geti 39 (j := 6) C rfl rfl wu_X8 (by decide) wf_X8_72 rfl dX8_comes_36 rfl ?_
    refine g_iload_n 40 C dX8_comes_39 rfl (j := 3) rfl rfl ?_
    refine g_iast 41 C rfl dX8_comes_40 rfl h (fun h => ?_)
    refine g_aload_n 42 C dX8_comes_41 rfl (j := 0) rfl rfl ?_
    refine g_dup 43 C dX8_comes_42 rfl rfl ?_
    refine g_geti 46 (j := 6) C rfl rfl wu_X8 (by decide) wf_X8_72 rfl dX8_comes_43 rfl ?_
    refine g_iconst 47 (v := 1) C dX8_comes_46 (by decide) rfl ?_
    refine g_iadd 48 C dX8_comes_47 rfl ?_
    refine g_puti 51 (j := 6) C rfl rfl wu_X8 (by decide) wf_X8_72 tyX8 tyX8_ok nmX8 rfl rfl rfl rfl dX8_comes_48 rfl ?_
    refine g_aload_n 52 C dX8_comes_51 rfl (j := 0) rfl rfl ?_
    refine g_iconst 53 (v := 0) C dX8_comes_52 (by decide) rfl ?_
    refine g_puti 56 (j := 11) C rfl rfl wu_X8 (by decide) wf_X8_79 tyX8 tyX8_ok nmX8 rfl rfl rfl rfl dX8_comes_53 rfl ?_
    refine g_aload_n 57 C dX8_comes_56 rfl (j := 0) rfl rfl ?_
    refine g_geti 60 (j := 6) C rfl rfl wu_X8 (by decide) wf_X8_72 rfl dX8_comes_57 rfl ?_
    refine g_iconst 61 (v := 1) C dX8_comes_60 (by decide) rfl ?_
    refine g_isub 62 C dX8_comes_61 rfl ?_
    cases h
    exact K0 _ _ dX8_comes_62 rfl

/-! LoopReducerModel.number(I)I -/
abbrev rmX8_number : Room := { frames := 1, cells := 0, slots := 0, locals := 23 }
theorem qX8_number : yX8_number.cls ≠ "java/lang/invoke/MethodHandle" ∧ yX8_number.cls ≠ "java/lang/invoke/VarHandle" ∧ (parseMethodDescriptor yX8_number.desc).map (fun d => d.parameters.length) = some 1 := by decide +kernel
theorem DX8_number : ∀ q ∈ ([(0, .aload_n 0, 1), (1, .iconst 0, 1), (2, .putfield 69, 3), (5, .aload_n 0, 1), (6, .iconst 0, 1), (7, .aload_n 0, 1), (8, .iload_n 1, 1), (9, .i2l, 1), (10, .invokevirtual 83, 3), (13, .bipush (-2), 2), (15, .invokevirtual 87, 3), (18, .ireturn, 1)] : List (Nat × Instr × Nat)), decode cX8_number q.1 = .ok q.2 := by decide +kernel
theorem dX8_number_0 : decode cX8_number 0 = .ok (.aload_n 0, 1) := DX8_number (0, .aload_n 0, 1) (List.mem_of_getElem? (i := 0) rfl)
theorem dX8_number_1 : decode cX8_number 1 = .ok (.iconst 0, 1) := DX8_number (1, .iconst 0, 1) (List.mem_of_getElem? (i := 1) rfl)
theorem dX8_number_2 : decode cX8_number 2 = .ok (.putfield 69, 3) := DX8_number (2, .putfield 69, 3) (List.mem_of_getElem? (i := 2) rfl)
theorem dX8_number_5 : decode cX8_number 5 = .ok (.aload_n 0, 1) := DX8_number (5, .aload_n 0, 1) (List.mem_of_getElem? (i := 3) rfl)
theorem dX8_number_6 : decode cX8_number 6 = .ok (.iconst 0, 1) := DX8_number (6, .iconst 0, 1) (List.mem_of_getElem? (i := 4) rfl)
theorem dX8_number_7 : decode cX8_number 7 = .ok (.aload_n 0, 1) := DX8_number (7, .aload_n 0, 1) (List.mem_of_getElem? (i := 5) rfl)
theorem dX8_number_8 : decode cX8_number 8 = .ok (.iload_n 1, 1) := DX8_number (8, .iload_n 1, 1) (List.mem_of_getElem? (i := 6) rfl)
theorem dX8_number_9 : decode cX8_number 9 = .ok (.i2l, 1) := DX8_number (9, .i2l, 1) (List.mem_of_getElem? (i := 7) rfl)
theorem dX8_number_10 : decode cX8_number 10 = .ok (.invokevirtual 83, 3) := DX8_number (10, .invokevirtual 83, 3) (List.mem_of_getElem? (i := 8) rfl)
theorem dX8_number_13 : decode cX8_number 13 = .ok (.bipush (-2), 2) := DX8_number (13, .bipush (-2), 2) (List.mem_of_getElem? (i := 9) rfl)
theorem dX8_number_15 : decode cX8_number 15 = .ok (.invokevirtual 87, 3) := DX8_number (15, .invokevirtual 87, 3) (List.mem_of_getElem? (i := 10) rfl)
theorem dX8_number_18 : decode cX8_number 18 = .ok (.ireturn, 1) := DX8_number (18, .ireturn, 1) (List.mem_of_getElem? (i := 11) rfl)
noncomputable def fX8_number (a1 : Int32) (σ : Mem) : Option (Int32 × Mem) :=
  (fX8_cut a1.toInt64 (up2 σ 0 2 0)).bind fun o1 =>
  (fX8_comes 0 o1.1 (-2) o1.2).bind fun o2 =>
  some (o2.1, o2.2)
set_option maxHeartbeats 4000000 in
set_option maxRecDepth 100000 in
theorem mX8_number {l : Launch} {D : va_G} {cI : ClassId} {ad : Nat → Nat} {a1 : Int32} {σ : Mem} {out : Int32 × Mem} (h : fX8_number a1 σ = some out) : MI l D cI layM ad yX8_number cX8_number 2 .int rmX8_number [.ref (ad 0), .int a1] σ out := by
  refine met_i (by decide) (Nat.le_of_ble_eq_true rfl) (fun E C K0 => ?_)
  show G E rmX8_number cI layM ad 2 0 [(0, .ref (ad 0)), (1, .int a1)] [] σ
  unfold fX8_number at h
  refine g_aload_n 1 C dX8_number_0 rfl (j := 0) rfl rfl ?_
  refine g_iconst 2 (v := 0) C dX8_number_1 (by decide) rfl ?_
  refine g_puti 5 (j := 2) C rfl rfl wu_X8 (by decide) wf_X8_69 tyX8 tyX8_ok nmX8 rfl rfl rfl rfl dX8_number_2 rfl ?_
  refine g_aload_n 6 C dX8_number_5 rfl (j := 0) rfl rfl ?_
  refine g_iconst 7 (v := 0) C dX8_number_6 (by decide) rfl ?_
  refine g_aload_n 8 C dX8_number_7 rfl (j := 0) rfl rfl ?_
  refine g_iload_n 9 C dX8_number_8 rfl (j := 1) rfl rfl ?_
  refine g_i2l 10 C dX8_number_9 rfl ?_
  refine g_cvi 13 C (As := [.long a1.toInt64]) (fun _ h => mX8_cut (a1 := a1.toInt64) (σ := up2 σ 0 2 0) h) wl_X8_83 wi_X8_cut wz_X8_cut wc_X8_cut wn_X8 qX8_cut rfl rfl ⟨Nat.le_of_ble_eq_true rfl, Nat.le_of_ble_eq_true rfl⟩ rfl rfl rfl rfl (Nat.le_of_ble_eq_true rfl) dX8_number_10 rfl h (fun o1 h => ?_)
  refine g_bipush 15 (v := (-2)) C dX8_number_13 (by decide) rfl ?_
  refine g_cvi 18 C (As := [.int 0, .int o1.1, .int (-2)]) (fun _ h => mX8_comes (a1 := 0) (a2 := o1.1) (a3 := (-2)) (σ := o1.2) h) wl_X8_87 wi_X8_comes wz_X8_comes wc_X8_comes wn_X8 qX8_comes rfl rfl ⟨Nat.le_of_ble_eq_true rfl, Nat.le_of_ble_eq_true rfl⟩ rfl rfl rfl rfl (Nat.le_of_ble_eq_true rfl) dX8_number_15 rfl h (fun o2 h => ?_)
  cases h
  exact K0 _ _ dX8_number_18 rfl

/-! LoopReducerModel.many(I)I -/
abbrev rmX8_many : Room := { frames := 0, cells := 0, slots := 0, locals := 0 }
theorem qX8_many : yX8_many.cls ≠ "java/lang/invoke/MethodHandle" ∧ yX8_many.cls ≠ "java/lang/invoke/VarHandle" ∧ (parseMethodDescriptor yX8_many.desc).map (fun d => d.parameters.length) = some 1 := by decide +kernel
theorem DX8_many : ∀ q ∈ ([(0, .iconst 0, 1), (1, .istore_n 2, 1), (2, .iconst 0, 1), (3, .istore_n 3, 1), (4, .iload_n 3, 1), (5, .aload_n 0, 1), (6, .getfield 72, 3), (9, .if_icmp .ge 27, 3), (12, .iload_n 2, 1), (13, .aload_n 0, 1), (14, .getfield 14, 3), (17, .iload_n 3, 1), (18, .iaload, 1), (19, .iload_n 1, 1), (20, .if_icmp .ne 7, 3), (23, .iconst 1, 1), (24, .goto 4, 3), (27, .iconst 0, 1), (28, .iadd, 1), (29, .istore_n 2, 1), (30, .iinc 3 1, 3), (33, .goto (-29), 3), (36, .iload_n 2, 1), (37, .ireturn, 1)] : List (Nat × Instr × Nat)), decode cX8_many q.1 = .ok q.2 := by decide +kernel
theorem dX8_many_0 : decode cX8_many 0 = .ok (.iconst 0, 1) := DX8_many (0, .iconst 0, 1) (List.mem_of_getElem? (i := 0) rfl)
theorem dX8_many_1 : decode cX8_many 1 = .ok (.istore_n 2, 1) := DX8_many (1, .istore_n 2, 1) (List.mem_of_getElem? (i := 1) rfl)
theorem dX8_many_2 : decode cX8_many 2 = .ok (.iconst 0, 1) := DX8_many (2, .iconst 0, 1) (List.mem_of_getElem? (i := 2) rfl)
theorem dX8_many_3 : decode cX8_many 3 = .ok (.istore_n 3, 1) := DX8_many (3, .istore_n 3, 1) (List.mem_of_getElem? (i := 3) rfl)
theorem dX8_many_4 : decode cX8_many 4 = .ok (.iload_n 3, 1) := DX8_many (4, .iload_n 3, 1) (List.mem_of_getElem? (i := 4) rfl)
theorem dX8_many_5 : decode cX8_many 5 = .ok (.aload_n 0, 1) := DX8_many (5, .aload_n 0, 1) (List.mem_of_getElem? (i := 5) rfl)
theorem dX8_many_6 : decode cX8_many 6 = .ok (.getfield 72, 3) := DX8_many (6, .getfield 72, 3) (List.mem_of_getElem? (i := 6) rfl)
theorem dX8_many_9 : decode cX8_many 9 = .ok (.if_icmp .ge 27, 3) := DX8_many (9, .if_icmp .ge 27, 3) (List.mem_of_getElem? (i := 7) rfl)
theorem dX8_many_12 : decode cX8_many 12 = .ok (.iload_n 2, 1) := DX8_many (12, .iload_n 2, 1) (List.mem_of_getElem? (i := 8) rfl)
theorem dX8_many_13 : decode cX8_many 13 = .ok (.aload_n 0, 1) := DX8_many (13, .aload_n 0, 1) (List.mem_of_getElem? (i := 9) rfl)
theorem dX8_many_14 : decode cX8_many 14 = .ok (.getfield 14, 3) := DX8_many (14, .getfield 14, 3) (List.mem_of_getElem? (i := 10) rfl)
theorem dX8_many_17 : decode cX8_many 17 = .ok (.iload_n 3, 1) := DX8_many (17, .iload_n 3, 1) (List.mem_of_getElem? (i := 11) rfl)
theorem dX8_many_18 : decode cX8_many 18 = .ok (.iaload, 1) := DX8_many (18, .iaload, 1) (List.mem_of_getElem? (i := 12) rfl)
theorem dX8_many_19 : decode cX8_many 19 = .ok (.iload_n 1, 1) := DX8_many (19, .iload_n 1, 1) (List.mem_of_getElem? (i := 13) rfl)
theorem dX8_many_20 : decode cX8_many 20 = .ok (.if_icmp .ne 7, 3) := DX8_many (20, .if_icmp .ne 7, 3) (List.mem_of_getElem? (i := 14) rfl)
theorem dX8_many_23 : decode cX8_many 23 = .ok (.iconst 1, 1) := DX8_many (23, .iconst 1, 1) (List.mem_of_getElem? (i := 15) rfl)
theorem dX8_many_24 : decode cX8_many 24 = .ok (.goto 4, 3) := DX8_many (24, .goto 4, 3) (List.mem_of_getElem? (i := 16) rfl)
theorem dX8_many_27 : decode cX8_many 27 = .ok (.iconst 0, 1) := DX8_many (27, .iconst 0, 1) (List.mem_of_getElem? (i := 17) rfl)
theorem dX8_many_28 : decode cX8_many 28 = .ok (.iadd, 1) := DX8_many (28, .iadd, 1) (List.mem_of_getElem? (i := 18) rfl)
theorem dX8_many_29 : decode cX8_many 29 = .ok (.istore_n 2, 1) := DX8_many (29, .istore_n 2, 1) (List.mem_of_getElem? (i := 19) rfl)
theorem dX8_many_30 : decode cX8_many 30 = .ok (.iinc 3 1, 3) := DX8_many (30, .iinc 3 1, 3) (List.mem_of_getElem? (i := 20) rfl)
theorem dX8_many_33 : decode cX8_many 33 = .ok (.goto (-29), 3) := DX8_many (33, .goto (-29), 3) (List.mem_of_getElem? (i := 21) rfl)
theorem dX8_many_36 : decode cX8_many 36 = .ok (.iload_n 2, 1) := DX8_many (36, .iload_n 2, 1) (List.mem_of_getElem? (i := 22) rfl)
theorem dX8_many_37 : decode cX8_many 37 = .ok (.ireturn, 1) := DX8_many (37, .ireturn, 1) (List.mem_of_getElem? (i := 23) rfl)
noncomputable def fX8_many_L28 (l1 : Int32) (l3 : Int32) (s0 : Int32) (s1 : Int32) (σ : Mem) : Option ((Int32 × Int32 × Mem) ⊕ (Int32 × Mem)) :=
  some (.inl (s0 + s1, l3 + 1, σ))
set_option maxHeartbeats 4000000 in
set_option maxRecDepth 100000 in
theorem tX8_many_L28 {E : Gx} {cI : ClassId} {ad : Nat → Nat} (C : Cx E rmX8_many cI layM ad 4 RX8 cX8_many) {out : Int32 × Mem} (K0 : KI E rmX8_many cI layM ad 4 cX8_many .int out) {l1 : Int32} {l3 : Int32} {s0 : Int32} {s1 : Int32} {σ : Mem} {res : (Int32 × Int32 × Mem) ⊕ (Int32 × Mem)} (h : fX8_many_L28 l1 l3 s0 s1 σ = some res) (K : Sum.elim (fun a => G E rmX8_many cI layM ad 4 4 [(0, .ref (ad 0)), (1, .int l1), (2, .int a.1), (3, .int a.2.1)] [] a.2.2) (fun b => G E rmX8_many cI layM ad 4 36 [(2, .int b.1)] [] b.2) res) : G E rmX8_many cI layM ad 4 28 [(0, .ref (ad 0)), (1, .int l1), (3, .int l3)] [.int s1, .int s0] σ := by
  unfold fX8_many_L28 at h
  refine g_iadd 29 C dX8_many_28 rfl ?_
  refine g_istore_n 30 [(2, .int (s0 + s1)), (0, .ref (ad 0)), (1, .int l1), (3, .int l3)] C dX8_many_29 rfl (by decide) rfl rfl ?_
  refine g_iinc 33 [(3, .int (l3 + 1)), (2, .int (s0 + s1)), (0, .ref (ad 0)), (1, .int l1)] C dX8_many_30 (j := 3) rfl (by rfl) (by decide) rfl rfl ?_
  refine g_goto 4 C dX8_many_33 (by decide) ?_
  have hh := end_inl h K
  exact g_sub [2, 3, 1, 0] (hh) rfl
noncomputable def fX8_many_B4 (l1 : Int32) (l2 : Int32) (l3 : Int32) (σ : Mem) : Option ((Int32 × Int32 × Mem) ⊕ (Int32 × Mem)) :=
  if (σ 0 6) ≤ l3 then
    some (.inr (l2, σ))
  else
    chk (inb l3 30) <|
    if (σ 2 l3.toNatClampNeg) = l1 then
      fX8_many_L28 l1 l3 l2 1 σ
    else
      fX8_many_L28 l1 l3 l2 0 σ
set_option maxHeartbeats 4000000 in
set_option maxRecDepth 100000 in
theorem tX8_many_B4 {E : Gx} {cI : ClassId} {ad : Nat → Nat} (C : Cx E rmX8_many cI layM ad 4 RX8 cX8_many) {out : Int32 × Mem} (K0 : KI E rmX8_many cI layM ad 4 cX8_many .int out) {l1 : Int32} {l2 : Int32} {l3 : Int32} {σ : Mem} {res : (Int32 × Int32 × Mem) ⊕ (Int32 × Mem)} (h : fX8_many_B4 l1 l2 l3 σ = some res) (K : Sum.elim (fun a => G E rmX8_many cI layM ad 4 4 [(0, .ref (ad 0)), (1, .int l1), (2, .int a.1), (3, .int a.2.1)] [] a.2.2) (fun b => G E rmX8_many cI layM ad 4 36 [(2, .int b.1)] [] b.2) res) : G E rmX8_many cI layM ad 4 4 [(0, .ref (ad 0)), (1, .int l1), (2, .int l2), (3, .int l3)] [] σ := by
  unfold fX8_many_B4 at h
  refine g_iload_n 5 C dX8_many_4 rfl (j := 3) rfl rfl ?_
  refine g_aload_n 6 C dX8_many_5 rfl (j := 0) rfl rfl ?_
  refine g_geti 9 (j := 6) C rfl rfl wu_X8 (by decide) wf_X8_72 rfl dX8_many_6 rfl ?_
  refine g_icmp_ge 36 12 C dX8_many_9 (by decide) rfl h (fun h => ?_) (fun h => ?_)
  · have hh := end_inr h K
    exact g_sub [2] (hh) rfl
  · refine g_iload_n 13 C dX8_many_12 rfl (j := 2) rfl rfl ?_
    refine g_aload_n 14 C dX8_many_13 rfl (j := 0) rfl rfl ?_
    refine g_getr 17 (j := 3) C rfl rfl wu_X8 (by decide) wf_X8_14 rfl dX8_many_14 rfl ?_
    refine g_iload_n 18 C dX8_many_17 rfl (j := 3) rfl rfl ?_
    refine g_iald 19 C rfl dX8_many_18 rfl h (fun h => ?_)
    refine g_iload_n 20 C dX8_many_19 rfl (j := 1) rfl rfl ?_
    refine g_icmp_ne 27 23 C dX8_many_20 (by decide) rfl h (fun h => ?_) (fun h => ?_)
    · refine g_iconst 24 (v := 1) C dX8_many_23 (by decide) rfl ?_
      refine g_goto 28 C dX8_many_24 (by decide) ?_
      exact g_sub [0, 1, 3] (tX8_many_L28 (l1 := l1) (l3 := l3) (s0 := l2) (s1 := 1) (σ := σ) C K0 h K) rfl
    · refine g_iconst 28 (v := 0) C dX8_many_27 (by decide) rfl ?_
      exact g_sub [0, 1, 3] (tX8_many_L28 (l1 := l1) (l3 := l3) (s0 := l2) (s1 := 0) (σ := σ) C K0 h K) rfl
noncomputable def fX8_many_L36 (l2 : Int32) (σ : Mem) : Option (Int32 × Mem) :=
  some (l2, σ)
set_option maxHeartbeats 4000000 in
set_option maxRecDepth 100000 in
theorem tX8_many_L36 {E : Gx} {cI : ClassId} {ad : Nat → Nat} (C : Cx E rmX8_many cI layM ad 4 RX8 cX8_many) {out : Int32 × Mem} (K0 : KI E rmX8_many cI layM ad 4 cX8_many .int out) {l2 : Int32} {σ : Mem} (h : fX8_many_L36 l2 σ = some out) : G E rmX8_many cI layM ad 4 36 [(2, .int l2)] [] σ := by
  unfold fX8_many_L36 at h
  refine g_iload_n 37 C dX8_many_36 rfl (j := 0) rfl rfl ?_
  cases h
  exact K0 _ _ dX8_many_37 rfl
noncomputable def fX8_many (a1 : Int32) (σ : Mem) : Option (Int32 × Mem) :=
  (loop (fun a => fX8_many_B4 a1 a.1 a.2.1 a.2.2) (0, 0, σ)).bind fun b1 =>
  fX8_many_L36 b1.1 b1.2
set_option maxHeartbeats 4000000 in
set_option maxRecDepth 100000 in
theorem mX8_many {l : Launch} {D : va_G} {cI : ClassId} {ad : Nat → Nat} {a1 : Int32} {σ : Mem} {out : Int32 × Mem} (h : fX8_many a1 σ = some out) : MI l D cI layM ad yX8_many cX8_many 4 .int rmX8_many [.ref (ad 0), .int a1] σ out := by
  refine met_i (by decide) (Nat.le_of_ble_eq_true rfl) (fun E C K0 => ?_)
  show G E rmX8_many cI layM ad 4 0 [(0, .ref (ad 0)), (1, .int a1)] [] σ
  unfold fX8_many at h
  refine g_iconst 1 (v := 0) C dX8_many_0 (by decide) rfl ?_
  refine g_istore_n 2 [(2, .int 0), (0, .ref (ad 0)), (1, .int a1)] C dX8_many_1 rfl (by decide) rfl rfl ?_
  refine g_iconst 3 (v := 0) C dX8_many_2 (by decide) rfl ?_
  refine g_istore_n 4 [(3, .int 0), (2, .int 0), (0, .ref (ad 0)), (1, .int a1)] C dX8_many_3 rfl (by decide) rfl rfl ?_
  obtain ⟨b1, hb, h⟩ := bind_some h
  refine g_sub [2, 3, 1, 0] (g_loop (a := (0, 0, σ)) (fun a => G E rmX8_many cI layM ad 4 4 [(0, .ref (ad 0)), (1, .int a1), (2, .int a.1), (3, .int a.2.1)] [] a.2.2) (fun b => G E rmX8_many cI layM ad 4 36 [(2, .int b.1)] [] b.2) hb (fun a res h K => tX8_many_B4 (l1 := a1) (l2 := a.1) (l3 := a.2.1) (σ := a.2.2) (res := res) C K0 h K) ?_) rfl
  show G E rmX8_many cI layM ad 4 36 [(2, .int b1.1)] [] b1.2
  exact tX8_many_L36 (l2 := b1.1) (σ := b1.2) C K0 h

/-! LoopReducerModel.input()I -/
abbrev rmX8_input : Room := { frames := 1, cells := 0, slots := 0, locals := 23 }
theorem qX8_input : yX8_input.cls ≠ "java/lang/invoke/MethodHandle" ∧ yX8_input.cls ≠ "java/lang/invoke/VarHandle" ∧ (parseMethodDescriptor yX8_input.desc).map (fun d => d.parameters.length) = some 0 := by decide +kernel
theorem DX8_input : ∀ q ∈ ([(0, .aload_n 0, 1), (1, .iconst 0, 1), (2, .putfield 69, 3), (5, .aload_n 0, 1), (6, .iconst 1, 1), (7, .invokevirtual 91, 3), (10, .iconst 3, 1), (11, .if_icmp .ne 7, 3), (14, .iconst (-1), 1), (15, .goto 15, 3), (18, .aload_n 0, 1), (19, .iconst 1, 1), (20, .aload_n 0, 1), (21, .iconst 1, 1), (22, .invokevirtual 91, 3), (25, .bipush (-2), 2), (27, .invokevirtual 87, 3), (30, .ireturn, 1)] : List (Nat × Instr × Nat)), decode cX8_input q.1 = .ok q.2 := by decide +kernel
theorem dX8_input_0 : decode cX8_input 0 = .ok (.aload_n 0, 1) := DX8_input (0, .aload_n 0, 1) (List.mem_of_getElem? (i := 0) rfl)
theorem dX8_input_1 : decode cX8_input 1 = .ok (.iconst 0, 1) := DX8_input (1, .iconst 0, 1) (List.mem_of_getElem? (i := 1) rfl)
theorem dX8_input_2 : decode cX8_input 2 = .ok (.putfield 69, 3) := DX8_input (2, .putfield 69, 3) (List.mem_of_getElem? (i := 2) rfl)
theorem dX8_input_5 : decode cX8_input 5 = .ok (.aload_n 0, 1) := DX8_input (5, .aload_n 0, 1) (List.mem_of_getElem? (i := 3) rfl)
theorem dX8_input_6 : decode cX8_input 6 = .ok (.iconst 1, 1) := DX8_input (6, .iconst 1, 1) (List.mem_of_getElem? (i := 4) rfl)
theorem dX8_input_7 : decode cX8_input 7 = .ok (.invokevirtual 91, 3) := DX8_input (7, .invokevirtual 91, 3) (List.mem_of_getElem? (i := 5) rfl)
theorem dX8_input_10 : decode cX8_input 10 = .ok (.iconst 3, 1) := DX8_input (10, .iconst 3, 1) (List.mem_of_getElem? (i := 6) rfl)
theorem dX8_input_11 : decode cX8_input 11 = .ok (.if_icmp .ne 7, 3) := DX8_input (11, .if_icmp .ne 7, 3) (List.mem_of_getElem? (i := 7) rfl)
theorem dX8_input_14 : decode cX8_input 14 = .ok (.iconst (-1), 1) := DX8_input (14, .iconst (-1), 1) (List.mem_of_getElem? (i := 8) rfl)
theorem dX8_input_15 : decode cX8_input 15 = .ok (.goto 15, 3) := DX8_input (15, .goto 15, 3) (List.mem_of_getElem? (i := 9) rfl)
theorem dX8_input_18 : decode cX8_input 18 = .ok (.aload_n 0, 1) := DX8_input (18, .aload_n 0, 1) (List.mem_of_getElem? (i := 10) rfl)
theorem dX8_input_19 : decode cX8_input 19 = .ok (.iconst 1, 1) := DX8_input (19, .iconst 1, 1) (List.mem_of_getElem? (i := 11) rfl)
theorem dX8_input_20 : decode cX8_input 20 = .ok (.aload_n 0, 1) := DX8_input (20, .aload_n 0, 1) (List.mem_of_getElem? (i := 12) rfl)
theorem dX8_input_21 : decode cX8_input 21 = .ok (.iconst 1, 1) := DX8_input (21, .iconst 1, 1) (List.mem_of_getElem? (i := 13) rfl)
theorem dX8_input_22 : decode cX8_input 22 = .ok (.invokevirtual 91, 3) := DX8_input (22, .invokevirtual 91, 3) (List.mem_of_getElem? (i := 14) rfl)
theorem dX8_input_25 : decode cX8_input 25 = .ok (.bipush (-2), 2) := DX8_input (25, .bipush (-2), 2) (List.mem_of_getElem? (i := 15) rfl)
theorem dX8_input_27 : decode cX8_input 27 = .ok (.invokevirtual 87, 3) := DX8_input (27, .invokevirtual 87, 3) (List.mem_of_getElem? (i := 16) rfl)
theorem dX8_input_30 : decode cX8_input 30 = .ok (.ireturn, 1) := DX8_input (30, .ireturn, 1) (List.mem_of_getElem? (i := 17) rfl)
noncomputable def fX8_input_L30 (s0 : Int32) (σ : Mem) : Option (Int32 × Mem) :=
  some (s0, σ)
set_option maxHeartbeats 4000000 in
set_option maxRecDepth 100000 in
theorem tX8_input_L30 {E : Gx} {cI : ClassId} {ad : Nat → Nat} (C : Cx E rmX8_input cI layM ad 1 RX8 cX8_input) {out : Int32 × Mem} (K0 : KI E rmX8_input cI layM ad 1 cX8_input .int out) {s0 : Int32} {σ : Mem} (h : fX8_input_L30 s0 σ = some out) : G E rmX8_input cI layM ad 1 30 [] [.int s0] σ := by
  unfold fX8_input_L30 at h
  cases h
  exact K0 _ _ dX8_input_30 rfl
noncomputable def fX8_input (σ : Mem) : Option (Int32 × Mem) :=
  (fX8_many 1 (up2 σ 0 2 0)).bind fun o1 =>
  if o1.1 = 3 then
    fX8_input_L30 (-1) o1.2
  else
    (fX8_many 1 o1.2).bind fun o2 =>
    (fX8_comes 1 o2.1 (-2) o2.2).bind fun o3 =>
    fX8_input_L30 o3.1 o3.2
set_option maxHeartbeats 4000000 in
set_option maxRecDepth 100000 in
theorem mX8_input {l : Launch} {D : va_G} {cI : ClassId} {ad : Nat → Nat} {σ : Mem} {out : Int32 × Mem} (h : fX8_input σ = some out) : MI l D cI layM ad yX8_input cX8_input 1 .int rmX8_input [.ref (ad 0)] σ out := by
  refine met_i (by decide) (Nat.le_of_ble_eq_true rfl) (fun E C K0 => ?_)
  show G E rmX8_input cI layM ad 1 0 [(0, .ref (ad 0))] [] σ
  unfold fX8_input at h
  refine g_aload_n 1 C dX8_input_0 rfl (j := 0) rfl rfl ?_
  refine g_iconst 2 (v := 0) C dX8_input_1 (by decide) rfl ?_
  refine g_puti 5 (j := 2) C rfl rfl wu_X8 (by decide) wf_X8_69 tyX8 tyX8_ok nmX8 rfl rfl rfl rfl dX8_input_2 rfl ?_
  refine g_aload_n 6 C dX8_input_5 rfl (j := 0) rfl rfl ?_
  refine g_iconst 7 (v := 1) C dX8_input_6 (by decide) rfl ?_
  refine g_cvi 10 C (As := [.int 1]) (fun _ h => mX8_many (a1 := 1) (σ := up2 σ 0 2 0) h) wl_X8_91 wi_X8_many wz_X8_many wc_X8_many wn_X8 qX8_many rfl rfl ⟨Nat.le_of_ble_eq_true rfl, Nat.le_of_ble_eq_true rfl⟩ rfl rfl rfl rfl (Nat.le_of_ble_eq_true rfl) dX8_input_7 rfl h (fun o1 h => ?_)
  refine g_iconst 11 (v := 3) C dX8_input_10 (by decide) rfl ?_
  refine g_icmp_ne 18 14 C dX8_input_11 (by decide) rfl h (fun h => ?_) (fun h => ?_)
  · refine g_iconst 15 (v := (-1)) C dX8_input_14 (by decide) rfl ?_
    refine g_goto 30 C dX8_input_15 (by decide) ?_
    exact g_sub [] (tX8_input_L30 (s0 := (-1)) (σ := o1.2) C K0 h) rfl
  · refine g_aload_n 19 C dX8_input_18 rfl (j := 0) rfl rfl ?_
    refine g_iconst 20 (v := 1) C dX8_input_19 (by decide) rfl ?_
    refine g_aload_n 21 C dX8_input_20 rfl (j := 0) rfl rfl ?_
    refine g_iconst 22 (v := 1) C dX8_input_21 (by decide) rfl ?_
    refine g_cvi 25 C (As := [.int 1]) (fun _ h => mX8_many (a1 := 1) (σ := o1.2) h) wl_X8_91 wi_X8_many wz_X8_many wc_X8_many wn_X8 qX8_many rfl rfl ⟨Nat.le_of_ble_eq_true rfl, Nat.le_of_ble_eq_true rfl⟩ rfl rfl rfl rfl (Nat.le_of_ble_eq_true rfl) dX8_input_22 rfl h (fun o2 h => ?_)
    refine g_bipush 27 (v := (-2)) C dX8_input_25 (by decide) rfl ?_
    refine g_cvi 30 C (As := [.int 1, .int o2.1, .int (-2)]) (fun _ h => mX8_comes (a1 := 1) (a2 := o2.1) (a3 := (-2)) (σ := o2.2) h) wl_X8_87 wi_X8_comes wz_X8_comes wc_X8_comes wn_X8 qX8_comes rfl rfl ⟨Nat.le_of_ble_eq_true rfl, Nat.le_of_ble_eq_true rfl⟩ rfl rfl rfl rfl (Nat.le_of_ble_eq_true rfl) dX8_input_27 rfl h (fun o3 h => ?_)
    exact g_sub [] (tX8_input_L30 (s0 := o3.1) (σ := o3.2) C K0 h) rfl

/-! LoopReducerModel.carried(I)I -/
abbrev rmX8_carried : Room := { frames := 2, cells := 0, slots := 0, locals := 43 }
theorem qX8_carried : yX8_carried.cls ≠ "java/lang/invoke/MethodHandle" ∧ yX8_carried.cls ≠ "java/lang/invoke/VarHandle" ∧ (parseMethodDescriptor yX8_carried.desc).map (fun d => d.parameters.length) = some 1 := by decide +kernel
theorem DX8_carried : ∀ q ∈ ([(0, .aload_n 0, 1), (1, .iconst 0, 1), (2, .putfield 69, 3), (5, .aload_n 0, 1), (6, .iload_n 1, 1), (7, .invokevirtual 95, 3), (10, .ifCond .eq 26, 3), (13, .aload_n 0, 1), (14, .getfield 14, 3), (17, .iload_n 1, 1), (18, .iaload, 1), (19, .iconst 1, 1), (20, .if_icmp .gt 16, 3), (23, .aload_n 0, 1), (24, .iconst 5, 1), (25, .iload_n 1, 1), (26, .aload_n 0, 1), (27, .getfield 72, 3), (30, .invokevirtual 87, 3), (33, .goto 4, 3), (36, .iconst (-1), 1), (37, .ireturn, 1)] : List (Nat × Instr × Nat)), decode cX8_carried q.1 = .ok q.2 := by decide +kernel
theorem dX8_carried_0 : decode cX8_carried 0 = .ok (.aload_n 0, 1) := DX8_carried (0, .aload_n 0, 1) (List.mem_of_getElem? (i := 0) rfl)
theorem dX8_carried_1 : decode cX8_carried 1 = .ok (.iconst 0, 1) := DX8_carried (1, .iconst 0, 1) (List.mem_of_getElem? (i := 1) rfl)
theorem dX8_carried_2 : decode cX8_carried 2 = .ok (.putfield 69, 3) := DX8_carried (2, .putfield 69, 3) (List.mem_of_getElem? (i := 2) rfl)
theorem dX8_carried_5 : decode cX8_carried 5 = .ok (.aload_n 0, 1) := DX8_carried (5, .aload_n 0, 1) (List.mem_of_getElem? (i := 3) rfl)
theorem dX8_carried_6 : decode cX8_carried 6 = .ok (.iload_n 1, 1) := DX8_carried (6, .iload_n 1, 1) (List.mem_of_getElem? (i := 4) rfl)
theorem dX8_carried_7 : decode cX8_carried 7 = .ok (.invokevirtual 95, 3) := DX8_carried (7, .invokevirtual 95, 3) (List.mem_of_getElem? (i := 5) rfl)
theorem dX8_carried_10 : decode cX8_carried 10 = .ok (.ifCond .eq 26, 3) := DX8_carried (10, .ifCond .eq 26, 3) (List.mem_of_getElem? (i := 6) rfl)
theorem dX8_carried_13 : decode cX8_carried 13 = .ok (.aload_n 0, 1) := DX8_carried (13, .aload_n 0, 1) (List.mem_of_getElem? (i := 7) rfl)
theorem dX8_carried_14 : decode cX8_carried 14 = .ok (.getfield 14, 3) := DX8_carried (14, .getfield 14, 3) (List.mem_of_getElem? (i := 8) rfl)
theorem dX8_carried_17 : decode cX8_carried 17 = .ok (.iload_n 1, 1) := DX8_carried (17, .iload_n 1, 1) (List.mem_of_getElem? (i := 9) rfl)
theorem dX8_carried_18 : decode cX8_carried 18 = .ok (.iaload, 1) := DX8_carried (18, .iaload, 1) (List.mem_of_getElem? (i := 10) rfl)
theorem dX8_carried_19 : decode cX8_carried 19 = .ok (.iconst 1, 1) := DX8_carried (19, .iconst 1, 1) (List.mem_of_getElem? (i := 11) rfl)
theorem dX8_carried_20 : decode cX8_carried 20 = .ok (.if_icmp .gt 16, 3) := DX8_carried (20, .if_icmp .gt 16, 3) (List.mem_of_getElem? (i := 12) rfl)
theorem dX8_carried_23 : decode cX8_carried 23 = .ok (.aload_n 0, 1) := DX8_carried (23, .aload_n 0, 1) (List.mem_of_getElem? (i := 13) rfl)
theorem dX8_carried_24 : decode cX8_carried 24 = .ok (.iconst 5, 1) := DX8_carried (24, .iconst 5, 1) (List.mem_of_getElem? (i := 14) rfl)
theorem dX8_carried_25 : decode cX8_carried 25 = .ok (.iload_n 1, 1) := DX8_carried (25, .iload_n 1, 1) (List.mem_of_getElem? (i := 15) rfl)
theorem dX8_carried_26 : decode cX8_carried 26 = .ok (.aload_n 0, 1) := DX8_carried (26, .aload_n 0, 1) (List.mem_of_getElem? (i := 16) rfl)
theorem dX8_carried_27 : decode cX8_carried 27 = .ok (.getfield 72, 3) := DX8_carried (27, .getfield 72, 3) (List.mem_of_getElem? (i := 17) rfl)
theorem dX8_carried_30 : decode cX8_carried 30 = .ok (.invokevirtual 87, 3) := DX8_carried (30, .invokevirtual 87, 3) (List.mem_of_getElem? (i := 18) rfl)
theorem dX8_carried_33 : decode cX8_carried 33 = .ok (.goto 4, 3) := DX8_carried (33, .goto 4, 3) (List.mem_of_getElem? (i := 19) rfl)
theorem dX8_carried_36 : decode cX8_carried 36 = .ok (.iconst (-1), 1) := DX8_carried (36, .iconst (-1), 1) (List.mem_of_getElem? (i := 20) rfl)
theorem dX8_carried_37 : decode cX8_carried 37 = .ok (.ireturn, 1) := DX8_carried (37, .ireturn, 1) (List.mem_of_getElem? (i := 21) rfl)
noncomputable def fX8_carried_L37 (s0 : Int32) (σ : Mem) : Option (Int32 × Mem) :=
  some (s0, σ)
set_option maxHeartbeats 4000000 in
set_option maxRecDepth 100000 in
theorem tX8_carried_L37 {E : Gx} {cI : ClassId} {ad : Nat → Nat} (C : Cx E rmX8_carried cI layM ad 2 RX8 cX8_carried) {out : Int32 × Mem} (K0 : KI E rmX8_carried cI layM ad 2 cX8_carried .int out) {s0 : Int32} {σ : Mem} (h : fX8_carried_L37 s0 σ = some out) : G E rmX8_carried cI layM ad 2 37 [] [.int s0] σ := by
  unfold fX8_carried_L37 at h
  cases h
  exact K0 _ _ dX8_carried_37 rfl
noncomputable def fX8_carried_L36 (σ : Mem) : Option (Int32 × Mem) :=
  fX8_carried_L37 (-1) σ
set_option maxHeartbeats 4000000 in
set_option maxRecDepth 100000 in
theorem tX8_carried_L36 {E : Gx} {cI : ClassId} {ad : Nat → Nat} (C : Cx E rmX8_carried cI layM ad 2 RX8 cX8_carried) {out : Int32 × Mem} (K0 : KI E rmX8_carried cI layM ad 2 cX8_carried .int out) {σ : Mem} (h : fX8_carried_L36 σ = some out) : G E rmX8_carried cI layM ad 2 36 [] [] σ := by
  unfold fX8_carried_L36 at h
  refine g_iconst 37 (v := (-1)) C dX8_carried_36 (by decide) rfl ?_
  exact tX8_carried_L37 (s0 := (-1)) (σ := σ) C K0 h
noncomputable def fX8_carried (a1 : Int32) (σ : Mem) : Option (Int32 × Mem) :=
  (fX8_isName a1 (up2 σ 0 2 0)).bind fun o1 =>
  if o1.1 = 0 then
    fX8_carried_L36 o1.2
  else
    chk (inb a1 30) <|
    if 1 < (o1.2 2 a1.toNatClampNeg) then
      fX8_carried_L36 o1.2
    else
      (fX8_comes 5 a1 (o1.2 0 6) o1.2).bind fun o2 =>
      fX8_carried_L37 o2.1 o2.2
set_option maxHeartbeats 4000000 in
set_option maxRecDepth 100000 in
theorem mX8_carried {l : Launch} {D : va_G} {cI : ClassId} {ad : Nat → Nat} {a1 : Int32} {σ : Mem} {out : Int32 × Mem} (h : fX8_carried a1 σ = some out) : MI l D cI layM ad yX8_carried cX8_carried 2 .int rmX8_carried [.ref (ad 0), .int a1] σ out := by
  refine met_i (by decide) (Nat.le_of_ble_eq_true rfl) (fun E C K0 => ?_)
  show G E rmX8_carried cI layM ad 2 0 [(0, .ref (ad 0)), (1, .int a1)] [] σ
  unfold fX8_carried at h
  refine g_aload_n 1 C dX8_carried_0 rfl (j := 0) rfl rfl ?_
  refine g_iconst 2 (v := 0) C dX8_carried_1 (by decide) rfl ?_
  refine g_puti 5 (j := 2) C rfl rfl wu_X8 (by decide) wf_X8_69 tyX8 tyX8_ok nmX8 rfl rfl rfl rfl dX8_carried_2 rfl ?_
  refine g_aload_n 6 C dX8_carried_5 rfl (j := 0) rfl rfl ?_
  refine g_iload_n 7 C dX8_carried_6 rfl (j := 1) rfl rfl ?_
  refine g_cvi 10 C (As := [.int a1]) (fun _ h => mX8_isName (a1 := a1) (σ := up2 σ 0 2 0) h) wl_X8_95 wi_X8_isName wz_X8_isName wc_X8_isName wn_X8 qX8_isName rfl rfl ⟨Nat.le_of_ble_eq_true rfl, Nat.le_of_ble_eq_true rfl⟩ rfl rfl rfl rfl (Nat.le_of_ble_eq_true rfl) dX8_carried_7 rfl h (fun o1 h => ?_)
  refine g_if_eq 36 13 C dX8_carried_10 (by decide) rfl h (fun h => ?_) (fun h => ?_)
  · exact g_sub [] (tX8_carried_L36 (σ := o1.2) C K0 h) rfl
  · refine g_aload_n 14 C dX8_carried_13 rfl (j := 0) rfl rfl ?_
    refine g_getr 17 (j := 3) C rfl rfl wu_X8 (by decide) wf_X8_14 rfl dX8_carried_14 rfl ?_
    refine g_iload_n 18 C dX8_carried_17 rfl (j := 1) rfl rfl ?_
    refine g_iald 19 C rfl dX8_carried_18 rfl h (fun h => ?_)
    refine g_iconst 20 (v := 1) C dX8_carried_19 (by decide) rfl ?_
    refine g_icmp_gt 36 23 C dX8_carried_20 (by decide) rfl h (fun h => ?_) (fun h => ?_)
    · exact g_sub [] (tX8_carried_L36 (σ := o1.2) C K0 h) rfl
    · refine g_aload_n 24 C dX8_carried_23 rfl (j := 0) rfl rfl ?_
      refine g_iconst 25 (v := 5) C dX8_carried_24 (by decide) rfl ?_
      refine g_iload_n 26 C dX8_carried_25 rfl (j := 1) rfl rfl ?_
      refine g_aload_n 27 C dX8_carried_26 rfl (j := 0) rfl rfl ?_
      refine g_geti 30 (j := 6) C rfl rfl wu_X8 (by decide) wf_X8_72 rfl dX8_carried_27 rfl ?_
      refine g_cvi 33 C (As := [.int 5, .int a1, .int (o1.2 0 6)]) (fun _ h => mX8_comes (a1 := 5) (a2 := a1) (a3 := o1.2 0 6) (σ := o1.2) h) wl_X8_87 wi_X8_comes wz_X8_comes wc_X8_comes wn_X8 qX8_comes rfl rfl ⟨Nat.le_of_ble_eq_true rfl, Nat.le_of_ble_eq_true rfl⟩ rfl rfl rfl rfl (Nat.le_of_ble_eq_true rfl) dX8_carried_30 rfl h (fun o2 h => ?_)
      refine g_goto 37 C dX8_carried_33 (by decide) ?_
      exact g_sub [] (tX8_carried_L37 (s0 := o2.1) (σ := o2.2) C K0 h) rfl

/-! LoopReducerModel.op(III)I -/
abbrev rmX8_op : Room := { frames := 2, cells := 0, slots := 0, locals := 43 }
theorem qX8_op : yX8_op.cls ≠ "java/lang/invoke/MethodHandle" ∧ yX8_op.cls ≠ "java/lang/invoke/VarHandle" ∧ (parseMethodDescriptor yX8_op.desc).map (fun d => d.parameters.length) = some 3 := by decide +kernel
theorem DX8_op : ∀ q ∈ ([(0, .aload_n 0, 1), (1, .iconst 0, 1), (2, .putfield 69, 3), (5, .iload_n 1, 1), (6, .iconst 0, 1), (7, .iconst 2, 1), (8, .invokestatic 75, 3), (11, .ifCond .eq 31, 3), (14, .aload_n 0, 1), (15, .iload_n 2, 1), (16, .invokevirtual 95, 3), (19, .ifCond .eq 23, 3), (22, .aload_n 0, 1), (23, .iload_n 3, 1), (24, .invokevirtual 95, 3), (27, .ifCond .eq 15, 3), (30, .aload_n 0, 1), (31, .iconst 2, 1), (32, .iload_n 1, 1), (33, .iadd, 1), (34, .iload_n 2, 1), (35, .iload_n 3, 1), (36, .invokevirtual 87, 3), (39, .goto 4, 3), (42, .iconst (-1), 1), (43, .ireturn, 1)] : List (Nat × Instr × Nat)), decode cX8_op q.1 = .ok q.2 := by decide +kernel
theorem dX8_op_0 : decode cX8_op 0 = .ok (.aload_n 0, 1) := DX8_op (0, .aload_n 0, 1) (List.mem_of_getElem? (i := 0) rfl)
theorem dX8_op_1 : decode cX8_op 1 = .ok (.iconst 0, 1) := DX8_op (1, .iconst 0, 1) (List.mem_of_getElem? (i := 1) rfl)
theorem dX8_op_2 : decode cX8_op 2 = .ok (.putfield 69, 3) := DX8_op (2, .putfield 69, 3) (List.mem_of_getElem? (i := 2) rfl)
theorem dX8_op_5 : decode cX8_op 5 = .ok (.iload_n 1, 1) := DX8_op (5, .iload_n 1, 1) (List.mem_of_getElem? (i := 3) rfl)
theorem dX8_op_6 : decode cX8_op 6 = .ok (.iconst 0, 1) := DX8_op (6, .iconst 0, 1) (List.mem_of_getElem? (i := 4) rfl)
theorem dX8_op_7 : decode cX8_op 7 = .ok (.iconst 2, 1) := DX8_op (7, .iconst 2, 1) (List.mem_of_getElem? (i := 5) rfl)
theorem dX8_op_8 : decode cX8_op 8 = .ok (.invokestatic 75, 3) := DX8_op (8, .invokestatic 75, 3) (List.mem_of_getElem? (i := 6) rfl)
theorem dX8_op_11 : decode cX8_op 11 = .ok (.ifCond .eq 31, 3) := DX8_op (11, .ifCond .eq 31, 3) (List.mem_of_getElem? (i := 7) rfl)
theorem dX8_op_14 : decode cX8_op 14 = .ok (.aload_n 0, 1) := DX8_op (14, .aload_n 0, 1) (List.mem_of_getElem? (i := 8) rfl)
theorem dX8_op_15 : decode cX8_op 15 = .ok (.iload_n 2, 1) := DX8_op (15, .iload_n 2, 1) (List.mem_of_getElem? (i := 9) rfl)
theorem dX8_op_16 : decode cX8_op 16 = .ok (.invokevirtual 95, 3) := DX8_op (16, .invokevirtual 95, 3) (List.mem_of_getElem? (i := 10) rfl)
theorem dX8_op_19 : decode cX8_op 19 = .ok (.ifCond .eq 23, 3) := DX8_op (19, .ifCond .eq 23, 3) (List.mem_of_getElem? (i := 11) rfl)
theorem dX8_op_22 : decode cX8_op 22 = .ok (.aload_n 0, 1) := DX8_op (22, .aload_n 0, 1) (List.mem_of_getElem? (i := 12) rfl)
theorem dX8_op_23 : decode cX8_op 23 = .ok (.iload_n 3, 1) := DX8_op (23, .iload_n 3, 1) (List.mem_of_getElem? (i := 13) rfl)
theorem dX8_op_24 : decode cX8_op 24 = .ok (.invokevirtual 95, 3) := DX8_op (24, .invokevirtual 95, 3) (List.mem_of_getElem? (i := 14) rfl)
theorem dX8_op_27 : decode cX8_op 27 = .ok (.ifCond .eq 15, 3) := DX8_op (27, .ifCond .eq 15, 3) (List.mem_of_getElem? (i := 15) rfl)
theorem dX8_op_30 : decode cX8_op 30 = .ok (.aload_n 0, 1) := DX8_op (30, .aload_n 0, 1) (List.mem_of_getElem? (i := 16) rfl)
theorem dX8_op_31 : decode cX8_op 31 = .ok (.iconst 2, 1) := DX8_op (31, .iconst 2, 1) (List.mem_of_getElem? (i := 17) rfl)
theorem dX8_op_32 : decode cX8_op 32 = .ok (.iload_n 1, 1) := DX8_op (32, .iload_n 1, 1) (List.mem_of_getElem? (i := 18) rfl)
theorem dX8_op_33 : decode cX8_op 33 = .ok (.iadd, 1) := DX8_op (33, .iadd, 1) (List.mem_of_getElem? (i := 19) rfl)
theorem dX8_op_34 : decode cX8_op 34 = .ok (.iload_n 2, 1) := DX8_op (34, .iload_n 2, 1) (List.mem_of_getElem? (i := 20) rfl)
theorem dX8_op_35 : decode cX8_op 35 = .ok (.iload_n 3, 1) := DX8_op (35, .iload_n 3, 1) (List.mem_of_getElem? (i := 21) rfl)
theorem dX8_op_36 : decode cX8_op 36 = .ok (.invokevirtual 87, 3) := DX8_op (36, .invokevirtual 87, 3) (List.mem_of_getElem? (i := 22) rfl)
theorem dX8_op_39 : decode cX8_op 39 = .ok (.goto 4, 3) := DX8_op (39, .goto 4, 3) (List.mem_of_getElem? (i := 23) rfl)
theorem dX8_op_42 : decode cX8_op 42 = .ok (.iconst (-1), 1) := DX8_op (42, .iconst (-1), 1) (List.mem_of_getElem? (i := 24) rfl)
theorem dX8_op_43 : decode cX8_op 43 = .ok (.ireturn, 1) := DX8_op (43, .ireturn, 1) (List.mem_of_getElem? (i := 25) rfl)
noncomputable def fX8_op_L43 (s0 : Int32) (σ : Mem) : Option (Int32 × Mem) :=
  some (s0, σ)
set_option maxHeartbeats 4000000 in
set_option maxRecDepth 100000 in
theorem tX8_op_L43 {E : Gx} {cI : ClassId} {ad : Nat → Nat} (C : Cx E rmX8_op cI layM ad 4 RX8 cX8_op) {out : Int32 × Mem} (K0 : KI E rmX8_op cI layM ad 4 cX8_op .int out) {s0 : Int32} {σ : Mem} (h : fX8_op_L43 s0 σ = some out) : G E rmX8_op cI layM ad 4 43 [] [.int s0] σ := by
  unfold fX8_op_L43 at h
  cases h
  exact K0 _ _ dX8_op_43 rfl
noncomputable def fX8_op_L42 (σ : Mem) : Option (Int32 × Mem) :=
  fX8_op_L43 (-1) σ
set_option maxHeartbeats 4000000 in
set_option maxRecDepth 100000 in
theorem tX8_op_L42 {E : Gx} {cI : ClassId} {ad : Nat → Nat} (C : Cx E rmX8_op cI layM ad 4 RX8 cX8_op) {out : Int32 × Mem} (K0 : KI E rmX8_op cI layM ad 4 cX8_op .int out) {σ : Mem} (h : fX8_op_L42 σ = some out) : G E rmX8_op cI layM ad 4 42 [] [] σ := by
  unfold fX8_op_L42 at h
  refine g_iconst 43 (v := (-1)) C dX8_op_42 (by decide) rfl ?_
  exact tX8_op_L43 (s0 := (-1)) (σ := σ) C K0 h
noncomputable def fX8_op (a1 : Int32) (a2 : Int32) (a3 : Int32) (σ : Mem) : Option (Int32 × Mem) :=
  (fX8_isIn a1 0 2 (up2 σ 0 2 0)).bind fun o1 =>
  if o1.1 = 0 then
    fX8_op_L42 o1.2
  else
    (fX8_isName a2 o1.2).bind fun o2 =>
    if o2.1 = 0 then
      fX8_op_L42 o2.2
    else
      (fX8_isName a3 o2.2).bind fun o3 =>
      if o3.1 = 0 then
        fX8_op_L42 o3.2
      else
        (fX8_comes (2 + a1) a2 a3 o3.2).bind fun o4 =>
        fX8_op_L43 o4.1 o4.2
set_option maxHeartbeats 4000000 in
set_option maxRecDepth 100000 in
theorem mX8_op {l : Launch} {D : va_G} {cI : ClassId} {ad : Nat → Nat} {a1 : Int32} {a2 : Int32} {a3 : Int32} {σ : Mem} {out : Int32 × Mem} (h : fX8_op a1 a2 a3 σ = some out) : MI l D cI layM ad yX8_op cX8_op 4 .int rmX8_op [.ref (ad 0), .int a1, .int a2, .int a3] σ out := by
  refine met_i (by decide) (Nat.le_of_ble_eq_true rfl) (fun E C K0 => ?_)
  show G E rmX8_op cI layM ad 4 0 [(0, .ref (ad 0)), (1, .int a1), (2, .int a2), (3, .int a3)] [] σ
  unfold fX8_op at h
  refine g_aload_n 1 C dX8_op_0 rfl (j := 0) rfl rfl ?_
  refine g_iconst 2 (v := 0) C dX8_op_1 (by decide) rfl ?_
  refine g_puti 5 (j := 2) C rfl rfl wu_X8 (by decide) wf_X8_69 tyX8 tyX8_ok nmX8 rfl rfl rfl rfl dX8_op_2 rfl ?_
  refine g_iload_n 6 C dX8_op_5 rfl (j := 1) rfl rfl ?_
  refine g_iconst 7 (v := 0) C dX8_op_6 (by decide) rfl ?_
  refine g_iconst 8 (v := 2) C dX8_op_7 (by decide) rfl ?_
  refine g_csi 11 C (As := [.int a1, .int 0, .int 2]) (fun _ h => mX8_isIn (a1 := a1) (a2 := 0) (a3 := 2) (σ := up2 σ 0 2 0) h) wl_X8_75 ws_X8_isIn wc_X8_isIn wn_X8 qX8_isIn rfl rfl ⟨Nat.le_of_ble_eq_true rfl, Nat.le_of_ble_eq_true rfl⟩ rfl rfl (Nat.le_of_ble_eq_true rfl) dX8_op_8 rfl h (fun o1 h => ?_)
  refine g_if_eq 42 14 C dX8_op_11 (by decide) rfl h (fun h => ?_) (fun h => ?_)
  · exact g_sub [] (tX8_op_L42 (σ := o1.2) C K0 h) rfl
  · refine g_aload_n 15 C dX8_op_14 rfl (j := 0) rfl rfl ?_
    refine g_iload_n 16 C dX8_op_15 rfl (j := 2) rfl rfl ?_
    refine g_cvi 19 C (As := [.int a2]) (fun _ h => mX8_isName (a1 := a2) (σ := o1.2) h) wl_X8_95 wi_X8_isName wz_X8_isName wc_X8_isName wn_X8 qX8_isName rfl rfl ⟨Nat.le_of_ble_eq_true rfl, Nat.le_of_ble_eq_true rfl⟩ rfl rfl rfl rfl (Nat.le_of_ble_eq_true rfl) dX8_op_16 rfl h (fun o2 h => ?_)
    refine g_if_eq 42 22 C dX8_op_19 (by decide) rfl h (fun h => ?_) (fun h => ?_)
    · exact g_sub [] (tX8_op_L42 (σ := o2.2) C K0 h) rfl
    · refine g_aload_n 23 C dX8_op_22 rfl (j := 0) rfl rfl ?_
      refine g_iload_n 24 C dX8_op_23 rfl (j := 3) rfl rfl ?_
      refine g_cvi 27 C (As := [.int a3]) (fun _ h => mX8_isName (a1 := a3) (σ := o2.2) h) wl_X8_95 wi_X8_isName wz_X8_isName wc_X8_isName wn_X8 qX8_isName rfl rfl ⟨Nat.le_of_ble_eq_true rfl, Nat.le_of_ble_eq_true rfl⟩ rfl rfl rfl rfl (Nat.le_of_ble_eq_true rfl) dX8_op_24 rfl h (fun o3 h => ?_)
      refine g_if_eq 42 30 C dX8_op_27 (by decide) rfl h (fun h => ?_) (fun h => ?_)
      · exact g_sub [] (tX8_op_L42 (σ := o3.2) C K0 h) rfl
      · refine g_aload_n 31 C dX8_op_30 rfl (j := 0) rfl rfl ?_
        refine g_iconst 32 (v := 2) C dX8_op_31 (by decide) rfl ?_
        refine g_iload_n 33 C dX8_op_32 rfl (j := 1) rfl rfl ?_
        refine g_iadd 34 C dX8_op_33 rfl ?_
        refine g_iload_n 35 C dX8_op_34 rfl (j := 2) rfl rfl ?_
        refine g_iload_n 36 C dX8_op_35 rfl (j := 3) rfl rfl ?_
        refine g_cvi 39 C (As := [.int (2 + a1), .int a2, .int a3]) (fun _ h => mX8_comes (a1 := 2 + a1) (a2 := a2) (a3 := a3) (σ := o3.2) h) wl_X8_87 wi_X8_comes wz_X8_comes wc_X8_comes wn_X8 qX8_comes rfl rfl ⟨Nat.le_of_ble_eq_true rfl, Nat.le_of_ble_eq_true rfl⟩ rfl rfl rfl rfl (Nat.le_of_ble_eq_true rfl) dX8_op_36 rfl h (fun o4 h => ?_)
        refine g_goto 43 C dX8_op_39 (by decide) ?_
        exact g_sub [] (tX8_op_L43 (s0 := o4.1) (σ := o4.2) C K0 h) rfl

/-! LoopReducerModel.next(II)Z -/
abbrev rmX8_next : Room := { frames := 2, cells := 0, slots := 0, locals := 43 }
theorem qX8_next : yX8_next.cls ≠ "java/lang/invoke/MethodHandle" ∧ yX8_next.cls ≠ "java/lang/invoke/VarHandle" ∧ (parseMethodDescriptor yX8_next.desc).map (fun d => d.parameters.length) = some 2 := by decide +kernel
theorem DX8_next : ∀ q ∈ ([(0, .aload_n 0, 1), (1, .iconst 0, 1), (2, .putfield 69, 3), (5, .aload_n 0, 1), (6, .iload_n 1, 1), (7, .invokevirtual 95, 3), (10, .ifCond .eq 31, 3), (13, .aload_n 0, 1), (14, .iload_n 2, 1), (15, .invokevirtual 95, 3), (18, .ifCond .eq 23, 3), (21, .aload_n 0, 1), (22, .getfield 14, 3), (25, .iload_n 1, 1), (26, .iaload, 1), (27, .iconst 5, 1), (28, .if_icmp .ne 13, 3), (31, .aload_n 0, 1), (32, .getfield 20, 3), (35, .iload_n 1, 1), (36, .iaload, 1), (37, .iload_n 2, 1), (38, .if_icmp .ne 5, 3), (41, .iconst 0, 1), (42, .ireturn, 1), (43, .aload_n 0, 1), (44, .getfield 20, 3), (47, .iload_n 1, 1), (48, .iload_n 2, 1), (49, .iastore, 1), (50, .aload_n 0, 1), (51, .iconst 0, 1), (52, .putfield 79, 3), (55, .iconst 1, 1), (56, .ireturn, 1)] : List (Nat × Instr × Nat)), decode cX8_next q.1 = .ok q.2 := by decide +kernel
theorem dX8_next_0 : decode cX8_next 0 = .ok (.aload_n 0, 1) := DX8_next (0, .aload_n 0, 1) (List.mem_of_getElem? (i := 0) rfl)
theorem dX8_next_1 : decode cX8_next 1 = .ok (.iconst 0, 1) := DX8_next (1, .iconst 0, 1) (List.mem_of_getElem? (i := 1) rfl)
theorem dX8_next_2 : decode cX8_next 2 = .ok (.putfield 69, 3) := DX8_next (2, .putfield 69, 3) (List.mem_of_getElem? (i := 2) rfl)
theorem dX8_next_5 : decode cX8_next 5 = .ok (.aload_n 0, 1) := DX8_next (5, .aload_n 0, 1) (List.mem_of_getElem? (i := 3) rfl)
theorem dX8_next_6 : decode cX8_next 6 = .ok (.iload_n 1, 1) := DX8_next (6, .iload_n 1, 1) (List.mem_of_getElem? (i := 4) rfl)
theorem dX8_next_7 : decode cX8_next 7 = .ok (.invokevirtual 95, 3) := DX8_next (7, .invokevirtual 95, 3) (List.mem_of_getElem? (i := 5) rfl)
theorem dX8_next_10 : decode cX8_next 10 = .ok (.ifCond .eq 31, 3) := DX8_next (10, .ifCond .eq 31, 3) (List.mem_of_getElem? (i := 6) rfl)
theorem dX8_next_13 : decode cX8_next 13 = .ok (.aload_n 0, 1) := DX8_next (13, .aload_n 0, 1) (List.mem_of_getElem? (i := 7) rfl)
theorem dX8_next_14 : decode cX8_next 14 = .ok (.iload_n 2, 1) := DX8_next (14, .iload_n 2, 1) (List.mem_of_getElem? (i := 8) rfl)
theorem dX8_next_15 : decode cX8_next 15 = .ok (.invokevirtual 95, 3) := DX8_next (15, .invokevirtual 95, 3) (List.mem_of_getElem? (i := 9) rfl)
theorem dX8_next_18 : decode cX8_next 18 = .ok (.ifCond .eq 23, 3) := DX8_next (18, .ifCond .eq 23, 3) (List.mem_of_getElem? (i := 10) rfl)
theorem dX8_next_21 : decode cX8_next 21 = .ok (.aload_n 0, 1) := DX8_next (21, .aload_n 0, 1) (List.mem_of_getElem? (i := 11) rfl)
theorem dX8_next_22 : decode cX8_next 22 = .ok (.getfield 14, 3) := DX8_next (22, .getfield 14, 3) (List.mem_of_getElem? (i := 12) rfl)
theorem dX8_next_25 : decode cX8_next 25 = .ok (.iload_n 1, 1) := DX8_next (25, .iload_n 1, 1) (List.mem_of_getElem? (i := 13) rfl)
theorem dX8_next_26 : decode cX8_next 26 = .ok (.iaload, 1) := DX8_next (26, .iaload, 1) (List.mem_of_getElem? (i := 14) rfl)
theorem dX8_next_27 : decode cX8_next 27 = .ok (.iconst 5, 1) := DX8_next (27, .iconst 5, 1) (List.mem_of_getElem? (i := 15) rfl)
theorem dX8_next_28 : decode cX8_next 28 = .ok (.if_icmp .ne 13, 3) := DX8_next (28, .if_icmp .ne 13, 3) (List.mem_of_getElem? (i := 16) rfl)
theorem dX8_next_31 : decode cX8_next 31 = .ok (.aload_n 0, 1) := DX8_next (31, .aload_n 0, 1) (List.mem_of_getElem? (i := 17) rfl)
theorem dX8_next_32 : decode cX8_next 32 = .ok (.getfield 20, 3) := DX8_next (32, .getfield 20, 3) (List.mem_of_getElem? (i := 18) rfl)
theorem dX8_next_35 : decode cX8_next 35 = .ok (.iload_n 1, 1) := DX8_next (35, .iload_n 1, 1) (List.mem_of_getElem? (i := 19) rfl)
theorem dX8_next_36 : decode cX8_next 36 = .ok (.iaload, 1) := DX8_next (36, .iaload, 1) (List.mem_of_getElem? (i := 20) rfl)
theorem dX8_next_37 : decode cX8_next 37 = .ok (.iload_n 2, 1) := DX8_next (37, .iload_n 2, 1) (List.mem_of_getElem? (i := 21) rfl)
theorem dX8_next_38 : decode cX8_next 38 = .ok (.if_icmp .ne 5, 3) := DX8_next (38, .if_icmp .ne 5, 3) (List.mem_of_getElem? (i := 22) rfl)
theorem dX8_next_41 : decode cX8_next 41 = .ok (.iconst 0, 1) := DX8_next (41, .iconst 0, 1) (List.mem_of_getElem? (i := 23) rfl)
theorem dX8_next_42 : decode cX8_next 42 = .ok (.ireturn, 1) := DX8_next (42, .ireturn, 1) (List.mem_of_getElem? (i := 24) rfl)
theorem dX8_next_43 : decode cX8_next 43 = .ok (.aload_n 0, 1) := DX8_next (43, .aload_n 0, 1) (List.mem_of_getElem? (i := 25) rfl)
theorem dX8_next_44 : decode cX8_next 44 = .ok (.getfield 20, 3) := DX8_next (44, .getfield 20, 3) (List.mem_of_getElem? (i := 26) rfl)
theorem dX8_next_47 : decode cX8_next 47 = .ok (.iload_n 1, 1) := DX8_next (47, .iload_n 1, 1) (List.mem_of_getElem? (i := 27) rfl)
theorem dX8_next_48 : decode cX8_next 48 = .ok (.iload_n 2, 1) := DX8_next (48, .iload_n 2, 1) (List.mem_of_getElem? (i := 28) rfl)
theorem dX8_next_49 : decode cX8_next 49 = .ok (.iastore, 1) := DX8_next (49, .iastore, 1) (List.mem_of_getElem? (i := 29) rfl)
theorem dX8_next_50 : decode cX8_next 50 = .ok (.aload_n 0, 1) := DX8_next (50, .aload_n 0, 1) (List.mem_of_getElem? (i := 30) rfl)
theorem dX8_next_51 : decode cX8_next 51 = .ok (.iconst 0, 1) := DX8_next (51, .iconst 0, 1) (List.mem_of_getElem? (i := 31) rfl)
theorem dX8_next_52 : decode cX8_next 52 = .ok (.putfield 79, 3) := DX8_next (52, .putfield 79, 3) (List.mem_of_getElem? (i := 32) rfl)
theorem dX8_next_55 : decode cX8_next 55 = .ok (.iconst 1, 1) := DX8_next (55, .iconst 1, 1) (List.mem_of_getElem? (i := 33) rfl)
theorem dX8_next_56 : decode cX8_next 56 = .ok (.ireturn, 1) := DX8_next (56, .ireturn, 1) (List.mem_of_getElem? (i := 34) rfl)
noncomputable def fX8_next_L41 (σ : Mem) : Option (Int32 × Mem) :=
  some (0, σ)
set_option maxHeartbeats 4000000 in
set_option maxRecDepth 100000 in
theorem tX8_next_L41 {E : Gx} {cI : ClassId} {ad : Nat → Nat} (C : Cx E rmX8_next cI layM ad 3 RX8 cX8_next) {out : Int32 × Mem} (K0 : KI E rmX8_next cI layM ad 3 cX8_next .boolean out) {σ : Mem} (h : fX8_next_L41 σ = some out) : G E rmX8_next cI layM ad 3 41 [] [] σ := by
  unfold fX8_next_L41 at h
  refine g_iconst 42 (v := 0) C dX8_next_41 (by decide) rfl ?_
  cases h
  exact K0 _ _ dX8_next_42 (zb_nar (x := 0) (by decide))
noncomputable def fX8_next (a1 : Int32) (a2 : Int32) (σ : Mem) : Option (Int32 × Mem) :=
  (fX8_isName a1 (up2 σ 0 2 0)).bind fun o1 =>
  if o1.1 = 0 then
    fX8_next_L41 o1.2
  else
    (fX8_isName a2 o1.2).bind fun o2 =>
    if o2.1 = 0 then
      fX8_next_L41 o2.2
    else
      chk (inb a1 30) <|
      if (o2.2 2 a1.toNatClampNeg) = 5 then
        chk (inb a1 30) <|
        if (o2.2 4 a1.toNatClampNeg) = a2 then
          fX8_next_L41 o2.2
        else
          chk (inb a1 30) <|
          some (1, up2 (up2 o2.2 4 a1.toNatClampNeg a2) 0 11 0)
      else
        fX8_next_L41 o2.2
set_option maxHeartbeats 4000000 in
set_option maxRecDepth 100000 in
theorem mX8_next {l : Launch} {D : va_G} {cI : ClassId} {ad : Nat → Nat} {a1 : Int32} {a2 : Int32} {σ : Mem} {out : Int32 × Mem} (h : fX8_next a1 a2 σ = some out) : MI l D cI layM ad yX8_next cX8_next 3 .boolean rmX8_next [.ref (ad 0), .int a1, .int a2] σ out := by
  refine met_i (by decide) (Nat.le_of_ble_eq_true rfl) (fun E C K0 => ?_)
  show G E rmX8_next cI layM ad 3 0 [(0, .ref (ad 0)), (1, .int a1), (2, .int a2)] [] σ
  unfold fX8_next at h
  refine g_aload_n 1 C dX8_next_0 rfl (j := 0) rfl rfl ?_
  refine g_iconst 2 (v := 0) C dX8_next_1 (by decide) rfl ?_
  refine g_puti 5 (j := 2) C rfl rfl wu_X8 (by decide) wf_X8_69 tyX8 tyX8_ok nmX8 rfl rfl rfl rfl dX8_next_2 rfl ?_
  refine g_aload_n 6 C dX8_next_5 rfl (j := 0) rfl rfl ?_
  refine g_iload_n 7 C dX8_next_6 rfl (j := 1) rfl rfl ?_
  refine g_cvi 10 C (As := [.int a1]) (fun _ h => mX8_isName (a1 := a1) (σ := up2 σ 0 2 0) h) wl_X8_95 wi_X8_isName wz_X8_isName wc_X8_isName wn_X8 qX8_isName rfl rfl ⟨Nat.le_of_ble_eq_true rfl, Nat.le_of_ble_eq_true rfl⟩ rfl rfl rfl rfl (Nat.le_of_ble_eq_true rfl) dX8_next_7 rfl h (fun o1 h => ?_)
  refine g_if_eq 41 13 C dX8_next_10 (by decide) rfl h (fun h => ?_) (fun h => ?_)
  · exact g_sub [] (tX8_next_L41 (σ := o1.2) C K0 h) rfl
  · refine g_aload_n 14 C dX8_next_13 rfl (j := 0) rfl rfl ?_
    refine g_iload_n 15 C dX8_next_14 rfl (j := 2) rfl rfl ?_
    refine g_cvi 18 C (As := [.int a2]) (fun _ h => mX8_isName (a1 := a2) (σ := o1.2) h) wl_X8_95 wi_X8_isName wz_X8_isName wc_X8_isName wn_X8 qX8_isName rfl rfl ⟨Nat.le_of_ble_eq_true rfl, Nat.le_of_ble_eq_true rfl⟩ rfl rfl rfl rfl (Nat.le_of_ble_eq_true rfl) dX8_next_15 rfl h (fun o2 h => ?_)
    refine g_if_eq 41 21 C dX8_next_18 (by decide) rfl h (fun h => ?_) (fun h => ?_)
    · exact g_sub [] (tX8_next_L41 (σ := o2.2) C K0 h) rfl
    · refine g_aload_n 22 C dX8_next_21 rfl (j := 0) rfl rfl ?_
      refine g_getr 25 (j := 3) C rfl rfl wu_X8 (by decide) wf_X8_14 rfl dX8_next_22 rfl ?_
      refine g_iload_n 26 C dX8_next_25 rfl (j := 1) rfl rfl ?_
      refine g_iald 27 C rfl dX8_next_26 rfl h (fun h => ?_)
      refine g_iconst 28 (v := 5) C dX8_next_27 (by decide) rfl ?_
      refine g_icmp_ne 41 31 C dX8_next_28 (by decide) rfl h (fun h => ?_) (fun h => ?_)
      · refine g_aload_n 32 C dX8_next_31 rfl (j := 0) rfl rfl ?_
        refine g_getr 35 (j := 5) C rfl rfl wu_X8 (by decide) wf_X8_20 rfl dX8_next_32 rfl ?_
        refine g_iload_n 36 C dX8_next_35 rfl (j := 1) rfl rfl ?_
        refine g_iald 37 C rfl dX8_next_36 rfl h (fun h => ?_)
        refine g_iload_n 38 C dX8_next_37 rfl (j := 2) rfl rfl ?_
        refine g_icmp_ne 43 41 C dX8_next_38 (by decide) rfl h (fun h => ?_) (fun h => ?_)
        · exact g_sub [] (tX8_next_L41 (σ := o2.2) C K0 h) rfl
        · refine g_aload_n 44 C dX8_next_43 rfl (j := 0) rfl rfl ?_
          refine g_getr 47 (j := 5) C rfl rfl wu_X8 (by decide) wf_X8_20 rfl dX8_next_44 rfl ?_
          refine g_iload_n 48 C dX8_next_47 rfl (j := 1) rfl rfl ?_
          refine g_iload_n 49 C dX8_next_48 rfl (j := 2) rfl rfl ?_
          refine g_iast 50 C rfl dX8_next_49 rfl h (fun h => ?_)
          refine g_aload_n 51 C dX8_next_50 rfl (j := 0) rfl rfl ?_
          refine g_iconst 52 (v := 0) C dX8_next_51 (by decide) rfl ?_
          refine g_puti 55 (j := 11) C rfl rfl wu_X8 (by decide) wf_X8_79 tyX8 tyX8_ok nmX8 rfl rfl rfl rfl dX8_next_52 rfl ?_
          refine g_iconst 56 (v := 1) C dX8_next_55 (by decide) rfl ?_
          cases h
          exact K0 _ _ dX8_next_56 (zb_nar (x := 1) (by decide))
      · exact g_sub [] (tX8_next_L41 (σ := o2.2) C K0 h) rfl

/-! LoopReducerModel.isUsed(I)Z -/
abbrev rmX8_isUsed : Room := { frames := 1, cells := 0, slots := 0, locals := 21 }
theorem qX8_isUsed : yX8_isUsed.cls ≠ "java/lang/invoke/MethodHandle" ∧ yX8_isUsed.cls ≠ "java/lang/invoke/VarHandle" ∧ (parseMethodDescriptor yX8_isUsed.desc).map (fun d => d.parameters.length) = some 1 := by decide +kernel
theorem DX8_isUsed : ∀ q ∈ ([(0, .aload_n 0, 1), (1, .getfield 99, 3), (4, .iload_n 1, 1), (5, .invokestatic 102, 3), (8, .ifCond .ne 27, 3), (11, .aload_n 0, 1), (12, .getfield 23, 3), (15, .iconst (-1), 1), (16, .if_icmp .eq 21, 3), (19, .aload_n 0, 1), (20, .getfield 27, 3), (23, .iload_n 1, 1), (24, .if_icmp .eq 11, 3), (27, .aload_n 0, 1), (28, .getfield 30, 3), (31, .iload_n 1, 1), (32, .if_icmp .ne 5, 3), (35, .iconst 1, 1), (36, .ireturn, 1), (37, .iconst 0, 1), (38, .istore_n 2, 1), (39, .iload_n 2, 1), (40, .aload_n 0, 1), (41, .getfield 72, 3), (44, .if_icmp .ge 46, 3), (47, .iload_n 2, 1), (48, .iload_n 1, 1), (49, .if_icmp .eq 35, 3), (52, .aload_n 0, 1), (53, .getfield 14, 3), (56, .iload_n 2, 1), (57, .iaload, 1), (58, .iconst 1, 1), (59, .if_icmp .le 25, 3), (62, .aload_n 0, 1), (63, .getfield 17, 3), (66, .iload_n 2, 1), (67, .iaload, 1), (68, .iload_n 1, 1), (69, .if_icmp .eq 13, 3), (72, .aload_n 0, 1), (73, .getfield 20, 3), (76, .iload_n 2, 1), (77, .iaload, 1), (78, .iload_n 1, 1), (79, .if_icmp .ne 5, 3), (82, .iconst 1, 1), (83, .ireturn, 1), (84, .iinc 2 1, 3), (87, .goto (-48), 3), (90, .iconst 0, 1), (91, .ireturn, 1)] : List (Nat × Instr × Nat)), decode cX8_isUsed q.1 = .ok q.2 := by decide +kernel
theorem dX8_isUsed_0 : decode cX8_isUsed 0 = .ok (.aload_n 0, 1) := DX8_isUsed (0, .aload_n 0, 1) (List.mem_of_getElem? (i := 0) rfl)
theorem dX8_isUsed_1 : decode cX8_isUsed 1 = .ok (.getfield 99, 3) := DX8_isUsed (1, .getfield 99, 3) (List.mem_of_getElem? (i := 1) rfl)
theorem dX8_isUsed_4 : decode cX8_isUsed 4 = .ok (.iload_n 1, 1) := DX8_isUsed (4, .iload_n 1, 1) (List.mem_of_getElem? (i := 2) rfl)
theorem dX8_isUsed_5 : decode cX8_isUsed 5 = .ok (.invokestatic 102, 3) := DX8_isUsed (5, .invokestatic 102, 3) (List.mem_of_getElem? (i := 3) rfl)
theorem dX8_isUsed_8 : decode cX8_isUsed 8 = .ok (.ifCond .ne 27, 3) := DX8_isUsed (8, .ifCond .ne 27, 3) (List.mem_of_getElem? (i := 4) rfl)
theorem dX8_isUsed_11 : decode cX8_isUsed 11 = .ok (.aload_n 0, 1) := DX8_isUsed (11, .aload_n 0, 1) (List.mem_of_getElem? (i := 5) rfl)
theorem dX8_isUsed_12 : decode cX8_isUsed 12 = .ok (.getfield 23, 3) := DX8_isUsed (12, .getfield 23, 3) (List.mem_of_getElem? (i := 6) rfl)
theorem dX8_isUsed_15 : decode cX8_isUsed 15 = .ok (.iconst (-1), 1) := DX8_isUsed (15, .iconst (-1), 1) (List.mem_of_getElem? (i := 7) rfl)
theorem dX8_isUsed_16 : decode cX8_isUsed 16 = .ok (.if_icmp .eq 21, 3) := DX8_isUsed (16, .if_icmp .eq 21, 3) (List.mem_of_getElem? (i := 8) rfl)
theorem dX8_isUsed_19 : decode cX8_isUsed 19 = .ok (.aload_n 0, 1) := DX8_isUsed (19, .aload_n 0, 1) (List.mem_of_getElem? (i := 9) rfl)
theorem dX8_isUsed_20 : decode cX8_isUsed 20 = .ok (.getfield 27, 3) := DX8_isUsed (20, .getfield 27, 3) (List.mem_of_getElem? (i := 10) rfl)
theorem dX8_isUsed_23 : decode cX8_isUsed 23 = .ok (.iload_n 1, 1) := DX8_isUsed (23, .iload_n 1, 1) (List.mem_of_getElem? (i := 11) rfl)
theorem dX8_isUsed_24 : decode cX8_isUsed 24 = .ok (.if_icmp .eq 11, 3) := DX8_isUsed (24, .if_icmp .eq 11, 3) (List.mem_of_getElem? (i := 12) rfl)
theorem dX8_isUsed_27 : decode cX8_isUsed 27 = .ok (.aload_n 0, 1) := DX8_isUsed (27, .aload_n 0, 1) (List.mem_of_getElem? (i := 13) rfl)
theorem dX8_isUsed_28 : decode cX8_isUsed 28 = .ok (.getfield 30, 3) := DX8_isUsed (28, .getfield 30, 3) (List.mem_of_getElem? (i := 14) rfl)
theorem dX8_isUsed_31 : decode cX8_isUsed 31 = .ok (.iload_n 1, 1) := DX8_isUsed (31, .iload_n 1, 1) (List.mem_of_getElem? (i := 15) rfl)
theorem dX8_isUsed_32 : decode cX8_isUsed 32 = .ok (.if_icmp .ne 5, 3) := DX8_isUsed (32, .if_icmp .ne 5, 3) (List.mem_of_getElem? (i := 16) rfl)
theorem dX8_isUsed_35 : decode cX8_isUsed 35 = .ok (.iconst 1, 1) := DX8_isUsed (35, .iconst 1, 1) (List.mem_of_getElem? (i := 17) rfl)
theorem dX8_isUsed_36 : decode cX8_isUsed 36 = .ok (.ireturn, 1) := DX8_isUsed (36, .ireturn, 1) (List.mem_of_getElem? (i := 18) rfl)
theorem dX8_isUsed_37 : decode cX8_isUsed 37 = .ok (.iconst 0, 1) := DX8_isUsed (37, .iconst 0, 1) (List.mem_of_getElem? (i := 19) rfl)
theorem dX8_isUsed_38 : decode cX8_isUsed 38 = .ok (.istore_n 2, 1) := DX8_isUsed (38, .istore_n 2, 1) (List.mem_of_getElem? (i := 20) rfl)
theorem dX8_isUsed_39 : decode cX8_isUsed 39 = .ok (.iload_n 2, 1) := DX8_isUsed (39, .iload_n 2, 1) (List.mem_of_getElem? (i := 21) rfl)
theorem dX8_isUsed_40 : decode cX8_isUsed 40 = .ok (.aload_n 0, 1) := DX8_isUsed (40, .aload_n 0, 1) (List.mem_of_getElem? (i := 22) rfl)
theorem dX8_isUsed_41 : decode cX8_isUsed 41 = .ok (.getfield 72, 3) := DX8_isUsed (41, .getfield 72, 3) (List.mem_of_getElem? (i := 23) rfl)
theorem dX8_isUsed_44 : decode cX8_isUsed 44 = .ok (.if_icmp .ge 46, 3) := DX8_isUsed (44, .if_icmp .ge 46, 3) (List.mem_of_getElem? (i := 24) rfl)
theorem dX8_isUsed_47 : decode cX8_isUsed 47 = .ok (.iload_n 2, 1) := DX8_isUsed (47, .iload_n 2, 1) (List.mem_of_getElem? (i := 25) rfl)
theorem dX8_isUsed_48 : decode cX8_isUsed 48 = .ok (.iload_n 1, 1) := DX8_isUsed (48, .iload_n 1, 1) (List.mem_of_getElem? (i := 26) rfl)
theorem dX8_isUsed_49 : decode cX8_isUsed 49 = .ok (.if_icmp .eq 35, 3) := DX8_isUsed (49, .if_icmp .eq 35, 3) (List.mem_of_getElem? (i := 27) rfl)
theorem dX8_isUsed_52 : decode cX8_isUsed 52 = .ok (.aload_n 0, 1) := DX8_isUsed (52, .aload_n 0, 1) (List.mem_of_getElem? (i := 28) rfl)
theorem dX8_isUsed_53 : decode cX8_isUsed 53 = .ok (.getfield 14, 3) := DX8_isUsed (53, .getfield 14, 3) (List.mem_of_getElem? (i := 29) rfl)
theorem dX8_isUsed_56 : decode cX8_isUsed 56 = .ok (.iload_n 2, 1) := DX8_isUsed (56, .iload_n 2, 1) (List.mem_of_getElem? (i := 30) rfl)
theorem dX8_isUsed_57 : decode cX8_isUsed 57 = .ok (.iaload, 1) := DX8_isUsed (57, .iaload, 1) (List.mem_of_getElem? (i := 31) rfl)
theorem dX8_isUsed_58 : decode cX8_isUsed 58 = .ok (.iconst 1, 1) := DX8_isUsed (58, .iconst 1, 1) (List.mem_of_getElem? (i := 32) rfl)
theorem dX8_isUsed_59 : decode cX8_isUsed 59 = .ok (.if_icmp .le 25, 3) := DX8_isUsed (59, .if_icmp .le 25, 3) (List.mem_of_getElem? (i := 33) rfl)
theorem dX8_isUsed_62 : decode cX8_isUsed 62 = .ok (.aload_n 0, 1) := DX8_isUsed (62, .aload_n 0, 1) (List.mem_of_getElem? (i := 34) rfl)
theorem dX8_isUsed_63 : decode cX8_isUsed 63 = .ok (.getfield 17, 3) := DX8_isUsed (63, .getfield 17, 3) (List.mem_of_getElem? (i := 35) rfl)
theorem dX8_isUsed_66 : decode cX8_isUsed 66 = .ok (.iload_n 2, 1) := DX8_isUsed (66, .iload_n 2, 1) (List.mem_of_getElem? (i := 36) rfl)
theorem dX8_isUsed_67 : decode cX8_isUsed 67 = .ok (.iaload, 1) := DX8_isUsed (67, .iaload, 1) (List.mem_of_getElem? (i := 37) rfl)
theorem dX8_isUsed_68 : decode cX8_isUsed 68 = .ok (.iload_n 1, 1) := DX8_isUsed (68, .iload_n 1, 1) (List.mem_of_getElem? (i := 38) rfl)
theorem dX8_isUsed_69 : decode cX8_isUsed 69 = .ok (.if_icmp .eq 13, 3) := DX8_isUsed (69, .if_icmp .eq 13, 3) (List.mem_of_getElem? (i := 39) rfl)
theorem dX8_isUsed_72 : decode cX8_isUsed 72 = .ok (.aload_n 0, 1) := DX8_isUsed (72, .aload_n 0, 1) (List.mem_of_getElem? (i := 40) rfl)
theorem dX8_isUsed_73 : decode cX8_isUsed 73 = .ok (.getfield 20, 3) := DX8_isUsed (73, .getfield 20, 3) (List.mem_of_getElem? (i := 41) rfl)
theorem dX8_isUsed_76 : decode cX8_isUsed 76 = .ok (.iload_n 2, 1) := DX8_isUsed (76, .iload_n 2, 1) (List.mem_of_getElem? (i := 42) rfl)
theorem dX8_isUsed_77 : decode cX8_isUsed 77 = .ok (.iaload, 1) := DX8_isUsed (77, .iaload, 1) (List.mem_of_getElem? (i := 43) rfl)
theorem dX8_isUsed_78 : decode cX8_isUsed 78 = .ok (.iload_n 1, 1) := DX8_isUsed (78, .iload_n 1, 1) (List.mem_of_getElem? (i := 44) rfl)
theorem dX8_isUsed_79 : decode cX8_isUsed 79 = .ok (.if_icmp .ne 5, 3) := DX8_isUsed (79, .if_icmp .ne 5, 3) (List.mem_of_getElem? (i := 45) rfl)
theorem dX8_isUsed_82 : decode cX8_isUsed 82 = .ok (.iconst 1, 1) := DX8_isUsed (82, .iconst 1, 1) (List.mem_of_getElem? (i := 46) rfl)
theorem dX8_isUsed_83 : decode cX8_isUsed 83 = .ok (.ireturn, 1) := DX8_isUsed (83, .ireturn, 1) (List.mem_of_getElem? (i := 47) rfl)
theorem dX8_isUsed_84 : decode cX8_isUsed 84 = .ok (.iinc 2 1, 3) := DX8_isUsed (84, .iinc 2 1, 3) (List.mem_of_getElem? (i := 48) rfl)
theorem dX8_isUsed_87 : decode cX8_isUsed 87 = .ok (.goto (-48), 3) := DX8_isUsed (87, .goto (-48), 3) (List.mem_of_getElem? (i := 49) rfl)
theorem dX8_isUsed_90 : decode cX8_isUsed 90 = .ok (.iconst 0, 1) := DX8_isUsed (90, .iconst 0, 1) (List.mem_of_getElem? (i := 50) rfl)
theorem dX8_isUsed_91 : decode cX8_isUsed 91 = .ok (.ireturn, 1) := DX8_isUsed (91, .ireturn, 1) (List.mem_of_getElem? (i := 51) rfl)
noncomputable def fX8_isUsed_L35 (σ : Mem) : Option (Int32 × Mem) :=
  some (1, σ)
set_option maxHeartbeats 4000000 in
set_option maxRecDepth 100000 in
theorem tX8_isUsed_L35 {E : Gx} {cI : ClassId} {ad : Nat → Nat} (C : Cx E rmX8_isUsed cI layM ad 3 RX8 cX8_isUsed) {out : Int32 × Mem} (K0 : KI E rmX8_isUsed cI layM ad 3 cX8_isUsed .boolean out) {σ : Mem} (h : fX8_isUsed_L35 σ = some out) : G E rmX8_isUsed cI layM ad 3 35 [] [] σ := by
  unfold fX8_isUsed_L35 at h
  refine g_iconst 36 (v := 1) C dX8_isUsed_35 (by decide) rfl ?_
  cases h
  exact K0 _ _ dX8_isUsed_36 (zb_nar (x := 1) (by decide))
noncomputable def fX8_isUsed_L84 (l1 : Int32) (l2 : Int32) (σ : Mem) : Option ((Int32 × Mem) ⊕ ((Mem) ⊕ (Int32 × Mem))) :=
  some (.inl (l2 + 1, σ))
set_option maxHeartbeats 4000000 in
set_option maxRecDepth 100000 in
theorem tX8_isUsed_L84 {E : Gx} {cI : ClassId} {ad : Nat → Nat} (C : Cx E rmX8_isUsed cI layM ad 3 RX8 cX8_isUsed) {out : Int32 × Mem} (K0 : KI E rmX8_isUsed cI layM ad 3 cX8_isUsed .boolean out) {l1 : Int32} {l2 : Int32} {σ : Mem} {res : (Int32 × Mem) ⊕ ((Mem) ⊕ (Int32 × Mem))} (h : fX8_isUsed_L84 l1 l2 σ = some res) (K : Sum.elim (fun a => G E rmX8_isUsed cI layM ad 3 39 [(0, .ref (ad 0)), (1, .int l1), (2, .int a.1)] [] a.2) (Sum.elim (fun b => G E rmX8_isUsed cI layM ad 3 90 [] [] b) (fun b => b = out)) res) : G E rmX8_isUsed cI layM ad 3 84 [(0, .ref (ad 0)), (1, .int l1), (2, .int l2)] [] σ := by
  unfold fX8_isUsed_L84 at h
  refine g_iinc 87 [(2, .int (l2 + 1)), (0, .ref (ad 0)), (1, .int l1)] C dX8_isUsed_84 (j := 2) rfl (by rfl) (by decide) rfl rfl ?_
  refine g_goto 39 C dX8_isUsed_87 (by decide) ?_
  have hh := end_inl h K
  exact g_sub [1, 2, 0] (hh) rfl
noncomputable def fX8_isUsed_L82 (l1 : Int32) (σ : Mem) : Option ((Int32 × Mem) ⊕ ((Mem) ⊕ (Int32 × Mem))) :=
  some (.inr (.inr (1, σ)))
set_option maxHeartbeats 4000000 in
set_option maxRecDepth 100000 in
theorem tX8_isUsed_L82 {E : Gx} {cI : ClassId} {ad : Nat → Nat} (C : Cx E rmX8_isUsed cI layM ad 3 RX8 cX8_isUsed) {out : Int32 × Mem} (K0 : KI E rmX8_isUsed cI layM ad 3 cX8_isUsed .boolean out) {l1 : Int32} {σ : Mem} {res : (Int32 × Mem) ⊕ ((Mem) ⊕ (Int32 × Mem))} (h : fX8_isUsed_L82 l1 σ = some res) (K : Sum.elim (fun a => G E rmX8_isUsed cI layM ad 3 39 [(0, .ref (ad 0)), (1, .int l1), (2, .int a.1)] [] a.2) (Sum.elim (fun b => G E rmX8_isUsed cI layM ad 3 90 [] [] b) (fun b => b = out)) res) : G E rmX8_isUsed cI layM ad 3 82 [(0, .ref (ad 0)), (1, .int l1)] [] σ := by
  unfold fX8_isUsed_L82 at h
  refine g_iconst 83 (v := 1) C dX8_isUsed_82 (by decide) rfl ?_
  have ho := end_alt1_2 h K
  replace ho : (1, σ) = out := ho
  subst ho
  exact K0 _ _ dX8_isUsed_83 (zb_nar (x := 1) (by decide))
noncomputable def fX8_isUsed_B39 (l1 : Int32) (l2 : Int32) (σ : Mem) : Option ((Int32 × Mem) ⊕ ((Mem) ⊕ (Int32 × Mem))) :=
  if (σ 0 6) ≤ l2 then
    some (.inr (.inl σ))
  else
    if l2 = l1 then
      fX8_isUsed_L84 l1 l2 σ
    else
      chk (inb l2 30) <|
      if (σ 2 l2.toNatClampNeg) ≤ 1 then
        fX8_isUsed_L84 l1 l2 σ
      else
        chk (inb l2 30) <|
        if (σ 3 l2.toNatClampNeg) = l1 then
          fX8_isUsed_L82 l1 σ
        else
          chk (inb l2 30) <|
          if (σ 4 l2.toNatClampNeg) = l1 then
            fX8_isUsed_L82 l1 σ
          else
            fX8_isUsed_L84 l1 l2 σ
set_option maxHeartbeats 4000000 in
set_option maxRecDepth 100000 in
theorem tX8_isUsed_B39 {E : Gx} {cI : ClassId} {ad : Nat → Nat} (C : Cx E rmX8_isUsed cI layM ad 3 RX8 cX8_isUsed) {out : Int32 × Mem} (K0 : KI E rmX8_isUsed cI layM ad 3 cX8_isUsed .boolean out) {l1 : Int32} {l2 : Int32} {σ : Mem} {res : (Int32 × Mem) ⊕ ((Mem) ⊕ (Int32 × Mem))} (h : fX8_isUsed_B39 l1 l2 σ = some res) (K : Sum.elim (fun a => G E rmX8_isUsed cI layM ad 3 39 [(0, .ref (ad 0)), (1, .int l1), (2, .int a.1)] [] a.2) (Sum.elim (fun b => G E rmX8_isUsed cI layM ad 3 90 [] [] b) (fun b => b = out)) res) : G E rmX8_isUsed cI layM ad 3 39 [(0, .ref (ad 0)), (1, .int l1), (2, .int l2)] [] σ := by
  unfold fX8_isUsed_B39 at h
  refine g_iload_n 40 C dX8_isUsed_39 rfl (j := 2) rfl rfl ?_
  refine g_aload_n 41 C dX8_isUsed_40 rfl (j := 0) rfl rfl ?_
  refine g_geti 44 (j := 6) C rfl rfl wu_X8 (by decide) wf_X8_72 rfl dX8_isUsed_41 rfl ?_
  refine g_icmp_ge 90 47 C dX8_isUsed_44 (by decide) rfl h (fun h => ?_) (fun h => ?_)
  · have hh := end_alt0_2 h K
    exact g_sub [] (hh) rfl
  · refine g_iload_n 48 C dX8_isUsed_47 rfl (j := 2) rfl rfl ?_
    refine g_iload_n 49 C dX8_isUsed_48 rfl (j := 1) rfl rfl ?_
    refine g_icmp_eq 84 52 C dX8_isUsed_49 (by decide) rfl h (fun h => ?_) (fun h => ?_)
    · exact tX8_isUsed_L84 (l1 := l1) (l2 := l2) (σ := σ) C K0 h K
    · refine g_aload_n 53 C dX8_isUsed_52 rfl (j := 0) rfl rfl ?_
      refine g_getr 56 (j := 3) C rfl rfl wu_X8 (by decide) wf_X8_14 rfl dX8_isUsed_53 rfl ?_
      refine g_iload_n 57 C dX8_isUsed_56 rfl (j := 2) rfl rfl ?_
      refine g_iald 58 C rfl dX8_isUsed_57 rfl h (fun h => ?_)
      refine g_iconst 59 (v := 1) C dX8_isUsed_58 (by decide) rfl ?_
      refine g_icmp_le 84 62 C dX8_isUsed_59 (by decide) rfl h (fun h => ?_) (fun h => ?_)
      · exact tX8_isUsed_L84 (l1 := l1) (l2 := l2) (σ := σ) C K0 h K
      · refine g_aload_n 63 C dX8_isUsed_62 rfl (j := 0) rfl rfl ?_
        refine g_getr 66 (j := 4) C rfl rfl wu_X8 (by decide) wf_X8_17 rfl dX8_isUsed_63 rfl ?_
        refine g_iload_n 67 C dX8_isUsed_66 rfl (j := 2) rfl rfl ?_
        refine g_iald 68 C rfl dX8_isUsed_67 rfl h (fun h => ?_)
        refine g_iload_n 69 C dX8_isUsed_68 rfl (j := 1) rfl rfl ?_
        refine g_icmp_eq 82 72 C dX8_isUsed_69 (by decide) rfl h (fun h => ?_) (fun h => ?_)
        · exact g_sub [0, 1] (tX8_isUsed_L82 (l1 := l1) (σ := σ) C K0 h K) rfl
        · refine g_aload_n 73 C dX8_isUsed_72 rfl (j := 0) rfl rfl ?_
          refine g_getr 76 (j := 5) C rfl rfl wu_X8 (by decide) wf_X8_20 rfl dX8_isUsed_73 rfl ?_
          refine g_iload_n 77 C dX8_isUsed_76 rfl (j := 2) rfl rfl ?_
          refine g_iald 78 C rfl dX8_isUsed_77 rfl h (fun h => ?_)
          refine g_iload_n 79 C dX8_isUsed_78 rfl (j := 1) rfl rfl ?_
          refine g_icmp_ne 84 82 C dX8_isUsed_79 (by decide) rfl h (fun h => ?_) (fun h => ?_)
          · exact g_sub [0, 1] (tX8_isUsed_L82 (l1 := l1) (σ := σ) C K0 h K) rfl
          · exact tX8_isUsed_L84 (l1 := l1) (l2 := l2) (σ := σ) C K0 h K
noncomputable def fX8_isUsed_L90 (σ : Mem) : Option (Int32 × Mem) :=
  some (0, σ)
set_option maxHeartbeats 4000000 in
set_option maxRecDepth 100000 in
theorem tX8_isUsed_L90 {E : Gx} {cI : ClassId} {ad : Nat → Nat} (C : Cx E rmX8_isUsed cI layM ad 3 RX8 cX8_isUsed) {out : Int32 × Mem} (K0 : KI E rmX8_isUsed cI layM ad 3 cX8_isUsed .boolean out) {σ : Mem} (h : fX8_isUsed_L90 σ = some out) : G E rmX8_isUsed cI layM ad 3 90 [] [] σ := by
  unfold fX8_isUsed_L90 at h
  refine g_iconst 91 (v := 0) C dX8_isUsed_90 (by decide) rfl ?_
  cases h
  exact K0 _ _ dX8_isUsed_91 (zb_nar (x := 0) (by decide))
noncomputable def fX8_isUsed_L37 (l1 : Int32) (σ : Mem) : Option (Int32 × Mem) :=
  (loop (fun a => fX8_isUsed_B39 l1 a.1 a.2) (0, σ)).bind (Sum.elim (fun b2x0 => fX8_isUsed_L90 b2x0) (fun b2r => some b2r))
set_option maxHeartbeats 4000000 in
set_option maxRecDepth 100000 in
theorem tX8_isUsed_L37 {E : Gx} {cI : ClassId} {ad : Nat → Nat} (C : Cx E rmX8_isUsed cI layM ad 3 RX8 cX8_isUsed) {out : Int32 × Mem} (K0 : KI E rmX8_isUsed cI layM ad 3 cX8_isUsed .boolean out) {l1 : Int32} {σ : Mem} (h : fX8_isUsed_L37 l1 σ = some out) : G E rmX8_isUsed cI layM ad 3 37 [(0, .ref (ad 0)), (1, .int l1)] [] σ := by
  unfold fX8_isUsed_L37 at h
  refine g_iconst 38 (v := 0) C dX8_isUsed_37 (by decide) rfl ?_
  refine g_istore_n 39 [(2, .int 0), (0, .ref (ad 0)), (1, .int l1)] C dX8_isUsed_38 rfl (by decide) rfl rfl ?_
  obtain ⟨b2, hb, h⟩ := bind_some h
  refine g_sub [1, 2, 0] (g_loop (a := (0, σ)) (fun a => G E rmX8_isUsed cI layM ad 3 39 [(0, .ref (ad 0)), (1, .int l1), (2, .int a.1)] [] a.2) (Sum.elim (fun b => G E rmX8_isUsed cI layM ad 3 90 [] [] b) (fun b => b = out)) hb (fun a res h K => tX8_isUsed_B39 (l1 := l1) (l2 := a.1) (σ := a.2) (res := res) C K0 h K) ?_) rfl
  rcases b2 with b2x0 | b2r
  · show G E rmX8_isUsed cI layM ad 3 90 [] [] b2x0
    exact tX8_isUsed_L90 (σ := b2x0) C K0 h
  · exact end_top h
noncomputable def fX8_isUsed (a1 : Int32) (σ : Mem) : Option (Int32 × Mem) :=
  (fX8_has (σ 0 7) a1 σ).bind fun o1 =>
  if o1.1 = 0 then
    if (o1.2 0 8) = (-1) then
      fX8_isUsed_L37 a1 o1.2
    else
      if (o1.2 0 9) = a1 then
        fX8_isUsed_L35 o1.2
      else
        if (o1.2 0 10) = a1 then
          fX8_isUsed_L35 o1.2
        else
          fX8_isUsed_L37 a1 o1.2
  else
    fX8_isUsed_L35 o1.2
set_option maxHeartbeats 4000000 in
set_option maxRecDepth 100000 in
theorem mX8_isUsed {l : Launch} {D : va_G} {cI : ClassId} {ad : Nat → Nat} {a1 : Int32} {σ : Mem} {out : Int32 × Mem} (h : fX8_isUsed a1 σ = some out) : MI l D cI layM ad yX8_isUsed cX8_isUsed 3 .boolean rmX8_isUsed [.ref (ad 0), .int a1] σ out := by
  refine met_i (by decide) (Nat.le_of_ble_eq_true rfl) (fun E C K0 => ?_)
  show G E rmX8_isUsed cI layM ad 3 0 [(0, .ref (ad 0)), (1, .int a1)] [] σ
  unfold fX8_isUsed at h
  refine g_aload_n 1 C dX8_isUsed_0 rfl (j := 0) rfl rfl ?_
  refine g_geti 4 (j := 7) C rfl rfl wu_X8 (by decide) wf_X8_99 rfl dX8_isUsed_1 rfl ?_
  refine g_iload_n 5 C dX8_isUsed_4 rfl (j := 1) rfl rfl ?_
  refine g_csi 8 C (As := [.int (σ 0 7), .int a1]) (fun _ h => mX8_has (a1 := σ 0 7) (a2 := a1) (σ := σ) h) wl_X8_102 ws_X8_has wc_X8_has wn_X8 qX8_has rfl rfl ⟨Nat.le_of_ble_eq_true rfl, Nat.le_of_ble_eq_true rfl⟩ rfl rfl (Nat.le_of_ble_eq_true rfl) dX8_isUsed_5 rfl h (fun o1 h => ?_)
  refine g_if_ne 35 11 C dX8_isUsed_8 (by decide) rfl h (fun h => ?_) (fun h => ?_)
  · refine g_aload_n 12 C dX8_isUsed_11 rfl (j := 0) rfl rfl ?_
    refine g_geti 15 (j := 8) C rfl rfl wu_X8 (by decide) wf_X8_23 rfl dX8_isUsed_12 rfl ?_
    refine g_iconst 16 (v := (-1)) C dX8_isUsed_15 (by decide) rfl ?_
    refine g_icmp_eq 37 19 C dX8_isUsed_16 (by decide) rfl h (fun h => ?_) (fun h => ?_)
    · exact tX8_isUsed_L37 (l1 := a1) (σ := o1.2) C K0 h
    · refine g_aload_n 20 C dX8_isUsed_19 rfl (j := 0) rfl rfl ?_
      refine g_geti 23 (j := 9) C rfl rfl wu_X8 (by decide) wf_X8_27 rfl dX8_isUsed_20 rfl ?_
      refine g_iload_n 24 C dX8_isUsed_23 rfl (j := 1) rfl rfl ?_
      refine g_icmp_eq 35 27 C dX8_isUsed_24 (by decide) rfl h (fun h => ?_) (fun h => ?_)
      · exact g_sub [] (tX8_isUsed_L35 (σ := o1.2) C K0 h) rfl
      · refine g_aload_n 28 C dX8_isUsed_27 rfl (j := 0) rfl rfl ?_
        refine g_geti 31 (j := 10) C rfl rfl wu_X8 (by decide) wf_X8_30 rfl dX8_isUsed_28 rfl ?_
        refine g_iload_n 32 C dX8_isUsed_31 rfl (j := 1) rfl rfl ?_
        refine g_icmp_ne 37 35 C dX8_isUsed_32 (by decide) rfl h (fun h => ?_) (fun h => ?_)
        · exact g_sub [] (tX8_isUsed_L35 (σ := o1.2) C K0 h) rfl
        · exact tX8_isUsed_L37 (l1 := a1) (σ := o1.2) C K0 h
  · exact g_sub [] (tX8_isUsed_L35 (σ := o1.2) C K0 h) rfl

/-! LoopReducerModel.pop()I -/
abbrev rmX8_pop : Room := { frames := 2, cells := 0, slots := 0, locals := 43 }
theorem qX8_pop : yX8_pop.cls ≠ "java/lang/invoke/MethodHandle" ∧ yX8_pop.cls ≠ "java/lang/invoke/VarHandle" ∧ (parseMethodDescriptor yX8_pop.desc).map (fun d => d.parameters.length) = some 0 := by decide +kernel
theorem DX8_pop : ∀ q ∈ ([(0, .aload_n 0, 1), (1, .iconst 0, 1), (2, .putfield 69, 3), (5, .aload_n 0, 1), (6, .getfield 72, 3), (9, .ifCond .eq 16, 3), (12, .aload_n 0, 1), (13, .aload_n 0, 1), (14, .getfield 72, 3), (17, .iconst 1, 1), (18, .isub, 1), (19, .invokevirtual 106, 3), (22, .ifCond .eq 5, 3), (25, .iconst (-1), 1), (26, .ireturn, 1), (27, .aload_n 0, 1), (28, .dup, 1), (29, .getfield 72, 3), (32, .iconst 1, 1), (33, .isub, 1), (34, .putfield 72, 3), (37, .aload_n 0, 1), (38, .iconst 0, 1), (39, .putfield 79, 3), (42, .aload_n 0, 1), (43, .getfield 72, 3), (46, .ireturn, 1)] : List (Nat × Instr × Nat)), decode cX8_pop q.1 = .ok q.2 := by decide +kernel
theorem dX8_pop_0 : decode cX8_pop 0 = .ok (.aload_n 0, 1) := DX8_pop (0, .aload_n 0, 1) (List.mem_of_getElem? (i := 0) rfl)
theorem dX8_pop_1 : decode cX8_pop 1 = .ok (.iconst 0, 1) := DX8_pop (1, .iconst 0, 1) (List.mem_of_getElem? (i := 1) rfl)
theorem dX8_pop_2 : decode cX8_pop 2 = .ok (.putfield 69, 3) := DX8_pop (2, .putfield 69, 3) (List.mem_of_getElem? (i := 2) rfl)
theorem dX8_pop_5 : decode cX8_pop 5 = .ok (.aload_n 0, 1) := DX8_pop (5, .aload_n 0, 1) (List.mem_of_getElem? (i := 3) rfl)
theorem dX8_pop_6 : decode cX8_pop 6 = .ok (.getfield 72, 3) := DX8_pop (6, .getfield 72, 3) (List.mem_of_getElem? (i := 4) rfl)
theorem dX8_pop_9 : decode cX8_pop 9 = .ok (.ifCond .eq 16, 3) := DX8_pop (9, .ifCond .eq 16, 3) (List.mem_of_getElem? (i := 5) rfl)
theorem dX8_pop_12 : decode cX8_pop 12 = .ok (.aload_n 0, 1) := DX8_pop (12, .aload_n 0, 1) (List.mem_of_getElem? (i := 6) rfl)
theorem dX8_pop_13 : decode cX8_pop 13 = .ok (.aload_n 0, 1) := DX8_pop (13, .aload_n 0, 1) (List.mem_of_getElem? (i := 7) rfl)
theorem dX8_pop_14 : decode cX8_pop 14 = .ok (.getfield 72, 3) := DX8_pop (14, .getfield 72, 3) (List.mem_of_getElem? (i := 8) rfl)
theorem dX8_pop_17 : decode cX8_pop 17 = .ok (.iconst 1, 1) := DX8_pop (17, .iconst 1, 1) (List.mem_of_getElem? (i := 9) rfl)
theorem dX8_pop_18 : decode cX8_pop 18 = .ok (.isub, 1) := DX8_pop (18, .isub, 1) (List.mem_of_getElem? (i := 10) rfl)
theorem dX8_pop_19 : decode cX8_pop 19 = .ok (.invokevirtual 106, 3) := DX8_pop (19, .invokevirtual 106, 3) (List.mem_of_getElem? (i := 11) rfl)
theorem dX8_pop_22 : decode cX8_pop 22 = .ok (.ifCond .eq 5, 3) := DX8_pop (22, .ifCond .eq 5, 3) (List.mem_of_getElem? (i := 12) rfl)
theorem dX8_pop_25 : decode cX8_pop 25 = .ok (.iconst (-1), 1) := DX8_pop (25, .iconst (-1), 1) (List.mem_of_getElem? (i := 13) rfl)
theorem dX8_pop_26 : decode cX8_pop 26 = .ok (.ireturn, 1) := DX8_pop (26, .ireturn, 1) (List.mem_of_getElem? (i := 14) rfl)
theorem dX8_pop_27 : decode cX8_pop 27 = .ok (.aload_n 0, 1) := DX8_pop (27, .aload_n 0, 1) (List.mem_of_getElem? (i := 15) rfl)
theorem dX8_pop_28 : decode cX8_pop 28 = .ok (.dup, 1) := DX8_pop (28, .dup, 1) (List.mem_of_getElem? (i := 16) rfl)
theorem dX8_pop_29 : decode cX8_pop 29 = .ok (.getfield 72, 3) := DX8_pop (29, .getfield 72, 3) (List.mem_of_getElem? (i := 17) rfl)
theorem dX8_pop_32 : decode cX8_pop 32 = .ok (.iconst 1, 1) := DX8_pop (32, .iconst 1, 1) (List.mem_of_getElem? (i := 18) rfl)
theorem dX8_pop_33 : decode cX8_pop 33 = .ok (.isub, 1) := DX8_pop (33, .isub, 1) (List.mem_of_getElem? (i := 19) rfl)
theorem dX8_pop_34 : decode cX8_pop 34 = .ok (.putfield 72, 3) := DX8_pop (34, .putfield 72, 3) (List.mem_of_getElem? (i := 20) rfl)
theorem dX8_pop_37 : decode cX8_pop 37 = .ok (.aload_n 0, 1) := DX8_pop (37, .aload_n 0, 1) (List.mem_of_getElem? (i := 21) rfl)
theorem dX8_pop_38 : decode cX8_pop 38 = .ok (.iconst 0, 1) := DX8_pop (38, .iconst 0, 1) (List.mem_of_getElem? (i := 22) rfl)
theorem dX8_pop_39 : decode cX8_pop 39 = .ok (.putfield 79, 3) := DX8_pop (39, .putfield 79, 3) (List.mem_of_getElem? (i := 23) rfl)
theorem dX8_pop_42 : decode cX8_pop 42 = .ok (.aload_n 0, 1) := DX8_pop (42, .aload_n 0, 1) (List.mem_of_getElem? (i := 24) rfl)
theorem dX8_pop_43 : decode cX8_pop 43 = .ok (.getfield 72, 3) := DX8_pop (43, .getfield 72, 3) (List.mem_of_getElem? (i := 25) rfl)
theorem dX8_pop_46 : decode cX8_pop 46 = .ok (.ireturn, 1) := DX8_pop (46, .ireturn, 1) (List.mem_of_getElem? (i := 26) rfl)
noncomputable def fX8_pop_L25 (σ : Mem) : Option (Int32 × Mem) :=
  some ((-1), σ)
set_option maxHeartbeats 4000000 in
set_option maxRecDepth 100000 in
theorem tX8_pop_L25 {E : Gx} {cI : ClassId} {ad : Nat → Nat} (C : Cx E rmX8_pop cI layM ad 1 RX8 cX8_pop) {out : Int32 × Mem} (K0 : KI E rmX8_pop cI layM ad 1 cX8_pop .int out) {σ : Mem} (h : fX8_pop_L25 σ = some out) : G E rmX8_pop cI layM ad 1 25 [] [] σ := by
  unfold fX8_pop_L25 at h
  refine g_iconst 26 (v := (-1)) C dX8_pop_25 (by decide) rfl ?_
  cases h
  exact K0 _ _ dX8_pop_26 rfl
noncomputable def fX8_pop (σ : Mem) : Option (Int32 × Mem) :=
  if ((up2 σ 0 2 0) 0 6) = 0 then
    fX8_pop_L25 (up2 σ 0 2 0)
  else
    (fX8_isUsed (((up2 σ 0 2 0) 0 6) - 1) (up2 σ 0 2 0)).bind fun o1 =>
    if o1.1 = 0 then
      some ((up2 (up2 o1.2 0 6 ((o1.2 0 6) - 1)) 0 11 0) 0 6, up2 (up2 o1.2 0 6 ((o1.2 0 6) - 1)) 0 11 0)
    else
      fX8_pop_L25 o1.2
set_option maxHeartbeats 4000000 in
set_option maxRecDepth 100000 in
theorem mX8_pop {l : Launch} {D : va_G} {cI : ClassId} {ad : Nat → Nat} {σ : Mem} {out : Int32 × Mem} (h : fX8_pop σ = some out) : MI l D cI layM ad yX8_pop cX8_pop 1 .int rmX8_pop [.ref (ad 0)] σ out := by
  refine met_i (by decide) (Nat.le_of_ble_eq_true rfl) (fun E C K0 => ?_)
  show G E rmX8_pop cI layM ad 1 0 [(0, .ref (ad 0))] [] σ
  unfold fX8_pop at h
  refine g_aload_n 1 C dX8_pop_0 rfl (j := 0) rfl rfl ?_
  refine g_iconst 2 (v := 0) C dX8_pop_1 (by decide) rfl ?_
  refine g_puti 5 (j := 2) C rfl rfl wu_X8 (by decide) wf_X8_69 tyX8 tyX8_ok nmX8 rfl rfl rfl rfl dX8_pop_2 rfl ?_
  refine g_aload_n 6 C dX8_pop_5 rfl (j := 0) rfl rfl ?_
  refine g_geti 9 (j := 6) C rfl rfl wu_X8 (by decide) wf_X8_72 rfl dX8_pop_6 rfl ?_
  refine g_if_eq 25 12 C dX8_pop_9 (by decide) rfl h (fun h => ?_) (fun h => ?_)
  · exact g_sub [] (tX8_pop_L25 (σ := up2 σ 0 2 0) C K0 h) rfl
  · refine g_aload_n 13 C dX8_pop_12 rfl (j := 0) rfl rfl ?_
    refine g_aload_n 14 C dX8_pop_13 rfl (j := 0) rfl rfl ?_
    refine g_geti 17 (j := 6) C rfl rfl wu_X8 (by decide) wf_X8_72 rfl dX8_pop_14 rfl ?_
    refine g_iconst 18 (v := 1) C dX8_pop_17 (by decide) rfl ?_
    refine g_isub 19 C dX8_pop_18 rfl ?_
    refine g_cvi 22 C (As := [.int (((up2 σ 0 2 0) 0 6) - 1)]) (fun _ h => mX8_isUsed (a1 := ((up2 σ 0 2 0) 0 6) - 1) (σ := up2 σ 0 2 0) h) wl_X8_106 wi_X8_isUsed wz_X8_isUsed wc_X8_isUsed wn_X8 qX8_isUsed rfl rfl ⟨Nat.le_of_ble_eq_true rfl, Nat.le_of_ble_eq_true rfl⟩ rfl rfl rfl rfl (Nat.le_of_ble_eq_true rfl) dX8_pop_19 rfl h (fun o1 h => ?_)
    refine g_if_eq 27 25 C dX8_pop_22 (by decide) rfl h (fun h => ?_) (fun h => ?_)
    · refine g_aload_n 28 C dX8_pop_27 rfl (j := 0) rfl rfl ?_
      refine g_dup 29 C dX8_pop_28 rfl rfl ?_
      refine g_geti 32 (j := 6) C rfl rfl wu_X8 (by decide) wf_X8_72 rfl dX8_pop_29 rfl ?_
      refine g_iconst 33 (v := 1) C dX8_pop_32 (by decide) rfl ?_
      refine g_isub 34 C dX8_pop_33 rfl ?_
      refine g_puti 37 (j := 6) C rfl rfl wu_X8 (by decide) wf_X8_72 tyX8 tyX8_ok nmX8 rfl rfl rfl rfl dX8_pop_34 rfl ?_
      refine g_aload_n 38 C dX8_pop_37 rfl (j := 0) rfl rfl ?_
      refine g_iconst 39 (v := 0) C dX8_pop_38 (by decide) rfl ?_
      refine g_puti 42 (j := 11) C rfl rfl wu_X8 (by decide) wf_X8_79 tyX8 tyX8_ok nmX8 rfl rfl rfl rfl dX8_pop_39 rfl ?_
      refine g_aload_n 43 C dX8_pop_42 rfl (j := 0) rfl rfl ?_
      refine g_geti 46 (j := 6) C rfl rfl wu_X8 (by decide) wf_X8_72 rfl dX8_pop_43 rfl ?_
      cases h
      exact K0 _ _ dX8_pop_46 rfl
    · exact g_sub [] (tX8_pop_L25 (σ := o1.2) C K0 h) rfl

/-! LoopReducerModel.test(III)Z -/
abbrev rmX8_test : Room := { frames := 2, cells := 0, slots := 0, locals := 43 }
theorem qX8_test : yX8_test.cls ≠ "java/lang/invoke/MethodHandle" ∧ yX8_test.cls ≠ "java/lang/invoke/VarHandle" ∧ (parseMethodDescriptor yX8_test.desc).map (fun d => d.parameters.length) = some 3 := by decide +kernel
theorem DX8_test : ∀ q ∈ ([(0, .aload_n 0, 1), (1, .iconst 0, 1), (2, .putfield 69, 3), (5, .iload_n 1, 1), (6, .iconst 0, 1), (7, .iconst 1, 1), (8, .invokestatic 75, 3), (11, .ifCond .eq 43, 3), (14, .aload_n 0, 1), (15, .iload_n 2, 1), (16, .invokevirtual 95, 3), (19, .ifCond .eq 35, 3), (22, .aload_n 0, 1), (23, .iload_n 3, 1), (24, .invokevirtual 95, 3), (27, .ifCond .eq 27, 3), (30, .aload_n 0, 1), (31, .getfield 23, 3), (34, .iload_n 1, 1), (35, .if_icmp .ne 21, 3), (38, .aload_n 0, 1), (39, .getfield 27, 3), (42, .iload_n 2, 1), (43, .if_icmp .ne 13, 3), (46, .aload_n 0, 1), (47, .getfield 30, 3), (50, .iload_n 3, 1), (51, .if_icmp .ne 5, 3), (54, .iconst 0, 1), (55, .ireturn, 1), (56, .aload_n 0, 1), (57, .iload_n 1, 1), (58, .putfield 23, 3), (61, .aload_n 0, 1), (62, .iload_n 2, 1), (63, .putfield 27, 3), (66, .aload_n 0, 1), (67, .iload_n 3, 1), (68, .putfield 30, 3), (71, .iconst 1, 1), (72, .ireturn, 1)] : List (Nat × Instr × Nat)), decode cX8_test q.1 = .ok q.2 := by decide +kernel
theorem dX8_test_0 : decode cX8_test 0 = .ok (.aload_n 0, 1) := DX8_test (0, .aload_n 0, 1) (List.mem_of_getElem? (i := 0) rfl)
theorem dX8_test_1 : decode cX8_test 1 = .ok (.iconst 0, 1) := DX8_test (1, .iconst 0, 1) (List.mem_of_getElem? (i := 1) rfl)
theorem dX8_test_2 : decode cX8_test 2 = .ok (.putfield 69, 3) := DX8_test (2, .putfield 69, 3) (List.mem_of_getElem? (i := 2) rfl)
theorem dX8_test_5 : decode cX8_test 5 = .ok (.iload_n 1, 1) := DX8_test (5, .iload_n 1, 1) (List.mem_of_getElem? (i := 3) rfl)
theorem dX8_test_6 : decode cX8_test 6 = .ok (.iconst 0, 1) := DX8_test (6, .iconst 0, 1) (List.mem_of_getElem? (i := 4) rfl)
theorem dX8_test_7 : decode cX8_test 7 = .ok (.iconst 1, 1) := DX8_test (7, .iconst 1, 1) (List.mem_of_getElem? (i := 5) rfl)
theorem dX8_test_8 : decode cX8_test 8 = .ok (.invokestatic 75, 3) := DX8_test (8, .invokestatic 75, 3) (List.mem_of_getElem? (i := 6) rfl)
theorem dX8_test_11 : decode cX8_test 11 = .ok (.ifCond .eq 43, 3) := DX8_test (11, .ifCond .eq 43, 3) (List.mem_of_getElem? (i := 7) rfl)
theorem dX8_test_14 : decode cX8_test 14 = .ok (.aload_n 0, 1) := DX8_test (14, .aload_n 0, 1) (List.mem_of_getElem? (i := 8) rfl)
theorem dX8_test_15 : decode cX8_test 15 = .ok (.iload_n 2, 1) := DX8_test (15, .iload_n 2, 1) (List.mem_of_getElem? (i := 9) rfl)
theorem dX8_test_16 : decode cX8_test 16 = .ok (.invokevirtual 95, 3) := DX8_test (16, .invokevirtual 95, 3) (List.mem_of_getElem? (i := 10) rfl)
theorem dX8_test_19 : decode cX8_test 19 = .ok (.ifCond .eq 35, 3) := DX8_test (19, .ifCond .eq 35, 3) (List.mem_of_getElem? (i := 11) rfl)
theorem dX8_test_22 : decode cX8_test 22 = .ok (.aload_n 0, 1) := DX8_test (22, .aload_n 0, 1) (List.mem_of_getElem? (i := 12) rfl)
theorem dX8_test_23 : decode cX8_test 23 = .ok (.iload_n 3, 1) := DX8_test (23, .iload_n 3, 1) (List.mem_of_getElem? (i := 13) rfl)
theorem dX8_test_24 : decode cX8_test 24 = .ok (.invokevirtual 95, 3) := DX8_test (24, .invokevirtual 95, 3) (List.mem_of_getElem? (i := 14) rfl)
theorem dX8_test_27 : decode cX8_test 27 = .ok (.ifCond .eq 27, 3) := DX8_test (27, .ifCond .eq 27, 3) (List.mem_of_getElem? (i := 15) rfl)
theorem dX8_test_30 : decode cX8_test 30 = .ok (.aload_n 0, 1) := DX8_test (30, .aload_n 0, 1) (List.mem_of_getElem? (i := 16) rfl)
theorem dX8_test_31 : decode cX8_test 31 = .ok (.getfield 23, 3) := DX8_test (31, .getfield 23, 3) (List.mem_of_getElem? (i := 17) rfl)
theorem dX8_test_34 : decode cX8_test 34 = .ok (.iload_n 1, 1) := DX8_test (34, .iload_n 1, 1) (List.mem_of_getElem? (i := 18) rfl)
theorem dX8_test_35 : decode cX8_test 35 = .ok (.if_icmp .ne 21, 3) := DX8_test (35, .if_icmp .ne 21, 3) (List.mem_of_getElem? (i := 19) rfl)
theorem dX8_test_38 : decode cX8_test 38 = .ok (.aload_n 0, 1) := DX8_test (38, .aload_n 0, 1) (List.mem_of_getElem? (i := 20) rfl)
theorem dX8_test_39 : decode cX8_test 39 = .ok (.getfield 27, 3) := DX8_test (39, .getfield 27, 3) (List.mem_of_getElem? (i := 21) rfl)
theorem dX8_test_42 : decode cX8_test 42 = .ok (.iload_n 2, 1) := DX8_test (42, .iload_n 2, 1) (List.mem_of_getElem? (i := 22) rfl)
theorem dX8_test_43 : decode cX8_test 43 = .ok (.if_icmp .ne 13, 3) := DX8_test (43, .if_icmp .ne 13, 3) (List.mem_of_getElem? (i := 23) rfl)
theorem dX8_test_46 : decode cX8_test 46 = .ok (.aload_n 0, 1) := DX8_test (46, .aload_n 0, 1) (List.mem_of_getElem? (i := 24) rfl)
theorem dX8_test_47 : decode cX8_test 47 = .ok (.getfield 30, 3) := DX8_test (47, .getfield 30, 3) (List.mem_of_getElem? (i := 25) rfl)
theorem dX8_test_50 : decode cX8_test 50 = .ok (.iload_n 3, 1) := DX8_test (50, .iload_n 3, 1) (List.mem_of_getElem? (i := 26) rfl)
theorem dX8_test_51 : decode cX8_test 51 = .ok (.if_icmp .ne 5, 3) := DX8_test (51, .if_icmp .ne 5, 3) (List.mem_of_getElem? (i := 27) rfl)
theorem dX8_test_54 : decode cX8_test 54 = .ok (.iconst 0, 1) := DX8_test (54, .iconst 0, 1) (List.mem_of_getElem? (i := 28) rfl)
theorem dX8_test_55 : decode cX8_test 55 = .ok (.ireturn, 1) := DX8_test (55, .ireturn, 1) (List.mem_of_getElem? (i := 29) rfl)
theorem dX8_test_56 : decode cX8_test 56 = .ok (.aload_n 0, 1) := DX8_test (56, .aload_n 0, 1) (List.mem_of_getElem? (i := 30) rfl)
theorem dX8_test_57 : decode cX8_test 57 = .ok (.iload_n 1, 1) := DX8_test (57, .iload_n 1, 1) (List.mem_of_getElem? (i := 31) rfl)
theorem dX8_test_58 : decode cX8_test 58 = .ok (.putfield 23, 3) := DX8_test (58, .putfield 23, 3) (List.mem_of_getElem? (i := 32) rfl)
theorem dX8_test_61 : decode cX8_test 61 = .ok (.aload_n 0, 1) := DX8_test (61, .aload_n 0, 1) (List.mem_of_getElem? (i := 33) rfl)
theorem dX8_test_62 : decode cX8_test 62 = .ok (.iload_n 2, 1) := DX8_test (62, .iload_n 2, 1) (List.mem_of_getElem? (i := 34) rfl)
theorem dX8_test_63 : decode cX8_test 63 = .ok (.putfield 27, 3) := DX8_test (63, .putfield 27, 3) (List.mem_of_getElem? (i := 35) rfl)
theorem dX8_test_66 : decode cX8_test 66 = .ok (.aload_n 0, 1) := DX8_test (66, .aload_n 0, 1) (List.mem_of_getElem? (i := 36) rfl)
theorem dX8_test_67 : decode cX8_test 67 = .ok (.iload_n 3, 1) := DX8_test (67, .iload_n 3, 1) (List.mem_of_getElem? (i := 37) rfl)
theorem dX8_test_68 : decode cX8_test 68 = .ok (.putfield 30, 3) := DX8_test (68, .putfield 30, 3) (List.mem_of_getElem? (i := 38) rfl)
theorem dX8_test_71 : decode cX8_test 71 = .ok (.iconst 1, 1) := DX8_test (71, .iconst 1, 1) (List.mem_of_getElem? (i := 39) rfl)
theorem dX8_test_72 : decode cX8_test 72 = .ok (.ireturn, 1) := DX8_test (72, .ireturn, 1) (List.mem_of_getElem? (i := 40) rfl)
noncomputable def fX8_test_L54 (σ : Mem) : Option (Int32 × Mem) :=
  some (0, σ)
set_option maxHeartbeats 4000000 in
set_option maxRecDepth 100000 in
theorem tX8_test_L54 {E : Gx} {cI : ClassId} {ad : Nat → Nat} (C : Cx E rmX8_test cI layM ad 4 RX8 cX8_test) {out : Int32 × Mem} (K0 : KI E rmX8_test cI layM ad 4 cX8_test .boolean out) {σ : Mem} (h : fX8_test_L54 σ = some out) : G E rmX8_test cI layM ad 4 54 [] [] σ := by
  unfold fX8_test_L54 at h
  refine g_iconst 55 (v := 0) C dX8_test_54 (by decide) rfl ?_
  cases h
  exact K0 _ _ dX8_test_55 (zb_nar (x := 0) (by decide))
noncomputable def fX8_test_L56 (l1 : Int32) (l2 : Int32) (l3 : Int32) (σ : Mem) : Option (Int32 × Mem) :=
  some (1, up2 (up2 (up2 σ 0 8 l1) 0 9 l2) 0 10 l3)
set_option maxHeartbeats 4000000 in
set_option maxRecDepth 100000 in
theorem tX8_test_L56 {E : Gx} {cI : ClassId} {ad : Nat → Nat} (C : Cx E rmX8_test cI layM ad 4 RX8 cX8_test) {out : Int32 × Mem} (K0 : KI E rmX8_test cI layM ad 4 cX8_test .boolean out) {l1 : Int32} {l2 : Int32} {l3 : Int32} {σ : Mem} (h : fX8_test_L56 l1 l2 l3 σ = some out) : G E rmX8_test cI layM ad 4 56 [(0, .ref (ad 0)), (1, .int l1), (2, .int l2), (3, .int l3)] [] σ := by
  unfold fX8_test_L56 at h
  refine g_aload_n 57 C dX8_test_56 rfl (j := 0) rfl rfl ?_
  refine g_iload_n 58 C dX8_test_57 rfl (j := 1) rfl rfl ?_
  refine g_puti 61 (j := 8) C rfl rfl wu_X8 (by decide) wf_X8_23 tyX8 tyX8_ok nmX8 rfl rfl rfl rfl dX8_test_58 rfl ?_
  refine g_aload_n 62 C dX8_test_61 rfl (j := 0) rfl rfl ?_
  refine g_iload_n 63 C dX8_test_62 rfl (j := 2) rfl rfl ?_
  refine g_puti 66 (j := 9) C rfl rfl wu_X8 (by decide) wf_X8_27 tyX8 tyX8_ok nmX8 rfl rfl rfl rfl dX8_test_63 rfl ?_
  refine g_aload_n 67 C dX8_test_66 rfl (j := 0) rfl rfl ?_
  refine g_iload_n 68 C dX8_test_67 rfl (j := 3) rfl rfl ?_
  refine g_puti 71 (j := 10) C rfl rfl wu_X8 (by decide) wf_X8_30 tyX8 tyX8_ok nmX8 rfl rfl rfl rfl dX8_test_68 rfl ?_
  refine g_iconst 72 (v := 1) C dX8_test_71 (by decide) rfl ?_
  cases h
  exact K0 _ _ dX8_test_72 (zb_nar (x := 1) (by decide))
noncomputable def fX8_test (a1 : Int32) (a2 : Int32) (a3 : Int32) (σ : Mem) : Option (Int32 × Mem) :=
  (fX8_isIn a1 0 1 (up2 σ 0 2 0)).bind fun o1 =>
  if o1.1 = 0 then
    fX8_test_L54 o1.2
  else
    (fX8_isName a2 o1.2).bind fun o2 =>
    if o2.1 = 0 then
      fX8_test_L54 o2.2
    else
      (fX8_isName a3 o2.2).bind fun o3 =>
      if o3.1 = 0 then
        fX8_test_L54 o3.2
      else
        if (o3.2 0 8) = a1 then
          if (o3.2 0 9) = a2 then
            if (o3.2 0 10) = a3 then
              fX8_test_L54 o3.2
            else
              fX8_test_L56 a1 a2 a3 o3.2
          else
            fX8_test_L56 a1 a2 a3 o3.2
        else
          fX8_test_L56 a1 a2 a3 o3.2
set_option maxHeartbeats 4000000 in
set_option maxRecDepth 100000 in
theorem mX8_test {l : Launch} {D : va_G} {cI : ClassId} {ad : Nat → Nat} {a1 : Int32} {a2 : Int32} {a3 : Int32} {σ : Mem} {out : Int32 × Mem} (h : fX8_test a1 a2 a3 σ = some out) : MI l D cI layM ad yX8_test cX8_test 4 .boolean rmX8_test [.ref (ad 0), .int a1, .int a2, .int a3] σ out := by
  refine met_i (by decide) (Nat.le_of_ble_eq_true rfl) (fun E C K0 => ?_)
  show G E rmX8_test cI layM ad 4 0 [(0, .ref (ad 0)), (1, .int a1), (2, .int a2), (3, .int a3)] [] σ
  unfold fX8_test at h
  refine g_aload_n 1 C dX8_test_0 rfl (j := 0) rfl rfl ?_
  refine g_iconst 2 (v := 0) C dX8_test_1 (by decide) rfl ?_
  refine g_puti 5 (j := 2) C rfl rfl wu_X8 (by decide) wf_X8_69 tyX8 tyX8_ok nmX8 rfl rfl rfl rfl dX8_test_2 rfl ?_
  refine g_iload_n 6 C dX8_test_5 rfl (j := 1) rfl rfl ?_
  refine g_iconst 7 (v := 0) C dX8_test_6 (by decide) rfl ?_
  refine g_iconst 8 (v := 1) C dX8_test_7 (by decide) rfl ?_
  refine g_csi 11 C (As := [.int a1, .int 0, .int 1]) (fun _ h => mX8_isIn (a1 := a1) (a2 := 0) (a3 := 1) (σ := up2 σ 0 2 0) h) wl_X8_75 ws_X8_isIn wc_X8_isIn wn_X8 qX8_isIn rfl rfl ⟨Nat.le_of_ble_eq_true rfl, Nat.le_of_ble_eq_true rfl⟩ rfl rfl (Nat.le_of_ble_eq_true rfl) dX8_test_8 rfl h (fun o1 h => ?_)
  refine g_if_eq 54 14 C dX8_test_11 (by decide) rfl h (fun h => ?_) (fun h => ?_)
  · exact g_sub [] (tX8_test_L54 (σ := o1.2) C K0 h) rfl
  · refine g_aload_n 15 C dX8_test_14 rfl (j := 0) rfl rfl ?_
    refine g_iload_n 16 C dX8_test_15 rfl (j := 2) rfl rfl ?_
    refine g_cvi 19 C (As := [.int a2]) (fun _ h => mX8_isName (a1 := a2) (σ := o1.2) h) wl_X8_95 wi_X8_isName wz_X8_isName wc_X8_isName wn_X8 qX8_isName rfl rfl ⟨Nat.le_of_ble_eq_true rfl, Nat.le_of_ble_eq_true rfl⟩ rfl rfl rfl rfl (Nat.le_of_ble_eq_true rfl) dX8_test_16 rfl h (fun o2 h => ?_)
    refine g_if_eq 54 22 C dX8_test_19 (by decide) rfl h (fun h => ?_) (fun h => ?_)
    · exact g_sub [] (tX8_test_L54 (σ := o2.2) C K0 h) rfl
    · refine g_aload_n 23 C dX8_test_22 rfl (j := 0) rfl rfl ?_
      refine g_iload_n 24 C dX8_test_23 rfl (j := 3) rfl rfl ?_
      refine g_cvi 27 C (As := [.int a3]) (fun _ h => mX8_isName (a1 := a3) (σ := o2.2) h) wl_X8_95 wi_X8_isName wz_X8_isName wc_X8_isName wn_X8 qX8_isName rfl rfl ⟨Nat.le_of_ble_eq_true rfl, Nat.le_of_ble_eq_true rfl⟩ rfl rfl rfl rfl (Nat.le_of_ble_eq_true rfl) dX8_test_24 rfl h (fun o3 h => ?_)
      refine g_if_eq 54 30 C dX8_test_27 (by decide) rfl h (fun h => ?_) (fun h => ?_)
      · exact g_sub [] (tX8_test_L54 (σ := o3.2) C K0 h) rfl
      · refine g_aload_n 31 C dX8_test_30 rfl (j := 0) rfl rfl ?_
        refine g_geti 34 (j := 8) C rfl rfl wu_X8 (by decide) wf_X8_23 rfl dX8_test_31 rfl ?_
        refine g_iload_n 35 C dX8_test_34 rfl (j := 1) rfl rfl ?_
        refine g_icmp_ne 56 38 C dX8_test_35 (by decide) rfl h (fun h => ?_) (fun h => ?_)
        · refine g_aload_n 39 C dX8_test_38 rfl (j := 0) rfl rfl ?_
          refine g_geti 42 (j := 9) C rfl rfl wu_X8 (by decide) wf_X8_27 rfl dX8_test_39 rfl ?_
          refine g_iload_n 43 C dX8_test_42 rfl (j := 2) rfl rfl ?_
          refine g_icmp_ne 56 46 C dX8_test_43 (by decide) rfl h (fun h => ?_) (fun h => ?_)
          · refine g_aload_n 47 C dX8_test_46 rfl (j := 0) rfl rfl ?_
            refine g_geti 50 (j := 10) C rfl rfl wu_X8 (by decide) wf_X8_30 rfl dX8_test_47 rfl ?_
            refine g_iload_n 51 C dX8_test_50 rfl (j := 3) rfl rfl ?_
            refine g_icmp_ne 56 54 C dX8_test_51 (by decide) rfl h (fun h => ?_) (fun h => ?_)
            · exact g_sub [] (tX8_test_L54 (σ := o3.2) C K0 h) rfl
            · exact tX8_test_L56 (l1 := a1) (l2 := a2) (l3 := a3) (σ := o3.2) C K0 h
          · exact tX8_test_L56 (l1 := a1) (l2 := a2) (l3 := a3) (σ := o3.2) C K0 h
        · exact tX8_test_L56 (l1 := a1) (l2 := a2) (l3 := a3) (σ := o3.2) C K0 h

/-! LoopReducerModel.show(IZ)Z -/
abbrev rmX8_show : Room := { frames := 2, cells := 0, slots := 0, locals := 43 }
theorem qX8_show : yX8_show.cls ≠ "java/lang/invoke/MethodHandle" ∧ yX8_show.cls ≠ "java/lang/invoke/VarHandle" ∧ (parseMethodDescriptor yX8_show.desc).map (fun d => d.parameters.length) = some 2 := by decide +kernel
theorem DX8_show : ∀ q ∈ ([(0, .aload_n 0, 1), (1, .iconst 0, 1), (2, .putfield 69, 3), (5, .aload_n 0, 1), (6, .iload_n 1, 1), (7, .invokevirtual 95, 3), (10, .ifCond .eq 15, 3), (13, .aload_n 0, 1), (14, .getfield 99, 3), (17, .iload_n 1, 1), (18, .invokestatic 102, 3), (21, .iload_n 2, 1), (22, .if_icmp .ne 5, 3), (25, .iconst 0, 1), (26, .ireturn, 1), (27, .aload_n 0, 1), (28, .dup, 1), (29, .getfield 99, 3), (32, .iconst 1, 1), (33, .iload_n 1, 1), (34, .ishl, 1), (35, .ixor, 1), (36, .putfield 99, 3), (39, .iconst 1, 1), (40, .ireturn, 1)] : List (Nat × Instr × Nat)), decode cX8_show q.1 = .ok q.2 := by decide +kernel
theorem dX8_show_0 : decode cX8_show 0 = .ok (.aload_n 0, 1) := DX8_show (0, .aload_n 0, 1) (List.mem_of_getElem? (i := 0) rfl)
theorem dX8_show_1 : decode cX8_show 1 = .ok (.iconst 0, 1) := DX8_show (1, .iconst 0, 1) (List.mem_of_getElem? (i := 1) rfl)
theorem dX8_show_2 : decode cX8_show 2 = .ok (.putfield 69, 3) := DX8_show (2, .putfield 69, 3) (List.mem_of_getElem? (i := 2) rfl)
theorem dX8_show_5 : decode cX8_show 5 = .ok (.aload_n 0, 1) := DX8_show (5, .aload_n 0, 1) (List.mem_of_getElem? (i := 3) rfl)
theorem dX8_show_6 : decode cX8_show 6 = .ok (.iload_n 1, 1) := DX8_show (6, .iload_n 1, 1) (List.mem_of_getElem? (i := 4) rfl)
theorem dX8_show_7 : decode cX8_show 7 = .ok (.invokevirtual 95, 3) := DX8_show (7, .invokevirtual 95, 3) (List.mem_of_getElem? (i := 5) rfl)
theorem dX8_show_10 : decode cX8_show 10 = .ok (.ifCond .eq 15, 3) := DX8_show (10, .ifCond .eq 15, 3) (List.mem_of_getElem? (i := 6) rfl)
theorem dX8_show_13 : decode cX8_show 13 = .ok (.aload_n 0, 1) := DX8_show (13, .aload_n 0, 1) (List.mem_of_getElem? (i := 7) rfl)
theorem dX8_show_14 : decode cX8_show 14 = .ok (.getfield 99, 3) := DX8_show (14, .getfield 99, 3) (List.mem_of_getElem? (i := 8) rfl)
theorem dX8_show_17 : decode cX8_show 17 = .ok (.iload_n 1, 1) := DX8_show (17, .iload_n 1, 1) (List.mem_of_getElem? (i := 9) rfl)
theorem dX8_show_18 : decode cX8_show 18 = .ok (.invokestatic 102, 3) := DX8_show (18, .invokestatic 102, 3) (List.mem_of_getElem? (i := 10) rfl)
theorem dX8_show_21 : decode cX8_show 21 = .ok (.iload_n 2, 1) := DX8_show (21, .iload_n 2, 1) (List.mem_of_getElem? (i := 11) rfl)
theorem dX8_show_22 : decode cX8_show 22 = .ok (.if_icmp .ne 5, 3) := DX8_show (22, .if_icmp .ne 5, 3) (List.mem_of_getElem? (i := 12) rfl)
theorem dX8_show_25 : decode cX8_show 25 = .ok (.iconst 0, 1) := DX8_show (25, .iconst 0, 1) (List.mem_of_getElem? (i := 13) rfl)
theorem dX8_show_26 : decode cX8_show 26 = .ok (.ireturn, 1) := DX8_show (26, .ireturn, 1) (List.mem_of_getElem? (i := 14) rfl)
theorem dX8_show_27 : decode cX8_show 27 = .ok (.aload_n 0, 1) := DX8_show (27, .aload_n 0, 1) (List.mem_of_getElem? (i := 15) rfl)
theorem dX8_show_28 : decode cX8_show 28 = .ok (.dup, 1) := DX8_show (28, .dup, 1) (List.mem_of_getElem? (i := 16) rfl)
theorem dX8_show_29 : decode cX8_show 29 = .ok (.getfield 99, 3) := DX8_show (29, .getfield 99, 3) (List.mem_of_getElem? (i := 17) rfl)
theorem dX8_show_32 : decode cX8_show 32 = .ok (.iconst 1, 1) := DX8_show (32, .iconst 1, 1) (List.mem_of_getElem? (i := 18) rfl)
theorem dX8_show_33 : decode cX8_show 33 = .ok (.iload_n 1, 1) := DX8_show (33, .iload_n 1, 1) (List.mem_of_getElem? (i := 19) rfl)
theorem dX8_show_34 : decode cX8_show 34 = .ok (.ishl, 1) := DX8_show (34, .ishl, 1) (List.mem_of_getElem? (i := 20) rfl)
theorem dX8_show_35 : decode cX8_show 35 = .ok (.ixor, 1) := DX8_show (35, .ixor, 1) (List.mem_of_getElem? (i := 21) rfl)
theorem dX8_show_36 : decode cX8_show 36 = .ok (.putfield 99, 3) := DX8_show (36, .putfield 99, 3) (List.mem_of_getElem? (i := 22) rfl)
theorem dX8_show_39 : decode cX8_show 39 = .ok (.iconst 1, 1) := DX8_show (39, .iconst 1, 1) (List.mem_of_getElem? (i := 23) rfl)
theorem dX8_show_40 : decode cX8_show 40 = .ok (.ireturn, 1) := DX8_show (40, .ireturn, 1) (List.mem_of_getElem? (i := 24) rfl)
noncomputable def fX8_show_L25 (σ : Mem) : Option (Int32 × Mem) :=
  some (0, σ)
set_option maxHeartbeats 4000000 in
set_option maxRecDepth 100000 in
theorem tX8_show_L25 {E : Gx} {cI : ClassId} {ad : Nat → Nat} (C : Cx E rmX8_show cI layM ad 3 RX8 cX8_show) {out : Int32 × Mem} (K0 : KI E rmX8_show cI layM ad 3 cX8_show .boolean out) {σ : Mem} (h : fX8_show_L25 σ = some out) : G E rmX8_show cI layM ad 3 25 [] [] σ := by
  unfold fX8_show_L25 at h
  refine g_iconst 26 (v := 0) C dX8_show_25 (by decide) rfl ?_
  cases h
  exact K0 _ _ dX8_show_26 (zb_nar (x := 0) (by decide))
noncomputable def fX8_show (a1 : Int32) (a2 : Int32) (σ : Mem) : Option (Int32 × Mem) :=
  (fX8_isName a1 (up2 σ 0 2 0)).bind fun o1 =>
  if o1.1 = 0 then
    fX8_show_L25 o1.2
  else
    (fX8_has (o1.2 0 7) a1 o1.2).bind fun o2 =>
    if o2.1 = a2 then
      fX8_show_L25 o2.2
    else
      some (1, up2 o2.2 0 7 ((o2.2 0 7) ^^^ (1 <<< (a1 &&& 31))))
set_option maxHeartbeats 4000000 in
set_option maxRecDepth 100000 in
theorem mX8_show {l : Launch} {D : va_G} {cI : ClassId} {ad : Nat → Nat} {a1 : Int32} {a2 : Int32} {σ : Mem} {out : Int32 × Mem} (h : fX8_show a1 a2 σ = some out) : MI l D cI layM ad yX8_show cX8_show 3 .boolean rmX8_show [.ref (ad 0), .int a1, .int a2] σ out := by
  refine met_i (by decide) (Nat.le_of_ble_eq_true rfl) (fun E C K0 => ?_)
  show G E rmX8_show cI layM ad 3 0 [(0, .ref (ad 0)), (1, .int a1), (2, .int a2)] [] σ
  unfold fX8_show at h
  refine g_aload_n 1 C dX8_show_0 rfl (j := 0) rfl rfl ?_
  refine g_iconst 2 (v := 0) C dX8_show_1 (by decide) rfl ?_
  refine g_puti 5 (j := 2) C rfl rfl wu_X8 (by decide) wf_X8_69 tyX8 tyX8_ok nmX8 rfl rfl rfl rfl dX8_show_2 rfl ?_
  refine g_aload_n 6 C dX8_show_5 rfl (j := 0) rfl rfl ?_
  refine g_iload_n 7 C dX8_show_6 rfl (j := 1) rfl rfl ?_
  refine g_cvi 10 C (As := [.int a1]) (fun _ h => mX8_isName (a1 := a1) (σ := up2 σ 0 2 0) h) wl_X8_95 wi_X8_isName wz_X8_isName wc_X8_isName wn_X8 qX8_isName rfl rfl ⟨Nat.le_of_ble_eq_true rfl, Nat.le_of_ble_eq_true rfl⟩ rfl rfl rfl rfl (Nat.le_of_ble_eq_true rfl) dX8_show_7 rfl h (fun o1 h => ?_)
  refine g_if_eq 25 13 C dX8_show_10 (by decide) rfl h (fun h => ?_) (fun h => ?_)
  · exact g_sub [] (tX8_show_L25 (σ := o1.2) C K0 h) rfl
  · refine g_aload_n 14 C dX8_show_13 rfl (j := 0) rfl rfl ?_
    refine g_geti 17 (j := 7) C rfl rfl wu_X8 (by decide) wf_X8_99 rfl dX8_show_14 rfl ?_
    refine g_iload_n 18 C dX8_show_17 rfl (j := 1) rfl rfl ?_
    refine g_csi 21 C (As := [.int (o1.2 0 7), .int a1]) (fun _ h => mX8_has (a1 := o1.2 0 7) (a2 := a1) (σ := o1.2) h) wl_X8_102 ws_X8_has wc_X8_has wn_X8 qX8_has rfl rfl ⟨Nat.le_of_ble_eq_true rfl, Nat.le_of_ble_eq_true rfl⟩ rfl rfl (Nat.le_of_ble_eq_true rfl) dX8_show_18 rfl h (fun o2 h => ?_)
    refine g_iload_n 22 C dX8_show_21 rfl (j := 2) rfl rfl ?_
    refine g_icmp_ne 27 25 C dX8_show_22 (by decide) rfl h (fun h => ?_) (fun h => ?_)
    · exact g_sub [] (tX8_show_L25 (σ := o2.2) C K0 h) rfl
    · refine g_aload_n 28 C dX8_show_27 rfl (j := 0) rfl rfl ?_
      refine g_dup 29 C dX8_show_28 rfl rfl ?_
      refine g_geti 32 (j := 7) C rfl rfl wu_X8 (by decide) wf_X8_99 rfl dX8_show_29 rfl ?_
      refine g_iconst 33 (v := 1) C dX8_show_32 (by decide) rfl ?_
      refine g_iload_n 34 C dX8_show_33 rfl (j := 1) rfl rfl ?_
      refine g_ishl 35 C dX8_show_34 rfl ?_
      refine g_ixor 36 C dX8_show_35 rfl ?_
      refine g_puti 39 (j := 7) C rfl rfl wu_X8 (by decide) wf_X8_99 tyX8 tyX8_ok nmX8 rfl rfl rfl rfl dX8_show_36 rfl ?_
      refine g_iconst 40 (v := 1) C dX8_show_39 (by decide) rfl ?_
      cases h
      exact K0 _ _ dX8_show_40 (zb_nar (x := 1) (by decide))

/-! LoopReducerModel.count(I)I -/
abbrev rmX8_count : Room := { frames := 1, cells := 0, slots := 0, locals := 23 }
theorem qX8_count : yX8_count.cls ≠ "java/lang/invoke/MethodHandle" ∧ yX8_count.cls ≠ "java/lang/invoke/VarHandle" ∧ (parseMethodDescriptor yX8_count.desc).map (fun d => d.parameters.length) = some 1 := by decide +kernel
theorem DX8_count : ∀ q ∈ ([(0, .aload_n 0, 1), (1, .iconst 0, 1), (2, .putfield 69, 3), (5, .iload_n 1, 1), (6, .tableswitch 88 0 7 #[46, 51, 57, 62, 68, 73, 78, 83], 46), (52, .aload_n 0, 1), (53, .getfield 72, 3), (56, .ireturn, 1), (57, .aload_n 0, 1), (58, .iconst 1, 1), (59, .invokevirtual 91, 3), (62, .ireturn, 1), (63, .aload_n 0, 1), (64, .getfield 99, 3), (67, .ireturn, 1), (68, .aload_n 0, 1), (69, .iconst 5, 1), (70, .invokevirtual 91, 3), (73, .ireturn, 1), (74, .aload_n 0, 1), (75, .getfield 23, 3), (78, .ireturn, 1), (79, .aload_n 0, 1), (80, .getfield 27, 3), (83, .ireturn, 1), (84, .aload_n 0, 1), (85, .getfield 30, 3), (88, .ireturn, 1), (89, .aload_n 0, 1), (90, .getfield 66, 3), (93, .ireturn, 1), (94, .iconst (-1), 1), (95, .ireturn, 1)] : List (Nat × Instr × Nat)), decode cX8_count q.1 = .ok q.2 := by decide +kernel
theorem dX8_count_0 : decode cX8_count 0 = .ok (.aload_n 0, 1) := DX8_count (0, .aload_n 0, 1) (List.mem_of_getElem? (i := 0) rfl)
theorem dX8_count_1 : decode cX8_count 1 = .ok (.iconst 0, 1) := DX8_count (1, .iconst 0, 1) (List.mem_of_getElem? (i := 1) rfl)
theorem dX8_count_2 : decode cX8_count 2 = .ok (.putfield 69, 3) := DX8_count (2, .putfield 69, 3) (List.mem_of_getElem? (i := 2) rfl)
theorem dX8_count_5 : decode cX8_count 5 = .ok (.iload_n 1, 1) := DX8_count (5, .iload_n 1, 1) (List.mem_of_getElem? (i := 3) rfl)
theorem dX8_count_6 : decode cX8_count 6 = .ok (.tableswitch 88 0 7 #[46, 51, 57, 62, 68, 73, 78, 83], 46) := DX8_count (6, .tableswitch 88 0 7 #[46, 51, 57, 62, 68, 73, 78, 83], 46) (List.mem_of_getElem? (i := 4) rfl)
theorem dX8_count_52 : decode cX8_count 52 = .ok (.aload_n 0, 1) := DX8_count (52, .aload_n 0, 1) (List.mem_of_getElem? (i := 5) rfl)
theorem dX8_count_53 : decode cX8_count 53 = .ok (.getfield 72, 3) := DX8_count (53, .getfield 72, 3) (List.mem_of_getElem? (i := 6) rfl)
theorem dX8_count_56 : decode cX8_count 56 = .ok (.ireturn, 1) := DX8_count (56, .ireturn, 1) (List.mem_of_getElem? (i := 7) rfl)
theorem dX8_count_57 : decode cX8_count 57 = .ok (.aload_n 0, 1) := DX8_count (57, .aload_n 0, 1) (List.mem_of_getElem? (i := 8) rfl)
theorem dX8_count_58 : decode cX8_count 58 = .ok (.iconst 1, 1) := DX8_count (58, .iconst 1, 1) (List.mem_of_getElem? (i := 9) rfl)
theorem dX8_count_59 : decode cX8_count 59 = .ok (.invokevirtual 91, 3) := DX8_count (59, .invokevirtual 91, 3) (List.mem_of_getElem? (i := 10) rfl)
theorem dX8_count_62 : decode cX8_count 62 = .ok (.ireturn, 1) := DX8_count (62, .ireturn, 1) (List.mem_of_getElem? (i := 11) rfl)
theorem dX8_count_63 : decode cX8_count 63 = .ok (.aload_n 0, 1) := DX8_count (63, .aload_n 0, 1) (List.mem_of_getElem? (i := 12) rfl)
theorem dX8_count_64 : decode cX8_count 64 = .ok (.getfield 99, 3) := DX8_count (64, .getfield 99, 3) (List.mem_of_getElem? (i := 13) rfl)
theorem dX8_count_67 : decode cX8_count 67 = .ok (.ireturn, 1) := DX8_count (67, .ireturn, 1) (List.mem_of_getElem? (i := 14) rfl)
theorem dX8_count_68 : decode cX8_count 68 = .ok (.aload_n 0, 1) := DX8_count (68, .aload_n 0, 1) (List.mem_of_getElem? (i := 15) rfl)
theorem dX8_count_69 : decode cX8_count 69 = .ok (.iconst 5, 1) := DX8_count (69, .iconst 5, 1) (List.mem_of_getElem? (i := 16) rfl)
theorem dX8_count_70 : decode cX8_count 70 = .ok (.invokevirtual 91, 3) := DX8_count (70, .invokevirtual 91, 3) (List.mem_of_getElem? (i := 17) rfl)
theorem dX8_count_73 : decode cX8_count 73 = .ok (.ireturn, 1) := DX8_count (73, .ireturn, 1) (List.mem_of_getElem? (i := 18) rfl)
theorem dX8_count_74 : decode cX8_count 74 = .ok (.aload_n 0, 1) := DX8_count (74, .aload_n 0, 1) (List.mem_of_getElem? (i := 19) rfl)
theorem dX8_count_75 : decode cX8_count 75 = .ok (.getfield 23, 3) := DX8_count (75, .getfield 23, 3) (List.mem_of_getElem? (i := 20) rfl)
theorem dX8_count_78 : decode cX8_count 78 = .ok (.ireturn, 1) := DX8_count (78, .ireturn, 1) (List.mem_of_getElem? (i := 21) rfl)
theorem dX8_count_79 : decode cX8_count 79 = .ok (.aload_n 0, 1) := DX8_count (79, .aload_n 0, 1) (List.mem_of_getElem? (i := 22) rfl)
theorem dX8_count_80 : decode cX8_count 80 = .ok (.getfield 27, 3) := DX8_count (80, .getfield 27, 3) (List.mem_of_getElem? (i := 23) rfl)
theorem dX8_count_83 : decode cX8_count 83 = .ok (.ireturn, 1) := DX8_count (83, .ireturn, 1) (List.mem_of_getElem? (i := 24) rfl)
theorem dX8_count_84 : decode cX8_count 84 = .ok (.aload_n 0, 1) := DX8_count (84, .aload_n 0, 1) (List.mem_of_getElem? (i := 25) rfl)
theorem dX8_count_85 : decode cX8_count 85 = .ok (.getfield 30, 3) := DX8_count (85, .getfield 30, 3) (List.mem_of_getElem? (i := 26) rfl)
theorem dX8_count_88 : decode cX8_count 88 = .ok (.ireturn, 1) := DX8_count (88, .ireturn, 1) (List.mem_of_getElem? (i := 27) rfl)
theorem dX8_count_89 : decode cX8_count 89 = .ok (.aload_n 0, 1) := DX8_count (89, .aload_n 0, 1) (List.mem_of_getElem? (i := 28) rfl)
theorem dX8_count_90 : decode cX8_count 90 = .ok (.getfield 66, 3) := DX8_count (90, .getfield 66, 3) (List.mem_of_getElem? (i := 29) rfl)
theorem dX8_count_93 : decode cX8_count 93 = .ok (.ireturn, 1) := DX8_count (93, .ireturn, 1) (List.mem_of_getElem? (i := 30) rfl)
theorem dX8_count_94 : decode cX8_count 94 = .ok (.iconst (-1), 1) := DX8_count (94, .iconst (-1), 1) (List.mem_of_getElem? (i := 31) rfl)
theorem dX8_count_95 : decode cX8_count 95 = .ok (.ireturn, 1) := DX8_count (95, .ireturn, 1) (List.mem_of_getElem? (i := 32) rfl)
noncomputable def fX8_count (a1 : Int32) (σ : Mem) : Option (Int32 × Mem) :=
  if a1 = 0 then
    some ((up2 σ 0 2 0) 0 6, up2 σ 0 2 0)
  else if a1 = 1 then
    (fX8_many 1 (up2 σ 0 2 0)).bind fun o1 =>
    some (o1.1, o1.2)
  else if a1 = 2 then
    some ((up2 σ 0 2 0) 0 7, up2 σ 0 2 0)
  else if a1 = 3 then
    (fX8_many 5 (up2 σ 0 2 0)).bind fun o2 =>
    some (o2.1, o2.2)
  else if a1 = 4 then
    some ((up2 σ 0 2 0) 0 8, up2 σ 0 2 0)
  else if a1 = 5 then
    some ((up2 σ 0 2 0) 0 9, up2 σ 0 2 0)
  else if a1 = 6 then
    some ((up2 σ 0 2 0) 0 10, up2 σ 0 2 0)
  else if a1 = 7 then
    some ((up2 σ 0 2 0) 0 1, up2 σ 0 2 0)
  else some ((-1), up2 σ 0 2 0)
set_option maxHeartbeats 4000000 in
set_option maxRecDepth 100000 in
theorem mX8_count {l : Launch} {D : va_G} {cI : ClassId} {ad : Nat → Nat} {a1 : Int32} {σ : Mem} {out : Int32 × Mem} (h : fX8_count a1 σ = some out) : MI l D cI layM ad yX8_count cX8_count 2 .int rmX8_count [.ref (ad 0), .int a1] σ out := by
  refine met_i (by decide) (Nat.le_of_ble_eq_true rfl) (fun E C K0 => ?_)
  show G E rmX8_count cI layM ad 2 0 [(0, .ref (ad 0)), (1, .int a1)] [] σ
  unfold fX8_count at h
  refine g_aload_n 1 C dX8_count_0 rfl (j := 0) rfl rfl ?_
  refine g_iconst 2 (v := 0) C dX8_count_1 (by decide) rfl ?_
  refine g_puti 5 (j := 2) C rfl rfl wu_X8 (by decide) wf_X8_69 tyX8 tyX8_ok nmX8 rfl rfl rfl rfl dX8_count_2 rfl ?_
  refine g_iload_n 6 C dX8_count_5 rfl (j := 1) rfl rfl ?_
  by_cases c0 : a1 = 0
  · rw [if_pos c0] at h
    refine g_tswC 52 (off := 46) C dX8_count_6 c0 (by decide) (by decide) (by decide) (by decide) ?_
    refine g_aload_n 53 C dX8_count_52 rfl (j := 0) rfl rfl ?_
    refine g_geti 56 (j := 6) C rfl rfl wu_X8 (by decide) wf_X8_72 rfl dX8_count_53 rfl ?_
    cases h
    exact K0 _ _ dX8_count_56 rfl
  rw [if_neg c0] at h
  by_cases c1 : a1 = 1
  · rw [if_pos c1] at h
    refine g_tswC 57 (off := 51) C dX8_count_6 c1 (by decide) (by decide) (by decide) (by decide) ?_
    refine g_aload_n 58 C dX8_count_57 rfl (j := 0) rfl rfl ?_
    refine g_iconst 59 (v := 1) C dX8_count_58 (by decide) rfl ?_
    refine g_cvi 62 C (As := [.int 1]) (fun _ h => mX8_many (a1 := 1) (σ := up2 σ 0 2 0) h) wl_X8_91 wi_X8_many wz_X8_many wc_X8_many wn_X8 qX8_many rfl rfl ⟨Nat.le_of_ble_eq_true rfl, Nat.le_of_ble_eq_true rfl⟩ rfl rfl rfl rfl (Nat.le_of_ble_eq_true rfl) dX8_count_59 rfl h (fun o1 h => ?_)
    cases h
    exact K0 _ _ dX8_count_62 rfl
  rw [if_neg c1] at h
  by_cases c2 : a1 = 2
  · rw [if_pos c2] at h
    refine g_tswC 63 (off := 57) C dX8_count_6 c2 (by decide) (by decide) (by decide) (by decide) ?_
    refine g_aload_n 64 C dX8_count_63 rfl (j := 0) rfl rfl ?_
    refine g_geti 67 (j := 7) C rfl rfl wu_X8 (by decide) wf_X8_99 rfl dX8_count_64 rfl ?_
    cases h
    exact K0 _ _ dX8_count_67 rfl
  rw [if_neg c2] at h
  by_cases c3 : a1 = 3
  · rw [if_pos c3] at h
    refine g_tswC 68 (off := 62) C dX8_count_6 c3 (by decide) (by decide) (by decide) (by decide) ?_
    refine g_aload_n 69 C dX8_count_68 rfl (j := 0) rfl rfl ?_
    refine g_iconst 70 (v := 5) C dX8_count_69 (by decide) rfl ?_
    refine g_cvi 73 C (As := [.int 5]) (fun _ h => mX8_many (a1 := 5) (σ := up2 σ 0 2 0) h) wl_X8_91 wi_X8_many wz_X8_many wc_X8_many wn_X8 qX8_many rfl rfl ⟨Nat.le_of_ble_eq_true rfl, Nat.le_of_ble_eq_true rfl⟩ rfl rfl rfl rfl (Nat.le_of_ble_eq_true rfl) dX8_count_70 rfl h (fun o2 h => ?_)
    cases h
    exact K0 _ _ dX8_count_73 rfl
  rw [if_neg c3] at h
  by_cases c4 : a1 = 4
  · rw [if_pos c4] at h
    refine g_tswC 74 (off := 68) C dX8_count_6 c4 (by decide) (by decide) (by decide) (by decide) ?_
    refine g_aload_n 75 C dX8_count_74 rfl (j := 0) rfl rfl ?_
    refine g_geti 78 (j := 8) C rfl rfl wu_X8 (by decide) wf_X8_23 rfl dX8_count_75 rfl ?_
    cases h
    exact K0 _ _ dX8_count_78 rfl
  rw [if_neg c4] at h
  by_cases c5 : a1 = 5
  · rw [if_pos c5] at h
    refine g_tswC 79 (off := 73) C dX8_count_6 c5 (by decide) (by decide) (by decide) (by decide) ?_
    refine g_aload_n 80 C dX8_count_79 rfl (j := 0) rfl rfl ?_
    refine g_geti 83 (j := 9) C rfl rfl wu_X8 (by decide) wf_X8_27 rfl dX8_count_80 rfl ?_
    cases h
    exact K0 _ _ dX8_count_83 rfl
  rw [if_neg c5] at h
  by_cases c6 : a1 = 6
  · rw [if_pos c6] at h
    refine g_tswC 84 (off := 78) C dX8_count_6 c6 (by decide) (by decide) (by decide) (by decide) ?_
    refine g_aload_n 85 C dX8_count_84 rfl (j := 0) rfl rfl ?_
    refine g_geti 88 (j := 10) C rfl rfl wu_X8 (by decide) wf_X8_30 rfl dX8_count_85 rfl ?_
    cases h
    exact K0 _ _ dX8_count_88 rfl
  rw [if_neg c6] at h
  by_cases c7 : a1 = 7
  · rw [if_pos c7] at h
    refine g_tswC 89 (off := 83) C dX8_count_6 c7 (by decide) (by decide) (by decide) (by decide) ?_
    refine g_aload_n 90 C dX8_count_89 rfl (j := 0) rfl rfl ?_
    refine g_geti 93 (j := 1) C rfl rfl wu_X8 (by decide) wf_X8_66 rfl dX8_count_90 rfl ?_
    cases h
    exact K0 _ _ dX8_count_93 rfl
  rw [if_neg c7] at h
  have hout : a1.toInt < 0 ∨ 7 < a1.toInt := by
    have n0 : ¬ a1.toInt = 0 := ne_toInt c0
    have n1 : ¬ a1.toInt = 1 := ne_toInt c1
    have n2 : ¬ a1.toInt = 2 := ne_toInt c2
    have n3 : ¬ a1.toInt = 3 := ne_toInt c3
    have n4 : ¬ a1.toInt = 4 := ne_toInt c4
    have n5 : ¬ a1.toInt = 5 := ne_toInt c5
    have n6 : ¬ a1.toInt = 6 := ne_toInt c6
    have n7 : ¬ a1.toInt = 7 := ne_toInt c7
    omega
  refine g_tswD 94 C dX8_count_6 hout (by decide) ?_
  refine g_iconst 95 (v := (-1)) C dX8_count_94 (by decide) rfl ?_
  cases h
  exact K0 _ _ dX8_count_95 rfl

/-! LoopReducerModel.of(II)I -/
abbrev rmX8_of : Room := { frames := 2, cells := 0, slots := 0, locals := 43 }
theorem qX8_of : yX8_of.cls ≠ "java/lang/invoke/MethodHandle" ∧ yX8_of.cls ≠ "java/lang/invoke/VarHandle" ∧ (parseMethodDescriptor yX8_of.desc).map (fun d => d.parameters.length) = some 2 := by decide +kernel
theorem DX8_of : ∀ q ∈ ([(0, .aload_n 0, 1), (1, .aload_n 0, 1), (2, .iload_n 1, 1), (3, .invokevirtual 95, 3), (6, .ifCond .eq 16, 3), (9, .iload_n 2, 1), (10, .iconst 0, 1), (11, .iconst 2, 1), (12, .invokestatic 75, 3), (15, .ifCond .eq 7, 3), (18, .iconst 0, 1), (19, .goto 4, 3), (22, .iconst 1, 1), (23, .putfield 69, 3), (26, .aload_n 0, 1), (27, .getfield 69, 3), (30, .iconst 1, 1), (31, .if_icmp .ne 5, 3), (34, .iconst 0, 1), (35, .ireturn, 1), (36, .iload_n 2, 1), (37, .ifCond .ne 12, 3), (40, .aload_n 0, 1), (41, .getfield 14, 3), (44, .iload_n 1, 1), (45, .iaload, 1), (46, .goto 23, 3), (49, .iload_n 2, 1), (50, .iconst 1, 1), (51, .if_icmp .ne 12, 3), (54, .aload_n 0, 1), (55, .getfield 17, 3), (58, .iload_n 1, 1), (59, .iaload, 1), (60, .goto 9, 3), (63, .aload_n 0, 1), (64, .getfield 20, 3), (67, .iload_n 1, 1), (68, .iaload, 1), (69, .ireturn, 1)] : List (Nat × Instr × Nat)), decode cX8_of q.1 = .ok q.2 := by decide +kernel
theorem dX8_of_0 : decode cX8_of 0 = .ok (.aload_n 0, 1) := DX8_of (0, .aload_n 0, 1) (List.mem_of_getElem? (i := 0) rfl)
theorem dX8_of_1 : decode cX8_of 1 = .ok (.aload_n 0, 1) := DX8_of (1, .aload_n 0, 1) (List.mem_of_getElem? (i := 1) rfl)
theorem dX8_of_2 : decode cX8_of 2 = .ok (.iload_n 1, 1) := DX8_of (2, .iload_n 1, 1) (List.mem_of_getElem? (i := 2) rfl)
theorem dX8_of_3 : decode cX8_of 3 = .ok (.invokevirtual 95, 3) := DX8_of (3, .invokevirtual 95, 3) (List.mem_of_getElem? (i := 3) rfl)
theorem dX8_of_6 : decode cX8_of 6 = .ok (.ifCond .eq 16, 3) := DX8_of (6, .ifCond .eq 16, 3) (List.mem_of_getElem? (i := 4) rfl)
theorem dX8_of_9 : decode cX8_of 9 = .ok (.iload_n 2, 1) := DX8_of (9, .iload_n 2, 1) (List.mem_of_getElem? (i := 5) rfl)
theorem dX8_of_10 : decode cX8_of 10 = .ok (.iconst 0, 1) := DX8_of (10, .iconst 0, 1) (List.mem_of_getElem? (i := 6) rfl)
theorem dX8_of_11 : decode cX8_of 11 = .ok (.iconst 2, 1) := DX8_of (11, .iconst 2, 1) (List.mem_of_getElem? (i := 7) rfl)
theorem dX8_of_12 : decode cX8_of 12 = .ok (.invokestatic 75, 3) := DX8_of (12, .invokestatic 75, 3) (List.mem_of_getElem? (i := 8) rfl)
theorem dX8_of_15 : decode cX8_of 15 = .ok (.ifCond .eq 7, 3) := DX8_of (15, .ifCond .eq 7, 3) (List.mem_of_getElem? (i := 9) rfl)
theorem dX8_of_18 : decode cX8_of 18 = .ok (.iconst 0, 1) := DX8_of (18, .iconst 0, 1) (List.mem_of_getElem? (i := 10) rfl)
theorem dX8_of_19 : decode cX8_of 19 = .ok (.goto 4, 3) := DX8_of (19, .goto 4, 3) (List.mem_of_getElem? (i := 11) rfl)
theorem dX8_of_22 : decode cX8_of 22 = .ok (.iconst 1, 1) := DX8_of (22, .iconst 1, 1) (List.mem_of_getElem? (i := 12) rfl)
theorem dX8_of_23 : decode cX8_of 23 = .ok (.putfield 69, 3) := DX8_of (23, .putfield 69, 3) (List.mem_of_getElem? (i := 13) rfl)
theorem dX8_of_26 : decode cX8_of 26 = .ok (.aload_n 0, 1) := DX8_of (26, .aload_n 0, 1) (List.mem_of_getElem? (i := 14) rfl)
theorem dX8_of_27 : decode cX8_of 27 = .ok (.getfield 69, 3) := DX8_of (27, .getfield 69, 3) (List.mem_of_getElem? (i := 15) rfl)
theorem dX8_of_30 : decode cX8_of 30 = .ok (.iconst 1, 1) := DX8_of (30, .iconst 1, 1) (List.mem_of_getElem? (i := 16) rfl)
theorem dX8_of_31 : decode cX8_of 31 = .ok (.if_icmp .ne 5, 3) := DX8_of (31, .if_icmp .ne 5, 3) (List.mem_of_getElem? (i := 17) rfl)
theorem dX8_of_34 : decode cX8_of 34 = .ok (.iconst 0, 1) := DX8_of (34, .iconst 0, 1) (List.mem_of_getElem? (i := 18) rfl)
theorem dX8_of_35 : decode cX8_of 35 = .ok (.ireturn, 1) := DX8_of (35, .ireturn, 1) (List.mem_of_getElem? (i := 19) rfl)
theorem dX8_of_36 : decode cX8_of 36 = .ok (.iload_n 2, 1) := DX8_of (36, .iload_n 2, 1) (List.mem_of_getElem? (i := 20) rfl)
theorem dX8_of_37 : decode cX8_of 37 = .ok (.ifCond .ne 12, 3) := DX8_of (37, .ifCond .ne 12, 3) (List.mem_of_getElem? (i := 21) rfl)
theorem dX8_of_40 : decode cX8_of 40 = .ok (.aload_n 0, 1) := DX8_of (40, .aload_n 0, 1) (List.mem_of_getElem? (i := 22) rfl)
theorem dX8_of_41 : decode cX8_of 41 = .ok (.getfield 14, 3) := DX8_of (41, .getfield 14, 3) (List.mem_of_getElem? (i := 23) rfl)
theorem dX8_of_44 : decode cX8_of 44 = .ok (.iload_n 1, 1) := DX8_of (44, .iload_n 1, 1) (List.mem_of_getElem? (i := 24) rfl)
theorem dX8_of_45 : decode cX8_of 45 = .ok (.iaload, 1) := DX8_of (45, .iaload, 1) (List.mem_of_getElem? (i := 25) rfl)
theorem dX8_of_46 : decode cX8_of 46 = .ok (.goto 23, 3) := DX8_of (46, .goto 23, 3) (List.mem_of_getElem? (i := 26) rfl)
theorem dX8_of_49 : decode cX8_of 49 = .ok (.iload_n 2, 1) := DX8_of (49, .iload_n 2, 1) (List.mem_of_getElem? (i := 27) rfl)
theorem dX8_of_50 : decode cX8_of 50 = .ok (.iconst 1, 1) := DX8_of (50, .iconst 1, 1) (List.mem_of_getElem? (i := 28) rfl)
theorem dX8_of_51 : decode cX8_of 51 = .ok (.if_icmp .ne 12, 3) := DX8_of (51, .if_icmp .ne 12, 3) (List.mem_of_getElem? (i := 29) rfl)
theorem dX8_of_54 : decode cX8_of 54 = .ok (.aload_n 0, 1) := DX8_of (54, .aload_n 0, 1) (List.mem_of_getElem? (i := 30) rfl)
theorem dX8_of_55 : decode cX8_of 55 = .ok (.getfield 17, 3) := DX8_of (55, .getfield 17, 3) (List.mem_of_getElem? (i := 31) rfl)
theorem dX8_of_58 : decode cX8_of 58 = .ok (.iload_n 1, 1) := DX8_of (58, .iload_n 1, 1) (List.mem_of_getElem? (i := 32) rfl)
theorem dX8_of_59 : decode cX8_of 59 = .ok (.iaload, 1) := DX8_of (59, .iaload, 1) (List.mem_of_getElem? (i := 33) rfl)
theorem dX8_of_60 : decode cX8_of 60 = .ok (.goto 9, 3) := DX8_of (60, .goto 9, 3) (List.mem_of_getElem? (i := 34) rfl)
theorem dX8_of_63 : decode cX8_of 63 = .ok (.aload_n 0, 1) := DX8_of (63, .aload_n 0, 1) (List.mem_of_getElem? (i := 35) rfl)
theorem dX8_of_64 : decode cX8_of 64 = .ok (.getfield 20, 3) := DX8_of (64, .getfield 20, 3) (List.mem_of_getElem? (i := 36) rfl)
theorem dX8_of_67 : decode cX8_of 67 = .ok (.iload_n 1, 1) := DX8_of (67, .iload_n 1, 1) (List.mem_of_getElem? (i := 37) rfl)
theorem dX8_of_68 : decode cX8_of 68 = .ok (.iaload, 1) := DX8_of (68, .iaload, 1) (List.mem_of_getElem? (i := 38) rfl)
theorem dX8_of_69 : decode cX8_of 69 = .ok (.ireturn, 1) := DX8_of (69, .ireturn, 1) (List.mem_of_getElem? (i := 39) rfl)
noncomputable def fX8_of_L69 (s0 : Int32) (σ : Mem) : Option (Int32 × Mem) :=
  some (s0, σ)
set_option maxHeartbeats 4000000 in
set_option maxRecDepth 100000 in
theorem tX8_of_L69 {E : Gx} {cI : ClassId} {ad : Nat → Nat} (C : Cx E rmX8_of cI layM ad 3 RX8 cX8_of) {out : Int32 × Mem} (K0 : KI E rmX8_of cI layM ad 3 cX8_of .int out) {s0 : Int32} {σ : Mem} (h : fX8_of_L69 s0 σ = some out) : G E rmX8_of cI layM ad 3 69 [] [.int s0] σ := by
  unfold fX8_of_L69 at h
  cases h
  exact K0 _ _ dX8_of_69 rfl
noncomputable def fX8_of_L23 (l1 : Int32) (l2 : Int32) (s1 : Int32) (σ : Mem) : Option (Int32 × Mem) :=
  if ((up2 σ 0 2 s1) 0 2) = 1 then
    some (0, up2 σ 0 2 s1)
  else
    if l2 = 0 then
      chk (inb l1 30) <|
      fX8_of_L69 ((up2 σ 0 2 s1) 2 l1.toNatClampNeg) (up2 σ 0 2 s1)
    else
      if l2 = 1 then
        chk (inb l1 30) <|
        fX8_of_L69 ((up2 σ 0 2 s1) 3 l1.toNatClampNeg) (up2 σ 0 2 s1)
      else
        chk (inb l1 30) <|
        fX8_of_L69 ((up2 σ 0 2 s1) 4 l1.toNatClampNeg) (up2 σ 0 2 s1)
set_option maxHeartbeats 4000000 in
set_option maxRecDepth 100000 in
theorem tX8_of_L23 {E : Gx} {cI : ClassId} {ad : Nat → Nat} (C : Cx E rmX8_of cI layM ad 3 RX8 cX8_of) {out : Int32 × Mem} (K0 : KI E rmX8_of cI layM ad 3 cX8_of .int out) {l1 : Int32} {l2 : Int32} {s1 : Int32} {σ : Mem} (h : fX8_of_L23 l1 l2 s1 σ = some out) : G E rmX8_of cI layM ad 3 23 [(0, .ref (ad 0)), (1, .int l1), (2, .int l2)] [.int s1, .ref (ad 0)] σ := by
  unfold fX8_of_L23 at h
  refine g_puti 26 (j := 2) C rfl rfl wu_X8 (by decide) wf_X8_69 tyX8 tyX8_ok nmX8 rfl rfl rfl rfl dX8_of_23 rfl ?_
  refine g_aload_n 27 C dX8_of_26 rfl (j := 0) rfl rfl ?_
  refine g_geti 30 (j := 2) C rfl rfl wu_X8 (by decide) wf_X8_69 rfl dX8_of_27 rfl ?_
  refine g_iconst 31 (v := 1) C dX8_of_30 (by decide) rfl ?_
  refine g_icmp_ne 36 34 C dX8_of_31 (by decide) rfl h (fun h => ?_) (fun h => ?_)
  · refine g_iconst 35 (v := 0) C dX8_of_34 (by decide) rfl ?_
    cases h
    exact K0 _ _ dX8_of_35 rfl
  · refine g_iload_n 37 C dX8_of_36 rfl (j := 2) rfl rfl ?_
    refine g_if_ne 49 40 C dX8_of_37 (by decide) rfl h (fun h => ?_) (fun h => ?_)
    · refine g_aload_n 41 C dX8_of_40 rfl (j := 0) rfl rfl ?_
      refine g_getr 44 (j := 3) C rfl rfl wu_X8 (by decide) wf_X8_14 rfl dX8_of_41 rfl ?_
      refine g_iload_n 45 C dX8_of_44 rfl (j := 1) rfl rfl ?_
      refine g_iald 46 C rfl dX8_of_45 rfl h (fun h => ?_)
      refine g_goto 69 C dX8_of_46 (by decide) ?_
      exact g_sub [] (tX8_of_L69 (s0 := ((up2 σ 0 2 s1) 2 l1.toNatClampNeg)) (σ := up2 σ 0 2 s1) C K0 h) rfl
    · refine g_iload_n 50 C dX8_of_49 rfl (j := 2) rfl rfl ?_
      refine g_iconst 51 (v := 1) C dX8_of_50 (by decide) rfl ?_
      refine g_icmp_ne 63 54 C dX8_of_51 (by decide) rfl h (fun h => ?_) (fun h => ?_)
      · refine g_aload_n 55 C dX8_of_54 rfl (j := 0) rfl rfl ?_
        refine g_getr 58 (j := 4) C rfl rfl wu_X8 (by decide) wf_X8_17 rfl dX8_of_55 rfl ?_
        refine g_iload_n 59 C dX8_of_58 rfl (j := 1) rfl rfl ?_
        refine g_iald 60 C rfl dX8_of_59 rfl h (fun h => ?_)
        refine g_goto 69 C dX8_of_60 (by decide) ?_
        exact g_sub [] (tX8_of_L69 (s0 := ((up2 σ 0 2 s1) 3 l1.toNatClampNeg)) (σ := up2 σ 0 2 s1) C K0 h) rfl
      · refine g_aload_n 64 C dX8_of_63 rfl (j := 0) rfl rfl ?_
        refine g_getr 67 (j := 5) C rfl rfl wu_X8 (by decide) wf_X8_20 rfl dX8_of_64 rfl ?_
        refine g_iload_n 68 C dX8_of_67 rfl (j := 1) rfl rfl ?_
        refine g_iald 69 C rfl dX8_of_68 rfl h (fun h => ?_)
        exact g_sub [] (tX8_of_L69 (s0 := ((up2 σ 0 2 s1) 4 l1.toNatClampNeg)) (σ := up2 σ 0 2 s1) C K0 h) rfl
noncomputable def fX8_of_L22 (l1 : Int32) (l2 : Int32) (σ : Mem) : Option (Int32 × Mem) :=
  fX8_of_L23 l1 l2 1 σ
set_option maxHeartbeats 4000000 in
set_option maxRecDepth 100000 in
theorem tX8_of_L22 {E : Gx} {cI : ClassId} {ad : Nat → Nat} (C : Cx E rmX8_of cI layM ad 3 RX8 cX8_of) {out : Int32 × Mem} (K0 : KI E rmX8_of cI layM ad 3 cX8_of .int out) {l1 : Int32} {l2 : Int32} {σ : Mem} (h : fX8_of_L22 l1 l2 σ = some out) : G E rmX8_of cI layM ad 3 22 [(0, .ref (ad 0)), (1, .int l1), (2, .int l2)] [.ref (ad 0)] σ := by
  unfold fX8_of_L22 at h
  refine g_iconst 23 (v := 1) C dX8_of_22 (by decide) rfl ?_
  exact tX8_of_L23 (l1 := l1) (l2 := l2) (s1 := 1) (σ := σ) C K0 h
noncomputable def fX8_of (a1 : Int32) (a2 : Int32) (σ : Mem) : Option (Int32 × Mem) :=
  (fX8_isName a1 σ).bind fun o1 =>
  if o1.1 = 0 then
    fX8_of_L22 a1 a2 o1.2
  else
    (fX8_isIn a2 0 2 o1.2).bind fun o2 =>
    if o2.1 = 0 then
      fX8_of_L22 a1 a2 o2.2
    else
      fX8_of_L23 a1 a2 0 o2.2
set_option maxHeartbeats 4000000 in
set_option maxRecDepth 100000 in
theorem mX8_of {l : Launch} {D : va_G} {cI : ClassId} {ad : Nat → Nat} {a1 : Int32} {a2 : Int32} {σ : Mem} {out : Int32 × Mem} (h : fX8_of a1 a2 σ = some out) : MI l D cI layM ad yX8_of cX8_of 3 .int rmX8_of [.ref (ad 0), .int a1, .int a2] σ out := by
  refine met_i (by decide) (Nat.le_of_ble_eq_true rfl) (fun E C K0 => ?_)
  show G E rmX8_of cI layM ad 3 0 [(0, .ref (ad 0)), (1, .int a1), (2, .int a2)] [] σ
  unfold fX8_of at h
  refine g_aload_n 1 C dX8_of_0 rfl (j := 0) rfl rfl ?_
  refine g_aload_n 2 C dX8_of_1 rfl (j := 0) rfl rfl ?_
  refine g_iload_n 3 C dX8_of_2 rfl (j := 1) rfl rfl ?_
  refine g_cvi 6 C (As := [.int a1]) (fun _ h => mX8_isName (a1 := a1) (σ := σ) h) wl_X8_95 wi_X8_isName wz_X8_isName wc_X8_isName wn_X8 qX8_isName rfl rfl ⟨Nat.le_of_ble_eq_true rfl, Nat.le_of_ble_eq_true rfl⟩ rfl rfl rfl rfl (Nat.le_of_ble_eq_true rfl) dX8_of_3 rfl h (fun o1 h => ?_)
  refine g_if_eq 22 9 C dX8_of_6 (by decide) rfl h (fun h => ?_) (fun h => ?_)
  · exact tX8_of_L22 (l1 := a1) (l2 := a2) (σ := o1.2) C K0 h
  · refine g_iload_n 10 C dX8_of_9 rfl (j := 2) rfl rfl ?_
    refine g_iconst 11 (v := 0) C dX8_of_10 (by decide) rfl ?_
    refine g_iconst 12 (v := 2) C dX8_of_11 (by decide) rfl ?_
    refine g_csi 15 C (As := [.int a2, .int 0, .int 2]) (fun _ h => mX8_isIn (a1 := a2) (a2 := 0) (a3 := 2) (σ := o1.2) h) wl_X8_75 ws_X8_isIn wc_X8_isIn wn_X8 qX8_isIn rfl rfl ⟨Nat.le_of_ble_eq_true rfl, Nat.le_of_ble_eq_true rfl⟩ rfl rfl (Nat.le_of_ble_eq_true rfl) dX8_of_12 rfl h (fun o2 h => ?_)
    refine g_if_eq 22 18 C dX8_of_15 (by decide) rfl h (fun h => ?_) (fun h => ?_)
    · exact tX8_of_L22 (l1 := a1) (l2 := a2) (σ := o2.2) C K0 h
    · refine g_iconst 19 (v := 0) C dX8_of_18 (by decide) rfl ?_
      refine g_goto 23 C dX8_of_19 (by decide) ?_
      exact tX8_of_L23 (l1 := a1) (l2 := a2) (s1 := 0) (σ := o2.2) C K0 h

/-! LoopReducerModel.direct(I)I -/
abbrev rmX8_direct : Room := { frames := 0, cells := 0, slots := 0, locals := 0 }
theorem qX8_direct : yX8_direct.cls ≠ "java/lang/invoke/MethodHandle" ∧ yX8_direct.cls ≠ "java/lang/invoke/VarHandle" ∧ (parseMethodDescriptor yX8_direct.desc).map (fun d => d.parameters.length) = some 1 := by decide +kernel
theorem DX8_direct : ∀ q ∈ ([(0, .aload_n 0, 1), (1, .getfield 14, 3), (4, .iload_n 1, 1), (5, .iaload, 1), (6, .iconst 5, 1), (7, .if_icmp .ne 14, 3), (10, .iconst 1, 1), (11, .aload_n 0, 1), (12, .getfield 20, 3), (15, .iload_n 1, 1), (16, .iaload, 1), (17, .ishl, 1), (18, .goto 34, 3), (21, .aload_n 0, 1), (22, .getfield 14, 3), (25, .iload_n 1, 1), (26, .iaload, 1), (27, .iconst 1, 1), (28, .if_icmp .le 23, 3), (31, .iconst 1, 1), (32, .aload_n 0, 1), (33, .getfield 17, 3), (36, .iload_n 1, 1), (37, .iaload, 1), (38, .ishl, 1), (39, .iconst 1, 1), (40, .aload_n 0, 1), (41, .getfield 20, 3), (44, .iload_n 1, 1), (45, .iaload, 1), (46, .ishl, 1), (47, .ior, 1), (48, .goto 4, 3), (51, .iconst 0, 1), (52, .ireturn, 1)] : List (Nat × Instr × Nat)), decode cX8_direct q.1 = .ok q.2 := by decide +kernel
theorem dX8_direct_0 : decode cX8_direct 0 = .ok (.aload_n 0, 1) := DX8_direct (0, .aload_n 0, 1) (List.mem_of_getElem? (i := 0) rfl)
theorem dX8_direct_1 : decode cX8_direct 1 = .ok (.getfield 14, 3) := DX8_direct (1, .getfield 14, 3) (List.mem_of_getElem? (i := 1) rfl)
theorem dX8_direct_4 : decode cX8_direct 4 = .ok (.iload_n 1, 1) := DX8_direct (4, .iload_n 1, 1) (List.mem_of_getElem? (i := 2) rfl)
theorem dX8_direct_5 : decode cX8_direct 5 = .ok (.iaload, 1) := DX8_direct (5, .iaload, 1) (List.mem_of_getElem? (i := 3) rfl)
theorem dX8_direct_6 : decode cX8_direct 6 = .ok (.iconst 5, 1) := DX8_direct (6, .iconst 5, 1) (List.mem_of_getElem? (i := 4) rfl)
theorem dX8_direct_7 : decode cX8_direct 7 = .ok (.if_icmp .ne 14, 3) := DX8_direct (7, .if_icmp .ne 14, 3) (List.mem_of_getElem? (i := 5) rfl)
theorem dX8_direct_10 : decode cX8_direct 10 = .ok (.iconst 1, 1) := DX8_direct (10, .iconst 1, 1) (List.mem_of_getElem? (i := 6) rfl)
theorem dX8_direct_11 : decode cX8_direct 11 = .ok (.aload_n 0, 1) := DX8_direct (11, .aload_n 0, 1) (List.mem_of_getElem? (i := 7) rfl)
theorem dX8_direct_12 : decode cX8_direct 12 = .ok (.getfield 20, 3) := DX8_direct (12, .getfield 20, 3) (List.mem_of_getElem? (i := 8) rfl)
theorem dX8_direct_15 : decode cX8_direct 15 = .ok (.iload_n 1, 1) := DX8_direct (15, .iload_n 1, 1) (List.mem_of_getElem? (i := 9) rfl)
theorem dX8_direct_16 : decode cX8_direct 16 = .ok (.iaload, 1) := DX8_direct (16, .iaload, 1) (List.mem_of_getElem? (i := 10) rfl)
theorem dX8_direct_17 : decode cX8_direct 17 = .ok (.ishl, 1) := DX8_direct (17, .ishl, 1) (List.mem_of_getElem? (i := 11) rfl)
theorem dX8_direct_18 : decode cX8_direct 18 = .ok (.goto 34, 3) := DX8_direct (18, .goto 34, 3) (List.mem_of_getElem? (i := 12) rfl)
theorem dX8_direct_21 : decode cX8_direct 21 = .ok (.aload_n 0, 1) := DX8_direct (21, .aload_n 0, 1) (List.mem_of_getElem? (i := 13) rfl)
theorem dX8_direct_22 : decode cX8_direct 22 = .ok (.getfield 14, 3) := DX8_direct (22, .getfield 14, 3) (List.mem_of_getElem? (i := 14) rfl)
theorem dX8_direct_25 : decode cX8_direct 25 = .ok (.iload_n 1, 1) := DX8_direct (25, .iload_n 1, 1) (List.mem_of_getElem? (i := 15) rfl)
theorem dX8_direct_26 : decode cX8_direct 26 = .ok (.iaload, 1) := DX8_direct (26, .iaload, 1) (List.mem_of_getElem? (i := 16) rfl)
theorem dX8_direct_27 : decode cX8_direct 27 = .ok (.iconst 1, 1) := DX8_direct (27, .iconst 1, 1) (List.mem_of_getElem? (i := 17) rfl)
theorem dX8_direct_28 : decode cX8_direct 28 = .ok (.if_icmp .le 23, 3) := DX8_direct (28, .if_icmp .le 23, 3) (List.mem_of_getElem? (i := 18) rfl)
theorem dX8_direct_31 : decode cX8_direct 31 = .ok (.iconst 1, 1) := DX8_direct (31, .iconst 1, 1) (List.mem_of_getElem? (i := 19) rfl)
theorem dX8_direct_32 : decode cX8_direct 32 = .ok (.aload_n 0, 1) := DX8_direct (32, .aload_n 0, 1) (List.mem_of_getElem? (i := 20) rfl)
theorem dX8_direct_33 : decode cX8_direct 33 = .ok (.getfield 17, 3) := DX8_direct (33, .getfield 17, 3) (List.mem_of_getElem? (i := 21) rfl)
theorem dX8_direct_36 : decode cX8_direct 36 = .ok (.iload_n 1, 1) := DX8_direct (36, .iload_n 1, 1) (List.mem_of_getElem? (i := 22) rfl)
theorem dX8_direct_37 : decode cX8_direct 37 = .ok (.iaload, 1) := DX8_direct (37, .iaload, 1) (List.mem_of_getElem? (i := 23) rfl)
theorem dX8_direct_38 : decode cX8_direct 38 = .ok (.ishl, 1) := DX8_direct (38, .ishl, 1) (List.mem_of_getElem? (i := 24) rfl)
theorem dX8_direct_39 : decode cX8_direct 39 = .ok (.iconst 1, 1) := DX8_direct (39, .iconst 1, 1) (List.mem_of_getElem? (i := 25) rfl)
theorem dX8_direct_40 : decode cX8_direct 40 = .ok (.aload_n 0, 1) := DX8_direct (40, .aload_n 0, 1) (List.mem_of_getElem? (i := 26) rfl)
theorem dX8_direct_41 : decode cX8_direct 41 = .ok (.getfield 20, 3) := DX8_direct (41, .getfield 20, 3) (List.mem_of_getElem? (i := 27) rfl)
theorem dX8_direct_44 : decode cX8_direct 44 = .ok (.iload_n 1, 1) := DX8_direct (44, .iload_n 1, 1) (List.mem_of_getElem? (i := 28) rfl)
theorem dX8_direct_45 : decode cX8_direct 45 = .ok (.iaload, 1) := DX8_direct (45, .iaload, 1) (List.mem_of_getElem? (i := 29) rfl)
theorem dX8_direct_46 : decode cX8_direct 46 = .ok (.ishl, 1) := DX8_direct (46, .ishl, 1) (List.mem_of_getElem? (i := 30) rfl)
theorem dX8_direct_47 : decode cX8_direct 47 = .ok (.ior, 1) := DX8_direct (47, .ior, 1) (List.mem_of_getElem? (i := 31) rfl)
theorem dX8_direct_48 : decode cX8_direct 48 = .ok (.goto 4, 3) := DX8_direct (48, .goto 4, 3) (List.mem_of_getElem? (i := 32) rfl)
theorem dX8_direct_51 : decode cX8_direct 51 = .ok (.iconst 0, 1) := DX8_direct (51, .iconst 0, 1) (List.mem_of_getElem? (i := 33) rfl)
theorem dX8_direct_52 : decode cX8_direct 52 = .ok (.ireturn, 1) := DX8_direct (52, .ireturn, 1) (List.mem_of_getElem? (i := 34) rfl)
noncomputable def fX8_direct_L52 (s0 : Int32) (σ : Mem) : Option (Int32 × Mem) :=
  some (s0, σ)
set_option maxHeartbeats 4000000 in
set_option maxRecDepth 100000 in
theorem tX8_direct_L52 {E : Gx} {cI : ClassId} {ad : Nat → Nat} (C : Cx E rmX8_direct cI layM ad 2 RX8 cX8_direct) {out : Int32 × Mem} (K0 : KI E rmX8_direct cI layM ad 2 cX8_direct .int out) {s0 : Int32} {σ : Mem} (h : fX8_direct_L52 s0 σ = some out) : G E rmX8_direct cI layM ad 2 52 [] [.int s0] σ := by
  unfold fX8_direct_L52 at h
  cases h
  exact K0 _ _ dX8_direct_52 rfl
noncomputable def fX8_direct (a1 : Int32) (σ : Mem) : Option (Int32 × Mem) :=
  chk (inb a1 30) <|
  if (σ 2 a1.toNatClampNeg) = 5 then
    chk (inb a1 30) <|
    fX8_direct_L52 (1 <<< ((σ 4 a1.toNatClampNeg) &&& 31)) σ
  else
    chk (inb a1 30) <|
    if (σ 2 a1.toNatClampNeg) ≤ 1 then
      fX8_direct_L52 0 σ
    else
      chk (inb a1 30) <|
      chk (inb a1 30) <|
      fX8_direct_L52 ((1 <<< ((σ 3 a1.toNatClampNeg) &&& 31)) ||| (1 <<< ((σ 4 a1.toNatClampNeg) &&& 31))) σ
set_option maxHeartbeats 4000000 in
set_option maxRecDepth 100000 in
theorem mX8_direct {l : Launch} {D : va_G} {cI : ClassId} {ad : Nat → Nat} {a1 : Int32} {σ : Mem} {out : Int32 × Mem} (h : fX8_direct a1 σ = some out) : MI l D cI layM ad yX8_direct cX8_direct 2 .int rmX8_direct [.ref (ad 0), .int a1] σ out := by
  refine met_i (by decide) (Nat.le_of_ble_eq_true rfl) (fun E C K0 => ?_)
  show G E rmX8_direct cI layM ad 2 0 [(0, .ref (ad 0)), (1, .int a1)] [] σ
  unfold fX8_direct at h
  refine g_aload_n 1 C dX8_direct_0 rfl (j := 0) rfl rfl ?_
  refine g_getr 4 (j := 3) C rfl rfl wu_X8 (by decide) wf_X8_14 rfl dX8_direct_1 rfl ?_
  refine g_iload_n 5 C dX8_direct_4 rfl (j := 1) rfl rfl ?_
  refine g_iald 6 C rfl dX8_direct_5 rfl h (fun h => ?_)
  refine g_iconst 7 (v := 5) C dX8_direct_6 (by decide) rfl ?_
  refine g_icmp_ne 21 10 C dX8_direct_7 (by decide) rfl h (fun h => ?_) (fun h => ?_)
  · refine g_iconst 11 (v := 1) C dX8_direct_10 (by decide) rfl ?_
    refine g_aload_n 12 C dX8_direct_11 rfl (j := 0) rfl rfl ?_
    refine g_getr 15 (j := 5) C rfl rfl wu_X8 (by decide) wf_X8_20 rfl dX8_direct_12 rfl ?_
    refine g_iload_n 16 C dX8_direct_15 rfl (j := 1) rfl rfl ?_
    refine g_iald 17 C rfl dX8_direct_16 rfl h (fun h => ?_)
    refine g_ishl 18 C dX8_direct_17 rfl ?_
    refine g_goto 52 C dX8_direct_18 (by decide) ?_
    exact g_sub [] (tX8_direct_L52 (s0 := (1 <<< ((σ 4 a1.toNatClampNeg) &&& 31))) (σ := σ) C K0 h) rfl
  · refine g_aload_n 22 C dX8_direct_21 rfl (j := 0) rfl rfl ?_
    refine g_getr 25 (j := 3) C rfl rfl wu_X8 (by decide) wf_X8_14 rfl dX8_direct_22 rfl ?_
    refine g_iload_n 26 C dX8_direct_25 rfl (j := 1) rfl rfl ?_
    refine g_iald 27 C rfl dX8_direct_26 rfl h (fun h => ?_)
    refine g_iconst 28 (v := 1) C dX8_direct_27 (by decide) rfl ?_
    refine g_icmp_le 51 31 C dX8_direct_28 (by decide) rfl h (fun h => ?_) (fun h => ?_)
    · refine g_iconst 52 (v := 0) C dX8_direct_51 (by decide) rfl ?_
      exact g_sub [] (tX8_direct_L52 (s0 := 0) (σ := σ) C K0 h) rfl
    · refine g_iconst 32 (v := 1) C dX8_direct_31 (by decide) rfl ?_
      refine g_aload_n 33 C dX8_direct_32 rfl (j := 0) rfl rfl ?_
      refine g_getr 36 (j := 4) C rfl rfl wu_X8 (by decide) wf_X8_17 rfl dX8_direct_33 rfl ?_
      refine g_iload_n 37 C dX8_direct_36 rfl (j := 1) rfl rfl ?_
      refine g_iald 38 C rfl dX8_direct_37 rfl h (fun h => ?_)
      refine g_ishl 39 C dX8_direct_38 rfl ?_
      refine g_iconst 40 (v := 1) C dX8_direct_39 (by decide) rfl ?_
      refine g_aload_n 41 C dX8_direct_40 rfl (j := 0) rfl rfl ?_
      refine g_getr 44 (j := 5) C rfl rfl wu_X8 (by decide) wf_X8_20 rfl dX8_direct_41 rfl ?_
      refine g_iload_n 45 C dX8_direct_44 rfl (j := 1) rfl rfl ?_
      refine g_iald 46 C rfl dX8_direct_45 rfl h (fun h => ?_)
      refine g_ishl 47 C dX8_direct_46 rfl ?_
      refine g_ior 48 C dX8_direct_47 rfl ?_
      refine g_goto 52 C dX8_direct_48 (by decide) ?_
      exact g_sub [] (tX8_direct_L52 (s0 := ((1 <<< ((σ 3 a1.toNatClampNeg) &&& 31)) ||| (1 <<< ((σ 4 a1.toNatClampNeg) &&& 31)))) (σ := σ) C K0 h) rfl

/-! LoopReducerModel.laysHangs()V -/
abbrev rmX8_laysHangs : Room := { frames := 1, cells := 0, slots := 0, locals := 21 }
theorem qX8_laysHangs : yX8_laysHangs.cls ≠ "java/lang/invoke/MethodHandle" ∧ yX8_laysHangs.cls ≠ "java/lang/invoke/VarHandle" ∧ (parseMethodDescriptor yX8_laysHangs.desc).map (fun d => d.parameters.length) = some 0 := by decide +kernel
theorem DX8_laysHangs : ∀ q ∈ ([(0, .iconst 0, 1), (1, .istore_n 1, 1), (2, .iload_n 1, 1), (3, .aload_n 0, 1), (4, .getfield 72, 3), (7, .if_icmp .ge 20, 3), (10, .aload_n 0, 1), (11, .getfield 33, 3), (14, .iload_n 1, 1), (15, .aload_n 0, 1), (16, .iload_n 1, 1), (17, .invokevirtual 109, 3), (20, .iastore, 1), (21, .iinc 1 1, 3), (24, .goto (-22), 3), (27, .iconst 0, 1), (28, .istore_n 1, 1), (29, .iload_n 1, 1), (30, .aload_n 0, 1), (31, .getfield 72, 3), (34, .if_icmp .ge 73, 3), (37, .iconst 0, 1), (38, .istore_n 2, 1), (39, .iload_n 2, 1), (40, .aload_n 0, 1), (41, .getfield 72, 3), (44, .if_icmp .ge 57, 3), (47, .iconst 0, 1), (48, .istore_n 3, 1), (49, .iload_n 3, 1), (50, .aload_n 0, 1), (51, .getfield 72, 3), (54, .if_icmp .ge 41, 3), (57, .aload_n 0, 1), (58, .getfield 33, 3), (61, .iload_n 2, 1), (62, .dup2, 1), (63, .iaload, 1), (64, .aload_n 0, 1), (65, .getfield 33, 3), (68, .iload_n 2, 1), (69, .iaload, 1), (70, .iload_n 3, 1), (71, .invokestatic 102, 3), (74, .ifCond .eq 12, 3), (77, .aload_n 0, 1), (78, .getfield 33, 3), (81, .iload_n 3, 1), (82, .iaload, 1), (83, .goto 4, 3), (86, .iconst 0, 1), (87, .ior, 1), (88, .iastore, 1), (89, .iinc 3 1, 3), (92, .goto (-43), 3), (95, .iinc 2 1, 3), (98, .goto (-59), 3), (101, .iinc 1 1, 3), (104, .goto (-75), 3), (107, .return_, 1)] : List (Nat × Instr × Nat)), decode cX8_laysHangs q.1 = .ok q.2 := by decide +kernel
theorem dX8_laysHangs_0 : decode cX8_laysHangs 0 = .ok (.iconst 0, 1) := DX8_laysHangs (0, .iconst 0, 1) (List.mem_of_getElem? (i := 0) rfl)
theorem dX8_laysHangs_1 : decode cX8_laysHangs 1 = .ok (.istore_n 1, 1) := DX8_laysHangs (1, .istore_n 1, 1) (List.mem_of_getElem? (i := 1) rfl)
theorem dX8_laysHangs_2 : decode cX8_laysHangs 2 = .ok (.iload_n 1, 1) := DX8_laysHangs (2, .iload_n 1, 1) (List.mem_of_getElem? (i := 2) rfl)
theorem dX8_laysHangs_3 : decode cX8_laysHangs 3 = .ok (.aload_n 0, 1) := DX8_laysHangs (3, .aload_n 0, 1) (List.mem_of_getElem? (i := 3) rfl)
theorem dX8_laysHangs_4 : decode cX8_laysHangs 4 = .ok (.getfield 72, 3) := DX8_laysHangs (4, .getfield 72, 3) (List.mem_of_getElem? (i := 4) rfl)
theorem dX8_laysHangs_7 : decode cX8_laysHangs 7 = .ok (.if_icmp .ge 20, 3) := DX8_laysHangs (7, .if_icmp .ge 20, 3) (List.mem_of_getElem? (i := 5) rfl)
theorem dX8_laysHangs_10 : decode cX8_laysHangs 10 = .ok (.aload_n 0, 1) := DX8_laysHangs (10, .aload_n 0, 1) (List.mem_of_getElem? (i := 6) rfl)
theorem dX8_laysHangs_11 : decode cX8_laysHangs 11 = .ok (.getfield 33, 3) := DX8_laysHangs (11, .getfield 33, 3) (List.mem_of_getElem? (i := 7) rfl)
theorem dX8_laysHangs_14 : decode cX8_laysHangs 14 = .ok (.iload_n 1, 1) := DX8_laysHangs (14, .iload_n 1, 1) (List.mem_of_getElem? (i := 8) rfl)
theorem dX8_laysHangs_15 : decode cX8_laysHangs 15 = .ok (.aload_n 0, 1) := DX8_laysHangs (15, .aload_n 0, 1) (List.mem_of_getElem? (i := 9) rfl)
theorem dX8_laysHangs_16 : decode cX8_laysHangs 16 = .ok (.iload_n 1, 1) := DX8_laysHangs (16, .iload_n 1, 1) (List.mem_of_getElem? (i := 10) rfl)
theorem dX8_laysHangs_17 : decode cX8_laysHangs 17 = .ok (.invokevirtual 109, 3) := DX8_laysHangs (17, .invokevirtual 109, 3) (List.mem_of_getElem? (i := 11) rfl)
theorem dX8_laysHangs_20 : decode cX8_laysHangs 20 = .ok (.iastore, 1) := DX8_laysHangs (20, .iastore, 1) (List.mem_of_getElem? (i := 12) rfl)
theorem dX8_laysHangs_21 : decode cX8_laysHangs 21 = .ok (.iinc 1 1, 3) := DX8_laysHangs (21, .iinc 1 1, 3) (List.mem_of_getElem? (i := 13) rfl)
theorem dX8_laysHangs_24 : decode cX8_laysHangs 24 = .ok (.goto (-22), 3) := DX8_laysHangs (24, .goto (-22), 3) (List.mem_of_getElem? (i := 14) rfl)
theorem dX8_laysHangs_27 : decode cX8_laysHangs 27 = .ok (.iconst 0, 1) := DX8_laysHangs (27, .iconst 0, 1) (List.mem_of_getElem? (i := 15) rfl)
theorem dX8_laysHangs_28 : decode cX8_laysHangs 28 = .ok (.istore_n 1, 1) := DX8_laysHangs (28, .istore_n 1, 1) (List.mem_of_getElem? (i := 16) rfl)
theorem dX8_laysHangs_29 : decode cX8_laysHangs 29 = .ok (.iload_n 1, 1) := DX8_laysHangs (29, .iload_n 1, 1) (List.mem_of_getElem? (i := 17) rfl)
theorem dX8_laysHangs_30 : decode cX8_laysHangs 30 = .ok (.aload_n 0, 1) := DX8_laysHangs (30, .aload_n 0, 1) (List.mem_of_getElem? (i := 18) rfl)
theorem dX8_laysHangs_31 : decode cX8_laysHangs 31 = .ok (.getfield 72, 3) := DX8_laysHangs (31, .getfield 72, 3) (List.mem_of_getElem? (i := 19) rfl)
theorem dX8_laysHangs_34 : decode cX8_laysHangs 34 = .ok (.if_icmp .ge 73, 3) := DX8_laysHangs (34, .if_icmp .ge 73, 3) (List.mem_of_getElem? (i := 20) rfl)
theorem dX8_laysHangs_37 : decode cX8_laysHangs 37 = .ok (.iconst 0, 1) := DX8_laysHangs (37, .iconst 0, 1) (List.mem_of_getElem? (i := 21) rfl)
theorem dX8_laysHangs_38 : decode cX8_laysHangs 38 = .ok (.istore_n 2, 1) := DX8_laysHangs (38, .istore_n 2, 1) (List.mem_of_getElem? (i := 22) rfl)
theorem dX8_laysHangs_39 : decode cX8_laysHangs 39 = .ok (.iload_n 2, 1) := DX8_laysHangs (39, .iload_n 2, 1) (List.mem_of_getElem? (i := 23) rfl)
theorem dX8_laysHangs_40 : decode cX8_laysHangs 40 = .ok (.aload_n 0, 1) := DX8_laysHangs (40, .aload_n 0, 1) (List.mem_of_getElem? (i := 24) rfl)
theorem dX8_laysHangs_41 : decode cX8_laysHangs 41 = .ok (.getfield 72, 3) := DX8_laysHangs (41, .getfield 72, 3) (List.mem_of_getElem? (i := 25) rfl)
theorem dX8_laysHangs_44 : decode cX8_laysHangs 44 = .ok (.if_icmp .ge 57, 3) := DX8_laysHangs (44, .if_icmp .ge 57, 3) (List.mem_of_getElem? (i := 26) rfl)
theorem dX8_laysHangs_47 : decode cX8_laysHangs 47 = .ok (.iconst 0, 1) := DX8_laysHangs (47, .iconst 0, 1) (List.mem_of_getElem? (i := 27) rfl)
theorem dX8_laysHangs_48 : decode cX8_laysHangs 48 = .ok (.istore_n 3, 1) := DX8_laysHangs (48, .istore_n 3, 1) (List.mem_of_getElem? (i := 28) rfl)
theorem dX8_laysHangs_49 : decode cX8_laysHangs 49 = .ok (.iload_n 3, 1) := DX8_laysHangs (49, .iload_n 3, 1) (List.mem_of_getElem? (i := 29) rfl)
theorem dX8_laysHangs_50 : decode cX8_laysHangs 50 = .ok (.aload_n 0, 1) := DX8_laysHangs (50, .aload_n 0, 1) (List.mem_of_getElem? (i := 30) rfl)
theorem dX8_laysHangs_51 : decode cX8_laysHangs 51 = .ok (.getfield 72, 3) := DX8_laysHangs (51, .getfield 72, 3) (List.mem_of_getElem? (i := 31) rfl)
theorem dX8_laysHangs_54 : decode cX8_laysHangs 54 = .ok (.if_icmp .ge 41, 3) := DX8_laysHangs (54, .if_icmp .ge 41, 3) (List.mem_of_getElem? (i := 32) rfl)
theorem dX8_laysHangs_57 : decode cX8_laysHangs 57 = .ok (.aload_n 0, 1) := DX8_laysHangs (57, .aload_n 0, 1) (List.mem_of_getElem? (i := 33) rfl)
theorem dX8_laysHangs_58 : decode cX8_laysHangs 58 = .ok (.getfield 33, 3) := DX8_laysHangs (58, .getfield 33, 3) (List.mem_of_getElem? (i := 34) rfl)
theorem dX8_laysHangs_61 : decode cX8_laysHangs 61 = .ok (.iload_n 2, 1) := DX8_laysHangs (61, .iload_n 2, 1) (List.mem_of_getElem? (i := 35) rfl)
theorem dX8_laysHangs_62 : decode cX8_laysHangs 62 = .ok (.dup2, 1) := DX8_laysHangs (62, .dup2, 1) (List.mem_of_getElem? (i := 36) rfl)
theorem dX8_laysHangs_63 : decode cX8_laysHangs 63 = .ok (.iaload, 1) := DX8_laysHangs (63, .iaload, 1) (List.mem_of_getElem? (i := 37) rfl)
theorem dX8_laysHangs_64 : decode cX8_laysHangs 64 = .ok (.aload_n 0, 1) := DX8_laysHangs (64, .aload_n 0, 1) (List.mem_of_getElem? (i := 38) rfl)
theorem dX8_laysHangs_65 : decode cX8_laysHangs 65 = .ok (.getfield 33, 3) := DX8_laysHangs (65, .getfield 33, 3) (List.mem_of_getElem? (i := 39) rfl)
theorem dX8_laysHangs_68 : decode cX8_laysHangs 68 = .ok (.iload_n 2, 1) := DX8_laysHangs (68, .iload_n 2, 1) (List.mem_of_getElem? (i := 40) rfl)
theorem dX8_laysHangs_69 : decode cX8_laysHangs 69 = .ok (.iaload, 1) := DX8_laysHangs (69, .iaload, 1) (List.mem_of_getElem? (i := 41) rfl)
theorem dX8_laysHangs_70 : decode cX8_laysHangs 70 = .ok (.iload_n 3, 1) := DX8_laysHangs (70, .iload_n 3, 1) (List.mem_of_getElem? (i := 42) rfl)
theorem dX8_laysHangs_71 : decode cX8_laysHangs 71 = .ok (.invokestatic 102, 3) := DX8_laysHangs (71, .invokestatic 102, 3) (List.mem_of_getElem? (i := 43) rfl)
theorem dX8_laysHangs_74 : decode cX8_laysHangs 74 = .ok (.ifCond .eq 12, 3) := DX8_laysHangs (74, .ifCond .eq 12, 3) (List.mem_of_getElem? (i := 44) rfl)
theorem dX8_laysHangs_77 : decode cX8_laysHangs 77 = .ok (.aload_n 0, 1) := DX8_laysHangs (77, .aload_n 0, 1) (List.mem_of_getElem? (i := 45) rfl)
theorem dX8_laysHangs_78 : decode cX8_laysHangs 78 = .ok (.getfield 33, 3) := DX8_laysHangs (78, .getfield 33, 3) (List.mem_of_getElem? (i := 46) rfl)
theorem dX8_laysHangs_81 : decode cX8_laysHangs 81 = .ok (.iload_n 3, 1) := DX8_laysHangs (81, .iload_n 3, 1) (List.mem_of_getElem? (i := 47) rfl)
theorem dX8_laysHangs_82 : decode cX8_laysHangs 82 = .ok (.iaload, 1) := DX8_laysHangs (82, .iaload, 1) (List.mem_of_getElem? (i := 48) rfl)
theorem dX8_laysHangs_83 : decode cX8_laysHangs 83 = .ok (.goto 4, 3) := DX8_laysHangs (83, .goto 4, 3) (List.mem_of_getElem? (i := 49) rfl)
theorem dX8_laysHangs_86 : decode cX8_laysHangs 86 = .ok (.iconst 0, 1) := DX8_laysHangs (86, .iconst 0, 1) (List.mem_of_getElem? (i := 50) rfl)
theorem dX8_laysHangs_87 : decode cX8_laysHangs 87 = .ok (.ior, 1) := DX8_laysHangs (87, .ior, 1) (List.mem_of_getElem? (i := 51) rfl)
theorem dX8_laysHangs_88 : decode cX8_laysHangs 88 = .ok (.iastore, 1) := DX8_laysHangs (88, .iastore, 1) (List.mem_of_getElem? (i := 52) rfl)
theorem dX8_laysHangs_89 : decode cX8_laysHangs 89 = .ok (.iinc 3 1, 3) := DX8_laysHangs (89, .iinc 3 1, 3) (List.mem_of_getElem? (i := 53) rfl)
theorem dX8_laysHangs_92 : decode cX8_laysHangs 92 = .ok (.goto (-43), 3) := DX8_laysHangs (92, .goto (-43), 3) (List.mem_of_getElem? (i := 54) rfl)
theorem dX8_laysHangs_95 : decode cX8_laysHangs 95 = .ok (.iinc 2 1, 3) := DX8_laysHangs (95, .iinc 2 1, 3) (List.mem_of_getElem? (i := 55) rfl)
theorem dX8_laysHangs_98 : decode cX8_laysHangs 98 = .ok (.goto (-59), 3) := DX8_laysHangs (98, .goto (-59), 3) (List.mem_of_getElem? (i := 56) rfl)
theorem dX8_laysHangs_101 : decode cX8_laysHangs 101 = .ok (.iinc 1 1, 3) := DX8_laysHangs (101, .iinc 1 1, 3) (List.mem_of_getElem? (i := 57) rfl)
theorem dX8_laysHangs_104 : decode cX8_laysHangs 104 = .ok (.goto (-75), 3) := DX8_laysHangs (104, .goto (-75), 3) (List.mem_of_getElem? (i := 58) rfl)
theorem dX8_laysHangs_107 : decode cX8_laysHangs 107 = .ok (.return_, 1) := DX8_laysHangs (107, .return_, 1) (List.mem_of_getElem? (i := 59) rfl)
noncomputable def fX8_laysHangs_B2 (l1 : Int32) (σ : Mem) : Option ((Int32 × Mem) ⊕ (Mem)) :=
  if (σ 0 6) ≤ l1 then
    some (.inr σ)
  else
    (fX8_direct l1 σ).bind fun o1 =>
    chk (inb l1 30) <|
    some (.inl (l1 + 1, up2 o1.2 5 l1.toNatClampNeg o1.1))
set_option maxHeartbeats 4000000 in
set_option maxRecDepth 100000 in
theorem tX8_laysHangs_B2 {E : Gx} {cI : ClassId} {ad : Nat → Nat} (C : Cx E rmX8_laysHangs cI layM ad 4 RX8 cX8_laysHangs) {out : Mem} (K0 : KV E rmX8_laysHangs cI layM ad 4 cX8_laysHangs out) {l1 : Int32} {σ : Mem} {res : (Int32 × Mem) ⊕ (Mem)} (h : fX8_laysHangs_B2 l1 σ = some res) (K : Sum.elim (fun a => G E rmX8_laysHangs cI layM ad 4 2 [(0, .ref (ad 0)), (1, .int a.1)] [] a.2) (fun b => G E rmX8_laysHangs cI layM ad 4 27 [(0, .ref (ad 0))] [] b) res) : G E rmX8_laysHangs cI layM ad 4 2 [(0, .ref (ad 0)), (1, .int l1)] [] σ := by
  unfold fX8_laysHangs_B2 at h
  refine g_iload_n 3 C dX8_laysHangs_2 rfl (j := 1) rfl rfl ?_
  refine g_aload_n 4 C dX8_laysHangs_3 rfl (j := 0) rfl rfl ?_
  refine g_geti 7 (j := 6) C rfl rfl wu_X8 (by decide) wf_X8_72 rfl dX8_laysHangs_4 rfl ?_
  refine g_icmp_ge 27 10 C dX8_laysHangs_7 (by decide) rfl h (fun h => ?_) (fun h => ?_)
  · have hh := end_inr h K
    exact g_sub [0] (hh) rfl
  · refine g_aload_n 11 C dX8_laysHangs_10 rfl (j := 0) rfl rfl ?_
    refine g_getr 14 (j := 12) C rfl rfl wu_X8 (by decide) wf_X8_33 rfl dX8_laysHangs_11 rfl ?_
    refine g_iload_n 15 C dX8_laysHangs_14 rfl (j := 1) rfl rfl ?_
    refine g_aload_n 16 C dX8_laysHangs_15 rfl (j := 0) rfl rfl ?_
    refine g_iload_n 17 C dX8_laysHangs_16 rfl (j := 1) rfl rfl ?_
    refine g_cvi 20 C (As := [.int l1]) (fun _ h => mX8_direct (a1 := l1) (σ := σ) h) wl_X8_109 wi_X8_direct wz_X8_direct wc_X8_direct wn_X8 qX8_direct rfl rfl ⟨Nat.le_of_ble_eq_true rfl, Nat.le_of_ble_eq_true rfl⟩ rfl rfl rfl rfl (Nat.le_of_ble_eq_true rfl) dX8_laysHangs_17 rfl h (fun o1 h => ?_)
    refine g_iast 21 C rfl dX8_laysHangs_20 rfl h (fun h => ?_)
    refine g_iinc 24 [(1, .int (l1 + 1)), (0, .ref (ad 0))] C dX8_laysHangs_21 (j := 1) rfl (by rfl) (by decide) rfl rfl ?_
    refine g_goto 2 C dX8_laysHangs_24 (by decide) ?_
    have hh := end_inl h K
    exact g_sub [1, 0] (hh) rfl
noncomputable def fX8_laysHangs_L87 (l1 : Int32) (l2 : Int32) (l3 : Int32) (s1 : Int32) (s2 : Int32) (s3 : Int32) (σ : Mem) : Option ((Int32 × Mem) ⊕ (Mem)) :=
  chk (inb s1 30) <|
  some (.inl (l3 + 1, up2 σ 5 s1.toNatClampNeg (s2 ||| s3)))
set_option maxHeartbeats 4000000 in
set_option maxRecDepth 100000 in
theorem tX8_laysHangs_L87 {E : Gx} {cI : ClassId} {ad : Nat → Nat} (C : Cx E rmX8_laysHangs cI layM ad 4 RX8 cX8_laysHangs) {out : Mem} (K0 : KV E rmX8_laysHangs cI layM ad 4 cX8_laysHangs out) {l1 : Int32} {l2 : Int32} {l3 : Int32} {s1 : Int32} {s2 : Int32} {s3 : Int32} {σ : Mem} {res : (Int32 × Mem) ⊕ (Mem)} (h : fX8_laysHangs_L87 l1 l2 l3 s1 s2 s3 σ = some res) (K : Sum.elim (fun a => G E rmX8_laysHangs cI layM ad 4 49 [(0, .ref (ad 0)), (1, .int l1), (2, .int l2), (3, .int a.1)] [] a.2) (fun b => G E rmX8_laysHangs cI layM ad 4 95 [(0, .ref (ad 0)), (1, .int l1), (2, .int l2)] [] b) res) : G E rmX8_laysHangs cI layM ad 4 87 [(0, .ref (ad 0)), (1, .int l1), (2, .int l2), (3, .int l3)] [.int s3, .int s2, .int s1, .ref (ad 5)] σ := by
  unfold fX8_laysHangs_L87 at h
  refine g_ior 88 C dX8_laysHangs_87 rfl ?_
  refine g_iast 89 C rfl dX8_laysHangs_88 rfl h (fun h => ?_)
  refine g_iinc 92 [(3, .int (l3 + 1)), (0, .ref (ad 0)), (1, .int l1), (2, .int l2)] C dX8_laysHangs_89 (j := 3) rfl (by rfl) (by decide) rfl rfl ?_
  refine g_goto 49 C dX8_laysHangs_92 (by decide) ?_
  have hh := end_inl h K
  exact g_sub [1, 2, 3, 0] (hh) rfl
noncomputable def fX8_laysHangs_B49 (l1 : Int32) (l2 : Int32) (l3 : Int32) (σ : Mem) : Option ((Int32 × Mem) ⊕ (Mem)) :=
  if (σ 0 6) ≤ l3 then
    some (.inr σ)
  else
    chk (inb l2 30) <|
    chk (inb l2 30) <|
    (fX8_has (σ 5 l2.toNatClampNeg) l3 σ).bind fun o3 =>
    if o3.1 = 0 then
      fX8_laysHangs_L87 l1 l2 l3 l2 (σ 5 l2.toNatClampNeg) 0 o3.2
    else
      chk (inb l3 30) <|
      fX8_laysHangs_L87 l1 l2 l3 l2 (σ 5 l2.toNatClampNeg) (o3.2 5 l3.toNatClampNeg) o3.2
set_option maxHeartbeats 4000000 in
set_option maxRecDepth 100000 in
theorem tX8_laysHangs_B49 {E : Gx} {cI : ClassId} {ad : Nat → Nat} (C : Cx E rmX8_laysHangs cI layM ad 4 RX8 cX8_laysHangs) {out : Mem} (K0 : KV E rmX8_laysHangs cI layM ad 4 cX8_laysHangs out) {l1 : Int32} {l2 : Int32} {l3 : Int32} {σ : Mem} {res : (Int32 × Mem) ⊕ (Mem)} (h : fX8_laysHangs_B49 l1 l2 l3 σ = some res) (K : Sum.elim (fun a => G E rmX8_laysHangs cI layM ad 4 49 [(0, .ref (ad 0)), (1, .int l1), (2, .int l2), (3, .int a.1)] [] a.2) (fun b => G E rmX8_laysHangs cI layM ad 4 95 [(0, .ref (ad 0)), (1, .int l1), (2, .int l2)] [] b) res) : G E rmX8_laysHangs cI layM ad 4 49 [(0, .ref (ad 0)), (1, .int l1), (2, .int l2), (3, .int l3)] [] σ := by
  unfold fX8_laysHangs_B49 at h
  refine g_iload_n 50 C dX8_laysHangs_49 rfl (j := 3) rfl rfl ?_
  refine g_aload_n 51 C dX8_laysHangs_50 rfl (j := 0) rfl rfl ?_
  refine g_geti 54 (j := 6) C rfl rfl wu_X8 (by decide) wf_X8_72 rfl dX8_laysHangs_51 rfl ?_
  refine g_icmp_ge 95 57 C dX8_laysHangs_54 (by decide) rfl h (fun h => ?_) (fun h => ?_)
  · have hh := end_inr h K
    exact g_sub [0, 1, 2] (hh) rfl
  · refine g_aload_n 58 C dX8_laysHangs_57 rfl (j := 0) rfl rfl ?_
    refine g_getr 61 (j := 12) C rfl rfl wu_X8 (by decide) wf_X8_33 rfl dX8_laysHangs_58 rfl ?_
    refine g_iload_n 62 C dX8_laysHangs_61 rfl (j := 2) rfl rfl ?_
    refine g_dup2 63 C dX8_laysHangs_62 rfl rfl rfl ?_
    refine g_iald 64 C rfl dX8_laysHangs_63 rfl h (fun h => ?_)
    refine g_aload_n 65 C dX8_laysHangs_64 rfl (j := 0) rfl rfl ?_
    refine g_getr 68 (j := 12) C rfl rfl wu_X8 (by decide) wf_X8_33 rfl dX8_laysHangs_65 rfl ?_
    refine g_iload_n 69 C dX8_laysHangs_68 rfl (j := 2) rfl rfl ?_
    refine g_iald 70 C rfl dX8_laysHangs_69 rfl h (fun h => ?_)
    refine g_iload_n 71 C dX8_laysHangs_70 rfl (j := 3) rfl rfl ?_
    refine g_csi 74 C (As := [.int (σ 5 l2.toNatClampNeg), .int l3]) (fun _ h => mX8_has (a1 := σ 5 l2.toNatClampNeg) (a2 := l3) (σ := σ) h) wl_X8_102 ws_X8_has wc_X8_has wn_X8 qX8_has rfl rfl ⟨Nat.le_of_ble_eq_true rfl, Nat.le_of_ble_eq_true rfl⟩ rfl rfl (Nat.le_of_ble_eq_true rfl) dX8_laysHangs_71 rfl h (fun o3 h => ?_)
    refine g_if_eq 86 77 C dX8_laysHangs_74 (by decide) rfl h (fun h => ?_) (fun h => ?_)
    · refine g_iconst 87 (v := 0) C dX8_laysHangs_86 (by decide) rfl ?_
      exact tX8_laysHangs_L87 (l1 := l1) (l2 := l2) (l3 := l3) (s1 := l2) (s2 := (σ 5 l2.toNatClampNeg)) (s3 := 0) (σ := o3.2) C K0 h K
    · refine g_aload_n 78 C dX8_laysHangs_77 rfl (j := 0) rfl rfl ?_
      refine g_getr 81 (j := 12) C rfl rfl wu_X8 (by decide) wf_X8_33 rfl dX8_laysHangs_78 rfl ?_
      refine g_iload_n 82 C dX8_laysHangs_81 rfl (j := 3) rfl rfl ?_
      refine g_iald 83 C rfl dX8_laysHangs_82 rfl h (fun h => ?_)
      refine g_goto 87 C dX8_laysHangs_83 (by decide) ?_
      exact tX8_laysHangs_L87 (l1 := l1) (l2 := l2) (l3 := l3) (s1 := l2) (s2 := (σ 5 l2.toNatClampNeg)) (s3 := (o3.2 5 l3.toNatClampNeg)) (σ := o3.2) C K0 h K
noncomputable def fX8_laysHangs_L95 (l1 : Int32) (l2 : Int32) (σ : Mem) : Option ((Int32 × Mem) ⊕ (Mem)) :=
  some (.inl (l2 + 1, σ))
set_option maxHeartbeats 4000000 in
set_option maxRecDepth 100000 in
theorem tX8_laysHangs_L95 {E : Gx} {cI : ClassId} {ad : Nat → Nat} (C : Cx E rmX8_laysHangs cI layM ad 4 RX8 cX8_laysHangs) {out : Mem} (K0 : KV E rmX8_laysHangs cI layM ad 4 cX8_laysHangs out) {l1 : Int32} {l2 : Int32} {σ : Mem} {res : (Int32 × Mem) ⊕ (Mem)} (h : fX8_laysHangs_L95 l1 l2 σ = some res) (K : Sum.elim (fun a => G E rmX8_laysHangs cI layM ad 4 39 [(0, .ref (ad 0)), (1, .int l1), (2, .int a.1)] [] a.2) (fun b => G E rmX8_laysHangs cI layM ad 4 101 [(0, .ref (ad 0)), (1, .int l1)] [] b) res) : G E rmX8_laysHangs cI layM ad 4 95 [(0, .ref (ad 0)), (1, .int l1), (2, .int l2)] [] σ := by
  unfold fX8_laysHangs_L95 at h
  refine g_iinc 98 [(2, .int (l2 + 1)), (0, .ref (ad 0)), (1, .int l1)] C dX8_laysHangs_95 (j := 2) rfl (by rfl) (by decide) rfl rfl ?_
  refine g_goto 39 C dX8_laysHangs_98 (by decide) ?_
  have hh := end_inl h K
  exact g_sub [1, 2, 0] (hh) rfl
noncomputable def fX8_laysHangs_B39 (l1 : Int32) (l2 : Int32) (σ : Mem) : Option ((Int32 × Mem) ⊕ (Mem)) :=
  if (σ 0 6) ≤ l2 then
    some (.inr σ)
  else
    (loop (fun a => fX8_laysHangs_B49 l1 l2 a.1 a.2) (0, σ)).bind fun b4 =>
    fX8_laysHangs_L95 l1 l2 b4
set_option maxHeartbeats 4000000 in
set_option maxRecDepth 100000 in
theorem tX8_laysHangs_B39 {E : Gx} {cI : ClassId} {ad : Nat → Nat} (C : Cx E rmX8_laysHangs cI layM ad 4 RX8 cX8_laysHangs) {out : Mem} (K0 : KV E rmX8_laysHangs cI layM ad 4 cX8_laysHangs out) {l1 : Int32} {l2 : Int32} {σ : Mem} {res : (Int32 × Mem) ⊕ (Mem)} (h : fX8_laysHangs_B39 l1 l2 σ = some res) (K : Sum.elim (fun a => G E rmX8_laysHangs cI layM ad 4 39 [(0, .ref (ad 0)), (1, .int l1), (2, .int a.1)] [] a.2) (fun b => G E rmX8_laysHangs cI layM ad 4 101 [(0, .ref (ad 0)), (1, .int l1)] [] b) res) : G E rmX8_laysHangs cI layM ad 4 39 [(0, .ref (ad 0)), (1, .int l1), (2, .int l2)] [] σ := by
  unfold fX8_laysHangs_B39 at h
  refine g_iload_n 40 C dX8_laysHangs_39 rfl (j := 2) rfl rfl ?_
  refine g_aload_n 41 C dX8_laysHangs_40 rfl (j := 0) rfl rfl ?_
  refine g_geti 44 (j := 6) C rfl rfl wu_X8 (by decide) wf_X8_72 rfl dX8_laysHangs_41 rfl ?_
  refine g_icmp_ge 101 47 C dX8_laysHangs_44 (by decide) rfl h (fun h => ?_) (fun h => ?_)
  · have hh := end_inr h K
    exact g_sub [0, 1] (hh) rfl
  · refine g_iconst 48 (v := 0) C dX8_laysHangs_47 (by decide) rfl ?_
    refine g_istore_n 49 [(3, .int 0), (0, .ref (ad 0)), (1, .int l1), (2, .int l2)] C dX8_laysHangs_48 rfl (by decide) rfl rfl ?_
    obtain ⟨b4, hb, h⟩ := bind_some h
    refine g_sub [1, 2, 3, 0] (g_loop (a := (0, σ)) (fun a => G E rmX8_laysHangs cI layM ad 4 49 [(0, .ref (ad 0)), (1, .int l1), (2, .int l2), (3, .int a.1)] [] a.2) (fun b => G E rmX8_laysHangs cI layM ad 4 95 [(0, .ref (ad 0)), (1, .int l1), (2, .int l2)] [] b) hb (fun a res h K => tX8_laysHangs_B49 (l1 := l1) (l2 := l2) (l3 := a.1) (σ := a.2) (res := res) C K0 h K) ?_) rfl
    show G E rmX8_laysHangs cI layM ad 4 95 [(0, .ref (ad 0)), (1, .int l1), (2, .int l2)] [] b4
    exact tX8_laysHangs_L95 (l1 := l1) (l2 := l2) (σ := b4) C K0 h K
noncomputable def fX8_laysHangs_L101 (l1 : Int32) (σ : Mem) : Option ((Int32 × Mem) ⊕ (Mem)) :=
  some (.inl (l1 + 1, σ))
set_option maxHeartbeats 4000000 in
set_option maxRecDepth 100000 in
theorem tX8_laysHangs_L101 {E : Gx} {cI : ClassId} {ad : Nat → Nat} (C : Cx E rmX8_laysHangs cI layM ad 4 RX8 cX8_laysHangs) {out : Mem} (K0 : KV E rmX8_laysHangs cI layM ad 4 cX8_laysHangs out) {l1 : Int32} {σ : Mem} {res : (Int32 × Mem) ⊕ (Mem)} (h : fX8_laysHangs_L101 l1 σ = some res) (K : Sum.elim (fun a => G E rmX8_laysHangs cI layM ad 4 29 [(0, .ref (ad 0)), (1, .int a.1)] [] a.2) (fun b => G E rmX8_laysHangs cI layM ad 4 107 [] [] b) res) : G E rmX8_laysHangs cI layM ad 4 101 [(0, .ref (ad 0)), (1, .int l1)] [] σ := by
  unfold fX8_laysHangs_L101 at h
  refine g_iinc 104 [(1, .int (l1 + 1)), (0, .ref (ad 0))] C dX8_laysHangs_101 (j := 1) rfl (by rfl) (by decide) rfl rfl ?_
  refine g_goto 29 C dX8_laysHangs_104 (by decide) ?_
  have hh := end_inl h K
  exact g_sub [1, 0] (hh) rfl
noncomputable def fX8_laysHangs_B29 (l1 : Int32) (σ : Mem) : Option ((Int32 × Mem) ⊕ (Mem)) :=
  if (σ 0 6) ≤ l1 then
    some (.inr σ)
  else
    (loop (fun a => fX8_laysHangs_B39 l1 a.1 a.2) (0, σ)).bind fun b5 =>
    fX8_laysHangs_L101 l1 b5
set_option maxHeartbeats 4000000 in
set_option maxRecDepth 100000 in
theorem tX8_laysHangs_B29 {E : Gx} {cI : ClassId} {ad : Nat → Nat} (C : Cx E rmX8_laysHangs cI layM ad 4 RX8 cX8_laysHangs) {out : Mem} (K0 : KV E rmX8_laysHangs cI layM ad 4 cX8_laysHangs out) {l1 : Int32} {σ : Mem} {res : (Int32 × Mem) ⊕ (Mem)} (h : fX8_laysHangs_B29 l1 σ = some res) (K : Sum.elim (fun a => G E rmX8_laysHangs cI layM ad 4 29 [(0, .ref (ad 0)), (1, .int a.1)] [] a.2) (fun b => G E rmX8_laysHangs cI layM ad 4 107 [] [] b) res) : G E rmX8_laysHangs cI layM ad 4 29 [(0, .ref (ad 0)), (1, .int l1)] [] σ := by
  unfold fX8_laysHangs_B29 at h
  refine g_iload_n 30 C dX8_laysHangs_29 rfl (j := 1) rfl rfl ?_
  refine g_aload_n 31 C dX8_laysHangs_30 rfl (j := 0) rfl rfl ?_
  refine g_geti 34 (j := 6) C rfl rfl wu_X8 (by decide) wf_X8_72 rfl dX8_laysHangs_31 rfl ?_
  refine g_icmp_ge 107 37 C dX8_laysHangs_34 (by decide) rfl h (fun h => ?_) (fun h => ?_)
  · have hh := end_inr h K
    exact g_sub [] (hh) rfl
  · refine g_iconst 38 (v := 0) C dX8_laysHangs_37 (by decide) rfl ?_
    refine g_istore_n 39 [(2, .int 0), (0, .ref (ad 0)), (1, .int l1)] C dX8_laysHangs_38 rfl (by decide) rfl rfl ?_
    obtain ⟨b5, hb, h⟩ := bind_some h
    refine g_sub [1, 2, 0] (g_loop (a := (0, σ)) (fun a => G E rmX8_laysHangs cI layM ad 4 39 [(0, .ref (ad 0)), (1, .int l1), (2, .int a.1)] [] a.2) (fun b => G E rmX8_laysHangs cI layM ad 4 101 [(0, .ref (ad 0)), (1, .int l1)] [] b) hb (fun a res h K => tX8_laysHangs_B39 (l1 := l1) (l2 := a.1) (σ := a.2) (res := res) C K0 h K) ?_) rfl
    show G E rmX8_laysHangs cI layM ad 4 101 [(0, .ref (ad 0)), (1, .int l1)] [] b5
    exact tX8_laysHangs_L101 (l1 := l1) (σ := b5) C K0 h K
noncomputable def fX8_laysHangs_L107 (σ : Mem) : Option (Mem) :=
  some σ
set_option maxHeartbeats 4000000 in
set_option maxRecDepth 100000 in
theorem tX8_laysHangs_L107 {E : Gx} {cI : ClassId} {ad : Nat → Nat} (C : Cx E rmX8_laysHangs cI layM ad 4 RX8 cX8_laysHangs) {out : Mem} (K0 : KV E rmX8_laysHangs cI layM ad 4 cX8_laysHangs out) {σ : Mem} (h : fX8_laysHangs_L107 σ = some out) : G E rmX8_laysHangs cI layM ad 4 107 [] [] σ := by
  unfold fX8_laysHangs_L107 at h
  cases h
  exact K0 _ _ dX8_laysHangs_107
noncomputable def fX8_laysHangs_L27 (σ : Mem) : Option (Mem) :=
  (loop (fun a => fX8_laysHangs_B29 a.1 a.2) (0, σ)).bind fun b6 =>
  fX8_laysHangs_L107 b6
set_option maxHeartbeats 4000000 in
set_option maxRecDepth 100000 in
theorem tX8_laysHangs_L27 {E : Gx} {cI : ClassId} {ad : Nat → Nat} (C : Cx E rmX8_laysHangs cI layM ad 4 RX8 cX8_laysHangs) {out : Mem} (K0 : KV E rmX8_laysHangs cI layM ad 4 cX8_laysHangs out) {σ : Mem} (h : fX8_laysHangs_L27 σ = some out) : G E rmX8_laysHangs cI layM ad 4 27 [(0, .ref (ad 0))] [] σ := by
  unfold fX8_laysHangs_L27 at h
  refine g_iconst 28 (v := 0) C dX8_laysHangs_27 (by decide) rfl ?_
  refine g_istore_n 29 [(1, .int 0), (0, .ref (ad 0))] C dX8_laysHangs_28 rfl (by decide) rfl rfl ?_
  obtain ⟨b6, hb, h⟩ := bind_some h
  refine g_sub [1, 0] (g_loop (a := (0, σ)) (fun a => G E rmX8_laysHangs cI layM ad 4 29 [(0, .ref (ad 0)), (1, .int a.1)] [] a.2) (fun b => G E rmX8_laysHangs cI layM ad 4 107 [] [] b) hb (fun a res h K => tX8_laysHangs_B29 (l1 := a.1) (σ := a.2) (res := res) C K0 h K) ?_) rfl
  show G E rmX8_laysHangs cI layM ad 4 107 [] [] b6
  exact tX8_laysHangs_L107 (σ := b6) C K0 h
noncomputable def fX8_laysHangs (σ : Mem) : Option (Mem) :=
  (loop (fun a => fX8_laysHangs_B2 a.1 a.2) (0, σ)).bind fun b2 =>
  fX8_laysHangs_L27 b2
set_option maxHeartbeats 4000000 in
set_option maxRecDepth 100000 in
theorem mX8_laysHangs {l : Launch} {D : va_G} {cI : ClassId} {ad : Nat → Nat} {σ : Mem} {out : Mem} (h : fX8_laysHangs σ = some out) : MV l D cI layM ad yX8_laysHangs cX8_laysHangs 4 rmX8_laysHangs [.ref (ad 0)] σ out := by
  refine met_v (by decide) (Nat.le_of_ble_eq_true rfl) (fun E C K0 => ?_)
  show G E rmX8_laysHangs cI layM ad 4 0 [(0, .ref (ad 0))] [] σ
  unfold fX8_laysHangs at h
  refine g_iconst 1 (v := 0) C dX8_laysHangs_0 (by decide) rfl ?_
  refine g_istore_n 2 [(1, .int 0), (0, .ref (ad 0))] C dX8_laysHangs_1 rfl (by decide) rfl rfl ?_
  obtain ⟨b2, hb, h⟩ := bind_some h
  refine g_sub [1, 0] (g_loop (a := (0, σ)) (fun a => G E rmX8_laysHangs cI layM ad 4 2 [(0, .ref (ad 0)), (1, .int a.1)] [] a.2) (fun b => G E rmX8_laysHangs cI layM ad 4 27 [(0, .ref (ad 0))] [] b) hb (fun a res h K => tX8_laysHangs_B2 (l1 := a.1) (σ := a.2) (res := res) C K0 h K) ?_) rfl
  show G E rmX8_laysHangs cI layM ad 4 27 [(0, .ref (ad 0))] [] b2
  exact tX8_laysHangs_L27 (σ := b2) C K0 h

/-! LoopReducerModel.cycleOf(I)I -/
abbrev rmX8_cycleOf : Room := { frames := 1, cells := 0, slots := 0, locals := 21 }
theorem qX8_cycleOf : yX8_cycleOf.cls ≠ "java/lang/invoke/MethodHandle" ∧ yX8_cycleOf.cls ≠ "java/lang/invoke/VarHandle" ∧ (parseMethodDescriptor yX8_cycleOf.desc).map (fun d => d.parameters.length) = some 1 := by decide +kernel
theorem DX8_cycleOf : ∀ q ∈ ([(0, .iconst 1, 1), (1, .iload_n 1, 1), (2, .ishl, 1), (3, .istore_n 2, 1), (4, .iconst 0, 1), (5, .istore_n 3, 1), (6, .iload_n 3, 1), (7, .aload_n 0, 1), (8, .getfield 72, 3), (11, .if_icmp .ge 45, 3), (14, .iload_n 2, 1), (15, .aload_n 0, 1), (16, .getfield 33, 3), (19, .iload_n 1, 1), (20, .iaload, 1), (21, .iload_n 3, 1), (22, .invokestatic 102, 3), (25, .ifCond .eq 22, 3), (28, .aload_n 0, 1), (29, .getfield 33, 3), (32, .iload_n 3, 1), (33, .iaload, 1), (34, .iload_n 1, 1), (35, .invokestatic 102, 3), (38, .ifCond .eq 9, 3), (41, .iconst 1, 1), (42, .iload_n 3, 1), (43, .ishl, 1), (44, .goto 4, 3), (47, .iconst 0, 1), (48, .ior, 1), (49, .istore_n 2, 1), (50, .iinc 3 1, 3), (53, .goto (-47), 3), (56, .iload_n 2, 1), (57, .ireturn, 1)] : List (Nat × Instr × Nat)), decode cX8_cycleOf q.1 = .ok q.2 := by decide +kernel
theorem dX8_cycleOf_0 : decode cX8_cycleOf 0 = .ok (.iconst 1, 1) := DX8_cycleOf (0, .iconst 1, 1) (List.mem_of_getElem? (i := 0) rfl)
theorem dX8_cycleOf_1 : decode cX8_cycleOf 1 = .ok (.iload_n 1, 1) := DX8_cycleOf (1, .iload_n 1, 1) (List.mem_of_getElem? (i := 1) rfl)
theorem dX8_cycleOf_2 : decode cX8_cycleOf 2 = .ok (.ishl, 1) := DX8_cycleOf (2, .ishl, 1) (List.mem_of_getElem? (i := 2) rfl)
theorem dX8_cycleOf_3 : decode cX8_cycleOf 3 = .ok (.istore_n 2, 1) := DX8_cycleOf (3, .istore_n 2, 1) (List.mem_of_getElem? (i := 3) rfl)
theorem dX8_cycleOf_4 : decode cX8_cycleOf 4 = .ok (.iconst 0, 1) := DX8_cycleOf (4, .iconst 0, 1) (List.mem_of_getElem? (i := 4) rfl)
theorem dX8_cycleOf_5 : decode cX8_cycleOf 5 = .ok (.istore_n 3, 1) := DX8_cycleOf (5, .istore_n 3, 1) (List.mem_of_getElem? (i := 5) rfl)
theorem dX8_cycleOf_6 : decode cX8_cycleOf 6 = .ok (.iload_n 3, 1) := DX8_cycleOf (6, .iload_n 3, 1) (List.mem_of_getElem? (i := 6) rfl)
theorem dX8_cycleOf_7 : decode cX8_cycleOf 7 = .ok (.aload_n 0, 1) := DX8_cycleOf (7, .aload_n 0, 1) (List.mem_of_getElem? (i := 7) rfl)
theorem dX8_cycleOf_8 : decode cX8_cycleOf 8 = .ok (.getfield 72, 3) := DX8_cycleOf (8, .getfield 72, 3) (List.mem_of_getElem? (i := 8) rfl)
theorem dX8_cycleOf_11 : decode cX8_cycleOf 11 = .ok (.if_icmp .ge 45, 3) := DX8_cycleOf (11, .if_icmp .ge 45, 3) (List.mem_of_getElem? (i := 9) rfl)
theorem dX8_cycleOf_14 : decode cX8_cycleOf 14 = .ok (.iload_n 2, 1) := DX8_cycleOf (14, .iload_n 2, 1) (List.mem_of_getElem? (i := 10) rfl)
theorem dX8_cycleOf_15 : decode cX8_cycleOf 15 = .ok (.aload_n 0, 1) := DX8_cycleOf (15, .aload_n 0, 1) (List.mem_of_getElem? (i := 11) rfl)
theorem dX8_cycleOf_16 : decode cX8_cycleOf 16 = .ok (.getfield 33, 3) := DX8_cycleOf (16, .getfield 33, 3) (List.mem_of_getElem? (i := 12) rfl)
theorem dX8_cycleOf_19 : decode cX8_cycleOf 19 = .ok (.iload_n 1, 1) := DX8_cycleOf (19, .iload_n 1, 1) (List.mem_of_getElem? (i := 13) rfl)
theorem dX8_cycleOf_20 : decode cX8_cycleOf 20 = .ok (.iaload, 1) := DX8_cycleOf (20, .iaload, 1) (List.mem_of_getElem? (i := 14) rfl)
theorem dX8_cycleOf_21 : decode cX8_cycleOf 21 = .ok (.iload_n 3, 1) := DX8_cycleOf (21, .iload_n 3, 1) (List.mem_of_getElem? (i := 15) rfl)
theorem dX8_cycleOf_22 : decode cX8_cycleOf 22 = .ok (.invokestatic 102, 3) := DX8_cycleOf (22, .invokestatic 102, 3) (List.mem_of_getElem? (i := 16) rfl)
theorem dX8_cycleOf_25 : decode cX8_cycleOf 25 = .ok (.ifCond .eq 22, 3) := DX8_cycleOf (25, .ifCond .eq 22, 3) (List.mem_of_getElem? (i := 17) rfl)
theorem dX8_cycleOf_28 : decode cX8_cycleOf 28 = .ok (.aload_n 0, 1) := DX8_cycleOf (28, .aload_n 0, 1) (List.mem_of_getElem? (i := 18) rfl)
theorem dX8_cycleOf_29 : decode cX8_cycleOf 29 = .ok (.getfield 33, 3) := DX8_cycleOf (29, .getfield 33, 3) (List.mem_of_getElem? (i := 19) rfl)
theorem dX8_cycleOf_32 : decode cX8_cycleOf 32 = .ok (.iload_n 3, 1) := DX8_cycleOf (32, .iload_n 3, 1) (List.mem_of_getElem? (i := 20) rfl)
theorem dX8_cycleOf_33 : decode cX8_cycleOf 33 = .ok (.iaload, 1) := DX8_cycleOf (33, .iaload, 1) (List.mem_of_getElem? (i := 21) rfl)
theorem dX8_cycleOf_34 : decode cX8_cycleOf 34 = .ok (.iload_n 1, 1) := DX8_cycleOf (34, .iload_n 1, 1) (List.mem_of_getElem? (i := 22) rfl)
theorem dX8_cycleOf_35 : decode cX8_cycleOf 35 = .ok (.invokestatic 102, 3) := DX8_cycleOf (35, .invokestatic 102, 3) (List.mem_of_getElem? (i := 23) rfl)
theorem dX8_cycleOf_38 : decode cX8_cycleOf 38 = .ok (.ifCond .eq 9, 3) := DX8_cycleOf (38, .ifCond .eq 9, 3) (List.mem_of_getElem? (i := 24) rfl)
theorem dX8_cycleOf_41 : decode cX8_cycleOf 41 = .ok (.iconst 1, 1) := DX8_cycleOf (41, .iconst 1, 1) (List.mem_of_getElem? (i := 25) rfl)
theorem dX8_cycleOf_42 : decode cX8_cycleOf 42 = .ok (.iload_n 3, 1) := DX8_cycleOf (42, .iload_n 3, 1) (List.mem_of_getElem? (i := 26) rfl)
theorem dX8_cycleOf_43 : decode cX8_cycleOf 43 = .ok (.ishl, 1) := DX8_cycleOf (43, .ishl, 1) (List.mem_of_getElem? (i := 27) rfl)
theorem dX8_cycleOf_44 : decode cX8_cycleOf 44 = .ok (.goto 4, 3) := DX8_cycleOf (44, .goto 4, 3) (List.mem_of_getElem? (i := 28) rfl)
theorem dX8_cycleOf_47 : decode cX8_cycleOf 47 = .ok (.iconst 0, 1) := DX8_cycleOf (47, .iconst 0, 1) (List.mem_of_getElem? (i := 29) rfl)
theorem dX8_cycleOf_48 : decode cX8_cycleOf 48 = .ok (.ior, 1) := DX8_cycleOf (48, .ior, 1) (List.mem_of_getElem? (i := 30) rfl)
theorem dX8_cycleOf_49 : decode cX8_cycleOf 49 = .ok (.istore_n 2, 1) := DX8_cycleOf (49, .istore_n 2, 1) (List.mem_of_getElem? (i := 31) rfl)
theorem dX8_cycleOf_50 : decode cX8_cycleOf 50 = .ok (.iinc 3 1, 3) := DX8_cycleOf (50, .iinc 3 1, 3) (List.mem_of_getElem? (i := 32) rfl)
theorem dX8_cycleOf_53 : decode cX8_cycleOf 53 = .ok (.goto (-47), 3) := DX8_cycleOf (53, .goto (-47), 3) (List.mem_of_getElem? (i := 33) rfl)
theorem dX8_cycleOf_56 : decode cX8_cycleOf 56 = .ok (.iload_n 2, 1) := DX8_cycleOf (56, .iload_n 2, 1) (List.mem_of_getElem? (i := 34) rfl)
theorem dX8_cycleOf_57 : decode cX8_cycleOf 57 = .ok (.ireturn, 1) := DX8_cycleOf (57, .ireturn, 1) (List.mem_of_getElem? (i := 35) rfl)
noncomputable def fX8_cycleOf_L48 (l1 : Int32) (l3 : Int32) (s0 : Int32) (s1 : Int32) (σ : Mem) : Option ((Int32 × Int32 × Mem) ⊕ (Int32 × Mem)) :=
  some (.inl (s0 ||| s1, l3 + 1, σ))
set_option maxHeartbeats 4000000 in
set_option maxRecDepth 100000 in
theorem tX8_cycleOf_L48 {E : Gx} {cI : ClassId} {ad : Nat → Nat} (C : Cx E rmX8_cycleOf cI layM ad 4 RX8 cX8_cycleOf) {out : Int32 × Mem} (K0 : KI E rmX8_cycleOf cI layM ad 4 cX8_cycleOf .int out) {l1 : Int32} {l3 : Int32} {s0 : Int32} {s1 : Int32} {σ : Mem} {res : (Int32 × Int32 × Mem) ⊕ (Int32 × Mem)} (h : fX8_cycleOf_L48 l1 l3 s0 s1 σ = some res) (K : Sum.elim (fun a => G E rmX8_cycleOf cI layM ad 4 6 [(0, .ref (ad 0)), (1, .int l1), (2, .int a.1), (3, .int a.2.1)] [] a.2.2) (fun b => G E rmX8_cycleOf cI layM ad 4 56 [(2, .int b.1)] [] b.2) res) : G E rmX8_cycleOf cI layM ad 4 48 [(0, .ref (ad 0)), (1, .int l1), (3, .int l3)] [.int s1, .int s0] σ := by
  unfold fX8_cycleOf_L48 at h
  refine g_ior 49 C dX8_cycleOf_48 rfl ?_
  refine g_istore_n 50 [(2, .int (s0 ||| s1)), (0, .ref (ad 0)), (1, .int l1), (3, .int l3)] C dX8_cycleOf_49 rfl (by decide) rfl rfl ?_
  refine g_iinc 53 [(3, .int (l3 + 1)), (2, .int (s0 ||| s1)), (0, .ref (ad 0)), (1, .int l1)] C dX8_cycleOf_50 (j := 3) rfl (by rfl) (by decide) rfl rfl ?_
  refine g_goto 6 C dX8_cycleOf_53 (by decide) ?_
  have hh := end_inl h K
  exact g_sub [2, 3, 1, 0] (hh) rfl
noncomputable def fX8_cycleOf_L47 (l1 : Int32) (l3 : Int32) (s0 : Int32) (σ : Mem) : Option ((Int32 × Int32 × Mem) ⊕ (Int32 × Mem)) :=
  fX8_cycleOf_L48 l1 l3 s0 0 σ
set_option maxHeartbeats 4000000 in
set_option maxRecDepth 100000 in
theorem tX8_cycleOf_L47 {E : Gx} {cI : ClassId} {ad : Nat → Nat} (C : Cx E rmX8_cycleOf cI layM ad 4 RX8 cX8_cycleOf) {out : Int32 × Mem} (K0 : KI E rmX8_cycleOf cI layM ad 4 cX8_cycleOf .int out) {l1 : Int32} {l3 : Int32} {s0 : Int32} {σ : Mem} {res : (Int32 × Int32 × Mem) ⊕ (Int32 × Mem)} (h : fX8_cycleOf_L47 l1 l3 s0 σ = some res) (K : Sum.elim (fun a => G E rmX8_cycleOf cI layM ad 4 6 [(0, .ref (ad 0)), (1, .int l1), (2, .int a.1), (3, .int a.2.1)] [] a.2.2) (fun b => G E rmX8_cycleOf cI layM ad 4 56 [(2, .int b.1)] [] b.2) res) : G E rmX8_cycleOf cI layM ad 4 47 [(0, .ref (ad 0)), (1, .int l1), (3, .int l3)] [.int s0] σ := by
  unfold fX8_cycleOf_L47 at h
  refine g_iconst 48 (v := 0) C dX8_cycleOf_47 (by decide) rfl ?_
  exact tX8_cycleOf_L48 (l1 := l1) (l3 := l3) (s0 := s0) (s1 := 0) (σ := σ) C K0 h K
noncomputable def fX8_cycleOf_B6 (l1 : Int32) (l2 : Int32) (l3 : Int32) (σ : Mem) : Option ((Int32 × Int32 × Mem) ⊕ (Int32 × Mem)) :=
  if (σ 0 6) ≤ l3 then
    some (.inr (l2, σ))
  else
    chk (inb l1 30) <|
    (fX8_has (σ 5 l1.toNatClampNeg) l3 σ).bind fun o1 =>
    if o1.1 = 0 then
      fX8_cycleOf_L47 l1 l3 l2 o1.2
    else
      chk (inb l3 30) <|
      (fX8_has (o1.2 5 l3.toNatClampNeg) l1 o1.2).bind fun o2 =>
      if o2.1 = 0 then
        fX8_cycleOf_L47 l1 l3 l2 o2.2
      else
        fX8_cycleOf_L48 l1 l3 l2 (1 <<< (l3 &&& 31)) o2.2
set_option maxHeartbeats 4000000 in
set_option maxRecDepth 100000 in
theorem tX8_cycleOf_B6 {E : Gx} {cI : ClassId} {ad : Nat → Nat} (C : Cx E rmX8_cycleOf cI layM ad 4 RX8 cX8_cycleOf) {out : Int32 × Mem} (K0 : KI E rmX8_cycleOf cI layM ad 4 cX8_cycleOf .int out) {l1 : Int32} {l2 : Int32} {l3 : Int32} {σ : Mem} {res : (Int32 × Int32 × Mem) ⊕ (Int32 × Mem)} (h : fX8_cycleOf_B6 l1 l2 l3 σ = some res) (K : Sum.elim (fun a => G E rmX8_cycleOf cI layM ad 4 6 [(0, .ref (ad 0)), (1, .int l1), (2, .int a.1), (3, .int a.2.1)] [] a.2.2) (fun b => G E rmX8_cycleOf cI layM ad 4 56 [(2, .int b.1)] [] b.2) res) : G E rmX8_cycleOf cI layM ad 4 6 [(0, .ref (ad 0)), (1, .int l1), (2, .int l2), (3, .int l3)] [] σ := by
  unfold fX8_cycleOf_B6 at h
  refine g_iload_n 7 C dX8_cycleOf_6 rfl (j := 3) rfl rfl ?_
  refine g_aload_n 8 C dX8_cycleOf_7 rfl (j := 0) rfl rfl ?_
  refine g_geti 11 (j := 6) C rfl rfl wu_X8 (by decide) wf_X8_72 rfl dX8_cycleOf_8 rfl ?_
  refine g_icmp_ge 56 14 C dX8_cycleOf_11 (by decide) rfl h (fun h => ?_) (fun h => ?_)
  · have hh := end_inr h K
    exact g_sub [2] (hh) rfl
  · refine g_iload_n 15 C dX8_cycleOf_14 rfl (j := 2) rfl rfl ?_
    refine g_aload_n 16 C dX8_cycleOf_15 rfl (j := 0) rfl rfl ?_
    refine g_getr 19 (j := 12) C rfl rfl wu_X8 (by decide) wf_X8_33 rfl dX8_cycleOf_16 rfl ?_
    refine g_iload_n 20 C dX8_cycleOf_19 rfl (j := 1) rfl rfl ?_
    refine g_iald 21 C rfl dX8_cycleOf_20 rfl h (fun h => ?_)
    refine g_iload_n 22 C dX8_cycleOf_21 rfl (j := 3) rfl rfl ?_
    refine g_csi 25 C (As := [.int (σ 5 l1.toNatClampNeg), .int l3]) (fun _ h => mX8_has (a1 := σ 5 l1.toNatClampNeg) (a2 := l3) (σ := σ) h) wl_X8_102 ws_X8_has wc_X8_has wn_X8 qX8_has rfl rfl ⟨Nat.le_of_ble_eq_true rfl, Nat.le_of_ble_eq_true rfl⟩ rfl rfl (Nat.le_of_ble_eq_true rfl) dX8_cycleOf_22 rfl h (fun o1 h => ?_)
    refine g_if_eq 47 28 C dX8_cycleOf_25 (by decide) rfl h (fun h => ?_) (fun h => ?_)
    · exact g_sub [0, 1, 3] (tX8_cycleOf_L47 (l1 := l1) (l3 := l3) (s0 := l2) (σ := o1.2) C K0 h K) rfl
    · refine g_aload_n 29 C dX8_cycleOf_28 rfl (j := 0) rfl rfl ?_
      refine g_getr 32 (j := 12) C rfl rfl wu_X8 (by decide) wf_X8_33 rfl dX8_cycleOf_29 rfl ?_
      refine g_iload_n 33 C dX8_cycleOf_32 rfl (j := 3) rfl rfl ?_
      refine g_iald 34 C rfl dX8_cycleOf_33 rfl h (fun h => ?_)
      refine g_iload_n 35 C dX8_cycleOf_34 rfl (j := 1) rfl rfl ?_
      refine g_csi 38 C (As := [.int (o1.2 5 l3.toNatClampNeg), .int l1]) (fun _ h => mX8_has (a1 := o1.2 5 l3.toNatClampNeg) (a2 := l1) (σ := o1.2) h) wl_X8_102 ws_X8_has wc_X8_has wn_X8 qX8_has rfl rfl ⟨Nat.le_of_ble_eq_true rfl, Nat.le_of_ble_eq_true rfl⟩ rfl rfl (Nat.le_of_ble_eq_true rfl) dX8_cycleOf_35 rfl h (fun o2 h => ?_)
      refine g_if_eq 47 41 C dX8_cycleOf_38 (by decide) rfl h (fun h => ?_) (fun h => ?_)
      · exact g_sub [0, 1, 3] (tX8_cycleOf_L47 (l1 := l1) (l3 := l3) (s0 := l2) (σ := o2.2) C K0 h K) rfl
      · refine g_iconst 42 (v := 1) C dX8_cycleOf_41 (by decide) rfl ?_
        refine g_iload_n 43 C dX8_cycleOf_42 rfl (j := 3) rfl rfl ?_
        refine g_ishl 44 C dX8_cycleOf_43 rfl ?_
        refine g_goto 48 C dX8_cycleOf_44 (by decide) ?_
        exact g_sub [0, 1, 3] (tX8_cycleOf_L48 (l1 := l1) (l3 := l3) (s0 := l2) (s1 := (1 <<< (l3 &&& 31))) (σ := o2.2) C K0 h K) rfl
noncomputable def fX8_cycleOf_L56 (l2 : Int32) (σ : Mem) : Option (Int32 × Mem) :=
  some (l2, σ)
set_option maxHeartbeats 4000000 in
set_option maxRecDepth 100000 in
theorem tX8_cycleOf_L56 {E : Gx} {cI : ClassId} {ad : Nat → Nat} (C : Cx E rmX8_cycleOf cI layM ad 4 RX8 cX8_cycleOf) {out : Int32 × Mem} (K0 : KI E rmX8_cycleOf cI layM ad 4 cX8_cycleOf .int out) {l2 : Int32} {σ : Mem} (h : fX8_cycleOf_L56 l2 σ = some out) : G E rmX8_cycleOf cI layM ad 4 56 [(2, .int l2)] [] σ := by
  unfold fX8_cycleOf_L56 at h
  refine g_iload_n 57 C dX8_cycleOf_56 rfl (j := 0) rfl rfl ?_
  cases h
  exact K0 _ _ dX8_cycleOf_57 rfl
noncomputable def fX8_cycleOf (a1 : Int32) (σ : Mem) : Option (Int32 × Mem) :=
  (loop (fun a => fX8_cycleOf_B6 a1 a.1 a.2.1 a.2.2) (1 <<< (a1 &&& 31), 0, σ)).bind fun b3 =>
  fX8_cycleOf_L56 b3.1 b3.2
set_option maxHeartbeats 4000000 in
set_option maxRecDepth 100000 in
theorem mX8_cycleOf {l : Launch} {D : va_G} {cI : ClassId} {ad : Nat → Nat} {a1 : Int32} {σ : Mem} {out : Int32 × Mem} (h : fX8_cycleOf a1 σ = some out) : MI l D cI layM ad yX8_cycleOf cX8_cycleOf 4 .int rmX8_cycleOf [.ref (ad 0), .int a1] σ out := by
  refine met_i (by decide) (Nat.le_of_ble_eq_true rfl) (fun E C K0 => ?_)
  show G E rmX8_cycleOf cI layM ad 4 0 [(0, .ref (ad 0)), (1, .int a1)] [] σ
  unfold fX8_cycleOf at h
  refine g_iconst 1 (v := 1) C dX8_cycleOf_0 (by decide) rfl ?_
  refine g_iload_n 2 C dX8_cycleOf_1 rfl (j := 1) rfl rfl ?_
  refine g_ishl 3 C dX8_cycleOf_2 rfl ?_
  refine g_istore_n 4 [(2, .int (1 <<< (a1 &&& 31))), (0, .ref (ad 0)), (1, .int a1)] C dX8_cycleOf_3 rfl (by decide) rfl rfl ?_
  refine g_iconst 5 (v := 0) C dX8_cycleOf_4 (by decide) rfl ?_
  refine g_istore_n 6 [(3, .int 0), (2, .int (1 <<< (a1 &&& 31))), (0, .ref (ad 0)), (1, .int a1)] C dX8_cycleOf_5 rfl (by decide) rfl rfl ?_
  obtain ⟨b3, hb, h⟩ := bind_some h
  refine g_sub [2, 3, 1, 0] (g_loop (a := (1 <<< (a1 &&& 31), 0, σ)) (fun a => G E rmX8_cycleOf cI layM ad 4 6 [(0, .ref (ad 0)), (1, .int a1), (2, .int a.1), (3, .int a.2.1)] [] a.2.2) (fun b => G E rmX8_cycleOf cI layM ad 4 56 [(2, .int b.1)] [] b.2) hb (fun a res h K => tX8_cycleOf_B6 (l1 := a1) (l2 := a.1) (l3 := a.2.1) (σ := a.2.2) (res := res) C K0 h K) ?_) rfl
  show G E rmX8_cycleOf cI layM ad 4 56 [(2, .int b3.1)] [] b3.2
  exact tX8_cycleOf_L56 (l2 := b3.1) (σ := b3.2) C K0 h

/-! LoopReducerModel.cycle(I)I -/
abbrev rmX8_cycle : Room := { frames := 2, cells := 0, slots := 0, locals := 44 }
theorem qX8_cycle : yX8_cycle.cls ≠ "java/lang/invoke/MethodHandle" ∧ yX8_cycle.cls ≠ "java/lang/invoke/VarHandle" ∧ (parseMethodDescriptor yX8_cycle.desc).map (fun d => d.parameters.length) = some 1 := by decide +kernel
theorem DX8_cycle : ∀ q ∈ ([(0, .aload_n 0, 1), (1, .iconst 0, 1), (2, .putfield 69, 3), (5, .aload_n 0, 1), (6, .iload_n 1, 1), (7, .invokevirtual 95, 3), (10, .ifCond .ne 5, 3), (13, .iconst (-1), 1), (14, .ireturn, 1), (15, .aload_n 0, 1), (16, .invokevirtual 112, 3), (19, .aload_n 0, 1), (20, .iload_n 1, 1), (21, .invokevirtual 115, 3), (24, .ireturn, 1)] : List (Nat × Instr × Nat)), decode cX8_cycle q.1 = .ok q.2 := by decide +kernel
theorem dX8_cycle_0 : decode cX8_cycle 0 = .ok (.aload_n 0, 1) := DX8_cycle (0, .aload_n 0, 1) (List.mem_of_getElem? (i := 0) rfl)
theorem dX8_cycle_1 : decode cX8_cycle 1 = .ok (.iconst 0, 1) := DX8_cycle (1, .iconst 0, 1) (List.mem_of_getElem? (i := 1) rfl)
theorem dX8_cycle_2 : decode cX8_cycle 2 = .ok (.putfield 69, 3) := DX8_cycle (2, .putfield 69, 3) (List.mem_of_getElem? (i := 2) rfl)
theorem dX8_cycle_5 : decode cX8_cycle 5 = .ok (.aload_n 0, 1) := DX8_cycle (5, .aload_n 0, 1) (List.mem_of_getElem? (i := 3) rfl)
theorem dX8_cycle_6 : decode cX8_cycle 6 = .ok (.iload_n 1, 1) := DX8_cycle (6, .iload_n 1, 1) (List.mem_of_getElem? (i := 4) rfl)
theorem dX8_cycle_7 : decode cX8_cycle 7 = .ok (.invokevirtual 95, 3) := DX8_cycle (7, .invokevirtual 95, 3) (List.mem_of_getElem? (i := 5) rfl)
theorem dX8_cycle_10 : decode cX8_cycle 10 = .ok (.ifCond .ne 5, 3) := DX8_cycle (10, .ifCond .ne 5, 3) (List.mem_of_getElem? (i := 6) rfl)
theorem dX8_cycle_13 : decode cX8_cycle 13 = .ok (.iconst (-1), 1) := DX8_cycle (13, .iconst (-1), 1) (List.mem_of_getElem? (i := 7) rfl)
theorem dX8_cycle_14 : decode cX8_cycle 14 = .ok (.ireturn, 1) := DX8_cycle (14, .ireturn, 1) (List.mem_of_getElem? (i := 8) rfl)
theorem dX8_cycle_15 : decode cX8_cycle 15 = .ok (.aload_n 0, 1) := DX8_cycle (15, .aload_n 0, 1) (List.mem_of_getElem? (i := 9) rfl)
theorem dX8_cycle_16 : decode cX8_cycle 16 = .ok (.invokevirtual 112, 3) := DX8_cycle (16, .invokevirtual 112, 3) (List.mem_of_getElem? (i := 10) rfl)
theorem dX8_cycle_19 : decode cX8_cycle 19 = .ok (.aload_n 0, 1) := DX8_cycle (19, .aload_n 0, 1) (List.mem_of_getElem? (i := 11) rfl)
theorem dX8_cycle_20 : decode cX8_cycle 20 = .ok (.iload_n 1, 1) := DX8_cycle (20, .iload_n 1, 1) (List.mem_of_getElem? (i := 12) rfl)
theorem dX8_cycle_21 : decode cX8_cycle 21 = .ok (.invokevirtual 115, 3) := DX8_cycle (21, .invokevirtual 115, 3) (List.mem_of_getElem? (i := 13) rfl)
theorem dX8_cycle_24 : decode cX8_cycle 24 = .ok (.ireturn, 1) := DX8_cycle (24, .ireturn, 1) (List.mem_of_getElem? (i := 14) rfl)
noncomputable def fX8_cycle (a1 : Int32) (σ : Mem) : Option (Int32 × Mem) :=
  (fX8_isName a1 (up2 σ 0 2 0)).bind fun o1 =>
  if o1.1 = 0 then
    some ((-1), o1.2)
  else
    (fX8_laysHangs o1.2).bind fun o2 =>
    (fX8_cycleOf a1 o2).bind fun o3 =>
    some (o3.1, o3.2)
set_option maxHeartbeats 4000000 in
set_option maxRecDepth 100000 in
theorem mX8_cycle {l : Launch} {D : va_G} {cI : ClassId} {ad : Nat → Nat} {a1 : Int32} {σ : Mem} {out : Int32 × Mem} (h : fX8_cycle a1 σ = some out) : MI l D cI layM ad yX8_cycle cX8_cycle 2 .int rmX8_cycle [.ref (ad 0), .int a1] σ out := by
  refine met_i (by decide) (Nat.le_of_ble_eq_true rfl) (fun E C K0 => ?_)
  show G E rmX8_cycle cI layM ad 2 0 [(0, .ref (ad 0)), (1, .int a1)] [] σ
  unfold fX8_cycle at h
  refine g_aload_n 1 C dX8_cycle_0 rfl (j := 0) rfl rfl ?_
  refine g_iconst 2 (v := 0) C dX8_cycle_1 (by decide) rfl ?_
  refine g_puti 5 (j := 2) C rfl rfl wu_X8 (by decide) wf_X8_69 tyX8 tyX8_ok nmX8 rfl rfl rfl rfl dX8_cycle_2 rfl ?_
  refine g_aload_n 6 C dX8_cycle_5 rfl (j := 0) rfl rfl ?_
  refine g_iload_n 7 C dX8_cycle_6 rfl (j := 1) rfl rfl ?_
  refine g_cvi 10 C (As := [.int a1]) (fun _ h => mX8_isName (a1 := a1) (σ := up2 σ 0 2 0) h) wl_X8_95 wi_X8_isName wz_X8_isName wc_X8_isName wn_X8 qX8_isName rfl rfl ⟨Nat.le_of_ble_eq_true rfl, Nat.le_of_ble_eq_true rfl⟩ rfl rfl rfl rfl (Nat.le_of_ble_eq_true rfl) dX8_cycle_7 rfl h (fun o1 h => ?_)
  refine g_if_ne 15 13 C dX8_cycle_10 (by decide) rfl h (fun h => ?_) (fun h => ?_)
  · refine g_iconst 14 (v := (-1)) C dX8_cycle_13 (by decide) rfl ?_
    cases h
    exact K0 _ _ dX8_cycle_14 rfl
  · refine g_aload_n 16 C dX8_cycle_15 rfl (j := 0) rfl rfl ?_
    refine g_cvv 19 C (As := []) (fun _ h => mX8_laysHangs (σ := o1.2) h) wl_X8_112 wi_X8_laysHangs wz_X8_laysHangs wc_X8_laysHangs wn_X8 qX8_laysHangs rfl rfl ⟨Nat.le_of_ble_eq_true rfl, Nat.le_of_ble_eq_true rfl⟩ rfl rfl rfl rfl (Nat.le_of_ble_eq_true rfl) dX8_cycle_16 rfl h (fun o2 h => ?_)
    refine g_aload_n 20 C dX8_cycle_19 rfl (j := 0) rfl rfl ?_
    refine g_iload_n 21 C dX8_cycle_20 rfl (j := 1) rfl rfl ?_
    refine g_cvi 24 C (As := [.int a1]) (fun _ h => mX8_cycleOf (a1 := a1) (σ := o2) h) wl_X8_115 wi_X8_cycleOf wz_X8_cycleOf wc_X8_cycleOf wn_X8 qX8_cycleOf rfl rfl ⟨Nat.le_of_ble_eq_true rfl, Nat.le_of_ble_eq_true rfl⟩ rfl rfl rfl rfl (Nat.le_of_ble_eq_true rfl) dX8_cycle_21 rfl h (fun o3 h => ?_)
    cases h
    exact K0 _ _ dX8_cycle_24 rfl

/-! LoopReducerModel.empties(I)V -/
abbrev rmX8_empties : Room := { frames := 0, cells := 0, slots := 0, locals := 0 }
theorem qX8_empties : yX8_empties.cls ≠ "java/lang/invoke/MethodHandle" ∧ yX8_empties.cls ≠ "java/lang/invoke/VarHandle" ∧ (parseMethodDescriptor yX8_empties.desc).map (fun d => d.parameters.length) = some 1 := by decide +kernel
theorem DX8_empties : ∀ q ∈ ([(0, .iconst 0, 1), (1, .istore_n 2, 1), (2, .iload_n 2, 1), (3, .sipush 1372, 3), (6, .if_icmp .ge 22, 3), (9, .aload_n 0, 1), (10, .getfield 8, 3), (13, .sipush 1372, 3), (16, .iload_n 1, 1), (17, .imul, 1), (18, .iload_n 2, 1), (19, .iadd, 1), (20, .iconst 0, 1), (21, .iastore, 1), (22, .iinc 2 1, 3), (25, .goto (-23), 3), (28, .return_, 1)] : List (Nat × Instr × Nat)), decode cX8_empties q.1 = .ok q.2 := by decide +kernel
theorem dX8_empties_0 : decode cX8_empties 0 = .ok (.iconst 0, 1) := DX8_empties (0, .iconst 0, 1) (List.mem_of_getElem? (i := 0) rfl)
theorem dX8_empties_1 : decode cX8_empties 1 = .ok (.istore_n 2, 1) := DX8_empties (1, .istore_n 2, 1) (List.mem_of_getElem? (i := 1) rfl)
theorem dX8_empties_2 : decode cX8_empties 2 = .ok (.iload_n 2, 1) := DX8_empties (2, .iload_n 2, 1) (List.mem_of_getElem? (i := 2) rfl)
theorem dX8_empties_3 : decode cX8_empties 3 = .ok (.sipush 1372, 3) := DX8_empties (3, .sipush 1372, 3) (List.mem_of_getElem? (i := 3) rfl)
theorem dX8_empties_6 : decode cX8_empties 6 = .ok (.if_icmp .ge 22, 3) := DX8_empties (6, .if_icmp .ge 22, 3) (List.mem_of_getElem? (i := 4) rfl)
theorem dX8_empties_9 : decode cX8_empties 9 = .ok (.aload_n 0, 1) := DX8_empties (9, .aload_n 0, 1) (List.mem_of_getElem? (i := 5) rfl)
theorem dX8_empties_10 : decode cX8_empties 10 = .ok (.getfield 8, 3) := DX8_empties (10, .getfield 8, 3) (List.mem_of_getElem? (i := 6) rfl)
theorem dX8_empties_13 : decode cX8_empties 13 = .ok (.sipush 1372, 3) := DX8_empties (13, .sipush 1372, 3) (List.mem_of_getElem? (i := 7) rfl)
theorem dX8_empties_16 : decode cX8_empties 16 = .ok (.iload_n 1, 1) := DX8_empties (16, .iload_n 1, 1) (List.mem_of_getElem? (i := 8) rfl)
theorem dX8_empties_17 : decode cX8_empties 17 = .ok (.imul, 1) := DX8_empties (17, .imul, 1) (List.mem_of_getElem? (i := 9) rfl)
theorem dX8_empties_18 : decode cX8_empties 18 = .ok (.iload_n 2, 1) := DX8_empties (18, .iload_n 2, 1) (List.mem_of_getElem? (i := 10) rfl)
theorem dX8_empties_19 : decode cX8_empties 19 = .ok (.iadd, 1) := DX8_empties (19, .iadd, 1) (List.mem_of_getElem? (i := 11) rfl)
theorem dX8_empties_20 : decode cX8_empties 20 = .ok (.iconst 0, 1) := DX8_empties (20, .iconst 0, 1) (List.mem_of_getElem? (i := 12) rfl)
theorem dX8_empties_21 : decode cX8_empties 21 = .ok (.iastore, 1) := DX8_empties (21, .iastore, 1) (List.mem_of_getElem? (i := 13) rfl)
theorem dX8_empties_22 : decode cX8_empties 22 = .ok (.iinc 2 1, 3) := DX8_empties (22, .iinc 2 1, 3) (List.mem_of_getElem? (i := 14) rfl)
theorem dX8_empties_25 : decode cX8_empties 25 = .ok (.goto (-23), 3) := DX8_empties (25, .goto (-23), 3) (List.mem_of_getElem? (i := 15) rfl)
theorem dX8_empties_28 : decode cX8_empties 28 = .ok (.return_, 1) := DX8_empties (28, .return_, 1) (List.mem_of_getElem? (i := 16) rfl)
noncomputable def fX8_empties_B2 (l1 : Int32) (l2 : Int32) (σ : Mem) : Option ((Int32 × Mem) ⊕ (Mem)) :=
  if 1372 ≤ l2 then
    some (.inr σ)
  else
    chk (inb ((1372 * l1) + l2) 170128) <|
    some (.inl (l2 + 1, up2 σ 1 ((1372 * l1) + l2).toNatClampNeg 0))
set_option maxHeartbeats 4000000 in
set_option maxRecDepth 100000 in
theorem tX8_empties_B2 {E : Gx} {cI : ClassId} {ad : Nat → Nat} (C : Cx E rmX8_empties cI layM ad 3 RX8 cX8_empties) {out : Mem} (K0 : KV E rmX8_empties cI layM ad 3 cX8_empties out) {l1 : Int32} {l2 : Int32} {σ : Mem} {res : (Int32 × Mem) ⊕ (Mem)} (h : fX8_empties_B2 l1 l2 σ = some res) (K : Sum.elim (fun a => G E rmX8_empties cI layM ad 3 2 [(0, .ref (ad 0)), (1, .int l1), (2, .int a.1)] [] a.2) (fun b => G E rmX8_empties cI layM ad 3 28 [] [] b) res) : G E rmX8_empties cI layM ad 3 2 [(0, .ref (ad 0)), (1, .int l1), (2, .int l2)] [] σ := by
  unfold fX8_empties_B2 at h
  refine g_iload_n 3 C dX8_empties_2 rfl (j := 2) rfl rfl ?_
  refine g_sipush 6 (v := 1372) C dX8_empties_3 (by decide) rfl ?_
  refine g_icmp_ge 28 9 C dX8_empties_6 (by decide) rfl h (fun h => ?_) (fun h => ?_)
  · have hh := end_inr h K
    exact g_sub [] (hh) rfl
  · refine g_aload_n 10 C dX8_empties_9 rfl (j := 0) rfl rfl ?_
    refine g_getr 13 (j := 0) C rfl rfl wu_X8 (by decide) wf_X8_8 rfl dX8_empties_10 rfl ?_
    refine g_sipush 16 (v := 1372) C dX8_empties_13 (by decide) rfl ?_
    refine g_iload_n 17 C dX8_empties_16 rfl (j := 1) rfl rfl ?_
    refine g_imul 18 C dX8_empties_17 rfl ?_
    refine g_iload_n 19 C dX8_empties_18 rfl (j := 2) rfl rfl ?_
    refine g_iadd 20 C dX8_empties_19 rfl ?_
    refine g_iconst 21 (v := 0) C dX8_empties_20 (by decide) rfl ?_
    refine g_iast 22 C rfl dX8_empties_21 rfl h (fun h => ?_)
    refine g_iinc 25 [(2, .int (l2 + 1)), (0, .ref (ad 0)), (1, .int l1)] C dX8_empties_22 (j := 2) rfl (by rfl) (by decide) rfl rfl ?_
    refine g_goto 2 C dX8_empties_25 (by decide) ?_
    have hh := end_inl h K
    exact g_sub [1, 2, 0] (hh) rfl
noncomputable def fX8_empties_L28 (σ : Mem) : Option (Mem) :=
  some σ
set_option maxHeartbeats 4000000 in
set_option maxRecDepth 100000 in
theorem tX8_empties_L28 {E : Gx} {cI : ClassId} {ad : Nat → Nat} (C : Cx E rmX8_empties cI layM ad 3 RX8 cX8_empties) {out : Mem} (K0 : KV E rmX8_empties cI layM ad 3 cX8_empties out) {σ : Mem} (h : fX8_empties_L28 σ = some out) : G E rmX8_empties cI layM ad 3 28 [] [] σ := by
  unfold fX8_empties_L28 at h
  cases h
  exact K0 _ _ dX8_empties_28
noncomputable def fX8_empties (a1 : Int32) (σ : Mem) : Option (Mem) :=
  (loop (fun a => fX8_empties_B2 a1 a.1 a.2) (0, σ)).bind fun b1 =>
  fX8_empties_L28 b1
set_option maxHeartbeats 4000000 in
set_option maxRecDepth 100000 in
theorem mX8_empties {l : Launch} {D : va_G} {cI : ClassId} {ad : Nat → Nat} {a1 : Int32} {σ : Mem} {out : Mem} (h : fX8_empties a1 σ = some out) : MV l D cI layM ad yX8_empties cX8_empties 3 rmX8_empties [.ref (ad 0), .int a1] σ out := by
  refine met_v (by decide) (Nat.le_of_ble_eq_true rfl) (fun E C K0 => ?_)
  show G E rmX8_empties cI layM ad 3 0 [(0, .ref (ad 0)), (1, .int a1)] [] σ
  unfold fX8_empties at h
  refine g_iconst 1 (v := 0) C dX8_empties_0 (by decide) rfl ?_
  refine g_istore_n 2 [(2, .int 0), (0, .ref (ad 0)), (1, .int a1)] C dX8_empties_1 rfl (by decide) rfl rfl ?_
  obtain ⟨b1, hb, h⟩ := bind_some h
  refine g_sub [1, 2, 0] (g_loop (a := (0, σ)) (fun a => G E rmX8_empties cI layM ad 3 2 [(0, .ref (ad 0)), (1, .int a1), (2, .int a.1)] [] a.2) (fun b => G E rmX8_empties cI layM ad 3 28 [] [] b) hb (fun a res h K => tX8_empties_B2 (l1 := a1) (l2 := a.1) (σ := a.2) (res := res) C K0 h K) ?_) rfl
  show G E rmX8_empties cI layM ad 3 28 [] [] b1
  exact tX8_empties_L28 (σ := b1) C K0 h

/-! LoopReducerModel.copies(II)V -/
abbrev rmX8_copies : Room := { frames := 0, cells := 0, slots := 0, locals := 0 }
theorem qX8_copies : yX8_copies.cls ≠ "java/lang/invoke/MethodHandle" ∧ yX8_copies.cls ≠ "java/lang/invoke/VarHandle" ∧ (parseMethodDescriptor yX8_copies.desc).map (fun d => d.parameters.length) = some 2 := by decide +kernel
theorem DX8_copies : ∀ q ∈ ([(0, .iconst 0, 1), (1, .istore_n 3, 1), (2, .iload_n 3, 1), (3, .sipush 1372, 3), (6, .if_icmp .ge 33, 3), (9, .aload_n 0, 1), (10, .getfield 8, 3), (13, .sipush 1372, 3), (16, .iload_n 2, 1), (17, .imul, 1), (18, .iload_n 3, 1), (19, .iadd, 1), (20, .aload_n 0, 1), (21, .getfield 8, 3), (24, .sipush 1372, 3), (27, .iload_n 1, 1), (28, .imul, 1), (29, .iload_n 3, 1), (30, .iadd, 1), (31, .iaload, 1), (32, .iastore, 1), (33, .iinc 3 1, 3), (36, .goto (-34), 3), (39, .return_, 1)] : List (Nat × Instr × Nat)), decode cX8_copies q.1 = .ok q.2 := by decide +kernel
theorem dX8_copies_0 : decode cX8_copies 0 = .ok (.iconst 0, 1) := DX8_copies (0, .iconst 0, 1) (List.mem_of_getElem? (i := 0) rfl)
theorem dX8_copies_1 : decode cX8_copies 1 = .ok (.istore_n 3, 1) := DX8_copies (1, .istore_n 3, 1) (List.mem_of_getElem? (i := 1) rfl)
theorem dX8_copies_2 : decode cX8_copies 2 = .ok (.iload_n 3, 1) := DX8_copies (2, .iload_n 3, 1) (List.mem_of_getElem? (i := 2) rfl)
theorem dX8_copies_3 : decode cX8_copies 3 = .ok (.sipush 1372, 3) := DX8_copies (3, .sipush 1372, 3) (List.mem_of_getElem? (i := 3) rfl)
theorem dX8_copies_6 : decode cX8_copies 6 = .ok (.if_icmp .ge 33, 3) := DX8_copies (6, .if_icmp .ge 33, 3) (List.mem_of_getElem? (i := 4) rfl)
theorem dX8_copies_9 : decode cX8_copies 9 = .ok (.aload_n 0, 1) := DX8_copies (9, .aload_n 0, 1) (List.mem_of_getElem? (i := 5) rfl)
theorem dX8_copies_10 : decode cX8_copies 10 = .ok (.getfield 8, 3) := DX8_copies (10, .getfield 8, 3) (List.mem_of_getElem? (i := 6) rfl)
theorem dX8_copies_13 : decode cX8_copies 13 = .ok (.sipush 1372, 3) := DX8_copies (13, .sipush 1372, 3) (List.mem_of_getElem? (i := 7) rfl)
theorem dX8_copies_16 : decode cX8_copies 16 = .ok (.iload_n 2, 1) := DX8_copies (16, .iload_n 2, 1) (List.mem_of_getElem? (i := 8) rfl)
theorem dX8_copies_17 : decode cX8_copies 17 = .ok (.imul, 1) := DX8_copies (17, .imul, 1) (List.mem_of_getElem? (i := 9) rfl)
theorem dX8_copies_18 : decode cX8_copies 18 = .ok (.iload_n 3, 1) := DX8_copies (18, .iload_n 3, 1) (List.mem_of_getElem? (i := 10) rfl)
theorem dX8_copies_19 : decode cX8_copies 19 = .ok (.iadd, 1) := DX8_copies (19, .iadd, 1) (List.mem_of_getElem? (i := 11) rfl)
theorem dX8_copies_20 : decode cX8_copies 20 = .ok (.aload_n 0, 1) := DX8_copies (20, .aload_n 0, 1) (List.mem_of_getElem? (i := 12) rfl)
theorem dX8_copies_21 : decode cX8_copies 21 = .ok (.getfield 8, 3) := DX8_copies (21, .getfield 8, 3) (List.mem_of_getElem? (i := 13) rfl)
theorem dX8_copies_24 : decode cX8_copies 24 = .ok (.sipush 1372, 3) := DX8_copies (24, .sipush 1372, 3) (List.mem_of_getElem? (i := 14) rfl)
theorem dX8_copies_27 : decode cX8_copies 27 = .ok (.iload_n 1, 1) := DX8_copies (27, .iload_n 1, 1) (List.mem_of_getElem? (i := 15) rfl)
theorem dX8_copies_28 : decode cX8_copies 28 = .ok (.imul, 1) := DX8_copies (28, .imul, 1) (List.mem_of_getElem? (i := 16) rfl)
theorem dX8_copies_29 : decode cX8_copies 29 = .ok (.iload_n 3, 1) := DX8_copies (29, .iload_n 3, 1) (List.mem_of_getElem? (i := 17) rfl)
theorem dX8_copies_30 : decode cX8_copies 30 = .ok (.iadd, 1) := DX8_copies (30, .iadd, 1) (List.mem_of_getElem? (i := 18) rfl)
theorem dX8_copies_31 : decode cX8_copies 31 = .ok (.iaload, 1) := DX8_copies (31, .iaload, 1) (List.mem_of_getElem? (i := 19) rfl)
theorem dX8_copies_32 : decode cX8_copies 32 = .ok (.iastore, 1) := DX8_copies (32, .iastore, 1) (List.mem_of_getElem? (i := 20) rfl)
theorem dX8_copies_33 : decode cX8_copies 33 = .ok (.iinc 3 1, 3) := DX8_copies (33, .iinc 3 1, 3) (List.mem_of_getElem? (i := 21) rfl)
theorem dX8_copies_36 : decode cX8_copies 36 = .ok (.goto (-34), 3) := DX8_copies (36, .goto (-34), 3) (List.mem_of_getElem? (i := 22) rfl)
theorem dX8_copies_39 : decode cX8_copies 39 = .ok (.return_, 1) := DX8_copies (39, .return_, 1) (List.mem_of_getElem? (i := 23) rfl)
noncomputable def fX8_copies_B2 (l1 : Int32) (l2 : Int32) (l3 : Int32) (σ : Mem) : Option ((Int32 × Mem) ⊕ (Mem)) :=
  if 1372 ≤ l3 then
    some (.inr σ)
  else
    chk (inb ((1372 * l1) + l3) 170128) <|
    chk (inb ((1372 * l2) + l3) 170128) <|
    some (.inl (l3 + 1, up2 σ 1 ((1372 * l2) + l3).toNatClampNeg (σ 1 ((1372 * l1) + l3).toNatClampNeg)))
set_option maxHeartbeats 4000000 in
set_option maxRecDepth 100000 in
theorem tX8_copies_B2 {E : Gx} {cI : ClassId} {ad : Nat → Nat} (C : Cx E rmX8_copies cI layM ad 4 RX8 cX8_copies) {out : Mem} (K0 : KV E rmX8_copies cI layM ad 4 cX8_copies out) {l1 : Int32} {l2 : Int32} {l3 : Int32} {σ : Mem} {res : (Int32 × Mem) ⊕ (Mem)} (h : fX8_copies_B2 l1 l2 l3 σ = some res) (K : Sum.elim (fun a => G E rmX8_copies cI layM ad 4 2 [(0, .ref (ad 0)), (1, .int l1), (2, .int l2), (3, .int a.1)] [] a.2) (fun b => G E rmX8_copies cI layM ad 4 39 [] [] b) res) : G E rmX8_copies cI layM ad 4 2 [(0, .ref (ad 0)), (1, .int l1), (2, .int l2), (3, .int l3)] [] σ := by
  unfold fX8_copies_B2 at h
  refine g_iload_n 3 C dX8_copies_2 rfl (j := 3) rfl rfl ?_
  refine g_sipush 6 (v := 1372) C dX8_copies_3 (by decide) rfl ?_
  refine g_icmp_ge 39 9 C dX8_copies_6 (by decide) rfl h (fun h => ?_) (fun h => ?_)
  · have hh := end_inr h K
    exact g_sub [] (hh) rfl
  · refine g_aload_n 10 C dX8_copies_9 rfl (j := 0) rfl rfl ?_
    refine g_getr 13 (j := 0) C rfl rfl wu_X8 (by decide) wf_X8_8 rfl dX8_copies_10 rfl ?_
    refine g_sipush 16 (v := 1372) C dX8_copies_13 (by decide) rfl ?_
    refine g_iload_n 17 C dX8_copies_16 rfl (j := 2) rfl rfl ?_
    refine g_imul 18 C dX8_copies_17 rfl ?_
    refine g_iload_n 19 C dX8_copies_18 rfl (j := 3) rfl rfl ?_
    refine g_iadd 20 C dX8_copies_19 rfl ?_
    refine g_aload_n 21 C dX8_copies_20 rfl (j := 0) rfl rfl ?_
    refine g_getr 24 (j := 0) C rfl rfl wu_X8 (by decide) wf_X8_8 rfl dX8_copies_21 rfl ?_
    refine g_sipush 27 (v := 1372) C dX8_copies_24 (by decide) rfl ?_
    refine g_iload_n 28 C dX8_copies_27 rfl (j := 1) rfl rfl ?_
    refine g_imul 29 C dX8_copies_28 rfl ?_
    refine g_iload_n 30 C dX8_copies_29 rfl (j := 3) rfl rfl ?_
    refine g_iadd 31 C dX8_copies_30 rfl ?_
    refine g_iald 32 C rfl dX8_copies_31 rfl h (fun h => ?_)
    refine g_iast 33 C rfl dX8_copies_32 rfl h (fun h => ?_)
    refine g_iinc 36 [(3, .int (l3 + 1)), (0, .ref (ad 0)), (1, .int l1), (2, .int l2)] C dX8_copies_33 (j := 3) rfl (by rfl) (by decide) rfl rfl ?_
    refine g_goto 2 C dX8_copies_36 (by decide) ?_
    have hh := end_inl h K
    exact g_sub [1, 2, 3, 0] (hh) rfl
noncomputable def fX8_copies_L39 (σ : Mem) : Option (Mem) :=
  some σ
set_option maxHeartbeats 4000000 in
set_option maxRecDepth 100000 in
theorem tX8_copies_L39 {E : Gx} {cI : ClassId} {ad : Nat → Nat} (C : Cx E rmX8_copies cI layM ad 4 RX8 cX8_copies) {out : Mem} (K0 : KV E rmX8_copies cI layM ad 4 cX8_copies out) {σ : Mem} (h : fX8_copies_L39 σ = some out) : G E rmX8_copies cI layM ad 4 39 [] [] σ := by
  unfold fX8_copies_L39 at h
  cases h
  exact K0 _ _ dX8_copies_39
noncomputable def fX8_copies (a1 : Int32) (a2 : Int32) (σ : Mem) : Option (Mem) :=
  (loop (fun a => fX8_copies_B2 a1 a2 a.1 a.2) (0, σ)).bind fun b1 =>
  fX8_copies_L39 b1
set_option maxHeartbeats 4000000 in
set_option maxRecDepth 100000 in
theorem mX8_copies {l : Launch} {D : va_G} {cI : ClassId} {ad : Nat → Nat} {a1 : Int32} {a2 : Int32} {σ : Mem} {out : Mem} (h : fX8_copies a1 a2 σ = some out) : MV l D cI layM ad yX8_copies cX8_copies 4 rmX8_copies [.ref (ad 0), .int a1, .int a2] σ out := by
  refine met_v (by decide) (Nat.le_of_ble_eq_true rfl) (fun E C K0 => ?_)
  show G E rmX8_copies cI layM ad 4 0 [(0, .ref (ad 0)), (1, .int a1), (2, .int a2)] [] σ
  unfold fX8_copies at h
  refine g_iconst 1 (v := 0) C dX8_copies_0 (by decide) rfl ?_
  refine g_istore_n 2 [(3, .int 0), (0, .ref (ad 0)), (1, .int a1), (2, .int a2)] C dX8_copies_1 rfl (by decide) rfl rfl ?_
  obtain ⟨b1, hb, h⟩ := bind_some h
  refine g_sub [1, 2, 3, 0] (g_loop (a := (0, σ)) (fun a => G E rmX8_copies cI layM ad 4 2 [(0, .ref (ad 0)), (1, .int a1), (2, .int a2), (3, .int a.1)] [] a.2) (fun b => G E rmX8_copies cI layM ad 4 39 [] [] b) hb (fun a res h K => tX8_copies_B2 (l1 := a1) (l2 := a2) (l3 := a.1) (σ := a.2) (res := res) C K0 h K) ?_) rfl
  show G E rmX8_copies cI layM ad 4 39 [] [] b1
  exact tX8_copies_L39 (σ := b1) C K0 h

/-! LoopReducerModel.joins(IIIII)V -/
abbrev rmX8_joins : Room := { frames := 1, cells := 0, slots := 0, locals := 22 }
theorem qX8_joins : yX8_joins.cls ≠ "java/lang/invoke/MethodHandle" ∧ yX8_joins.cls ≠ "java/lang/invoke/VarHandle" ∧ (parseMethodDescriptor yX8_joins.desc).map (fun d => d.parameters.length) = some 5 := by decide +kernel
theorem DX8_joins : ∀ q ∈ ([(0, .iconst 0, 1), (1, .istore 6, 2), (3, .iload 6, 2), (5, .sipush 1372, 3), (8, .if_icmp .ge 63, 3), (11, .aload_n 0, 1), (12, .getfield 8, 3), (15, .sipush 1372, 3), (18, .iload_n 1, 1), (19, .imul, 1), (20, .iload 6, 2), (22, .iadd, 1), (23, .aload_n 0, 1), (24, .iload_n 3, 1), (25, .i2l, 1), (26, .aload_n 0, 1), (27, .getfield 8, 3), (30, .sipush 1372, 3), (33, .iload_n 2, 1), (34, .imul, 1), (35, .iload 6, 2), (37, .iadd, 1), (38, .iaload, 1), (39, .i2l, 1), (40, .lmul, 1), (41, .iload 5, 2), (43, .i2l, 1), (44, .aload_n 0, 1), (45, .getfield 8, 3), (48, .sipush 1372, 3), (51, .iload 4, 2), (53, .imul, 1), (54, .iload 6, 2), (56, .iadd, 1), (57, .iaload, 1), (58, .i2l, 1), (59, .lmul, 1), (60, .ladd, 1), (61, .invokevirtual 83, 3), (64, .iastore, 1), (65, .iinc 6 1, 3), (68, .goto (-65), 3), (71, .return_, 1)] : List (Nat × Instr × Nat)), decode cX8_joins q.1 = .ok q.2 := by decide +kernel
theorem dX8_joins_0 : decode cX8_joins 0 = .ok (.iconst 0, 1) := DX8_joins (0, .iconst 0, 1) (List.mem_of_getElem? (i := 0) rfl)
theorem dX8_joins_1 : decode cX8_joins 1 = .ok (.istore 6, 2) := DX8_joins (1, .istore 6, 2) (List.mem_of_getElem? (i := 1) rfl)
theorem dX8_joins_3 : decode cX8_joins 3 = .ok (.iload 6, 2) := DX8_joins (3, .iload 6, 2) (List.mem_of_getElem? (i := 2) rfl)
theorem dX8_joins_5 : decode cX8_joins 5 = .ok (.sipush 1372, 3) := DX8_joins (5, .sipush 1372, 3) (List.mem_of_getElem? (i := 3) rfl)
theorem dX8_joins_8 : decode cX8_joins 8 = .ok (.if_icmp .ge 63, 3) := DX8_joins (8, .if_icmp .ge 63, 3) (List.mem_of_getElem? (i := 4) rfl)
theorem dX8_joins_11 : decode cX8_joins 11 = .ok (.aload_n 0, 1) := DX8_joins (11, .aload_n 0, 1) (List.mem_of_getElem? (i := 5) rfl)
theorem dX8_joins_12 : decode cX8_joins 12 = .ok (.getfield 8, 3) := DX8_joins (12, .getfield 8, 3) (List.mem_of_getElem? (i := 6) rfl)
theorem dX8_joins_15 : decode cX8_joins 15 = .ok (.sipush 1372, 3) := DX8_joins (15, .sipush 1372, 3) (List.mem_of_getElem? (i := 7) rfl)
theorem dX8_joins_18 : decode cX8_joins 18 = .ok (.iload_n 1, 1) := DX8_joins (18, .iload_n 1, 1) (List.mem_of_getElem? (i := 8) rfl)
theorem dX8_joins_19 : decode cX8_joins 19 = .ok (.imul, 1) := DX8_joins (19, .imul, 1) (List.mem_of_getElem? (i := 9) rfl)
theorem dX8_joins_20 : decode cX8_joins 20 = .ok (.iload 6, 2) := DX8_joins (20, .iload 6, 2) (List.mem_of_getElem? (i := 10) rfl)
theorem dX8_joins_22 : decode cX8_joins 22 = .ok (.iadd, 1) := DX8_joins (22, .iadd, 1) (List.mem_of_getElem? (i := 11) rfl)
theorem dX8_joins_23 : decode cX8_joins 23 = .ok (.aload_n 0, 1) := DX8_joins (23, .aload_n 0, 1) (List.mem_of_getElem? (i := 12) rfl)
theorem dX8_joins_24 : decode cX8_joins 24 = .ok (.iload_n 3, 1) := DX8_joins (24, .iload_n 3, 1) (List.mem_of_getElem? (i := 13) rfl)
theorem dX8_joins_25 : decode cX8_joins 25 = .ok (.i2l, 1) := DX8_joins (25, .i2l, 1) (List.mem_of_getElem? (i := 14) rfl)
theorem dX8_joins_26 : decode cX8_joins 26 = .ok (.aload_n 0, 1) := DX8_joins (26, .aload_n 0, 1) (List.mem_of_getElem? (i := 15) rfl)
theorem dX8_joins_27 : decode cX8_joins 27 = .ok (.getfield 8, 3) := DX8_joins (27, .getfield 8, 3) (List.mem_of_getElem? (i := 16) rfl)
theorem dX8_joins_30 : decode cX8_joins 30 = .ok (.sipush 1372, 3) := DX8_joins (30, .sipush 1372, 3) (List.mem_of_getElem? (i := 17) rfl)
theorem dX8_joins_33 : decode cX8_joins 33 = .ok (.iload_n 2, 1) := DX8_joins (33, .iload_n 2, 1) (List.mem_of_getElem? (i := 18) rfl)
theorem dX8_joins_34 : decode cX8_joins 34 = .ok (.imul, 1) := DX8_joins (34, .imul, 1) (List.mem_of_getElem? (i := 19) rfl)
theorem dX8_joins_35 : decode cX8_joins 35 = .ok (.iload 6, 2) := DX8_joins (35, .iload 6, 2) (List.mem_of_getElem? (i := 20) rfl)
theorem dX8_joins_37 : decode cX8_joins 37 = .ok (.iadd, 1) := DX8_joins (37, .iadd, 1) (List.mem_of_getElem? (i := 21) rfl)
theorem dX8_joins_38 : decode cX8_joins 38 = .ok (.iaload, 1) := DX8_joins (38, .iaload, 1) (List.mem_of_getElem? (i := 22) rfl)
theorem dX8_joins_39 : decode cX8_joins 39 = .ok (.i2l, 1) := DX8_joins (39, .i2l, 1) (List.mem_of_getElem? (i := 23) rfl)
theorem dX8_joins_40 : decode cX8_joins 40 = .ok (.lmul, 1) := DX8_joins (40, .lmul, 1) (List.mem_of_getElem? (i := 24) rfl)
theorem dX8_joins_41 : decode cX8_joins 41 = .ok (.iload 5, 2) := DX8_joins (41, .iload 5, 2) (List.mem_of_getElem? (i := 25) rfl)
theorem dX8_joins_43 : decode cX8_joins 43 = .ok (.i2l, 1) := DX8_joins (43, .i2l, 1) (List.mem_of_getElem? (i := 26) rfl)
theorem dX8_joins_44 : decode cX8_joins 44 = .ok (.aload_n 0, 1) := DX8_joins (44, .aload_n 0, 1) (List.mem_of_getElem? (i := 27) rfl)
theorem dX8_joins_45 : decode cX8_joins 45 = .ok (.getfield 8, 3) := DX8_joins (45, .getfield 8, 3) (List.mem_of_getElem? (i := 28) rfl)
theorem dX8_joins_48 : decode cX8_joins 48 = .ok (.sipush 1372, 3) := DX8_joins (48, .sipush 1372, 3) (List.mem_of_getElem? (i := 29) rfl)
theorem dX8_joins_51 : decode cX8_joins 51 = .ok (.iload 4, 2) := DX8_joins (51, .iload 4, 2) (List.mem_of_getElem? (i := 30) rfl)
theorem dX8_joins_53 : decode cX8_joins 53 = .ok (.imul, 1) := DX8_joins (53, .imul, 1) (List.mem_of_getElem? (i := 31) rfl)
theorem dX8_joins_54 : decode cX8_joins 54 = .ok (.iload 6, 2) := DX8_joins (54, .iload 6, 2) (List.mem_of_getElem? (i := 32) rfl)
theorem dX8_joins_56 : decode cX8_joins 56 = .ok (.iadd, 1) := DX8_joins (56, .iadd, 1) (List.mem_of_getElem? (i := 33) rfl)
theorem dX8_joins_57 : decode cX8_joins 57 = .ok (.iaload, 1) := DX8_joins (57, .iaload, 1) (List.mem_of_getElem? (i := 34) rfl)
theorem dX8_joins_58 : decode cX8_joins 58 = .ok (.i2l, 1) := DX8_joins (58, .i2l, 1) (List.mem_of_getElem? (i := 35) rfl)
theorem dX8_joins_59 : decode cX8_joins 59 = .ok (.lmul, 1) := DX8_joins (59, .lmul, 1) (List.mem_of_getElem? (i := 36) rfl)
theorem dX8_joins_60 : decode cX8_joins 60 = .ok (.ladd, 1) := DX8_joins (60, .ladd, 1) (List.mem_of_getElem? (i := 37) rfl)
theorem dX8_joins_61 : decode cX8_joins 61 = .ok (.invokevirtual 83, 3) := DX8_joins (61, .invokevirtual 83, 3) (List.mem_of_getElem? (i := 38) rfl)
theorem dX8_joins_64 : decode cX8_joins 64 = .ok (.iastore, 1) := DX8_joins (64, .iastore, 1) (List.mem_of_getElem? (i := 39) rfl)
theorem dX8_joins_65 : decode cX8_joins 65 = .ok (.iinc 6 1, 3) := DX8_joins (65, .iinc 6 1, 3) (List.mem_of_getElem? (i := 40) rfl)
theorem dX8_joins_68 : decode cX8_joins 68 = .ok (.goto (-65), 3) := DX8_joins (68, .goto (-65), 3) (List.mem_of_getElem? (i := 41) rfl)
theorem dX8_joins_71 : decode cX8_joins 71 = .ok (.return_, 1) := DX8_joins (71, .return_, 1) (List.mem_of_getElem? (i := 42) rfl)
noncomputable def fX8_joins_B3 (l1 : Int32) (l2 : Int32) (l3 : Int32) (l4 : Int32) (l5 : Int32) (l6 : Int32) (σ : Mem) : Option ((Int32 × Mem) ⊕ (Mem)) :=
  if 1372 ≤ l6 then
    some (.inr σ)
  else
    chk (inb ((1372 * l2) + l6) 170128) <|
    chk (inb ((1372 * l4) + l6) 170128) <|
    (fX8_cut ((l3.toInt64 * ((σ 1 ((1372 * l2) + l6).toNatClampNeg).toInt64)) + (l5.toInt64 * ((σ 1 ((1372 * l4) + l6).toNatClampNeg).toInt64))) σ).bind fun o1 =>
    chk (inb ((1372 * l1) + l6) 170128) <|
    some (.inl (l6 + 1, up2 o1.2 1 ((1372 * l1) + l6).toNatClampNeg o1.1))
set_option maxHeartbeats 4000000 in
set_option maxRecDepth 100000 in
theorem tX8_joins_B3 {E : Gx} {cI : ClassId} {ad : Nat → Nat} (C : Cx E rmX8_joins cI layM ad 7 RX8 cX8_joins) {out : Mem} (K0 : KV E rmX8_joins cI layM ad 7 cX8_joins out) {l1 : Int32} {l2 : Int32} {l3 : Int32} {l4 : Int32} {l5 : Int32} {l6 : Int32} {σ : Mem} {res : (Int32 × Mem) ⊕ (Mem)} (h : fX8_joins_B3 l1 l2 l3 l4 l5 l6 σ = some res) (K : Sum.elim (fun a => G E rmX8_joins cI layM ad 7 3 [(0, .ref (ad 0)), (1, .int l1), (2, .int l2), (3, .int l3), (4, .int l4), (5, .int l5), (6, .int a.1)] [] a.2) (fun b => G E rmX8_joins cI layM ad 7 71 [] [] b) res) : G E rmX8_joins cI layM ad 7 3 [(0, .ref (ad 0)), (1, .int l1), (2, .int l2), (3, .int l3), (4, .int l4), (5, .int l5), (6, .int l6)] [] σ := by
  unfold fX8_joins_B3 at h
  refine g_iload 5 C dX8_joins_3 (j := 6) rfl rfl ?_
  refine g_sipush 8 (v := 1372) C dX8_joins_5 (by decide) rfl ?_
  refine g_icmp_ge 71 11 C dX8_joins_8 (by decide) rfl h (fun h => ?_) (fun h => ?_)
  · have hh := end_inr h K
    exact g_sub [] (hh) rfl
  · refine g_aload_n 12 C dX8_joins_11 rfl (j := 0) rfl rfl ?_
    refine g_getr 15 (j := 0) C rfl rfl wu_X8 (by decide) wf_X8_8 rfl dX8_joins_12 rfl ?_
    refine g_sipush 18 (v := 1372) C dX8_joins_15 (by decide) rfl ?_
    refine g_iload_n 19 C dX8_joins_18 rfl (j := 1) rfl rfl ?_
    refine g_imul 20 C dX8_joins_19 rfl ?_
    refine g_iload 22 C dX8_joins_20 (j := 6) rfl rfl ?_
    refine g_iadd 23 C dX8_joins_22 rfl ?_
    refine g_aload_n 24 C dX8_joins_23 rfl (j := 0) rfl rfl ?_
    refine g_iload_n 25 C dX8_joins_24 rfl (j := 3) rfl rfl ?_
    refine g_i2l 26 C dX8_joins_25 rfl ?_
    refine g_aload_n 27 C dX8_joins_26 rfl (j := 0) rfl rfl ?_
    refine g_getr 30 (j := 0) C rfl rfl wu_X8 (by decide) wf_X8_8 rfl dX8_joins_27 rfl ?_
    refine g_sipush 33 (v := 1372) C dX8_joins_30 (by decide) rfl ?_
    refine g_iload_n 34 C dX8_joins_33 rfl (j := 2) rfl rfl ?_
    refine g_imul 35 C dX8_joins_34 rfl ?_
    refine g_iload 37 C dX8_joins_35 (j := 6) rfl rfl ?_
    refine g_iadd 38 C dX8_joins_37 rfl ?_
    refine g_iald 39 C rfl dX8_joins_38 rfl h (fun h => ?_)
    refine g_i2l 40 C dX8_joins_39 rfl ?_
    refine g_lmul 41 C dX8_joins_40 rfl ?_
    refine g_iload 43 C dX8_joins_41 (j := 5) rfl rfl ?_
    refine g_i2l 44 C dX8_joins_43 rfl ?_
    refine g_aload_n 45 C dX8_joins_44 rfl (j := 0) rfl rfl ?_
    refine g_getr 48 (j := 0) C rfl rfl wu_X8 (by decide) wf_X8_8 rfl dX8_joins_45 rfl ?_
    refine g_sipush 51 (v := 1372) C dX8_joins_48 (by decide) rfl ?_
    refine g_iload 53 C dX8_joins_51 (j := 4) rfl rfl ?_
    refine g_imul 54 C dX8_joins_53 rfl ?_
    refine g_iload 56 C dX8_joins_54 (j := 6) rfl rfl ?_
    refine g_iadd 57 C dX8_joins_56 rfl ?_
    refine g_iald 58 C rfl dX8_joins_57 rfl h (fun h => ?_)
    refine g_i2l 59 C dX8_joins_58 rfl ?_
    refine g_lmul 60 C dX8_joins_59 rfl ?_
    refine g_ladd 61 C dX8_joins_60 rfl ?_
    refine g_cvi 64 C (As := [.long ((l3.toInt64 * ((σ 1 ((1372 * l2) + l6).toNatClampNeg).toInt64)) + (l5.toInt64 * ((σ 1 ((1372 * l4) + l6).toNatClampNeg).toInt64)))]) (fun _ h => mX8_cut (a1 := (l3.toInt64 * ((σ 1 ((1372 * l2) + l6).toNatClampNeg).toInt64)) + (l5.toInt64 * ((σ 1 ((1372 * l4) + l6).toNatClampNeg).toInt64))) (σ := σ) h) wl_X8_83 wi_X8_cut wz_X8_cut wc_X8_cut wn_X8 qX8_cut rfl rfl ⟨Nat.le_of_ble_eq_true rfl, Nat.le_of_ble_eq_true rfl⟩ rfl rfl rfl rfl (Nat.le_of_ble_eq_true rfl) dX8_joins_61 rfl h (fun o1 h => ?_)
    refine g_iast 65 C rfl dX8_joins_64 rfl h (fun h => ?_)
    refine g_iinc 68 [(6, .int (l6 + 1)), (0, .ref (ad 0)), (1, .int l1), (2, .int l2), (3, .int l3), (4, .int l4), (5, .int l5)] C dX8_joins_65 (j := 6) rfl (by rfl) (by decide) rfl rfl ?_
    refine g_goto 3 C dX8_joins_68 (by decide) ?_
    have hh := end_inl h K
    exact g_sub [1, 2, 3, 4, 5, 6, 0] (hh) rfl
noncomputable def fX8_joins_L71 (σ : Mem) : Option (Mem) :=
  some σ
set_option maxHeartbeats 4000000 in
set_option maxRecDepth 100000 in
theorem tX8_joins_L71 {E : Gx} {cI : ClassId} {ad : Nat → Nat} (C : Cx E rmX8_joins cI layM ad 7 RX8 cX8_joins) {out : Mem} (K0 : KV E rmX8_joins cI layM ad 7 cX8_joins out) {σ : Mem} (h : fX8_joins_L71 σ = some out) : G E rmX8_joins cI layM ad 7 71 [] [] σ := by
  unfold fX8_joins_L71 at h
  cases h
  exact K0 _ _ dX8_joins_71
noncomputable def fX8_joins (a1 : Int32) (a2 : Int32) (a3 : Int32) (a4 : Int32) (a5 : Int32) (σ : Mem) : Option (Mem) :=
  (loop (fun a => fX8_joins_B3 a1 a2 a3 a4 a5 a.1 a.2) (0, σ)).bind fun b2 =>
  fX8_joins_L71 b2
set_option maxHeartbeats 4000000 in
set_option maxRecDepth 100000 in
theorem mX8_joins {l : Launch} {D : va_G} {cI : ClassId} {ad : Nat → Nat} {a1 : Int32} {a2 : Int32} {a3 : Int32} {a4 : Int32} {a5 : Int32} {σ : Mem} {out : Mem} (h : fX8_joins a1 a2 a3 a4 a5 σ = some out) : MV l D cI layM ad yX8_joins cX8_joins 7 rmX8_joins [.ref (ad 0), .int a1, .int a2, .int a3, .int a4, .int a5] σ out := by
  refine met_v (by decide) (Nat.le_of_ble_eq_true rfl) (fun E C K0 => ?_)
  show G E rmX8_joins cI layM ad 7 0 [(0, .ref (ad 0)), (1, .int a1), (2, .int a2), (3, .int a3), (4, .int a4), (5, .int a5)] [] σ
  unfold fX8_joins at h
  refine g_iconst 1 (v := 0) C dX8_joins_0 (by decide) rfl ?_
  refine g_istore 3 [(6, .int 0), (0, .ref (ad 0)), (1, .int a1), (2, .int a2), (3, .int a3), (4, .int a4), (5, .int a5)] C dX8_joins_1 (by decide) rfl rfl ?_
  obtain ⟨b2, hb, h⟩ := bind_some h
  refine g_sub [1, 2, 3, 4, 5, 6, 0] (g_loop (a := (0, σ)) (fun a => G E rmX8_joins cI layM ad 7 3 [(0, .ref (ad 0)), (1, .int a1), (2, .int a2), (3, .int a3), (4, .int a4), (5, .int a5), (6, .int a.1)] [] a.2) (fun b => G E rmX8_joins cI layM ad 7 71 [] [] b) hb (fun a res h K => tX8_joins_B3 (l1 := a1) (l2 := a2) (l3 := a3) (l4 := a4) (l5 := a5) (l6 := a.1) (σ := a.2) (res := res) C K0 h K) ?_) rfl
  show G E rmX8_joins cI layM ad 7 71 [] [] b2
  exact tX8_joins_L71 (σ := b2) C K0 h

/-! LoopReducerModel.isNought(II)Z -/
abbrev rmX8_isNought : Room := { frames := 0, cells := 0, slots := 0, locals := 0 }
theorem qX8_isNought : yX8_isNought.cls ≠ "java/lang/invoke/MethodHandle" ∧ yX8_isNought.cls ≠ "java/lang/invoke/VarHandle" ∧ (parseMethodDescriptor yX8_isNought.desc).map (fun d => d.parameters.length) = some 2 := by decide +kernel
theorem DX8_isNought : ∀ q ∈ ([(0, .iconst 0, 1), (1, .istore_n 3, 1), (2, .iload_n 3, 1), (3, .sipush 343, 3), (6, .if_icmp .ge 32, 3), (9, .aload_n 0, 1), (10, .getfield 8, 3), (13, .sipush 1372, 3), (16, .iload_n 1, 1), (17, .imul, 1), (18, .sipush 343, 3), (21, .iload_n 2, 1), (22, .imul, 1), (23, .iadd, 1), (24, .iload_n 3, 1), (25, .iadd, 1), (26, .iaload, 1), (27, .ifCond .eq 5, 3), (30, .iconst 0, 1), (31, .ireturn, 1), (32, .iinc 3 1, 3), (35, .goto (-33), 3), (38, .iconst 1, 1), (39, .ireturn, 1)] : List (Nat × Instr × Nat)), decode cX8_isNought q.1 = .ok q.2 := by decide +kernel
theorem dX8_isNought_0 : decode cX8_isNought 0 = .ok (.iconst 0, 1) := DX8_isNought (0, .iconst 0, 1) (List.mem_of_getElem? (i := 0) rfl)
theorem dX8_isNought_1 : decode cX8_isNought 1 = .ok (.istore_n 3, 1) := DX8_isNought (1, .istore_n 3, 1) (List.mem_of_getElem? (i := 1) rfl)
theorem dX8_isNought_2 : decode cX8_isNought 2 = .ok (.iload_n 3, 1) := DX8_isNought (2, .iload_n 3, 1) (List.mem_of_getElem? (i := 2) rfl)
theorem dX8_isNought_3 : decode cX8_isNought 3 = .ok (.sipush 343, 3) := DX8_isNought (3, .sipush 343, 3) (List.mem_of_getElem? (i := 3) rfl)
theorem dX8_isNought_6 : decode cX8_isNought 6 = .ok (.if_icmp .ge 32, 3) := DX8_isNought (6, .if_icmp .ge 32, 3) (List.mem_of_getElem? (i := 4) rfl)
theorem dX8_isNought_9 : decode cX8_isNought 9 = .ok (.aload_n 0, 1) := DX8_isNought (9, .aload_n 0, 1) (List.mem_of_getElem? (i := 5) rfl)
theorem dX8_isNought_10 : decode cX8_isNought 10 = .ok (.getfield 8, 3) := DX8_isNought (10, .getfield 8, 3) (List.mem_of_getElem? (i := 6) rfl)
theorem dX8_isNought_13 : decode cX8_isNought 13 = .ok (.sipush 1372, 3) := DX8_isNought (13, .sipush 1372, 3) (List.mem_of_getElem? (i := 7) rfl)
theorem dX8_isNought_16 : decode cX8_isNought 16 = .ok (.iload_n 1, 1) := DX8_isNought (16, .iload_n 1, 1) (List.mem_of_getElem? (i := 8) rfl)
theorem dX8_isNought_17 : decode cX8_isNought 17 = .ok (.imul, 1) := DX8_isNought (17, .imul, 1) (List.mem_of_getElem? (i := 9) rfl)
theorem dX8_isNought_18 : decode cX8_isNought 18 = .ok (.sipush 343, 3) := DX8_isNought (18, .sipush 343, 3) (List.mem_of_getElem? (i := 10) rfl)
theorem dX8_isNought_21 : decode cX8_isNought 21 = .ok (.iload_n 2, 1) := DX8_isNought (21, .iload_n 2, 1) (List.mem_of_getElem? (i := 11) rfl)
theorem dX8_isNought_22 : decode cX8_isNought 22 = .ok (.imul, 1) := DX8_isNought (22, .imul, 1) (List.mem_of_getElem? (i := 12) rfl)
theorem dX8_isNought_23 : decode cX8_isNought 23 = .ok (.iadd, 1) := DX8_isNought (23, .iadd, 1) (List.mem_of_getElem? (i := 13) rfl)
theorem dX8_isNought_24 : decode cX8_isNought 24 = .ok (.iload_n 3, 1) := DX8_isNought (24, .iload_n 3, 1) (List.mem_of_getElem? (i := 14) rfl)
theorem dX8_isNought_25 : decode cX8_isNought 25 = .ok (.iadd, 1) := DX8_isNought (25, .iadd, 1) (List.mem_of_getElem? (i := 15) rfl)
theorem dX8_isNought_26 : decode cX8_isNought 26 = .ok (.iaload, 1) := DX8_isNought (26, .iaload, 1) (List.mem_of_getElem? (i := 16) rfl)
theorem dX8_isNought_27 : decode cX8_isNought 27 = .ok (.ifCond .eq 5, 3) := DX8_isNought (27, .ifCond .eq 5, 3) (List.mem_of_getElem? (i := 17) rfl)
theorem dX8_isNought_30 : decode cX8_isNought 30 = .ok (.iconst 0, 1) := DX8_isNought (30, .iconst 0, 1) (List.mem_of_getElem? (i := 18) rfl)
theorem dX8_isNought_31 : decode cX8_isNought 31 = .ok (.ireturn, 1) := DX8_isNought (31, .ireturn, 1) (List.mem_of_getElem? (i := 19) rfl)
theorem dX8_isNought_32 : decode cX8_isNought 32 = .ok (.iinc 3 1, 3) := DX8_isNought (32, .iinc 3 1, 3) (List.mem_of_getElem? (i := 20) rfl)
theorem dX8_isNought_35 : decode cX8_isNought 35 = .ok (.goto (-33), 3) := DX8_isNought (35, .goto (-33), 3) (List.mem_of_getElem? (i := 21) rfl)
theorem dX8_isNought_38 : decode cX8_isNought 38 = .ok (.iconst 1, 1) := DX8_isNought (38, .iconst 1, 1) (List.mem_of_getElem? (i := 22) rfl)
theorem dX8_isNought_39 : decode cX8_isNought 39 = .ok (.ireturn, 1) := DX8_isNought (39, .ireturn, 1) (List.mem_of_getElem? (i := 23) rfl)
noncomputable def fX8_isNought_B2 (l1 : Int32) (l2 : Int32) (l3 : Int32) (σ : Mem) : Option ((Int32 × Mem) ⊕ ((Mem) ⊕ (Int32 × Mem))) :=
  if 343 ≤ l3 then
    some (.inr (.inl σ))
  else
    chk (inb (((1372 * l1) + (343 * l2)) + l3) 170128) <|
    if (σ 1 (((1372 * l1) + (343 * l2)) + l3).toNatClampNeg) = 0 then
      some (.inl (l3 + 1, σ))
    else
      some (.inr (.inr (0, σ)))
set_option maxHeartbeats 4000000 in
set_option maxRecDepth 100000 in
theorem tX8_isNought_B2 {E : Gx} {cI : ClassId} {ad : Nat → Nat} (C : Cx E rmX8_isNought cI layM ad 4 RX8 cX8_isNought) {out : Int32 × Mem} (K0 : KI E rmX8_isNought cI layM ad 4 cX8_isNought .boolean out) {l1 : Int32} {l2 : Int32} {l3 : Int32} {σ : Mem} {res : (Int32 × Mem) ⊕ ((Mem) ⊕ (Int32 × Mem))} (h : fX8_isNought_B2 l1 l2 l3 σ = some res) (K : Sum.elim (fun a => G E rmX8_isNought cI layM ad 4 2 [(0, .ref (ad 0)), (1, .int l1), (2, .int l2), (3, .int a.1)] [] a.2) (Sum.elim (fun b => G E rmX8_isNought cI layM ad 4 38 [] [] b) (fun b => b = out)) res) : G E rmX8_isNought cI layM ad 4 2 [(0, .ref (ad 0)), (1, .int l1), (2, .int l2), (3, .int l3)] [] σ := by
  unfold fX8_isNought_B2 at h
  refine g_iload_n 3 C dX8_isNought_2 rfl (j := 3) rfl rfl ?_
  refine g_sipush 6 (v := 343) C dX8_isNought_3 (by decide) rfl ?_
  refine g_icmp_ge 38 9 C dX8_isNought_6 (by decide) rfl h (fun h => ?_) (fun h => ?_)
  · have hh := end_alt0_2 h K
    exact g_sub [] (hh) rfl
  · refine g_aload_n 10 C dX8_isNought_9 rfl (j := 0) rfl rfl ?_
    refine g_getr 13 (j := 0) C rfl rfl wu_X8 (by decide) wf_X8_8 rfl dX8_isNought_10 rfl ?_
    refine g_sipush 16 (v := 1372) C dX8_isNought_13 (by decide) rfl ?_
    refine g_iload_n 17 C dX8_isNought_16 rfl (j := 1) rfl rfl ?_
    refine g_imul 18 C dX8_isNought_17 rfl ?_
    refine g_sipush 21 (v := 343) C dX8_isNought_18 (by decide) rfl ?_
    refine g_iload_n 22 C dX8_isNought_21 rfl (j := 2) rfl rfl ?_
    refine g_imul 23 C dX8_isNought_22 rfl ?_
    refine g_iadd 24 C dX8_isNought_23 rfl ?_
    refine g_iload_n 25 C dX8_isNought_24 rfl (j := 3) rfl rfl ?_
    refine g_iadd 26 C dX8_isNought_25 rfl ?_
    refine g_iald 27 C rfl dX8_isNought_26 rfl h (fun h => ?_)
    refine g_if_eq 32 30 C dX8_isNought_27 (by decide) rfl h (fun h => ?_) (fun h => ?_)
    · refine g_iinc 35 [(3, .int (l3 + 1)), (0, .ref (ad 0)), (1, .int l1), (2, .int l2)] C dX8_isNought_32 (j := 3) rfl (by rfl) (by decide) rfl rfl ?_
      refine g_goto 2 C dX8_isNought_35 (by decide) ?_
      have hh := end_inl h K
      exact g_sub [1, 2, 3, 0] (hh) rfl
    · refine g_iconst 31 (v := 0) C dX8_isNought_30 (by decide) rfl ?_
      have ho := end_alt1_2 h K
      replace ho : (0, σ) = out := ho
      subst ho
      exact K0 _ _ dX8_isNought_31 (zb_nar (x := 0) (by decide))
noncomputable def fX8_isNought_L38 (σ : Mem) : Option (Int32 × Mem) :=
  some (1, σ)
set_option maxHeartbeats 4000000 in
set_option maxRecDepth 100000 in
theorem tX8_isNought_L38 {E : Gx} {cI : ClassId} {ad : Nat → Nat} (C : Cx E rmX8_isNought cI layM ad 4 RX8 cX8_isNought) {out : Int32 × Mem} (K0 : KI E rmX8_isNought cI layM ad 4 cX8_isNought .boolean out) {σ : Mem} (h : fX8_isNought_L38 σ = some out) : G E rmX8_isNought cI layM ad 4 38 [] [] σ := by
  unfold fX8_isNought_L38 at h
  refine g_iconst 39 (v := 1) C dX8_isNought_38 (by decide) rfl ?_
  cases h
  exact K0 _ _ dX8_isNought_39 (zb_nar (x := 1) (by decide))
noncomputable def fX8_isNought (a1 : Int32) (a2 : Int32) (σ : Mem) : Option (Int32 × Mem) :=
  (loop (fun a => fX8_isNought_B2 a1 a2 a.1 a.2) (0, σ)).bind (Sum.elim (fun b1x0 => fX8_isNought_L38 b1x0) (fun b1r => some b1r))
set_option maxHeartbeats 4000000 in
set_option maxRecDepth 100000 in
theorem mX8_isNought {l : Launch} {D : va_G} {cI : ClassId} {ad : Nat → Nat} {a1 : Int32} {a2 : Int32} {σ : Mem} {out : Int32 × Mem} (h : fX8_isNought a1 a2 σ = some out) : MI l D cI layM ad yX8_isNought cX8_isNought 4 .boolean rmX8_isNought [.ref (ad 0), .int a1, .int a2] σ out := by
  refine met_i (by decide) (Nat.le_of_ble_eq_true rfl) (fun E C K0 => ?_)
  show G E rmX8_isNought cI layM ad 4 0 [(0, .ref (ad 0)), (1, .int a1), (2, .int a2)] [] σ
  unfold fX8_isNought at h
  refine g_iconst 1 (v := 0) C dX8_isNought_0 (by decide) rfl ?_
  refine g_istore_n 2 [(3, .int 0), (0, .ref (ad 0)), (1, .int a1), (2, .int a2)] C dX8_isNought_1 rfl (by decide) rfl rfl ?_
  obtain ⟨b1, hb, h⟩ := bind_some h
  refine g_sub [1, 2, 3, 0] (g_loop (a := (0, σ)) (fun a => G E rmX8_isNought cI layM ad 4 2 [(0, .ref (ad 0)), (1, .int a1), (2, .int a2), (3, .int a.1)] [] a.2) (Sum.elim (fun b => G E rmX8_isNought cI layM ad 4 38 [] [] b) (fun b => b = out)) hb (fun a res h K => tX8_isNought_B2 (l1 := a1) (l2 := a2) (l3 := a.1) (σ := a.2) (res := res) C K0 h K) ?_) rfl
  rcases b1 with b1x0 | b1r
  · show G E rmX8_isNought cI layM ad 4 38 [] [] b1x0
    exact tX8_isNought_L38 (σ := b1x0) C K0 h
  · exact end_top h

/-! LoopReducerModel.degreeOf(I)I -/
abbrev rmX8_degreeOf : Room := { frames := 1, cells := 0, slots := 0, locals := 23 }
theorem qX8_degreeOf : yX8_degreeOf.cls ≠ "java/lang/invoke/MethodHandle" ∧ yX8_degreeOf.cls ≠ "java/lang/invoke/VarHandle" ∧ (parseMethodDescriptor yX8_degreeOf.desc).map (fun d => d.parameters.length) = some 1 := by decide +kernel
theorem DX8_degreeOf : ∀ q ∈ ([(0, .iconst 3, 1), (1, .istore_n 2, 1), (2, .iload_n 2, 1), (3, .ifCond .le 18, 3), (6, .aload_n 0, 1), (7, .iload_n 1, 1), (8, .iload_n 2, 1), (9, .invokevirtual 118, 3), (12, .ifCond .eq 9, 3), (15, .iinc 2 (-1), 3), (18, .goto (-16), 3), (21, .iload_n 2, 1), (22, .ireturn, 1)] : List (Nat × Instr × Nat)), decode cX8_degreeOf q.1 = .ok q.2 := by decide +kernel
theorem dX8_degreeOf_0 : decode cX8_degreeOf 0 = .ok (.iconst 3, 1) := DX8_degreeOf (0, .iconst 3, 1) (List.mem_of_getElem? (i := 0) rfl)
theorem dX8_degreeOf_1 : decode cX8_degreeOf 1 = .ok (.istore_n 2, 1) := DX8_degreeOf (1, .istore_n 2, 1) (List.mem_of_getElem? (i := 1) rfl)
theorem dX8_degreeOf_2 : decode cX8_degreeOf 2 = .ok (.iload_n 2, 1) := DX8_degreeOf (2, .iload_n 2, 1) (List.mem_of_getElem? (i := 2) rfl)
theorem dX8_degreeOf_3 : decode cX8_degreeOf 3 = .ok (.ifCond .le 18, 3) := DX8_degreeOf (3, .ifCond .le 18, 3) (List.mem_of_getElem? (i := 3) rfl)
theorem dX8_degreeOf_6 : decode cX8_degreeOf 6 = .ok (.aload_n 0, 1) := DX8_degreeOf (6, .aload_n 0, 1) (List.mem_of_getElem? (i := 4) rfl)
theorem dX8_degreeOf_7 : decode cX8_degreeOf 7 = .ok (.iload_n 1, 1) := DX8_degreeOf (7, .iload_n 1, 1) (List.mem_of_getElem? (i := 5) rfl)
theorem dX8_degreeOf_8 : decode cX8_degreeOf 8 = .ok (.iload_n 2, 1) := DX8_degreeOf (8, .iload_n 2, 1) (List.mem_of_getElem? (i := 6) rfl)
theorem dX8_degreeOf_9 : decode cX8_degreeOf 9 = .ok (.invokevirtual 118, 3) := DX8_degreeOf (9, .invokevirtual 118, 3) (List.mem_of_getElem? (i := 7) rfl)
theorem dX8_degreeOf_12 : decode cX8_degreeOf 12 = .ok (.ifCond .eq 9, 3) := DX8_degreeOf (12, .ifCond .eq 9, 3) (List.mem_of_getElem? (i := 8) rfl)
theorem dX8_degreeOf_15 : decode cX8_degreeOf 15 = .ok (.iinc 2 (-1), 3) := DX8_degreeOf (15, .iinc 2 (-1), 3) (List.mem_of_getElem? (i := 9) rfl)
theorem dX8_degreeOf_18 : decode cX8_degreeOf 18 = .ok (.goto (-16), 3) := DX8_degreeOf (18, .goto (-16), 3) (List.mem_of_getElem? (i := 10) rfl)
theorem dX8_degreeOf_21 : decode cX8_degreeOf 21 = .ok (.iload_n 2, 1) := DX8_degreeOf (21, .iload_n 2, 1) (List.mem_of_getElem? (i := 11) rfl)
theorem dX8_degreeOf_22 : decode cX8_degreeOf 22 = .ok (.ireturn, 1) := DX8_degreeOf (22, .ireturn, 1) (List.mem_of_getElem? (i := 12) rfl)
noncomputable def fX8_degreeOf_B2 (l1 : Int32) (l2 : Int32) (σ : Mem) : Option ((Int32 × Mem) ⊕ (Int32 × Mem)) :=
  if l2 ≤ 0 then
    some (.inr (l2, σ))
  else
    (fX8_isNought l1 l2 σ).bind fun o1 =>
    if o1.1 = 0 then
      some (.inr (l2, o1.2))
    else
      some (.inl (l2 + (-1), o1.2))
set_option maxHeartbeats 4000000 in
set_option maxRecDepth 100000 in
theorem tX8_degreeOf_B2 {E : Gx} {cI : ClassId} {ad : Nat → Nat} (C : Cx E rmX8_degreeOf cI layM ad 3 RX8 cX8_degreeOf) {out : Int32 × Mem} (K0 : KI E rmX8_degreeOf cI layM ad 3 cX8_degreeOf .int out) {l1 : Int32} {l2 : Int32} {σ : Mem} {res : (Int32 × Mem) ⊕ (Int32 × Mem)} (h : fX8_degreeOf_B2 l1 l2 σ = some res) (K : Sum.elim (fun a => G E rmX8_degreeOf cI layM ad 3 2 [(0, .ref (ad 0)), (1, .int l1), (2, .int a.1)] [] a.2) (fun b => G E rmX8_degreeOf cI layM ad 3 21 [(2, .int b.1)] [] b.2) res) : G E rmX8_degreeOf cI layM ad 3 2 [(0, .ref (ad 0)), (1, .int l1), (2, .int l2)] [] σ := by
  unfold fX8_degreeOf_B2 at h
  refine g_iload_n 3 C dX8_degreeOf_2 rfl (j := 2) rfl rfl ?_
  refine g_if_le 21 6 C dX8_degreeOf_3 (by decide) rfl h (fun h => ?_) (fun h => ?_)
  · have hh := end_inr h K
    exact g_sub [2] (hh) rfl
  · refine g_aload_n 7 C dX8_degreeOf_6 rfl (j := 0) rfl rfl ?_
    refine g_iload_n 8 C dX8_degreeOf_7 rfl (j := 1) rfl rfl ?_
    refine g_iload_n 9 C dX8_degreeOf_8 rfl (j := 2) rfl rfl ?_
    refine g_cvi 12 C (As := [.int l1, .int l2]) (fun _ h => mX8_isNought (a1 := l1) (a2 := l2) (σ := σ) h) wl_X8_118 wi_X8_isNought wz_X8_isNought wc_X8_isNought wn_X8 qX8_isNought rfl rfl ⟨Nat.le_of_ble_eq_true rfl, Nat.le_of_ble_eq_true rfl⟩ rfl rfl rfl rfl (Nat.le_of_ble_eq_true rfl) dX8_degreeOf_9 rfl h (fun o1 h => ?_)
    refine g_if_eq 21 15 C dX8_degreeOf_12 (by decide) rfl h (fun h => ?_) (fun h => ?_)
    · have hh := end_inr h K
      exact g_sub [2] (hh) rfl
    · refine g_iinc 18 [(2, .int (l2 + (-1))), (0, .ref (ad 0)), (1, .int l1)] C dX8_degreeOf_15 (j := 2) rfl (by rfl) (by decide) rfl rfl ?_
      refine g_goto 2 C dX8_degreeOf_18 (by decide) ?_
      have hh := end_inl h K
      exact g_sub [1, 2, 0] (hh) rfl
noncomputable def fX8_degreeOf_L21 (l2 : Int32) (σ : Mem) : Option (Int32 × Mem) :=
  some (l2, σ)
set_option maxHeartbeats 4000000 in
set_option maxRecDepth 100000 in
theorem tX8_degreeOf_L21 {E : Gx} {cI : ClassId} {ad : Nat → Nat} (C : Cx E rmX8_degreeOf cI layM ad 3 RX8 cX8_degreeOf) {out : Int32 × Mem} (K0 : KI E rmX8_degreeOf cI layM ad 3 cX8_degreeOf .int out) {l2 : Int32} {σ : Mem} (h : fX8_degreeOf_L21 l2 σ = some out) : G E rmX8_degreeOf cI layM ad 3 21 [(2, .int l2)] [] σ := by
  unfold fX8_degreeOf_L21 at h
  refine g_iload_n 22 C dX8_degreeOf_21 rfl (j := 0) rfl rfl ?_
  cases h
  exact K0 _ _ dX8_degreeOf_22 rfl
noncomputable def fX8_degreeOf (a1 : Int32) (σ : Mem) : Option (Int32 × Mem) :=
  (loop (fun a => fX8_degreeOf_B2 a1 a.1 a.2) (3, σ)).bind fun b2 =>
  fX8_degreeOf_L21 b2.1 b2.2
set_option maxHeartbeats 4000000 in
set_option maxRecDepth 100000 in
theorem mX8_degreeOf {l : Launch} {D : va_G} {cI : ClassId} {ad : Nat → Nat} {a1 : Int32} {σ : Mem} {out : Int32 × Mem} (h : fX8_degreeOf a1 σ = some out) : MI l D cI layM ad yX8_degreeOf cX8_degreeOf 3 .int rmX8_degreeOf [.ref (ad 0), .int a1] σ out := by
  refine met_i (by decide) (Nat.le_of_ble_eq_true rfl) (fun E C K0 => ?_)
  show G E rmX8_degreeOf cI layM ad 3 0 [(0, .ref (ad 0)), (1, .int a1)] [] σ
  unfold fX8_degreeOf at h
  refine g_iconst 1 (v := 3) C dX8_degreeOf_0 (by decide) rfl ?_
  refine g_istore_n 2 [(2, .int 3), (0, .ref (ad 0)), (1, .int a1)] C dX8_degreeOf_1 rfl (by decide) rfl rfl ?_
  obtain ⟨b2, hb, h⟩ := bind_some h
  refine g_sub [1, 2, 0] (g_loop (a := (3, σ)) (fun a => G E rmX8_degreeOf cI layM ad 3 2 [(0, .ref (ad 0)), (1, .int a1), (2, .int a.1)] [] a.2) (fun b => G E rmX8_degreeOf cI layM ad 3 21 [(2, .int b.1)] [] b.2) hb (fun a res h K => tX8_degreeOf_B2 (l1 := a1) (l2 := a.1) (σ := a.2) (res := res) C K0 h K) ?_) rfl
  show G E rmX8_degreeOf cI layM ad 3 21 [(2, .int b2.1)] [] b2.2
  exact tX8_degreeOf_L21 (l2 := b2.1) (σ := b2.2) C K0 h

/-! LoopReducerModel.areAlike(II)Z -/
abbrev rmX8_areAlike : Room := { frames := 0, cells := 0, slots := 0, locals := 0 }
theorem qX8_areAlike : yX8_areAlike.cls ≠ "java/lang/invoke/MethodHandle" ∧ yX8_areAlike.cls ≠ "java/lang/invoke/VarHandle" ∧ (parseMethodDescriptor yX8_areAlike.desc).map (fun d => d.parameters.length) = some 2 := by decide +kernel
theorem DX8_areAlike : ∀ q ∈ ([(0, .iconst 0, 1), (1, .istore_n 3, 1), (2, .iload_n 3, 1), (3, .sipush 1372, 3), (6, .if_icmp .ge 38, 3), (9, .aload_n 0, 1), (10, .getfield 8, 3), (13, .sipush 1372, 3), (16, .iload_n 1, 1), (17, .imul, 1), (18, .iload_n 3, 1), (19, .iadd, 1), (20, .iaload, 1), (21, .aload_n 0, 1), (22, .getfield 8, 3), (25, .sipush 1372, 3), (28, .iload_n 2, 1), (29, .imul, 1), (30, .iload_n 3, 1), (31, .iadd, 1), (32, .iaload, 1), (33, .if_icmp .eq 5, 3), (36, .iconst 0, 1), (37, .ireturn, 1), (38, .iinc 3 1, 3), (41, .goto (-39), 3), (44, .iconst 1, 1), (45, .ireturn, 1)] : List (Nat × Instr × Nat)), decode cX8_areAlike q.1 = .ok q.2 := by decide +kernel
theorem dX8_areAlike_0 : decode cX8_areAlike 0 = .ok (.iconst 0, 1) := DX8_areAlike (0, .iconst 0, 1) (List.mem_of_getElem? (i := 0) rfl)
theorem dX8_areAlike_1 : decode cX8_areAlike 1 = .ok (.istore_n 3, 1) := DX8_areAlike (1, .istore_n 3, 1) (List.mem_of_getElem? (i := 1) rfl)
theorem dX8_areAlike_2 : decode cX8_areAlike 2 = .ok (.iload_n 3, 1) := DX8_areAlike (2, .iload_n 3, 1) (List.mem_of_getElem? (i := 2) rfl)
theorem dX8_areAlike_3 : decode cX8_areAlike 3 = .ok (.sipush 1372, 3) := DX8_areAlike (3, .sipush 1372, 3) (List.mem_of_getElem? (i := 3) rfl)
theorem dX8_areAlike_6 : decode cX8_areAlike 6 = .ok (.if_icmp .ge 38, 3) := DX8_areAlike (6, .if_icmp .ge 38, 3) (List.mem_of_getElem? (i := 4) rfl)
theorem dX8_areAlike_9 : decode cX8_areAlike 9 = .ok (.aload_n 0, 1) := DX8_areAlike (9, .aload_n 0, 1) (List.mem_of_getElem? (i := 5) rfl)
theorem dX8_areAlike_10 : decode cX8_areAlike 10 = .ok (.getfield 8, 3) := DX8_areAlike (10, .getfield 8, 3) (List.mem_of_getElem? (i := 6) rfl)
theorem dX8_areAlike_13 : decode cX8_areAlike 13 = .ok (.sipush 1372, 3) := DX8_areAlike (13, .sipush 1372, 3) (List.mem_of_getElem? (i := 7) rfl)
theorem dX8_areAlike_16 : decode cX8_areAlike 16 = .ok (.iload_n 1, 1) := DX8_areAlike (16, .iload_n 1, 1) (List.mem_of_getElem? (i := 8) rfl)
theorem dX8_areAlike_17 : decode cX8_areAlike 17 = .ok (.imul, 1) := DX8_areAlike (17, .imul, 1) (List.mem_of_getElem? (i := 9) rfl)
theorem dX8_areAlike_18 : decode cX8_areAlike 18 = .ok (.iload_n 3, 1) := DX8_areAlike (18, .iload_n 3, 1) (List.mem_of_getElem? (i := 10) rfl)
theorem dX8_areAlike_19 : decode cX8_areAlike 19 = .ok (.iadd, 1) := DX8_areAlike (19, .iadd, 1) (List.mem_of_getElem? (i := 11) rfl)
theorem dX8_areAlike_20 : decode cX8_areAlike 20 = .ok (.iaload, 1) := DX8_areAlike (20, .iaload, 1) (List.mem_of_getElem? (i := 12) rfl)
theorem dX8_areAlike_21 : decode cX8_areAlike 21 = .ok (.aload_n 0, 1) := DX8_areAlike (21, .aload_n 0, 1) (List.mem_of_getElem? (i := 13) rfl)
theorem dX8_areAlike_22 : decode cX8_areAlike 22 = .ok (.getfield 8, 3) := DX8_areAlike (22, .getfield 8, 3) (List.mem_of_getElem? (i := 14) rfl)
theorem dX8_areAlike_25 : decode cX8_areAlike 25 = .ok (.sipush 1372, 3) := DX8_areAlike (25, .sipush 1372, 3) (List.mem_of_getElem? (i := 15) rfl)
theorem dX8_areAlike_28 : decode cX8_areAlike 28 = .ok (.iload_n 2, 1) := DX8_areAlike (28, .iload_n 2, 1) (List.mem_of_getElem? (i := 16) rfl)
theorem dX8_areAlike_29 : decode cX8_areAlike 29 = .ok (.imul, 1) := DX8_areAlike (29, .imul, 1) (List.mem_of_getElem? (i := 17) rfl)
theorem dX8_areAlike_30 : decode cX8_areAlike 30 = .ok (.iload_n 3, 1) := DX8_areAlike (30, .iload_n 3, 1) (List.mem_of_getElem? (i := 18) rfl)
theorem dX8_areAlike_31 : decode cX8_areAlike 31 = .ok (.iadd, 1) := DX8_areAlike (31, .iadd, 1) (List.mem_of_getElem? (i := 19) rfl)
theorem dX8_areAlike_32 : decode cX8_areAlike 32 = .ok (.iaload, 1) := DX8_areAlike (32, .iaload, 1) (List.mem_of_getElem? (i := 20) rfl)
theorem dX8_areAlike_33 : decode cX8_areAlike 33 = .ok (.if_icmp .eq 5, 3) := DX8_areAlike (33, .if_icmp .eq 5, 3) (List.mem_of_getElem? (i := 21) rfl)
theorem dX8_areAlike_36 : decode cX8_areAlike 36 = .ok (.iconst 0, 1) := DX8_areAlike (36, .iconst 0, 1) (List.mem_of_getElem? (i := 22) rfl)
theorem dX8_areAlike_37 : decode cX8_areAlike 37 = .ok (.ireturn, 1) := DX8_areAlike (37, .ireturn, 1) (List.mem_of_getElem? (i := 23) rfl)
theorem dX8_areAlike_38 : decode cX8_areAlike 38 = .ok (.iinc 3 1, 3) := DX8_areAlike (38, .iinc 3 1, 3) (List.mem_of_getElem? (i := 24) rfl)
theorem dX8_areAlike_41 : decode cX8_areAlike 41 = .ok (.goto (-39), 3) := DX8_areAlike (41, .goto (-39), 3) (List.mem_of_getElem? (i := 25) rfl)
theorem dX8_areAlike_44 : decode cX8_areAlike 44 = .ok (.iconst 1, 1) := DX8_areAlike (44, .iconst 1, 1) (List.mem_of_getElem? (i := 26) rfl)
theorem dX8_areAlike_45 : decode cX8_areAlike 45 = .ok (.ireturn, 1) := DX8_areAlike (45, .ireturn, 1) (List.mem_of_getElem? (i := 27) rfl)
noncomputable def fX8_areAlike_B2 (l1 : Int32) (l2 : Int32) (l3 : Int32) (σ : Mem) : Option ((Int32 × Mem) ⊕ ((Mem) ⊕ (Int32 × Mem))) :=
  if 1372 ≤ l3 then
    some (.inr (.inl σ))
  else
    chk (inb ((1372 * l1) + l3) 170128) <|
    chk (inb ((1372 * l2) + l3) 170128) <|
    if (σ 1 ((1372 * l1) + l3).toNatClampNeg) = (σ 1 ((1372 * l2) + l3).toNatClampNeg) then
      some (.inl (l3 + 1, σ))
    else
      some (.inr (.inr (0, σ)))
set_option maxHeartbeats 4000000 in
set_option maxRecDepth 100000 in
theorem tX8_areAlike_B2 {E : Gx} {cI : ClassId} {ad : Nat → Nat} (C : Cx E rmX8_areAlike cI layM ad 4 RX8 cX8_areAlike) {out : Int32 × Mem} (K0 : KI E rmX8_areAlike cI layM ad 4 cX8_areAlike .boolean out) {l1 : Int32} {l2 : Int32} {l3 : Int32} {σ : Mem} {res : (Int32 × Mem) ⊕ ((Mem) ⊕ (Int32 × Mem))} (h : fX8_areAlike_B2 l1 l2 l3 σ = some res) (K : Sum.elim (fun a => G E rmX8_areAlike cI layM ad 4 2 [(0, .ref (ad 0)), (1, .int l1), (2, .int l2), (3, .int a.1)] [] a.2) (Sum.elim (fun b => G E rmX8_areAlike cI layM ad 4 44 [] [] b) (fun b => b = out)) res) : G E rmX8_areAlike cI layM ad 4 2 [(0, .ref (ad 0)), (1, .int l1), (2, .int l2), (3, .int l3)] [] σ := by
  unfold fX8_areAlike_B2 at h
  refine g_iload_n 3 C dX8_areAlike_2 rfl (j := 3) rfl rfl ?_
  refine g_sipush 6 (v := 1372) C dX8_areAlike_3 (by decide) rfl ?_
  refine g_icmp_ge 44 9 C dX8_areAlike_6 (by decide) rfl h (fun h => ?_) (fun h => ?_)
  · have hh := end_alt0_2 h K
    exact g_sub [] (hh) rfl
  · refine g_aload_n 10 C dX8_areAlike_9 rfl (j := 0) rfl rfl ?_
    refine g_getr 13 (j := 0) C rfl rfl wu_X8 (by decide) wf_X8_8 rfl dX8_areAlike_10 rfl ?_
    refine g_sipush 16 (v := 1372) C dX8_areAlike_13 (by decide) rfl ?_
    refine g_iload_n 17 C dX8_areAlike_16 rfl (j := 1) rfl rfl ?_
    refine g_imul 18 C dX8_areAlike_17 rfl ?_
    refine g_iload_n 19 C dX8_areAlike_18 rfl (j := 3) rfl rfl ?_
    refine g_iadd 20 C dX8_areAlike_19 rfl ?_
    refine g_iald 21 C rfl dX8_areAlike_20 rfl h (fun h => ?_)
    refine g_aload_n 22 C dX8_areAlike_21 rfl (j := 0) rfl rfl ?_
    refine g_getr 25 (j := 0) C rfl rfl wu_X8 (by decide) wf_X8_8 rfl dX8_areAlike_22 rfl ?_
    refine g_sipush 28 (v := 1372) C dX8_areAlike_25 (by decide) rfl ?_
    refine g_iload_n 29 C dX8_areAlike_28 rfl (j := 2) rfl rfl ?_
    refine g_imul 30 C dX8_areAlike_29 rfl ?_
    refine g_iload_n 31 C dX8_areAlike_30 rfl (j := 3) rfl rfl ?_
    refine g_iadd 32 C dX8_areAlike_31 rfl ?_
    refine g_iald 33 C rfl dX8_areAlike_32 rfl h (fun h => ?_)
    refine g_icmp_eq 38 36 C dX8_areAlike_33 (by decide) rfl h (fun h => ?_) (fun h => ?_)
    · refine g_iinc 41 [(3, .int (l3 + 1)), (0, .ref (ad 0)), (1, .int l1), (2, .int l2)] C dX8_areAlike_38 (j := 3) rfl (by rfl) (by decide) rfl rfl ?_
      refine g_goto 2 C dX8_areAlike_41 (by decide) ?_
      have hh := end_inl h K
      exact g_sub [1, 2, 3, 0] (hh) rfl
    · refine g_iconst 37 (v := 0) C dX8_areAlike_36 (by decide) rfl ?_
      have ho := end_alt1_2 h K
      replace ho : (0, σ) = out := ho
      subst ho
      exact K0 _ _ dX8_areAlike_37 (zb_nar (x := 0) (by decide))
noncomputable def fX8_areAlike_L44 (σ : Mem) : Option (Int32 × Mem) :=
  some (1, σ)
set_option maxHeartbeats 4000000 in
set_option maxRecDepth 100000 in
theorem tX8_areAlike_L44 {E : Gx} {cI : ClassId} {ad : Nat → Nat} (C : Cx E rmX8_areAlike cI layM ad 4 RX8 cX8_areAlike) {out : Int32 × Mem} (K0 : KI E rmX8_areAlike cI layM ad 4 cX8_areAlike .boolean out) {σ : Mem} (h : fX8_areAlike_L44 σ = some out) : G E rmX8_areAlike cI layM ad 4 44 [] [] σ := by
  unfold fX8_areAlike_L44 at h
  refine g_iconst 45 (v := 1) C dX8_areAlike_44 (by decide) rfl ?_
  cases h
  exact K0 _ _ dX8_areAlike_45 (zb_nar (x := 1) (by decide))
noncomputable def fX8_areAlike (a1 : Int32) (a2 : Int32) (σ : Mem) : Option (Int32 × Mem) :=
  (loop (fun a => fX8_areAlike_B2 a1 a2 a.1 a.2) (0, σ)).bind (Sum.elim (fun b1x0 => fX8_areAlike_L44 b1x0) (fun b1r => some b1r))
set_option maxHeartbeats 4000000 in
set_option maxRecDepth 100000 in
theorem mX8_areAlike {l : Launch} {D : va_G} {cI : ClassId} {ad : Nat → Nat} {a1 : Int32} {a2 : Int32} {σ : Mem} {out : Int32 × Mem} (h : fX8_areAlike a1 a2 σ = some out) : MI l D cI layM ad yX8_areAlike cX8_areAlike 4 .boolean rmX8_areAlike [.ref (ad 0), .int a1, .int a2] σ out := by
  refine met_i (by decide) (Nat.le_of_ble_eq_true rfl) (fun E C K0 => ?_)
  show G E rmX8_areAlike cI layM ad 4 0 [(0, .ref (ad 0)), (1, .int a1), (2, .int a2)] [] σ
  unfold fX8_areAlike at h
  refine g_iconst 1 (v := 0) C dX8_areAlike_0 (by decide) rfl ?_
  refine g_istore_n 2 [(3, .int 0), (0, .ref (ad 0)), (1, .int a1), (2, .int a2)] C dX8_areAlike_1 rfl (by decide) rfl rfl ?_
  obtain ⟨b1, hb, h⟩ := bind_some h
  refine g_sub [1, 2, 3, 0] (g_loop (a := (0, σ)) (fun a => G E rmX8_areAlike cI layM ad 4 2 [(0, .ref (ad 0)), (1, .int a1), (2, .int a2), (3, .int a.1)] [] a.2) (Sum.elim (fun b => G E rmX8_areAlike cI layM ad 4 44 [] [] b) (fun b => b = out)) hb (fun a res h K => tX8_areAlike_B2 (l1 := a1) (l2 := a2) (l3 := a.1) (σ := a.2) (res := res) C K0 h K) ?_) rfl
  rcases b1 with b1x0 | b1r
  · show G E rmX8_areAlike cI layM ad 4 44 [] [] b1x0
    exact tX8_areAlike_L44 (σ := b1x0) C K0 h
  · exact end_top h

/-! LoopReducerModel.exponents(I)I -/
abbrev rmX8_exponents : Room := { frames := 0, cells := 0, slots := 0, locals := 0 }
theorem qX8_exponents : yX8_exponents.cls ≠ "java/lang/invoke/MethodHandle" ∧ yX8_exponents.cls ≠ "java/lang/invoke/VarHandle" ∧ (parseMethodDescriptor yX8_exponents.desc).map (fun d => d.parameters.length) = some 1 := by decide +kernel
theorem DX8_exponents : ∀ q ∈ ([(0, .iload_n 0, 1), (1, .bipush 7, 2), (3, .irem, 1), (4, .iload_n 0, 1), (5, .bipush 7, 2), (7, .idiv, 1), (8, .bipush 7, 2), (10, .irem, 1), (11, .iadd, 1), (12, .iload_n 0, 1), (13, .bipush 49, 2), (15, .idiv, 1), (16, .iadd, 1), (17, .ireturn, 1)] : List (Nat × Instr × Nat)), decode cX8_exponents q.1 = .ok q.2 := by decide +kernel
theorem dX8_exponents_0 : decode cX8_exponents 0 = .ok (.iload_n 0, 1) := DX8_exponents (0, .iload_n 0, 1) (List.mem_of_getElem? (i := 0) rfl)
theorem dX8_exponents_1 : decode cX8_exponents 1 = .ok (.bipush 7, 2) := DX8_exponents (1, .bipush 7, 2) (List.mem_of_getElem? (i := 1) rfl)
theorem dX8_exponents_3 : decode cX8_exponents 3 = .ok (.irem, 1) := DX8_exponents (3, .irem, 1) (List.mem_of_getElem? (i := 2) rfl)
theorem dX8_exponents_4 : decode cX8_exponents 4 = .ok (.iload_n 0, 1) := DX8_exponents (4, .iload_n 0, 1) (List.mem_of_getElem? (i := 3) rfl)
theorem dX8_exponents_5 : decode cX8_exponents 5 = .ok (.bipush 7, 2) := DX8_exponents (5, .bipush 7, 2) (List.mem_of_getElem? (i := 4) rfl)
theorem dX8_exponents_7 : decode cX8_exponents 7 = .ok (.idiv, 1) := DX8_exponents (7, .idiv, 1) (List.mem_of_getElem? (i := 5) rfl)
theorem dX8_exponents_8 : decode cX8_exponents 8 = .ok (.bipush 7, 2) := DX8_exponents (8, .bipush 7, 2) (List.mem_of_getElem? (i := 6) rfl)
theorem dX8_exponents_10 : decode cX8_exponents 10 = .ok (.irem, 1) := DX8_exponents (10, .irem, 1) (List.mem_of_getElem? (i := 7) rfl)
theorem dX8_exponents_11 : decode cX8_exponents 11 = .ok (.iadd, 1) := DX8_exponents (11, .iadd, 1) (List.mem_of_getElem? (i := 8) rfl)
theorem dX8_exponents_12 : decode cX8_exponents 12 = .ok (.iload_n 0, 1) := DX8_exponents (12, .iload_n 0, 1) (List.mem_of_getElem? (i := 9) rfl)
theorem dX8_exponents_13 : decode cX8_exponents 13 = .ok (.bipush 49, 2) := DX8_exponents (13, .bipush 49, 2) (List.mem_of_getElem? (i := 10) rfl)
theorem dX8_exponents_15 : decode cX8_exponents 15 = .ok (.idiv, 1) := DX8_exponents (15, .idiv, 1) (List.mem_of_getElem? (i := 11) rfl)
theorem dX8_exponents_16 : decode cX8_exponents 16 = .ok (.iadd, 1) := DX8_exponents (16, .iadd, 1) (List.mem_of_getElem? (i := 12) rfl)
theorem dX8_exponents_17 : decode cX8_exponents 17 = .ok (.ireturn, 1) := DX8_exponents (17, .ireturn, 1) (List.mem_of_getElem? (i := 13) rfl)
noncomputable def fX8_exponents (a1 : Int32) (σ : Mem) : Option (Int32 × Mem) :=
  some (((a1 - a1 / 7 * 7) + ((a1 / 7) - (a1 / 7) / 7 * 7)) + (a1 / 49), σ)
set_option maxHeartbeats 4000000 in
set_option maxRecDepth 100000 in
theorem mX8_exponents {l : Launch} {D : va_G} {cI : ClassId} {ad : Nat → Nat} {a1 : Int32} {σ : Mem} {out : Int32 × Mem} (h : fX8_exponents a1 σ = some out) : MI l D cI layM ad yX8_exponents cX8_exponents 1 .int rmX8_exponents [.int a1] σ out := by
  refine met_i (by decide) (Nat.le_of_ble_eq_true rfl) (fun E C K0 => ?_)
  show G E rmX8_exponents cI layM ad 1 0 [(0, .int a1)] [] σ
  unfold fX8_exponents at h
  refine g_iload_n 1 C dX8_exponents_0 rfl (j := 0) rfl rfl ?_
  refine g_bipush 3 (v := 7) C dX8_exponents_1 (by decide) rfl ?_
  refine g_irem 4 C dX8_exponents_3 (by decide) rfl ?_
  refine g_iload_n 5 C dX8_exponents_4 rfl (j := 0) rfl rfl ?_
  refine g_bipush 7 (v := 7) C dX8_exponents_5 (by decide) rfl ?_
  refine g_idiv 8 C dX8_exponents_7 (by decide) rfl ?_
  refine g_bipush 10 (v := 7) C dX8_exponents_8 (by decide) rfl ?_
  refine g_irem 11 C dX8_exponents_10 (by decide) rfl ?_
  refine g_iadd 12 C dX8_exponents_11 rfl ?_
  refine g_iload_n 13 C dX8_exponents_12 rfl (j := 0) rfl rfl ?_
  refine g_bipush 15 (v := 49) C dX8_exponents_13 (by decide) rfl ?_
  refine g_idiv 16 C dX8_exponents_15 (by decide) rfl ?_
  refine g_iadd 17 C dX8_exponents_16 rfl ?_
  cases h
  exact K0 _ _ dX8_exponents_17 rfl

/-! LoopReducerModel.factorial(I)I -/
abbrev rmX8_factorial : Room := { frames := 0, cells := 0, slots := 0, locals := 0 }
theorem qX8_factorial : yX8_factorial.cls ≠ "java/lang/invoke/MethodHandle" ∧ yX8_factorial.cls ≠ "java/lang/invoke/VarHandle" ∧ (parseMethodDescriptor yX8_factorial.desc).map (fun d => d.parameters.length) = some 1 := by decide +kernel
theorem DX8_factorial : ∀ q ∈ ([(0, .iload_n 0, 1), (1, .iconst 2, 1), (2, .if_icmp .ge 7, 3), (5, .iconst 1, 1), (6, .goto 14, 3), (9, .iload_n 0, 1), (10, .iconst 2, 1), (11, .if_icmp .ne 7, 3), (14, .iconst 2, 1), (15, .goto 5, 3), (18, .bipush 6, 2), (20, .ireturn, 1)] : List (Nat × Instr × Nat)), decode cX8_factorial q.1 = .ok q.2 := by decide +kernel
theorem dX8_factorial_0 : decode cX8_factorial 0 = .ok (.iload_n 0, 1) := DX8_factorial (0, .iload_n 0, 1) (List.mem_of_getElem? (i := 0) rfl)
theorem dX8_factorial_1 : decode cX8_factorial 1 = .ok (.iconst 2, 1) := DX8_factorial (1, .iconst 2, 1) (List.mem_of_getElem? (i := 1) rfl)
theorem dX8_factorial_2 : decode cX8_factorial 2 = .ok (.if_icmp .ge 7, 3) := DX8_factorial (2, .if_icmp .ge 7, 3) (List.mem_of_getElem? (i := 2) rfl)
theorem dX8_factorial_5 : decode cX8_factorial 5 = .ok (.iconst 1, 1) := DX8_factorial (5, .iconst 1, 1) (List.mem_of_getElem? (i := 3) rfl)
theorem dX8_factorial_6 : decode cX8_factorial 6 = .ok (.goto 14, 3) := DX8_factorial (6, .goto 14, 3) (List.mem_of_getElem? (i := 4) rfl)
theorem dX8_factorial_9 : decode cX8_factorial 9 = .ok (.iload_n 0, 1) := DX8_factorial (9, .iload_n 0, 1) (List.mem_of_getElem? (i := 5) rfl)
theorem dX8_factorial_10 : decode cX8_factorial 10 = .ok (.iconst 2, 1) := DX8_factorial (10, .iconst 2, 1) (List.mem_of_getElem? (i := 6) rfl)
theorem dX8_factorial_11 : decode cX8_factorial 11 = .ok (.if_icmp .ne 7, 3) := DX8_factorial (11, .if_icmp .ne 7, 3) (List.mem_of_getElem? (i := 7) rfl)
theorem dX8_factorial_14 : decode cX8_factorial 14 = .ok (.iconst 2, 1) := DX8_factorial (14, .iconst 2, 1) (List.mem_of_getElem? (i := 8) rfl)
theorem dX8_factorial_15 : decode cX8_factorial 15 = .ok (.goto 5, 3) := DX8_factorial (15, .goto 5, 3) (List.mem_of_getElem? (i := 9) rfl)
theorem dX8_factorial_18 : decode cX8_factorial 18 = .ok (.bipush 6, 2) := DX8_factorial (18, .bipush 6, 2) (List.mem_of_getElem? (i := 10) rfl)
theorem dX8_factorial_20 : decode cX8_factorial 20 = .ok (.ireturn, 1) := DX8_factorial (20, .ireturn, 1) (List.mem_of_getElem? (i := 11) rfl)
noncomputable def fX8_factorial_L20 (s0 : Int32) (σ : Mem) : Option (Int32 × Mem) :=
  some (s0, σ)
set_option maxHeartbeats 4000000 in
set_option maxRecDepth 100000 in
theorem tX8_factorial_L20 {E : Gx} {cI : ClassId} {ad : Nat → Nat} (C : Cx E rmX8_factorial cI layM ad 1 RX8 cX8_factorial) {out : Int32 × Mem} (K0 : KI E rmX8_factorial cI layM ad 1 cX8_factorial .int out) {s0 : Int32} {σ : Mem} (h : fX8_factorial_L20 s0 σ = some out) : G E rmX8_factorial cI layM ad 1 20 [] [.int s0] σ := by
  unfold fX8_factorial_L20 at h
  cases h
  exact K0 _ _ dX8_factorial_20 rfl
noncomputable def fX8_factorial (a1 : Int32) (σ : Mem) : Option (Int32 × Mem) :=
  if 2 ≤ a1 then
    if a1 = 2 then
      fX8_factorial_L20 2 σ
    else
      fX8_factorial_L20 6 σ
  else
    fX8_factorial_L20 1 σ
set_option maxHeartbeats 4000000 in
set_option maxRecDepth 100000 in
theorem mX8_factorial {l : Launch} {D : va_G} {cI : ClassId} {ad : Nat → Nat} {a1 : Int32} {σ : Mem} {out : Int32 × Mem} (h : fX8_factorial a1 σ = some out) : MI l D cI layM ad yX8_factorial cX8_factorial 1 .int rmX8_factorial [.int a1] σ out := by
  refine met_i (by decide) (Nat.le_of_ble_eq_true rfl) (fun E C K0 => ?_)
  show G E rmX8_factorial cI layM ad 1 0 [(0, .int a1)] [] σ
  unfold fX8_factorial at h
  refine g_iload_n 1 C dX8_factorial_0 rfl (j := 0) rfl rfl ?_
  refine g_iconst 2 (v := 2) C dX8_factorial_1 (by decide) rfl ?_
  refine g_icmp_ge 9 5 C dX8_factorial_2 (by decide) rfl h (fun h => ?_) (fun h => ?_)
  · refine g_iload_n 10 C dX8_factorial_9 rfl (j := 0) rfl rfl ?_
    refine g_iconst 11 (v := 2) C dX8_factorial_10 (by decide) rfl ?_
    refine g_icmp_ne 18 14 C dX8_factorial_11 (by decide) rfl h (fun h => ?_) (fun h => ?_)
    · refine g_iconst 15 (v := 2) C dX8_factorial_14 (by decide) rfl ?_
      refine g_goto 20 C dX8_factorial_15 (by decide) ?_
      exact g_sub [] (tX8_factorial_L20 (s0 := 2) (σ := σ) C K0 h) rfl
    · refine g_bipush 20 (v := 6) C dX8_factorial_18 (by decide) rfl ?_
      exact g_sub [] (tX8_factorial_L20 (s0 := 6) (σ := σ) C K0 h) rfl
  · refine g_iconst 6 (v := 1) C dX8_factorial_5 (by decide) rfl ?_
    refine g_goto 20 C dX8_factorial_6 (by decide) ?_
    exact g_sub [] (tX8_factorial_L20 (s0 := 1) (σ := σ) C K0 h) rfl

/-! LoopReducerModel.often(III)I -/
abbrev rmX8_often : Room := { frames := 1, cells := 0, slots := 0, locals := 20 }
theorem qX8_often : yX8_often.cls ≠ "java/lang/invoke/MethodHandle" ∧ yX8_often.cls ≠ "java/lang/invoke/VarHandle" ∧ (parseMethodDescriptor yX8_often.desc).map (fun d => d.parameters.length) = some 3 := by decide +kernel
theorem DX8_often : ∀ q ∈ ([(0, .iload_n 2, 1), (1, .invokestatic 121, 3), (4, .iload_n 2, 1), (5, .iload_n 0, 1), (6, .isub, 1), (7, .invokestatic 121, 3), (10, .iload_n 2, 1), (11, .iload_n 1, 1), (12, .isub, 1), (13, .invokestatic 121, 3), (16, .imul, 1), (17, .iload_n 0, 1), (18, .iload_n 1, 1), (19, .iadd, 1), (20, .iload_n 2, 1), (21, .isub, 1), (22, .invokestatic 121, 3), (25, .imul, 1), (26, .idiv, 1), (27, .ireturn, 1)] : List (Nat × Instr × Nat)), decode cX8_often q.1 = .ok q.2 := by decide +kernel
theorem dX8_often_0 : decode cX8_often 0 = .ok (.iload_n 2, 1) := DX8_often (0, .iload_n 2, 1) (List.mem_of_getElem? (i := 0) rfl)
theorem dX8_often_1 : decode cX8_often 1 = .ok (.invokestatic 121, 3) := DX8_often (1, .invokestatic 121, 3) (List.mem_of_getElem? (i := 1) rfl)
theorem dX8_often_4 : decode cX8_often 4 = .ok (.iload_n 2, 1) := DX8_often (4, .iload_n 2, 1) (List.mem_of_getElem? (i := 2) rfl)
theorem dX8_often_5 : decode cX8_often 5 = .ok (.iload_n 0, 1) := DX8_often (5, .iload_n 0, 1) (List.mem_of_getElem? (i := 3) rfl)
theorem dX8_often_6 : decode cX8_often 6 = .ok (.isub, 1) := DX8_often (6, .isub, 1) (List.mem_of_getElem? (i := 4) rfl)
theorem dX8_often_7 : decode cX8_often 7 = .ok (.invokestatic 121, 3) := DX8_often (7, .invokestatic 121, 3) (List.mem_of_getElem? (i := 5) rfl)
theorem dX8_often_10 : decode cX8_often 10 = .ok (.iload_n 2, 1) := DX8_often (10, .iload_n 2, 1) (List.mem_of_getElem? (i := 6) rfl)
theorem dX8_often_11 : decode cX8_often 11 = .ok (.iload_n 1, 1) := DX8_often (11, .iload_n 1, 1) (List.mem_of_getElem? (i := 7) rfl)
theorem dX8_often_12 : decode cX8_often 12 = .ok (.isub, 1) := DX8_often (12, .isub, 1) (List.mem_of_getElem? (i := 8) rfl)
theorem dX8_often_13 : decode cX8_often 13 = .ok (.invokestatic 121, 3) := DX8_often (13, .invokestatic 121, 3) (List.mem_of_getElem? (i := 9) rfl)
theorem dX8_often_16 : decode cX8_often 16 = .ok (.imul, 1) := DX8_often (16, .imul, 1) (List.mem_of_getElem? (i := 10) rfl)
theorem dX8_often_17 : decode cX8_often 17 = .ok (.iload_n 0, 1) := DX8_often (17, .iload_n 0, 1) (List.mem_of_getElem? (i := 11) rfl)
theorem dX8_often_18 : decode cX8_often 18 = .ok (.iload_n 1, 1) := DX8_often (18, .iload_n 1, 1) (List.mem_of_getElem? (i := 12) rfl)
theorem dX8_often_19 : decode cX8_often 19 = .ok (.iadd, 1) := DX8_often (19, .iadd, 1) (List.mem_of_getElem? (i := 13) rfl)
theorem dX8_often_20 : decode cX8_often 20 = .ok (.iload_n 2, 1) := DX8_often (20, .iload_n 2, 1) (List.mem_of_getElem? (i := 14) rfl)
theorem dX8_often_21 : decode cX8_often 21 = .ok (.isub, 1) := DX8_often (21, .isub, 1) (List.mem_of_getElem? (i := 15) rfl)
theorem dX8_often_22 : decode cX8_often 22 = .ok (.invokestatic 121, 3) := DX8_often (22, .invokestatic 121, 3) (List.mem_of_getElem? (i := 16) rfl)
theorem dX8_often_25 : decode cX8_often 25 = .ok (.imul, 1) := DX8_often (25, .imul, 1) (List.mem_of_getElem? (i := 17) rfl)
theorem dX8_often_26 : decode cX8_often 26 = .ok (.idiv, 1) := DX8_often (26, .idiv, 1) (List.mem_of_getElem? (i := 18) rfl)
theorem dX8_often_27 : decode cX8_often 27 = .ok (.ireturn, 1) := DX8_often (27, .ireturn, 1) (List.mem_of_getElem? (i := 19) rfl)
noncomputable def fX8_often (a1 : Int32) (a2 : Int32) (a3 : Int32) (σ : Mem) : Option (Int32 × Mem) :=
  (fX8_factorial a3 σ).bind fun o1 =>
  (fX8_factorial (a3 - a1) o1.2).bind fun o2 =>
  (fX8_factorial (a3 - a2) o2.2).bind fun o3 =>
  (fX8_factorial ((a1 + a2) - a3) o3.2).bind fun o4 =>
  chk (((o2.1 * o3.1) * o4.1) != 0) <|
  some (o1.1 / ((o2.1 * o3.1) * o4.1), o4.2)
set_option maxHeartbeats 4000000 in
set_option maxRecDepth 100000 in
theorem mX8_often {l : Launch} {D : va_G} {cI : ClassId} {ad : Nat → Nat} {a1 : Int32} {a2 : Int32} {a3 : Int32} {σ : Mem} {out : Int32 × Mem} (h : fX8_often a1 a2 a3 σ = some out) : MI l D cI layM ad yX8_often cX8_often 3 .int rmX8_often [.int a1, .int a2, .int a3] σ out := by
  refine met_i (by decide) (Nat.le_of_ble_eq_true rfl) (fun E C K0 => ?_)
  show G E rmX8_often cI layM ad 3 0 [(0, .int a1), (1, .int a2), (2, .int a3)] [] σ
  unfold fX8_often at h
  refine g_iload_n 1 C dX8_often_0 rfl (j := 2) rfl rfl ?_
  refine g_csi 4 C (As := [.int a3]) (fun _ h => mX8_factorial (a1 := a3) (σ := σ) h) wl_X8_121 ws_X8_factorial wc_X8_factorial wn_X8 qX8_factorial rfl rfl ⟨Nat.le_of_ble_eq_true rfl, Nat.le_of_ble_eq_true rfl⟩ rfl rfl (Nat.le_of_ble_eq_true rfl) dX8_often_1 rfl h (fun o1 h => ?_)
  refine g_iload_n 5 C dX8_often_4 rfl (j := 2) rfl rfl ?_
  refine g_iload_n 6 C dX8_often_5 rfl (j := 0) rfl rfl ?_
  refine g_isub 7 C dX8_often_6 rfl ?_
  refine g_csi 10 C (As := [.int (a3 - a1)]) (fun _ h => mX8_factorial (a1 := a3 - a1) (σ := o1.2) h) wl_X8_121 ws_X8_factorial wc_X8_factorial wn_X8 qX8_factorial rfl rfl ⟨Nat.le_of_ble_eq_true rfl, Nat.le_of_ble_eq_true rfl⟩ rfl rfl (Nat.le_of_ble_eq_true rfl) dX8_often_7 rfl h (fun o2 h => ?_)
  refine g_iload_n 11 C dX8_often_10 rfl (j := 2) rfl rfl ?_
  refine g_iload_n 12 C dX8_often_11 rfl (j := 1) rfl rfl ?_
  refine g_isub 13 C dX8_often_12 rfl ?_
  refine g_csi 16 C (As := [.int (a3 - a2)]) (fun _ h => mX8_factorial (a1 := a3 - a2) (σ := o2.2) h) wl_X8_121 ws_X8_factorial wc_X8_factorial wn_X8 qX8_factorial rfl rfl ⟨Nat.le_of_ble_eq_true rfl, Nat.le_of_ble_eq_true rfl⟩ rfl rfl (Nat.le_of_ble_eq_true rfl) dX8_often_13 rfl h (fun o3 h => ?_)
  refine g_imul 17 C dX8_often_16 rfl ?_
  refine g_iload_n 18 C dX8_often_17 rfl (j := 0) rfl rfl ?_
  refine g_iload_n 19 C dX8_often_18 rfl (j := 1) rfl rfl ?_
  refine g_iadd 20 C dX8_often_19 rfl ?_
  refine g_iload_n 21 C dX8_often_20 rfl (j := 2) rfl rfl ?_
  refine g_isub 22 C dX8_often_21 rfl ?_
  refine g_csi 25 C (As := [.int ((a1 + a2) - a3)]) (fun _ h => mX8_factorial (a1 := (a1 + a2) - a3) (σ := o3.2) h) wl_X8_121 ws_X8_factorial wc_X8_factorial wn_X8 qX8_factorial rfl rfl ⟨Nat.le_of_ble_eq_true rfl, Nat.le_of_ble_eq_true rfl⟩ rfl rfl (Nat.le_of_ble_eq_true rfl) dX8_often_22 rfl h (fun o4 h => ?_)
  refine g_imul 26 C dX8_often_25 rfl ?_
  obtain ⟨hne, h⟩ := chk_some h
  refine g_idiv 27 C dX8_often_26 (by simpa using hne) rfl ?_
  cases h
  exact K0 _ _ dX8_often_27 rfl

/-! LoopReducerModel.multiplies(IIIII)Z -/
abbrev rmX8_multiplies_ : Room := { frames := 2, cells := 0, slots := 0, locals := 42 }
theorem qX8_multiplies_ : yX8_multiplies_.cls ≠ "java/lang/invoke/MethodHandle" ∧ yX8_multiplies_.cls ≠ "java/lang/invoke/VarHandle" ∧ (parseMethodDescriptor yX8_multiplies_.desc).map (fun d => d.parameters.length) = some 5 := by decide +kernel
theorem DX8_multiplies_ : ∀ q ∈ ([(0, .iconst 0, 1), (1, .istore 6, 2), (3, .iload 6, 2), (5, .sipush 343, 3), (8, .if_icmp .ge 187, 3), (11, .aload_n 0, 1), (12, .getfield 8, 3), (15, .sipush 1372, 3), (18, .iload_n 2, 1), (19, .imul, 1), (20, .sipush 343, 3), (23, .iload_n 3, 1), (24, .imul, 1), (25, .iadd, 1), (26, .iload 6, 2), (28, .iadd, 1), (29, .iaload, 1), (30, .istore 7, 2), (32, .iconst 0, 1), (33, .istore 8, 2), (35, .iload 8, 2), (37, .sipush 343, 3), (40, .if_icmp .ge 149, 3), (43, .iload 7, 2), (45, .ifCond .eq 144, 3), (48, .aload_n 0, 1), (49, .getfield 8, 3), (52, .sipush 1372, 3), (55, .iload 4, 2), (57, .imul, 1), (58, .sipush 343, 3), (61, .iload 5, 2), (63, .imul, 1), (64, .iadd, 1), (65, .iload 8, 2), (67, .iadd, 1), (68, .iaload, 1), (69, .istore 9, 2), (71, .iload 9, 2), (73, .ifCond .ne 6, 3), (76, .goto 107, 3), (79, .iload 6, 2), (81, .invokestatic 135, 3), (84, .iload 8, 2), (86, .invokestatic 135, 3), (89, .iadd, 1), (90, .bipush 6, 2), (92, .if_icmp .le 5, 3), (95, .iconst 0, 1), (96, .ireturn, 1), (97, .iload_n 3, 1), (98, .iload 5, 2), (100, .invokestatic 138, 3), (103, .istore 10, 2), (105, .iload 10, 2), (107, .iload_n 3, 1), (108, .iload 5, 2), (110, .iadd, 1), (111, .if_icmp .gt 72, 3), (114, .sipush 1372, 3), (117, .iload_n 1, 1), (118, .imul, 1), (119, .sipush 343, 3), (122, .iload 10, 2), (124, .imul, 1), (125, .iadd, 1), (126, .iload 6, 2), (128, .iadd, 1), (129, .iload 8, 2), (131, .iadd, 1), (132, .istore 11, 2), (134, .aload_n 0, 1), (135, .getfield 8, 3), (138, .iload 11, 2), (140, .aload_n 0, 1), (141, .aload_n 0, 1), (142, .getfield 8, 3), (145, .iload 11, 2), (147, .iaload, 1), (148, .i2l, 1), (149, .iload 7, 2), (151, .i2l, 1), (152, .iload 9, 2), (154, .i2l, 1), (155, .lmul, 1), (156, .aload_n 0, 1), (157, .getfield 66, 3), (160, .i2l, 1), (161, .lrem, 1), (162, .iload_n 3, 1), (163, .iload 5, 2), (165, .iload 10, 2), (167, .invokestatic 144, 3), (170, .i2l, 1), (171, .lmul, 1), (172, .ladd, 1), (173, .invokevirtual 83, 3), (176, .iastore, 1), (177, .iinc 10 1, 3), (180, .goto (-75), 3), (183, .iinc 8 1, 3), (186, .goto (-151), 3), (189, .iinc 6 1, 3), (192, .goto (-189), 3), (195, .iconst 1, 1), (196, .ireturn, 1)] : List (Nat × Instr × Nat)), decode cX8_multiplies_ q.1 = .ok q.2 := by decide +kernel
theorem dX8_multiplies__0 : decode cX8_multiplies_ 0 = .ok (.iconst 0, 1) := DX8_multiplies_ (0, .iconst 0, 1) (List.mem_of_getElem? (i := 0) rfl)
theorem dX8_multiplies__1 : decode cX8_multiplies_ 1 = .ok (.istore 6, 2) := DX8_multiplies_ (1, .istore 6, 2) (List.mem_of_getElem? (i := 1) rfl)
theorem dX8_multiplies__3 : decode cX8_multiplies_ 3 = .ok (.iload 6, 2) := DX8_multiplies_ (3, .iload 6, 2) (List.mem_of_getElem? (i := 2) rfl)
theorem dX8_multiplies__5 : decode cX8_multiplies_ 5 = .ok (.sipush 343, 3) := DX8_multiplies_ (5, .sipush 343, 3) (List.mem_of_getElem? (i := 3) rfl)
theorem dX8_multiplies__8 : decode cX8_multiplies_ 8 = .ok (.if_icmp .ge 187, 3) := DX8_multiplies_ (8, .if_icmp .ge 187, 3) (List.mem_of_getElem? (i := 4) rfl)
theorem dX8_multiplies__11 : decode cX8_multiplies_ 11 = .ok (.aload_n 0, 1) := DX8_multiplies_ (11, .aload_n 0, 1) (List.mem_of_getElem? (i := 5) rfl)
theorem dX8_multiplies__12 : decode cX8_multiplies_ 12 = .ok (.getfield 8, 3) := DX8_multiplies_ (12, .getfield 8, 3) (List.mem_of_getElem? (i := 6) rfl)
theorem dX8_multiplies__15 : decode cX8_multiplies_ 15 = .ok (.sipush 1372, 3) := DX8_multiplies_ (15, .sipush 1372, 3) (List.mem_of_getElem? (i := 7) rfl)
theorem dX8_multiplies__18 : decode cX8_multiplies_ 18 = .ok (.iload_n 2, 1) := DX8_multiplies_ (18, .iload_n 2, 1) (List.mem_of_getElem? (i := 8) rfl)
theorem dX8_multiplies__19 : decode cX8_multiplies_ 19 = .ok (.imul, 1) := DX8_multiplies_ (19, .imul, 1) (List.mem_of_getElem? (i := 9) rfl)
theorem dX8_multiplies__20 : decode cX8_multiplies_ 20 = .ok (.sipush 343, 3) := DX8_multiplies_ (20, .sipush 343, 3) (List.mem_of_getElem? (i := 10) rfl)
theorem dX8_multiplies__23 : decode cX8_multiplies_ 23 = .ok (.iload_n 3, 1) := DX8_multiplies_ (23, .iload_n 3, 1) (List.mem_of_getElem? (i := 11) rfl)
theorem dX8_multiplies__24 : decode cX8_multiplies_ 24 = .ok (.imul, 1) := DX8_multiplies_ (24, .imul, 1) (List.mem_of_getElem? (i := 12) rfl)
theorem dX8_multiplies__25 : decode cX8_multiplies_ 25 = .ok (.iadd, 1) := DX8_multiplies_ (25, .iadd, 1) (List.mem_of_getElem? (i := 13) rfl)
theorem dX8_multiplies__26 : decode cX8_multiplies_ 26 = .ok (.iload 6, 2) := DX8_multiplies_ (26, .iload 6, 2) (List.mem_of_getElem? (i := 14) rfl)
theorem dX8_multiplies__28 : decode cX8_multiplies_ 28 = .ok (.iadd, 1) := DX8_multiplies_ (28, .iadd, 1) (List.mem_of_getElem? (i := 15) rfl)
theorem dX8_multiplies__29 : decode cX8_multiplies_ 29 = .ok (.iaload, 1) := DX8_multiplies_ (29, .iaload, 1) (List.mem_of_getElem? (i := 16) rfl)
theorem dX8_multiplies__30 : decode cX8_multiplies_ 30 = .ok (.istore 7, 2) := DX8_multiplies_ (30, .istore 7, 2) (List.mem_of_getElem? (i := 17) rfl)
theorem dX8_multiplies__32 : decode cX8_multiplies_ 32 = .ok (.iconst 0, 1) := DX8_multiplies_ (32, .iconst 0, 1) (List.mem_of_getElem? (i := 18) rfl)
theorem dX8_multiplies__33 : decode cX8_multiplies_ 33 = .ok (.istore 8, 2) := DX8_multiplies_ (33, .istore 8, 2) (List.mem_of_getElem? (i := 19) rfl)
theorem dX8_multiplies__35 : decode cX8_multiplies_ 35 = .ok (.iload 8, 2) := DX8_multiplies_ (35, .iload 8, 2) (List.mem_of_getElem? (i := 20) rfl)
theorem dX8_multiplies__37 : decode cX8_multiplies_ 37 = .ok (.sipush 343, 3) := DX8_multiplies_ (37, .sipush 343, 3) (List.mem_of_getElem? (i := 21) rfl)
theorem dX8_multiplies__40 : decode cX8_multiplies_ 40 = .ok (.if_icmp .ge 149, 3) := DX8_multiplies_ (40, .if_icmp .ge 149, 3) (List.mem_of_getElem? (i := 22) rfl)
theorem dX8_multiplies__43 : decode cX8_multiplies_ 43 = .ok (.iload 7, 2) := DX8_multiplies_ (43, .iload 7, 2) (List.mem_of_getElem? (i := 23) rfl)
theorem dX8_multiplies__45 : decode cX8_multiplies_ 45 = .ok (.ifCond .eq 144, 3) := DX8_multiplies_ (45, .ifCond .eq 144, 3) (List.mem_of_getElem? (i := 24) rfl)
theorem dX8_multiplies__48 : decode cX8_multiplies_ 48 = .ok (.aload_n 0, 1) := DX8_multiplies_ (48, .aload_n 0, 1) (List.mem_of_getElem? (i := 25) rfl)
theorem dX8_multiplies__49 : decode cX8_multiplies_ 49 = .ok (.getfield 8, 3) := DX8_multiplies_ (49, .getfield 8, 3) (List.mem_of_getElem? (i := 26) rfl)
theorem dX8_multiplies__52 : decode cX8_multiplies_ 52 = .ok (.sipush 1372, 3) := DX8_multiplies_ (52, .sipush 1372, 3) (List.mem_of_getElem? (i := 27) rfl)
theorem dX8_multiplies__55 : decode cX8_multiplies_ 55 = .ok (.iload 4, 2) := DX8_multiplies_ (55, .iload 4, 2) (List.mem_of_getElem? (i := 28) rfl)
theorem dX8_multiplies__57 : decode cX8_multiplies_ 57 = .ok (.imul, 1) := DX8_multiplies_ (57, .imul, 1) (List.mem_of_getElem? (i := 29) rfl)
theorem dX8_multiplies__58 : decode cX8_multiplies_ 58 = .ok (.sipush 343, 3) := DX8_multiplies_ (58, .sipush 343, 3) (List.mem_of_getElem? (i := 30) rfl)
theorem dX8_multiplies__61 : decode cX8_multiplies_ 61 = .ok (.iload 5, 2) := DX8_multiplies_ (61, .iload 5, 2) (List.mem_of_getElem? (i := 31) rfl)
theorem dX8_multiplies__63 : decode cX8_multiplies_ 63 = .ok (.imul, 1) := DX8_multiplies_ (63, .imul, 1) (List.mem_of_getElem? (i := 32) rfl)
theorem dX8_multiplies__64 : decode cX8_multiplies_ 64 = .ok (.iadd, 1) := DX8_multiplies_ (64, .iadd, 1) (List.mem_of_getElem? (i := 33) rfl)
theorem dX8_multiplies__65 : decode cX8_multiplies_ 65 = .ok (.iload 8, 2) := DX8_multiplies_ (65, .iload 8, 2) (List.mem_of_getElem? (i := 34) rfl)
theorem dX8_multiplies__67 : decode cX8_multiplies_ 67 = .ok (.iadd, 1) := DX8_multiplies_ (67, .iadd, 1) (List.mem_of_getElem? (i := 35) rfl)
theorem dX8_multiplies__68 : decode cX8_multiplies_ 68 = .ok (.iaload, 1) := DX8_multiplies_ (68, .iaload, 1) (List.mem_of_getElem? (i := 36) rfl)
theorem dX8_multiplies__69 : decode cX8_multiplies_ 69 = .ok (.istore 9, 2) := DX8_multiplies_ (69, .istore 9, 2) (List.mem_of_getElem? (i := 37) rfl)
theorem dX8_multiplies__71 : decode cX8_multiplies_ 71 = .ok (.iload 9, 2) := DX8_multiplies_ (71, .iload 9, 2) (List.mem_of_getElem? (i := 38) rfl)
theorem dX8_multiplies__73 : decode cX8_multiplies_ 73 = .ok (.ifCond .ne 6, 3) := DX8_multiplies_ (73, .ifCond .ne 6, 3) (List.mem_of_getElem? (i := 39) rfl)
theorem dX8_multiplies__76 : decode cX8_multiplies_ 76 = .ok (.goto 107, 3) := DX8_multiplies_ (76, .goto 107, 3) (List.mem_of_getElem? (i := 40) rfl)
theorem dX8_multiplies__79 : decode cX8_multiplies_ 79 = .ok (.iload 6, 2) := DX8_multiplies_ (79, .iload 6, 2) (List.mem_of_getElem? (i := 41) rfl)
theorem dX8_multiplies__81 : decode cX8_multiplies_ 81 = .ok (.invokestatic 135, 3) := DX8_multiplies_ (81, .invokestatic 135, 3) (List.mem_of_getElem? (i := 42) rfl)
theorem dX8_multiplies__84 : decode cX8_multiplies_ 84 = .ok (.iload 8, 2) := DX8_multiplies_ (84, .iload 8, 2) (List.mem_of_getElem? (i := 43) rfl)
theorem dX8_multiplies__86 : decode cX8_multiplies_ 86 = .ok (.invokestatic 135, 3) := DX8_multiplies_ (86, .invokestatic 135, 3) (List.mem_of_getElem? (i := 44) rfl)
theorem dX8_multiplies__89 : decode cX8_multiplies_ 89 = .ok (.iadd, 1) := DX8_multiplies_ (89, .iadd, 1) (List.mem_of_getElem? (i := 45) rfl)
theorem dX8_multiplies__90 : decode cX8_multiplies_ 90 = .ok (.bipush 6, 2) := DX8_multiplies_ (90, .bipush 6, 2) (List.mem_of_getElem? (i := 46) rfl)
theorem dX8_multiplies__92 : decode cX8_multiplies_ 92 = .ok (.if_icmp .le 5, 3) := DX8_multiplies_ (92, .if_icmp .le 5, 3) (List.mem_of_getElem? (i := 47) rfl)
theorem dX8_multiplies__95 : decode cX8_multiplies_ 95 = .ok (.iconst 0, 1) := DX8_multiplies_ (95, .iconst 0, 1) (List.mem_of_getElem? (i := 48) rfl)
theorem dX8_multiplies__96 : decode cX8_multiplies_ 96 = .ok (.ireturn, 1) := DX8_multiplies_ (96, .ireturn, 1) (List.mem_of_getElem? (i := 49) rfl)
theorem dX8_multiplies__97 : decode cX8_multiplies_ 97 = .ok (.iload_n 3, 1) := DX8_multiplies_ (97, .iload_n 3, 1) (List.mem_of_getElem? (i := 50) rfl)
theorem dX8_multiplies__98 : decode cX8_multiplies_ 98 = .ok (.iload 5, 2) := DX8_multiplies_ (98, .iload 5, 2) (List.mem_of_getElem? (i := 51) rfl)
theorem dX8_multiplies__100 : decode cX8_multiplies_ 100 = .ok (.invokestatic 138, 3) := DX8_multiplies_ (100, .invokestatic 138, 3) (List.mem_of_getElem? (i := 52) rfl)
theorem dX8_multiplies__103 : decode cX8_multiplies_ 103 = .ok (.istore 10, 2) := DX8_multiplies_ (103, .istore 10, 2) (List.mem_of_getElem? (i := 53) rfl)
theorem dX8_multiplies__105 : decode cX8_multiplies_ 105 = .ok (.iload 10, 2) := DX8_multiplies_ (105, .iload 10, 2) (List.mem_of_getElem? (i := 54) rfl)
theorem dX8_multiplies__107 : decode cX8_multiplies_ 107 = .ok (.iload_n 3, 1) := DX8_multiplies_ (107, .iload_n 3, 1) (List.mem_of_getElem? (i := 55) rfl)
theorem dX8_multiplies__108 : decode cX8_multiplies_ 108 = .ok (.iload 5, 2) := DX8_multiplies_ (108, .iload 5, 2) (List.mem_of_getElem? (i := 56) rfl)
theorem dX8_multiplies__110 : decode cX8_multiplies_ 110 = .ok (.iadd, 1) := DX8_multiplies_ (110, .iadd, 1) (List.mem_of_getElem? (i := 57) rfl)
theorem dX8_multiplies__111 : decode cX8_multiplies_ 111 = .ok (.if_icmp .gt 72, 3) := DX8_multiplies_ (111, .if_icmp .gt 72, 3) (List.mem_of_getElem? (i := 58) rfl)
theorem dX8_multiplies__114 : decode cX8_multiplies_ 114 = .ok (.sipush 1372, 3) := DX8_multiplies_ (114, .sipush 1372, 3) (List.mem_of_getElem? (i := 59) rfl)
theorem dX8_multiplies__117 : decode cX8_multiplies_ 117 = .ok (.iload_n 1, 1) := DX8_multiplies_ (117, .iload_n 1, 1) (List.mem_of_getElem? (i := 60) rfl)
theorem dX8_multiplies__118 : decode cX8_multiplies_ 118 = .ok (.imul, 1) := DX8_multiplies_ (118, .imul, 1) (List.mem_of_getElem? (i := 61) rfl)
theorem dX8_multiplies__119 : decode cX8_multiplies_ 119 = .ok (.sipush 343, 3) := DX8_multiplies_ (119, .sipush 343, 3) (List.mem_of_getElem? (i := 62) rfl)
theorem dX8_multiplies__122 : decode cX8_multiplies_ 122 = .ok (.iload 10, 2) := DX8_multiplies_ (122, .iload 10, 2) (List.mem_of_getElem? (i := 63) rfl)
theorem dX8_multiplies__124 : decode cX8_multiplies_ 124 = .ok (.imul, 1) := DX8_multiplies_ (124, .imul, 1) (List.mem_of_getElem? (i := 64) rfl)
theorem dX8_multiplies__125 : decode cX8_multiplies_ 125 = .ok (.iadd, 1) := DX8_multiplies_ (125, .iadd, 1) (List.mem_of_getElem? (i := 65) rfl)
theorem dX8_multiplies__126 : decode cX8_multiplies_ 126 = .ok (.iload 6, 2) := DX8_multiplies_ (126, .iload 6, 2) (List.mem_of_getElem? (i := 66) rfl)
theorem dX8_multiplies__128 : decode cX8_multiplies_ 128 = .ok (.iadd, 1) := DX8_multiplies_ (128, .iadd, 1) (List.mem_of_getElem? (i := 67) rfl)
theorem dX8_multiplies__129 : decode cX8_multiplies_ 129 = .ok (.iload 8, 2) := DX8_multiplies_ (129, .iload 8, 2) (List.mem_of_getElem? (i := 68) rfl)
theorem dX8_multiplies__131 : decode cX8_multiplies_ 131 = .ok (.iadd, 1) := DX8_multiplies_ (131, .iadd, 1) (List.mem_of_getElem? (i := 69) rfl)
theorem dX8_multiplies__132 : decode cX8_multiplies_ 132 = .ok (.istore 11, 2) := DX8_multiplies_ (132, .istore 11, 2) (List.mem_of_getElem? (i := 70) rfl)
theorem dX8_multiplies__134 : decode cX8_multiplies_ 134 = .ok (.aload_n 0, 1) := DX8_multiplies_ (134, .aload_n 0, 1) (List.mem_of_getElem? (i := 71) rfl)
theorem dX8_multiplies__135 : decode cX8_multiplies_ 135 = .ok (.getfield 8, 3) := DX8_multiplies_ (135, .getfield 8, 3) (List.mem_of_getElem? (i := 72) rfl)
theorem dX8_multiplies__138 : decode cX8_multiplies_ 138 = .ok (.iload 11, 2) := DX8_multiplies_ (138, .iload 11, 2) (List.mem_of_getElem? (i := 73) rfl)
theorem dX8_multiplies__140 : decode cX8_multiplies_ 140 = .ok (.aload_n 0, 1) := DX8_multiplies_ (140, .aload_n 0, 1) (List.mem_of_getElem? (i := 74) rfl)
theorem dX8_multiplies__141 : decode cX8_multiplies_ 141 = .ok (.aload_n 0, 1) := DX8_multiplies_ (141, .aload_n 0, 1) (List.mem_of_getElem? (i := 75) rfl)
theorem dX8_multiplies__142 : decode cX8_multiplies_ 142 = .ok (.getfield 8, 3) := DX8_multiplies_ (142, .getfield 8, 3) (List.mem_of_getElem? (i := 76) rfl)
theorem dX8_multiplies__145 : decode cX8_multiplies_ 145 = .ok (.iload 11, 2) := DX8_multiplies_ (145, .iload 11, 2) (List.mem_of_getElem? (i := 77) rfl)
theorem dX8_multiplies__147 : decode cX8_multiplies_ 147 = .ok (.iaload, 1) := DX8_multiplies_ (147, .iaload, 1) (List.mem_of_getElem? (i := 78) rfl)
theorem dX8_multiplies__148 : decode cX8_multiplies_ 148 = .ok (.i2l, 1) := DX8_multiplies_ (148, .i2l, 1) (List.mem_of_getElem? (i := 79) rfl)
theorem dX8_multiplies__149 : decode cX8_multiplies_ 149 = .ok (.iload 7, 2) := DX8_multiplies_ (149, .iload 7, 2) (List.mem_of_getElem? (i := 80) rfl)
theorem dX8_multiplies__151 : decode cX8_multiplies_ 151 = .ok (.i2l, 1) := DX8_multiplies_ (151, .i2l, 1) (List.mem_of_getElem? (i := 81) rfl)
theorem dX8_multiplies__152 : decode cX8_multiplies_ 152 = .ok (.iload 9, 2) := DX8_multiplies_ (152, .iload 9, 2) (List.mem_of_getElem? (i := 82) rfl)
theorem dX8_multiplies__154 : decode cX8_multiplies_ 154 = .ok (.i2l, 1) := DX8_multiplies_ (154, .i2l, 1) (List.mem_of_getElem? (i := 83) rfl)
theorem dX8_multiplies__155 : decode cX8_multiplies_ 155 = .ok (.lmul, 1) := DX8_multiplies_ (155, .lmul, 1) (List.mem_of_getElem? (i := 84) rfl)
theorem dX8_multiplies__156 : decode cX8_multiplies_ 156 = .ok (.aload_n 0, 1) := DX8_multiplies_ (156, .aload_n 0, 1) (List.mem_of_getElem? (i := 85) rfl)
theorem dX8_multiplies__157 : decode cX8_multiplies_ 157 = .ok (.getfield 66, 3) := DX8_multiplies_ (157, .getfield 66, 3) (List.mem_of_getElem? (i := 86) rfl)
theorem dX8_multiplies__160 : decode cX8_multiplies_ 160 = .ok (.i2l, 1) := DX8_multiplies_ (160, .i2l, 1) (List.mem_of_getElem? (i := 87) rfl)
theorem dX8_multiplies__161 : decode cX8_multiplies_ 161 = .ok (.lrem, 1) := DX8_multiplies_ (161, .lrem, 1) (List.mem_of_getElem? (i := 88) rfl)
theorem dX8_multiplies__162 : decode cX8_multiplies_ 162 = .ok (.iload_n 3, 1) := DX8_multiplies_ (162, .iload_n 3, 1) (List.mem_of_getElem? (i := 89) rfl)
theorem dX8_multiplies__163 : decode cX8_multiplies_ 163 = .ok (.iload 5, 2) := DX8_multiplies_ (163, .iload 5, 2) (List.mem_of_getElem? (i := 90) rfl)
theorem dX8_multiplies__165 : decode cX8_multiplies_ 165 = .ok (.iload 10, 2) := DX8_multiplies_ (165, .iload 10, 2) (List.mem_of_getElem? (i := 91) rfl)
theorem dX8_multiplies__167 : decode cX8_multiplies_ 167 = .ok (.invokestatic 144, 3) := DX8_multiplies_ (167, .invokestatic 144, 3) (List.mem_of_getElem? (i := 92) rfl)
theorem dX8_multiplies__170 : decode cX8_multiplies_ 170 = .ok (.i2l, 1) := DX8_multiplies_ (170, .i2l, 1) (List.mem_of_getElem? (i := 93) rfl)
theorem dX8_multiplies__171 : decode cX8_multiplies_ 171 = .ok (.lmul, 1) := DX8_multiplies_ (171, .lmul, 1) (List.mem_of_getElem? (i := 94) rfl)
theorem dX8_multiplies__172 : decode cX8_multiplies_ 172 = .ok (.ladd, 1) := DX8_multiplies_ (172, .ladd, 1) (List.mem_of_getElem? (i := 95) rfl)
theorem dX8_multiplies__173 : decode cX8_multiplies_ 173 = .ok (.invokevirtual 83, 3) := DX8_multiplies_ (173, .invokevirtual 83, 3) (List.mem_of_getElem? (i := 96) rfl)
theorem dX8_multiplies__176 : decode cX8_multiplies_ 176 = .ok (.iastore, 1) := DX8_multiplies_ (176, .iastore, 1) (List.mem_of_getElem? (i := 97) rfl)
theorem dX8_multiplies__177 : decode cX8_multiplies_ 177 = .ok (.iinc 10 1, 3) := DX8_multiplies_ (177, .iinc 10 1, 3) (List.mem_of_getElem? (i := 98) rfl)
theorem dX8_multiplies__180 : decode cX8_multiplies_ 180 = .ok (.goto (-75), 3) := DX8_multiplies_ (180, .goto (-75), 3) (List.mem_of_getElem? (i := 99) rfl)
theorem dX8_multiplies__183 : decode cX8_multiplies_ 183 = .ok (.iinc 8 1, 3) := DX8_multiplies_ (183, .iinc 8 1, 3) (List.mem_of_getElem? (i := 100) rfl)
theorem dX8_multiplies__186 : decode cX8_multiplies_ 186 = .ok (.goto (-151), 3) := DX8_multiplies_ (186, .goto (-151), 3) (List.mem_of_getElem? (i := 101) rfl)
theorem dX8_multiplies__189 : decode cX8_multiplies_ 189 = .ok (.iinc 6 1, 3) := DX8_multiplies_ (189, .iinc 6 1, 3) (List.mem_of_getElem? (i := 102) rfl)
theorem dX8_multiplies__192 : decode cX8_multiplies_ 192 = .ok (.goto (-189), 3) := DX8_multiplies_ (192, .goto (-189), 3) (List.mem_of_getElem? (i := 103) rfl)
theorem dX8_multiplies__195 : decode cX8_multiplies_ 195 = .ok (.iconst 1, 1) := DX8_multiplies_ (195, .iconst 1, 1) (List.mem_of_getElem? (i := 104) rfl)
theorem dX8_multiplies__196 : decode cX8_multiplies_ 196 = .ok (.ireturn, 1) := DX8_multiplies_ (196, .ireturn, 1) (List.mem_of_getElem? (i := 105) rfl)
noncomputable def fX8_multiplies__B105 (l1 : Int32) (l2 : Int32) (l3 : Int32) (l4 : Int32) (l5 : Int32) (l6 : Int32) (l7 : Int32) (l8 : Int32) (l9 : Int32) (l10 : Int32) (σ : Mem) : Option ((Int32 × Mem) ⊕ (Mem)) :=
  if (l3 + l5) < l10 then
    some (.inr σ)
  else
    chk (inb ((((1372 * l1) + (343 * l10)) + l6) + l8) 170128) <|
    chk (((σ 0 1).toInt64) != 0) <|
    (fX8_often l3 l5 l10 σ).bind fun o3 =>
    (fX8_cut (((σ 1 ((((1372 * l1) + (343 * l10)) + l6) + l8).toNatClampNeg).toInt64) + (((l7.toInt64 * l9.toInt64) - (l7.toInt64 * l9.toInt64) / ((σ 0 1).toInt64) * ((σ 0 1).toInt64)) * ((o3.1).toInt64))) o3.2).bind fun o4 =>
    chk (inb ((((1372 * l1) + (343 * l10)) + l6) + l8) 170128) <|
    some (.inl (l10 + 1, up2 o4.2 1 ((((1372 * l1) + (343 * l10)) + l6) + l8).toNatClampNeg o4.1))
set_option maxHeartbeats 4000000 in
set_option maxRecDepth 100000 in
theorem tX8_multiplies__B105 {E : Gx} {cI : ClassId} {ad : Nat → Nat} (C : Cx E rmX8_multiplies_ cI layM ad 12 RX8 cX8_multiplies_) {out : Int32 × Mem} (K0 : KI E rmX8_multiplies_ cI layM ad 12 cX8_multiplies_ .boolean out) {l1 : Int32} {l2 : Int32} {l3 : Int32} {l4 : Int32} {l5 : Int32} {l6 : Int32} {l7 : Int32} {l8 : Int32} {l9 : Int32} {l10 : Int32} {σ : Mem} {res : (Int32 × Mem) ⊕ (Mem)} (h : fX8_multiplies__B105 l1 l2 l3 l4 l5 l6 l7 l8 l9 l10 σ = some res) (K : Sum.elim (fun a => G E rmX8_multiplies_ cI layM ad 12 105 [(0, .ref (ad 0)), (1, .int l1), (2, .int l2), (3, .int l3), (4, .int l4), (5, .int l5), (6, .int l6), (7, .int l7), (8, .int l8), (9, .int l9), (10, .int a.1)] [] a.2) (fun b => G E rmX8_multiplies_ cI layM ad 12 183 [(0, .ref (ad 0)), (1, .int l1), (2, .int l2), (3, .int l3), (4, .int l4), (5, .int l5), (6, .int l6), (7, .int l7), (8, .int l8)] [] b) res) : G E rmX8_multiplies_ cI layM ad 12 105 [(0, .ref (ad 0)), (1, .int l1), (2, .int l2), (3, .int l3), (4, .int l4), (5, .int l5), (6, .int l6), (7, .int l7), (8, .int l8), (9, .int l9), (10, .int l10)] [] σ := by
  unfold fX8_multiplies__B105 at h
  refine g_iload 107 C dX8_multiplies__105 (j := 10) rfl rfl ?_
  refine g_iload_n 108 C dX8_multiplies__107 rfl (j := 3) rfl rfl ?_
  refine g_iload 110 C dX8_multiplies__108 (j := 5) rfl rfl ?_
  refine g_iadd 111 C dX8_multiplies__110 rfl ?_
  refine g_icmp_gt 183 114 C dX8_multiplies__111 (by decide) rfl h (fun h => ?_) (fun h => ?_)
  · have hh := end_inr h K
    exact g_sub [0, 1, 2, 3, 4, 5, 6, 7, 8] (hh) rfl
  · refine g_sipush 117 (v := 1372) C dX8_multiplies__114 (by decide) rfl ?_
    refine g_iload_n 118 C dX8_multiplies__117 rfl (j := 1) rfl rfl ?_
    refine g_imul 119 C dX8_multiplies__118 rfl ?_
    refine g_sipush 122 (v := 343) C dX8_multiplies__119 (by decide) rfl ?_
    refine g_iload 124 C dX8_multiplies__122 (j := 10) rfl rfl ?_
    refine g_imul 125 C dX8_multiplies__124 rfl ?_
    refine g_iadd 126 C dX8_multiplies__125 rfl ?_
    refine g_iload 128 C dX8_multiplies__126 (j := 6) rfl rfl ?_
    refine g_iadd 129 C dX8_multiplies__128 rfl ?_
    refine g_iload 131 C dX8_multiplies__129 (j := 8) rfl rfl ?_
    refine g_iadd 132 C dX8_multiplies__131 rfl ?_
    refine g_istore 134 [(11, .int ((((1372 * l1) + (343 * l10)) + l6) + l8)), (0, .ref (ad 0)), (1, .int l1), (2, .int l2), (3, .int l3), (4, .int l4), (5, .int l5), (6, .int l6), (7, .int l7), (8, .int l8), (9, .int l9), (10, .int l10)] C dX8_multiplies__132 (by decide) rfl rfl ?_
    refine g_aload_n 135 C dX8_multiplies__134 rfl (j := 1) rfl rfl ?_
    refine g_getr 138 (j := 0) C rfl rfl wu_X8 (by decide) wf_X8_8 rfl dX8_multiplies__135 rfl ?_
    refine g_iload 140 C dX8_multiplies__138 (j := 0) rfl rfl ?_
    refine g_aload_n 141 C dX8_multiplies__140 rfl (j := 1) rfl rfl ?_
    refine g_aload_n 142 C dX8_multiplies__141 rfl (j := 1) rfl rfl ?_
    refine g_getr 145 (j := 0) C rfl rfl wu_X8 (by decide) wf_X8_8 rfl dX8_multiplies__142 rfl ?_
    refine g_iload 147 C dX8_multiplies__145 (j := 0) rfl rfl ?_
    refine g_iald 148 C rfl dX8_multiplies__147 rfl h (fun h => ?_)
    refine g_i2l 149 C dX8_multiplies__148 rfl ?_
    refine g_iload 151 C dX8_multiplies__149 (j := 8) rfl rfl ?_
    refine g_i2l 152 C dX8_multiplies__151 rfl ?_
    refine g_iload 154 C dX8_multiplies__152 (j := 10) rfl rfl ?_
    refine g_i2l 155 C dX8_multiplies__154 rfl ?_
    refine g_lmul 156 C dX8_multiplies__155 rfl ?_
    refine g_aload_n 157 C dX8_multiplies__156 rfl (j := 1) rfl rfl ?_
    refine g_geti 160 (j := 1) C rfl rfl wu_X8 (by decide) wf_X8_66 rfl dX8_multiplies__157 rfl ?_
    refine g_i2l 161 C dX8_multiplies__160 rfl ?_
    obtain ⟨hne, h⟩ := chk_some h
    refine g_lrem 162 C dX8_multiplies__161 (by simpa using hne) rfl ?_
    refine g_iload_n 163 C dX8_multiplies__162 rfl (j := 4) rfl rfl ?_
    refine g_iload 165 C dX8_multiplies__163 (j := 6) rfl rfl ?_
    refine g_iload 167 C dX8_multiplies__165 (j := 11) rfl rfl ?_
    refine g_csi 170 C (As := [.int l3, .int l5, .int l10]) (fun _ h => mX8_often (a1 := l3) (a2 := l5) (a3 := l10) (σ := σ) h) wl_X8_144 ws_X8_often wc_X8_often wn_X8 qX8_often rfl rfl ⟨Nat.le_of_ble_eq_true rfl, Nat.le_of_ble_eq_true rfl⟩ rfl rfl (Nat.le_of_ble_eq_true rfl) dX8_multiplies__167 rfl h (fun o3 h => ?_)
    refine g_i2l 171 C dX8_multiplies__170 rfl ?_
    refine g_lmul 172 C dX8_multiplies__171 rfl ?_
    refine g_ladd 173 C dX8_multiplies__172 rfl ?_
    refine g_cvi 176 C (As := [.long (((σ 1 ((((1372 * l1) + (343 * l10)) + l6) + l8).toNatClampNeg).toInt64) + (((l7.toInt64 * l9.toInt64) - (l7.toInt64 * l9.toInt64) / ((σ 0 1).toInt64) * ((σ 0 1).toInt64)) * ((o3.1).toInt64)))]) (fun _ h => mX8_cut (a1 := ((σ 1 ((((1372 * l1) + (343 * l10)) + l6) + l8).toNatClampNeg).toInt64) + (((l7.toInt64 * l9.toInt64) - (l7.toInt64 * l9.toInt64) / ((σ 0 1).toInt64) * ((σ 0 1).toInt64)) * ((o3.1).toInt64))) (σ := o3.2) h) wl_X8_83 wi_X8_cut wz_X8_cut wc_X8_cut wn_X8 qX8_cut rfl rfl ⟨Nat.le_of_ble_eq_true rfl, Nat.le_of_ble_eq_true rfl⟩ rfl rfl rfl rfl (Nat.le_of_ble_eq_true rfl) dX8_multiplies__173 rfl h (fun o4 h => ?_)
    refine g_iast 177 C rfl dX8_multiplies__176 rfl h (fun h => ?_)
    refine g_iinc 180 [(10, .int (l10 + 1)), (11, .int ((((1372 * l1) + (343 * l10)) + l6) + l8)), (0, .ref (ad 0)), (1, .int l1), (2, .int l2), (3, .int l3), (4, .int l4), (5, .int l5), (6, .int l6), (7, .int l7), (8, .int l8), (9, .int l9)] C dX8_multiplies__177 (j := 11) rfl (by rfl) (by decide) rfl rfl ?_
    refine g_goto 105 C dX8_multiplies__180 (by decide) ?_
    have hh := end_inl h K
    exact g_sub [2, 3, 4, 5, 6, 7, 8, 9, 10, 11, 0] (hh) rfl
noncomputable def fX8_multiplies__L183 (l1 : Int32) (l2 : Int32) (l3 : Int32) (l4 : Int32) (l5 : Int32) (l6 : Int32) (l7 : Int32) (l8 : Int32) (σ : Mem) : Option ((Int32 × Mem) ⊕ ((Mem) ⊕ (Int32 × Mem))) :=
  some (.inl (l8 + 1, σ))
set_option maxHeartbeats 4000000 in
set_option maxRecDepth 100000 in
theorem tX8_multiplies__L183 {E : Gx} {cI : ClassId} {ad : Nat → Nat} (C : Cx E rmX8_multiplies_ cI layM ad 12 RX8 cX8_multiplies_) {out : Int32 × Mem} (K0 : KI E rmX8_multiplies_ cI layM ad 12 cX8_multiplies_ .boolean out) {l1 : Int32} {l2 : Int32} {l3 : Int32} {l4 : Int32} {l5 : Int32} {l6 : Int32} {l7 : Int32} {l8 : Int32} {σ : Mem} {res : (Int32 × Mem) ⊕ ((Mem) ⊕ (Int32 × Mem))} (h : fX8_multiplies__L183 l1 l2 l3 l4 l5 l6 l7 l8 σ = some res) (K : Sum.elim (fun a => G E rmX8_multiplies_ cI layM ad 12 35 [(0, .ref (ad 0)), (1, .int l1), (2, .int l2), (3, .int l3), (4, .int l4), (5, .int l5), (6, .int l6), (7, .int l7), (8, .int a.1)] [] a.2) (Sum.elim (fun b => G E rmX8_multiplies_ cI layM ad 12 189 [(0, .ref (ad 0)), (1, .int l1), (2, .int l2), (3, .int l3), (4, .int l4), (5, .int l5), (6, .int l6)] [] b) (fun b => b = out)) res) : G E rmX8_multiplies_ cI layM ad 12 183 [(0, .ref (ad 0)), (1, .int l1), (2, .int l2), (3, .int l3), (4, .int l4), (5, .int l5), (6, .int l6), (7, .int l7), (8, .int l8)] [] σ := by
  unfold fX8_multiplies__L183 at h
  refine g_iinc 186 [(8, .int (l8 + 1)), (0, .ref (ad 0)), (1, .int l1), (2, .int l2), (3, .int l3), (4, .int l4), (5, .int l5), (6, .int l6), (7, .int l7)] C dX8_multiplies__183 (j := 8) rfl (by rfl) (by decide) rfl rfl ?_
  refine g_goto 35 C dX8_multiplies__186 (by decide) ?_
  have hh := end_inl h K
  exact g_sub [1, 2, 3, 4, 5, 6, 7, 8, 0] (hh) rfl
noncomputable def fX8_multiplies__B35 (l1 : Int32) (l2 : Int32) (l3 : Int32) (l4 : Int32) (l5 : Int32) (l6 : Int32) (l7 : Int32) (l8 : Int32) (σ : Mem) : Option ((Int32 × Mem) ⊕ ((Mem) ⊕ (Int32 × Mem))) :=
  if 343 ≤ l8 then
    some (.inr (.inl σ))
  else
    if l7 = 0 then
      some (.inr (.inl σ))
    else
      chk (inb (((1372 * l4) + (343 * l5)) + l8) 170128) <|
      if (σ 1 (((1372 * l4) + (343 * l5)) + l8).toNatClampNeg) = 0 then
        fX8_multiplies__L183 l1 l2 l3 l4 l5 l6 l7 l8 σ
      else
        (fX8_exponents l6 σ).bind fun o1 =>
        (fX8_exponents l8 o1.2).bind fun o2 =>
        if (o1.1 + o2.1) ≤ 6 then
          (loop (fun a => fX8_multiplies__B105 l1 l2 l3 l4 l5 l6 l7 l8 (σ 1 (((1372 * l4) + (343 * l5)) + l8).toNatClampNeg) a.1 a.2) (if l3 < l5 then l5 else l3, o2.2)).bind fun b5 =>
          fX8_multiplies__L183 l1 l2 l3 l4 l5 l6 l7 l8 b5
        else
          some (.inr (.inr (0, o2.2)))
set_option maxHeartbeats 4000000 in
set_option maxRecDepth 100000 in
theorem tX8_multiplies__B35 {E : Gx} {cI : ClassId} {ad : Nat → Nat} (C : Cx E rmX8_multiplies_ cI layM ad 12 RX8 cX8_multiplies_) {out : Int32 × Mem} (K0 : KI E rmX8_multiplies_ cI layM ad 12 cX8_multiplies_ .boolean out) {l1 : Int32} {l2 : Int32} {l3 : Int32} {l4 : Int32} {l5 : Int32} {l6 : Int32} {l7 : Int32} {l8 : Int32} {σ : Mem} {res : (Int32 × Mem) ⊕ ((Mem) ⊕ (Int32 × Mem))} (h : fX8_multiplies__B35 l1 l2 l3 l4 l5 l6 l7 l8 σ = some res) (K : Sum.elim (fun a => G E rmX8_multiplies_ cI layM ad 12 35 [(0, .ref (ad 0)), (1, .int l1), (2, .int l2), (3, .int l3), (4, .int l4), (5, .int l5), (6, .int l6), (7, .int l7), (8, .int a.1)] [] a.2) (Sum.elim (fun b => G E rmX8_multiplies_ cI layM ad 12 189 [(0, .ref (ad 0)), (1, .int l1), (2, .int l2), (3, .int l3), (4, .int l4), (5, .int l5), (6, .int l6)] [] b) (fun b => b = out)) res) : G E rmX8_multiplies_ cI layM ad 12 35 [(0, .ref (ad 0)), (1, .int l1), (2, .int l2), (3, .int l3), (4, .int l4), (5, .int l5), (6, .int l6), (7, .int l7), (8, .int l8)] [] σ := by
  unfold fX8_multiplies__B35 at h
  refine g_iload 37 C dX8_multiplies__35 (j := 8) rfl rfl ?_
  refine g_sipush 40 (v := 343) C dX8_multiplies__37 (by decide) rfl ?_
  refine g_icmp_ge 189 43 C dX8_multiplies__40 (by decide) rfl h (fun h => ?_) (fun h => ?_)
  · have hh := end_alt0_2 h K
    exact g_sub [0, 1, 2, 3, 4, 5, 6] (hh) rfl
  · refine g_iload 45 C dX8_multiplies__43 (j := 7) rfl rfl ?_
    refine g_if_eq 189 48 C dX8_multiplies__45 (by decide) rfl h (fun h => ?_) (fun h => ?_)
    · have hh := end_alt0_2 h K
      exact g_sub [0, 1, 2, 3, 4, 5, 6] (hh) rfl
    · refine g_aload_n 49 C dX8_multiplies__48 rfl (j := 0) rfl rfl ?_
      refine g_getr 52 (j := 0) C rfl rfl wu_X8 (by decide) wf_X8_8 rfl dX8_multiplies__49 rfl ?_
      refine g_sipush 55 (v := 1372) C dX8_multiplies__52 (by decide) rfl ?_
      refine g_iload 57 C dX8_multiplies__55 (j := 4) rfl rfl ?_
      refine g_imul 58 C dX8_multiplies__57 rfl ?_
      refine g_sipush 61 (v := 343) C dX8_multiplies__58 (by decide) rfl ?_
      refine g_iload 63 C dX8_multiplies__61 (j := 5) rfl rfl ?_
      refine g_imul 64 C dX8_multiplies__63 rfl ?_
      refine g_iadd 65 C dX8_multiplies__64 rfl ?_
      refine g_iload 67 C dX8_multiplies__65 (j := 8) rfl rfl ?_
      refine g_iadd 68 C dX8_multiplies__67 rfl ?_
      refine g_iald 69 C rfl dX8_multiplies__68 rfl h (fun h => ?_)
      refine g_istore 71 [(9, .int (σ 1 (((1372 * l4) + (343 * l5)) + l8).toNatClampNeg)), (0, .ref (ad 0)), (1, .int l1), (2, .int l2), (3, .int l3), (4, .int l4), (5, .int l5), (6, .int l6), (7, .int l7), (8, .int l8)] C dX8_multiplies__69 (by decide) rfl rfl ?_
      refine g_iload 73 C dX8_multiplies__71 (j := 0) rfl rfl ?_
      refine g_if_ne 79 76 C dX8_multiplies__73 (by decide) rfl h (fun h => ?_) (fun h => ?_)
      · refine g_goto 183 C dX8_multiplies__76 (by decide) ?_
        exact g_sub [1, 2, 3, 4, 5, 6, 7, 8, 9] (tX8_multiplies__L183 (l1 := l1) (l2 := l2) (l3 := l3) (l4 := l4) (l5 := l5) (l6 := l6) (l7 := l7) (l8 := l8) (σ := σ) C K0 h K) rfl
      · refine g_iload 81 C dX8_multiplies__79 (j := 7) rfl rfl ?_
        refine g_csi 84 C (As := [.int l6]) (fun _ h => mX8_exponents (a1 := l6) (σ := σ) h) wl_X8_135 ws_X8_exponents wc_X8_exponents wn_X8 qX8_exponents rfl rfl ⟨Nat.le_of_ble_eq_true rfl, Nat.le_of_ble_eq_true rfl⟩ rfl rfl (Nat.le_of_ble_eq_true rfl) dX8_multiplies__81 rfl h (fun o1 h => ?_)
        refine g_iload 86 C dX8_multiplies__84 (j := 9) rfl rfl ?_
        refine g_csi 89 C (As := [.int l8]) (fun _ h => mX8_exponents (a1 := l8) (σ := o1.2) h) wl_X8_135 ws_X8_exponents wc_X8_exponents wn_X8 qX8_exponents rfl rfl ⟨Nat.le_of_ble_eq_true rfl, Nat.le_of_ble_eq_true rfl⟩ rfl rfl (Nat.le_of_ble_eq_true rfl) dX8_multiplies__86 rfl h (fun o2 h => ?_)
        refine g_iadd 90 C dX8_multiplies__89 rfl ?_
        refine g_bipush 92 (v := 6) C dX8_multiplies__90 (by decide) rfl ?_
        refine g_icmp_le 97 95 C dX8_multiplies__92 (by decide) rfl h (fun h => ?_) (fun h => ?_)
        · refine g_iload_n 98 C dX8_multiplies__97 rfl (j := 4) rfl rfl ?_
          refine g_iload 100 C dX8_multiplies__98 (j := 6) rfl rfl ?_
          refine g_mmax 103 C wl_X8_138 wM_st wM_in wM_cmax (by decide) (Nat.le_of_ble_eq_true rfl) dX8_multiplies__100 rfl ?_
          refine g_istore 105 [(10, .int (if l3 < l5 then l5 else l3)), (9, .int (σ 1 (((1372 * l4) + (343 * l5)) + l8).toNatClampNeg)), (0, .ref (ad 0)), (1, .int l1), (2, .int l2), (3, .int l3), (4, .int l4), (5, .int l5), (6, .int l6), (7, .int l7), (8, .int l8)] C dX8_multiplies__103 (by decide) rfl rfl ?_
          obtain ⟨b5, hb, h⟩ := bind_some h
          refine g_sub [2, 3, 4, 5, 6, 7, 8, 9, 10, 1, 0] (g_loop (a := (if l3 < l5 then l5 else l3, o2.2)) (fun a => G E rmX8_multiplies_ cI layM ad 12 105 [(0, .ref (ad 0)), (1, .int l1), (2, .int l2), (3, .int l3), (4, .int l4), (5, .int l5), (6, .int l6), (7, .int l7), (8, .int l8), (9, .int (σ 1 (((1372 * l4) + (343 * l5)) + l8).toNatClampNeg)), (10, .int a.1)] [] a.2) (fun b => G E rmX8_multiplies_ cI layM ad 12 183 [(0, .ref (ad 0)), (1, .int l1), (2, .int l2), (3, .int l3), (4, .int l4), (5, .int l5), (6, .int l6), (7, .int l7), (8, .int l8)] [] b) hb (fun a res h K => tX8_multiplies__B105 (l1 := l1) (l2 := l2) (l3 := l3) (l4 := l4) (l5 := l5) (l6 := l6) (l7 := l7) (l8 := l8) (l9 := (σ 1 (((1372 * l4) + (343 * l5)) + l8).toNatClampNeg)) (l10 := a.1) (σ := a.2) (res := res) C K0 h K) ?_) rfl
          show G E rmX8_multiplies_ cI layM ad 12 183 [(0, .ref (ad 0)), (1, .int l1), (2, .int l2), (3, .int l3), (4, .int l4), (5, .int l5), (6, .int l6), (7, .int l7), (8, .int l8)] [] b5
          exact tX8_multiplies__L183 (l1 := l1) (l2 := l2) (l3 := l3) (l4 := l4) (l5 := l5) (l6 := l6) (l7 := l7) (l8 := l8) (σ := b5) C K0 h K
        · refine g_iconst 96 (v := 0) C dX8_multiplies__95 (by decide) rfl ?_
          have ho := end_alt1_2 h K
          replace ho : (0, o2.2) = out := ho
          subst ho
          exact K0 _ _ dX8_multiplies__96 (zb_nar (x := 0) (by decide))
noncomputable def fX8_multiplies__L189 (l1 : Int32) (l2 : Int32) (l3 : Int32) (l4 : Int32) (l5 : Int32) (l6 : Int32) (σ : Mem) : Option ((Int32 × Mem) ⊕ ((Mem) ⊕ (Int32 × Mem))) :=
  some (.inl (l6 + 1, σ))
set_option maxHeartbeats 4000000 in
set_option maxRecDepth 100000 in
theorem tX8_multiplies__L189 {E : Gx} {cI : ClassId} {ad : Nat → Nat} (C : Cx E rmX8_multiplies_ cI layM ad 12 RX8 cX8_multiplies_) {out : Int32 × Mem} (K0 : KI E rmX8_multiplies_ cI layM ad 12 cX8_multiplies_ .boolean out) {l1 : Int32} {l2 : Int32} {l3 : Int32} {l4 : Int32} {l5 : Int32} {l6 : Int32} {σ : Mem} {res : (Int32 × Mem) ⊕ ((Mem) ⊕ (Int32 × Mem))} (h : fX8_multiplies__L189 l1 l2 l3 l4 l5 l6 σ = some res) (K : Sum.elim (fun a => G E rmX8_multiplies_ cI layM ad 12 3 [(0, .ref (ad 0)), (1, .int l1), (2, .int l2), (3, .int l3), (4, .int l4), (5, .int l5), (6, .int a.1)] [] a.2) (Sum.elim (fun b => G E rmX8_multiplies_ cI layM ad 12 195 [] [] b) (fun b => b = out)) res) : G E rmX8_multiplies_ cI layM ad 12 189 [(0, .ref (ad 0)), (1, .int l1), (2, .int l2), (3, .int l3), (4, .int l4), (5, .int l5), (6, .int l6)] [] σ := by
  unfold fX8_multiplies__L189 at h
  refine g_iinc 192 [(6, .int (l6 + 1)), (0, .ref (ad 0)), (1, .int l1), (2, .int l2), (3, .int l3), (4, .int l4), (5, .int l5)] C dX8_multiplies__189 (j := 6) rfl (by rfl) (by decide) rfl rfl ?_
  refine g_goto 3 C dX8_multiplies__192 (by decide) ?_
  have hh := end_inl h K
  exact g_sub [1, 2, 3, 4, 5, 6, 0] (hh) rfl
noncomputable def fX8_multiplies__B3 (l1 : Int32) (l2 : Int32) (l3 : Int32) (l4 : Int32) (l5 : Int32) (l6 : Int32) (σ : Mem) : Option ((Int32 × Mem) ⊕ ((Mem) ⊕ (Int32 × Mem))) :=
  if 343 ≤ l6 then
    some (.inr (.inl σ))
  else
    chk (inb (((1372 * l2) + (343 * l3)) + l6) 170128) <|
    (loop (fun a => fX8_multiplies__B35 l1 l2 l3 l4 l5 l6 (σ 1 (((1372 * l2) + (343 * l3)) + l6).toNatClampNeg) a.1 a.2) (0, σ)).bind (Sum.elim (fun b6x0 => fX8_multiplies__L189 l1 l2 l3 l4 l5 l6 b6x0) (fun b6r => some (.inr (.inr b6r))))
set_option maxHeartbeats 4000000 in
set_option maxRecDepth 100000 in
theorem tX8_multiplies__B3 {E : Gx} {cI : ClassId} {ad : Nat → Nat} (C : Cx E rmX8_multiplies_ cI layM ad 12 RX8 cX8_multiplies_) {out : Int32 × Mem} (K0 : KI E rmX8_multiplies_ cI layM ad 12 cX8_multiplies_ .boolean out) {l1 : Int32} {l2 : Int32} {l3 : Int32} {l4 : Int32} {l5 : Int32} {l6 : Int32} {σ : Mem} {res : (Int32 × Mem) ⊕ ((Mem) ⊕ (Int32 × Mem))} (h : fX8_multiplies__B3 l1 l2 l3 l4 l5 l6 σ = some res) (K : Sum.elim (fun a => G E rmX8_multiplies_ cI layM ad 12 3 [(0, .ref (ad 0)), (1, .int l1), (2, .int l2), (3, .int l3), (4, .int l4), (5, .int l5), (6, .int a.1)] [] a.2) (Sum.elim (fun b => G E rmX8_multiplies_ cI layM ad 12 195 [] [] b) (fun b => b = out)) res) : G E rmX8_multiplies_ cI layM ad 12 3 [(0, .ref (ad 0)), (1, .int l1), (2, .int l2), (3, .int l3), (4, .int l4), (5, .int l5), (6, .int l6)] [] σ := by
  unfold fX8_multiplies__B3 at h
  refine g_iload 5 C dX8_multiplies__3 (j := 6) rfl rfl ?_
  refine g_sipush 8 (v := 343) C dX8_multiplies__5 (by decide) rfl ?_
  refine g_icmp_ge 195 11 C dX8_multiplies__8 (by decide) rfl h (fun h => ?_) (fun h => ?_)
  · have hh := end_alt0_2 h K
    exact g_sub [] (hh) rfl
  · refine g_aload_n 12 C dX8_multiplies__11 rfl (j := 0) rfl rfl ?_
    refine g_getr 15 (j := 0) C rfl rfl wu_X8 (by decide) wf_X8_8 rfl dX8_multiplies__12 rfl ?_
    refine g_sipush 18 (v := 1372) C dX8_multiplies__15 (by decide) rfl ?_
    refine g_iload_n 19 C dX8_multiplies__18 rfl (j := 2) rfl rfl ?_
    refine g_imul 20 C dX8_multiplies__19 rfl ?_
    refine g_sipush 23 (v := 343) C dX8_multiplies__20 (by decide) rfl ?_
    refine g_iload_n 24 C dX8_multiplies__23 rfl (j := 3) rfl rfl ?_
    refine g_imul 25 C dX8_multiplies__24 rfl ?_
    refine g_iadd 26 C dX8_multiplies__25 rfl ?_
    refine g_iload 28 C dX8_multiplies__26 (j := 6) rfl rfl ?_
    refine g_iadd 29 C dX8_multiplies__28 rfl ?_
    refine g_iald 30 C rfl dX8_multiplies__29 rfl h (fun h => ?_)
    refine g_istore 32 [(7, .int (σ 1 (((1372 * l2) + (343 * l3)) + l6).toNatClampNeg)), (0, .ref (ad 0)), (1, .int l1), (2, .int l2), (3, .int l3), (4, .int l4), (5, .int l5), (6, .int l6)] C dX8_multiplies__30 (by decide) rfl rfl ?_
    refine g_iconst 33 (v := 0) C dX8_multiplies__32 (by decide) rfl ?_
    refine g_istore 35 [(8, .int 0), (7, .int (σ 1 (((1372 * l2) + (343 * l3)) + l6).toNatClampNeg)), (0, .ref (ad 0)), (1, .int l1), (2, .int l2), (3, .int l3), (4, .int l4), (5, .int l5), (6, .int l6)] C dX8_multiplies__33 (by decide) rfl rfl ?_
    obtain ⟨b6, hb, h⟩ := bind_some h
    refine g_sub [2, 3, 4, 5, 6, 7, 8, 1, 0] (g_loop (a := (0, σ)) (fun a => G E rmX8_multiplies_ cI layM ad 12 35 [(0, .ref (ad 0)), (1, .int l1), (2, .int l2), (3, .int l3), (4, .int l4), (5, .int l5), (6, .int l6), (7, .int (σ 1 (((1372 * l2) + (343 * l3)) + l6).toNatClampNeg)), (8, .int a.1)] [] a.2) (Sum.elim (fun b => G E rmX8_multiplies_ cI layM ad 12 189 [(0, .ref (ad 0)), (1, .int l1), (2, .int l2), (3, .int l3), (4, .int l4), (5, .int l5), (6, .int l6)] [] b) (fun b => b = out)) hb (fun a res h K => tX8_multiplies__B35 (l1 := l1) (l2 := l2) (l3 := l3) (l4 := l4) (l5 := l5) (l6 := l6) (l7 := (σ 1 (((1372 * l2) + (343 * l3)) + l6).toNatClampNeg)) (l8 := a.1) (σ := a.2) (res := res) C K0 h K) ?_) rfl
    rcases b6 with b6x0 | b6r
    · show G E rmX8_multiplies_ cI layM ad 12 189 [(0, .ref (ad 0)), (1, .int l1), (2, .int l2), (3, .int l3), (4, .int l4), (5, .int l5), (6, .int l6)] [] b6x0
      exact tX8_multiplies__L189 (l1 := l1) (l2 := l2) (l3 := l3) (l4 := l4) (l5 := l5) (l6 := l6) (σ := b6x0) C K0 h K
    · replace h : some (Sum.inr (Sum.inr b6r)) = some res := h
      have ho := end_alt1_2 h K
      exact ho
noncomputable def fX8_multiplies__L195 (σ : Mem) : Option (Int32 × Mem) :=
  some (1, σ)
set_option maxHeartbeats 4000000 in
set_option maxRecDepth 100000 in
theorem tX8_multiplies__L195 {E : Gx} {cI : ClassId} {ad : Nat → Nat} (C : Cx E rmX8_multiplies_ cI layM ad 12 RX8 cX8_multiplies_) {out : Int32 × Mem} (K0 : KI E rmX8_multiplies_ cI layM ad 12 cX8_multiplies_ .boolean out) {σ : Mem} (h : fX8_multiplies__L195 σ = some out) : G E rmX8_multiplies_ cI layM ad 12 195 [] [] σ := by
  unfold fX8_multiplies__L195 at h
  refine g_iconst 196 (v := 1) C dX8_multiplies__195 (by decide) rfl ?_
  cases h
  exact K0 _ _ dX8_multiplies__196 (zb_nar (x := 1) (by decide))
noncomputable def fX8_multiplies_ (a1 : Int32) (a2 : Int32) (a3 : Int32) (a4 : Int32) (a5 : Int32) (σ : Mem) : Option (Int32 × Mem) :=
  (loop (fun a => fX8_multiplies__B3 a1 a2 a3 a4 a5 a.1 a.2) (0, σ)).bind (Sum.elim (fun b7x0 => fX8_multiplies__L195 b7x0) (fun b7r => some b7r))
set_option maxHeartbeats 4000000 in
set_option maxRecDepth 100000 in
theorem mX8_multiplies_ {l : Launch} {D : va_G} {cI : ClassId} {ad : Nat → Nat} {a1 : Int32} {a2 : Int32} {a3 : Int32} {a4 : Int32} {a5 : Int32} {σ : Mem} {out : Int32 × Mem} (h : fX8_multiplies_ a1 a2 a3 a4 a5 σ = some out) : MI l D cI layM ad yX8_multiplies_ cX8_multiplies_ 12 .boolean rmX8_multiplies_ [.ref (ad 0), .int a1, .int a2, .int a3, .int a4, .int a5] σ out := by
  refine met_i (by decide) (Nat.le_of_ble_eq_true rfl) (fun E C K0 => ?_)
  show G E rmX8_multiplies_ cI layM ad 12 0 [(0, .ref (ad 0)), (1, .int a1), (2, .int a2), (3, .int a3), (4, .int a4), (5, .int a5)] [] σ
  unfold fX8_multiplies_ at h
  refine g_iconst 1 (v := 0) C dX8_multiplies__0 (by decide) rfl ?_
  refine g_istore 3 [(6, .int 0), (0, .ref (ad 0)), (1, .int a1), (2, .int a2), (3, .int a3), (4, .int a4), (5, .int a5)] C dX8_multiplies__1 (by decide) rfl rfl ?_
  obtain ⟨b7, hb, h⟩ := bind_some h
  refine g_sub [1, 2, 3, 4, 5, 6, 0] (g_loop (a := (0, σ)) (fun a => G E rmX8_multiplies_ cI layM ad 12 3 [(0, .ref (ad 0)), (1, .int a1), (2, .int a2), (3, .int a3), (4, .int a4), (5, .int a5), (6, .int a.1)] [] a.2) (Sum.elim (fun b => G E rmX8_multiplies_ cI layM ad 12 195 [] [] b) (fun b => b = out)) hb (fun a res h K => tX8_multiplies__B3 (l1 := a1) (l2 := a2) (l3 := a3) (l4 := a4) (l5 := a5) (l6 := a.1) (σ := a.2) (res := res) C K0 h K) ?_) rfl
  rcases b7 with b7x0 | b7r
  · show G E rmX8_multiplies_ cI layM ad 12 195 [] [] b7x0
    exact tX8_multiplies__L195 (σ := b7x0) C K0 h
  · exact end_top h
