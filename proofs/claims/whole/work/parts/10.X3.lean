/-! LoopReducer$Names.has(I)Z -/
abbrev rmX3_has : Room := { frames := 0, cells := 0, slots := 0, locals := 0 }
theorem qX3_has : yX3_has.cls ≠ "java/lang/invoke/MethodHandle" ∧ yX3_has.cls ≠ "java/lang/invoke/VarHandle" ∧ (parseMethodDescriptor yX3_has.desc).map (fun d => d.parameters.length) = some 1 := by decide +kernel
theorem DX3_has : ∀ q ∈ ([(0, .iload_n 1, 1), (1, .ifCond .lt 15, 3), (4, .iload_n 1, 1), (5, .aload_n 0, 1), (6, .getfield 40, 3), (9, .if_icmp .ge 7, 3), (12, .iconst 1, 1), (13, .goto 4, 3), (16, .iconst 0, 1), (17, .ireturn, 1)] : List (Nat × Instr × Nat)), decode cX3_has q.1 = .ok q.2 := by decide +kernel
theorem dX3_has_0 : decode cX3_has 0 = .ok (.iload_n 1, 1) := DX3_has (0, .iload_n 1, 1) (List.mem_of_getElem? (i := 0) rfl)
theorem dX3_has_1 : decode cX3_has 1 = .ok (.ifCond .lt 15, 3) := DX3_has (1, .ifCond .lt 15, 3) (List.mem_of_getElem? (i := 1) rfl)
theorem dX3_has_4 : decode cX3_has 4 = .ok (.iload_n 1, 1) := DX3_has (4, .iload_n 1, 1) (List.mem_of_getElem? (i := 2) rfl)
theorem dX3_has_5 : decode cX3_has 5 = .ok (.aload_n 0, 1) := DX3_has (5, .aload_n 0, 1) (List.mem_of_getElem? (i := 3) rfl)
theorem dX3_has_6 : decode cX3_has 6 = .ok (.getfield 40, 3) := DX3_has (6, .getfield 40, 3) (List.mem_of_getElem? (i := 4) rfl)
theorem dX3_has_9 : decode cX3_has 9 = .ok (.if_icmp .ge 7, 3) := DX3_has (9, .if_icmp .ge 7, 3) (List.mem_of_getElem? (i := 5) rfl)
theorem dX3_has_12 : decode cX3_has 12 = .ok (.iconst 1, 1) := DX3_has (12, .iconst 1, 1) (List.mem_of_getElem? (i := 6) rfl)
theorem dX3_has_13 : decode cX3_has 13 = .ok (.goto 4, 3) := DX3_has (13, .goto 4, 3) (List.mem_of_getElem? (i := 7) rfl)
theorem dX3_has_16 : decode cX3_has 16 = .ok (.iconst 0, 1) := DX3_has (16, .iconst 0, 1) (List.mem_of_getElem? (i := 8) rfl)
theorem dX3_has_17 : decode cX3_has 17 = .ok (.ireturn, 1) := DX3_has (17, .ireturn, 1) (List.mem_of_getElem? (i := 9) rfl)
noncomputable def fX3_has_L17 (s0 : Int32) (σ : Mem) : Option (Int32 × Mem) :=
  chk (s0 == 0 || s0 == 1) <|
  some (s0, σ)
set_option maxHeartbeats 4000000 in
set_option maxRecDepth 100000 in
theorem tX3_has_L17 {E : Gx} {cI : ClassId} {ad : Nat → Nat} (C : Cx E rmX3_has cI layX ad 2 RX3 cX3_has) {out : Int32 × Mem} (K0 : KI E rmX3_has cI layX ad 2 cX3_has .boolean out) {s0 : Int32} {σ : Mem} (h : fX3_has_L17 s0 σ = some out) : G E rmX3_has cI layX ad 2 17 [] [.int s0] σ := by
  unfold fX3_has_L17 at h
  obtain ⟨hz, h⟩ := chk_some h
  cases h
  exact K0 _ _ dX3_has_17 (zb_nar hz)
noncomputable def fX3_has_L16 (σ : Mem) : Option (Int32 × Mem) :=
  fX3_has_L17 0 σ
set_option maxHeartbeats 4000000 in
set_option maxRecDepth 100000 in
theorem tX3_has_L16 {E : Gx} {cI : ClassId} {ad : Nat → Nat} (C : Cx E rmX3_has cI layX ad 2 RX3 cX3_has) {out : Int32 × Mem} (K0 : KI E rmX3_has cI layX ad 2 cX3_has .boolean out) {σ : Mem} (h : fX3_has_L16 σ = some out) : G E rmX3_has cI layX ad 2 16 [] [] σ := by
  unfold fX3_has_L16 at h
  refine g_iconst 17 (v := 0) C dX3_has_16 (by decide) rfl ?_
  exact tX3_has_L17 (s0 := 0) (σ := σ) C K0 h
noncomputable def fX3_has (a1 : Int32) (σ : Mem) : Option (Int32 × Mem) :=
  if a1 < 0 then
    fX3_has_L16 σ
  else
    if (σ 3 4) ≤ a1 then
      fX3_has_L16 σ
    else
      fX3_has_L17 1 σ
set_option maxHeartbeats 4000000 in
set_option maxRecDepth 100000 in
theorem mX3_has {l : Launch} {D : va_G} {cI : ClassId} {ad : Nat → Nat} {a1 : Int32} {σ : Mem} {out : Int32 × Mem} (h : fX3_has a1 σ = some out) : MI l D cI layX ad yX3_has cX3_has 2 .boolean rmX3_has [.ref (ad 3), .int a1] σ out := by
  refine met_i (by decide) (Nat.le_of_ble_eq_true rfl) (fun E C K0 => ?_)
  show G E rmX3_has cI layX ad 2 0 [(0, .ref (ad 3)), (1, .int a1)] [] σ
  unfold fX3_has at h
  refine g_iload_n 1 C dX3_has_0 rfl (j := 1) rfl rfl ?_
  refine g_if_lt 16 4 C dX3_has_1 (by decide) rfl h (fun h => ?_) (fun h => ?_)
  · exact g_sub [] (tX3_has_L16 (σ := σ) C K0 h) rfl
  · refine g_iload_n 5 C dX3_has_4 rfl (j := 1) rfl rfl ?_
    refine g_aload_n 6 C dX3_has_5 rfl (j := 0) rfl rfl ?_
    refine g_geti 9 (j := 4) C rfl rfl wu_X3 (by decide) wf_X3_40 rfl dX3_has_6 rfl ?_
    refine g_icmp_ge 16 12 C dX3_has_9 (by decide) rfl h (fun h => ?_) (fun h => ?_)
    · exact g_sub [] (tX3_has_L16 (σ := σ) C K0 h) rfl
    · refine g_iconst 13 (v := 1) C dX3_has_12 (by decide) rfl ?_
      refine g_goto 17 C dX3_has_13 (by decide) ?_
      exact g_sub [] (tX3_has_L17 (s0 := 1) (σ := σ) C K0 h) rfl

/-! LoopReducer$Names.isOf(II)Z -/
abbrev rmX3_isOf : Room := { frames := 1, cells := 0, slots := 0, locals := 21 }
theorem qX3_isOf : yX3_isOf.cls ≠ "java/lang/invoke/MethodHandle" ∧ yX3_isOf.cls ≠ "java/lang/invoke/VarHandle" ∧ (parseMethodDescriptor yX3_isOf.desc).map (fun d => d.parameters.length) = some 2 := by decide +kernel
theorem DX3_isOf : ∀ q ∈ ([(0, .aload_n 0, 1), (1, .iload_n 1, 1), (2, .invokevirtual 43, 3), (5, .ifCond .eq 17, 3), (8, .aload_n 0, 1), (9, .getfield 9, 3), (12, .iload_n 1, 1), (13, .iaload, 1), (14, .iload_n 2, 1), (15, .if_icmp .ne 7, 3), (18, .iconst 1, 1), (19, .goto 4, 3), (22, .iconst 0, 1), (23, .ireturn, 1)] : List (Nat × Instr × Nat)), decode cX3_isOf q.1 = .ok q.2 := by decide +kernel
theorem dX3_isOf_0 : decode cX3_isOf 0 = .ok (.aload_n 0, 1) := DX3_isOf (0, .aload_n 0, 1) (List.mem_of_getElem? (i := 0) rfl)
theorem dX3_isOf_1 : decode cX3_isOf 1 = .ok (.iload_n 1, 1) := DX3_isOf (1, .iload_n 1, 1) (List.mem_of_getElem? (i := 1) rfl)
theorem dX3_isOf_2 : decode cX3_isOf 2 = .ok (.invokevirtual 43, 3) := DX3_isOf (2, .invokevirtual 43, 3) (List.mem_of_getElem? (i := 2) rfl)
theorem dX3_isOf_5 : decode cX3_isOf 5 = .ok (.ifCond .eq 17, 3) := DX3_isOf (5, .ifCond .eq 17, 3) (List.mem_of_getElem? (i := 3) rfl)
theorem dX3_isOf_8 : decode cX3_isOf 8 = .ok (.aload_n 0, 1) := DX3_isOf (8, .aload_n 0, 1) (List.mem_of_getElem? (i := 4) rfl)
theorem dX3_isOf_9 : decode cX3_isOf 9 = .ok (.getfield 9, 3) := DX3_isOf (9, .getfield 9, 3) (List.mem_of_getElem? (i := 5) rfl)
theorem dX3_isOf_12 : decode cX3_isOf 12 = .ok (.iload_n 1, 1) := DX3_isOf (12, .iload_n 1, 1) (List.mem_of_getElem? (i := 6) rfl)
theorem dX3_isOf_13 : decode cX3_isOf 13 = .ok (.iaload, 1) := DX3_isOf (13, .iaload, 1) (List.mem_of_getElem? (i := 7) rfl)
theorem dX3_isOf_14 : decode cX3_isOf 14 = .ok (.iload_n 2, 1) := DX3_isOf (14, .iload_n 2, 1) (List.mem_of_getElem? (i := 8) rfl)
theorem dX3_isOf_15 : decode cX3_isOf 15 = .ok (.if_icmp .ne 7, 3) := DX3_isOf (15, .if_icmp .ne 7, 3) (List.mem_of_getElem? (i := 9) rfl)
theorem dX3_isOf_18 : decode cX3_isOf 18 = .ok (.iconst 1, 1) := DX3_isOf (18, .iconst 1, 1) (List.mem_of_getElem? (i := 10) rfl)
theorem dX3_isOf_19 : decode cX3_isOf 19 = .ok (.goto 4, 3) := DX3_isOf (19, .goto 4, 3) (List.mem_of_getElem? (i := 11) rfl)
theorem dX3_isOf_22 : decode cX3_isOf 22 = .ok (.iconst 0, 1) := DX3_isOf (22, .iconst 0, 1) (List.mem_of_getElem? (i := 12) rfl)
theorem dX3_isOf_23 : decode cX3_isOf 23 = .ok (.ireturn, 1) := DX3_isOf (23, .ireturn, 1) (List.mem_of_getElem? (i := 13) rfl)
noncomputable def fX3_isOf_L23 (s0 : Int32) (σ : Mem) : Option (Int32 × Mem) :=
  chk (s0 == 0 || s0 == 1) <|
  some (s0, σ)
set_option maxHeartbeats 4000000 in
set_option maxRecDepth 100000 in
theorem tX3_isOf_L23 {E : Gx} {cI : ClassId} {ad : Nat → Nat} (C : Cx E rmX3_isOf cI layX ad 3 RX3 cX3_isOf) {out : Int32 × Mem} (K0 : KI E rmX3_isOf cI layX ad 3 cX3_isOf .boolean out) {s0 : Int32} {σ : Mem} (h : fX3_isOf_L23 s0 σ = some out) : G E rmX3_isOf cI layX ad 3 23 [] [.int s0] σ := by
  unfold fX3_isOf_L23 at h
  obtain ⟨hz, h⟩ := chk_some h
  cases h
  exact K0 _ _ dX3_isOf_23 (zb_nar hz)
noncomputable def fX3_isOf_L22 (σ : Mem) : Option (Int32 × Mem) :=
  fX3_isOf_L23 0 σ
set_option maxHeartbeats 4000000 in
set_option maxRecDepth 100000 in
theorem tX3_isOf_L22 {E : Gx} {cI : ClassId} {ad : Nat → Nat} (C : Cx E rmX3_isOf cI layX ad 3 RX3 cX3_isOf) {out : Int32 × Mem} (K0 : KI E rmX3_isOf cI layX ad 3 cX3_isOf .boolean out) {σ : Mem} (h : fX3_isOf_L22 σ = some out) : G E rmX3_isOf cI layX ad 3 22 [] [] σ := by
  unfold fX3_isOf_L22 at h
  refine g_iconst 23 (v := 0) C dX3_isOf_22 (by decide) rfl ?_
  exact tX3_isOf_L23 (s0 := 0) (σ := σ) C K0 h
noncomputable def fX3_isOf (a1 : Int32) (a2 : Int32) (σ : Mem) : Option (Int32 × Mem) :=
  (fX3_has a1 σ).bind fun o1 =>
  if o1.1 = 0 then
    fX3_isOf_L22 o1.2
  else
    chk (inb a1 30) <|
    if (o1.2 8 a1.toNatClampNeg) = a2 then
      fX3_isOf_L23 1 o1.2
    else
      fX3_isOf_L22 o1.2
set_option maxHeartbeats 4000000 in
set_option maxRecDepth 100000 in
theorem mX3_isOf {l : Launch} {D : va_G} {cI : ClassId} {ad : Nat → Nat} {a1 : Int32} {a2 : Int32} {σ : Mem} {out : Int32 × Mem} (h : fX3_isOf a1 a2 σ = some out) : MI l D cI layX ad yX3_isOf cX3_isOf 3 .boolean rmX3_isOf [.ref (ad 3), .int a1, .int a2] σ out := by
  refine met_i (by decide) (Nat.le_of_ble_eq_true rfl) (fun E C K0 => ?_)
  show G E rmX3_isOf cI layX ad 3 0 [(0, .ref (ad 3)), (1, .int a1), (2, .int a2)] [] σ
  unfold fX3_isOf at h
  refine g_aload_n 1 C dX3_isOf_0 rfl (j := 0) rfl rfl ?_
  refine g_iload_n 2 C dX3_isOf_1 rfl (j := 1) rfl rfl ?_
  refine g_cvi 5 C (As := [.int a1]) (fun _ h => mX3_has (a1 := a1) (σ := σ) h) wl_X3_43 wi_X3_has wz_X3_has wc_X3_has wn_X3 qX3_has rfl rfl ⟨Nat.le_of_ble_eq_true rfl, Nat.le_of_ble_eq_true rfl⟩ rfl rfl rfl rfl (Nat.le_of_ble_eq_true rfl) dX3_isOf_2 rfl h (fun o1 h => ?_)
  refine g_if_eq 22 8 C dX3_isOf_5 (by decide) rfl h (fun h => ?_) (fun h => ?_)
  · exact g_sub [] (tX3_isOf_L22 (σ := o1.2) C K0 h) rfl
  · refine g_aload_n 9 C dX3_isOf_8 rfl (j := 0) rfl rfl ?_
    refine g_getr 12 (j := 1) C rfl rfl wu_X3 (by decide) wf_X3_9 rfl dX3_isOf_9 rfl ?_
    refine g_iload_n 13 C dX3_isOf_12 rfl (j := 1) rfl rfl ?_
    refine g_iald 14 C rfl dX3_isOf_13 rfl h (fun h => ?_)
    refine g_iload_n 15 C dX3_isOf_14 rfl (j := 2) rfl rfl ?_
    refine g_icmp_ne 22 18 C dX3_isOf_15 (by decide) rfl h (fun h => ?_) (fun h => ?_)
    · refine g_iconst 19 (v := 1) C dX3_isOf_18 (by decide) rfl ?_
      refine g_goto 23 C dX3_isOf_19 (by decide) ?_
      exact g_sub [] (tX3_isOf_L23 (s0 := 1) (σ := o1.2) C K0 h) rfl
    · exact g_sub [] (tX3_isOf_L22 (σ := o1.2) C K0 h) rfl

/-! LoopReducer$Names.isMade(I)Z -/
abbrev rmX3_isMade : Room := { frames := 0, cells := 0, slots := 0, locals := 0 }
theorem qX3_isMade : yX3_isMade.cls ≠ "java/lang/invoke/MethodHandle" ∧ yX3_isMade.cls ≠ "java/lang/invoke/VarHandle" ∧ (parseMethodDescriptor yX3_isMade.desc).map (fun d => d.parameters.length) = some 1 := by decide +kernel
theorem DX3_isMade : ∀ q ∈ ([(0, .aload_n 0, 1), (1, .getfield 9, 3), (4, .iload_n 1, 1), (5, .iaload, 1), (6, .iconst 2, 1), (7, .if_icmp .eq 23, 3), (10, .aload_n 0, 1), (11, .getfield 9, 3), (14, .iload_n 1, 1), (15, .iaload, 1), (16, .iconst 3, 1), (17, .if_icmp .eq 13, 3), (20, .aload_n 0, 1), (21, .getfield 9, 3), (24, .iload_n 1, 1), (25, .iaload, 1), (26, .iconst 4, 1), (27, .if_icmp .ne 7, 3), (30, .iconst 1, 1), (31, .goto 4, 3), (34, .iconst 0, 1), (35, .ireturn, 1)] : List (Nat × Instr × Nat)), decode cX3_isMade q.1 = .ok q.2 := by decide +kernel
theorem dX3_isMade_0 : decode cX3_isMade 0 = .ok (.aload_n 0, 1) := DX3_isMade (0, .aload_n 0, 1) (List.mem_of_getElem? (i := 0) rfl)
theorem dX3_isMade_1 : decode cX3_isMade 1 = .ok (.getfield 9, 3) := DX3_isMade (1, .getfield 9, 3) (List.mem_of_getElem? (i := 1) rfl)
theorem dX3_isMade_4 : decode cX3_isMade 4 = .ok (.iload_n 1, 1) := DX3_isMade (4, .iload_n 1, 1) (List.mem_of_getElem? (i := 2) rfl)
theorem dX3_isMade_5 : decode cX3_isMade 5 = .ok (.iaload, 1) := DX3_isMade (5, .iaload, 1) (List.mem_of_getElem? (i := 3) rfl)
theorem dX3_isMade_6 : decode cX3_isMade 6 = .ok (.iconst 2, 1) := DX3_isMade (6, .iconst 2, 1) (List.mem_of_getElem? (i := 4) rfl)
theorem dX3_isMade_7 : decode cX3_isMade 7 = .ok (.if_icmp .eq 23, 3) := DX3_isMade (7, .if_icmp .eq 23, 3) (List.mem_of_getElem? (i := 5) rfl)
theorem dX3_isMade_10 : decode cX3_isMade 10 = .ok (.aload_n 0, 1) := DX3_isMade (10, .aload_n 0, 1) (List.mem_of_getElem? (i := 6) rfl)
theorem dX3_isMade_11 : decode cX3_isMade 11 = .ok (.getfield 9, 3) := DX3_isMade (11, .getfield 9, 3) (List.mem_of_getElem? (i := 7) rfl)
theorem dX3_isMade_14 : decode cX3_isMade 14 = .ok (.iload_n 1, 1) := DX3_isMade (14, .iload_n 1, 1) (List.mem_of_getElem? (i := 8) rfl)
theorem dX3_isMade_15 : decode cX3_isMade 15 = .ok (.iaload, 1) := DX3_isMade (15, .iaload, 1) (List.mem_of_getElem? (i := 9) rfl)
theorem dX3_isMade_16 : decode cX3_isMade 16 = .ok (.iconst 3, 1) := DX3_isMade (16, .iconst 3, 1) (List.mem_of_getElem? (i := 10) rfl)
theorem dX3_isMade_17 : decode cX3_isMade 17 = .ok (.if_icmp .eq 13, 3) := DX3_isMade (17, .if_icmp .eq 13, 3) (List.mem_of_getElem? (i := 11) rfl)
theorem dX3_isMade_20 : decode cX3_isMade 20 = .ok (.aload_n 0, 1) := DX3_isMade (20, .aload_n 0, 1) (List.mem_of_getElem? (i := 12) rfl)
theorem dX3_isMade_21 : decode cX3_isMade 21 = .ok (.getfield 9, 3) := DX3_isMade (21, .getfield 9, 3) (List.mem_of_getElem? (i := 13) rfl)
theorem dX3_isMade_24 : decode cX3_isMade 24 = .ok (.iload_n 1, 1) := DX3_isMade (24, .iload_n 1, 1) (List.mem_of_getElem? (i := 14) rfl)
theorem dX3_isMade_25 : decode cX3_isMade 25 = .ok (.iaload, 1) := DX3_isMade (25, .iaload, 1) (List.mem_of_getElem? (i := 15) rfl)
theorem dX3_isMade_26 : decode cX3_isMade 26 = .ok (.iconst 4, 1) := DX3_isMade (26, .iconst 4, 1) (List.mem_of_getElem? (i := 16) rfl)
theorem dX3_isMade_27 : decode cX3_isMade 27 = .ok (.if_icmp .ne 7, 3) := DX3_isMade (27, .if_icmp .ne 7, 3) (List.mem_of_getElem? (i := 17) rfl)
theorem dX3_isMade_30 : decode cX3_isMade 30 = .ok (.iconst 1, 1) := DX3_isMade (30, .iconst 1, 1) (List.mem_of_getElem? (i := 18) rfl)
theorem dX3_isMade_31 : decode cX3_isMade 31 = .ok (.goto 4, 3) := DX3_isMade (31, .goto 4, 3) (List.mem_of_getElem? (i := 19) rfl)
theorem dX3_isMade_34 : decode cX3_isMade 34 = .ok (.iconst 0, 1) := DX3_isMade (34, .iconst 0, 1) (List.mem_of_getElem? (i := 20) rfl)
theorem dX3_isMade_35 : decode cX3_isMade 35 = .ok (.ireturn, 1) := DX3_isMade (35, .ireturn, 1) (List.mem_of_getElem? (i := 21) rfl)
noncomputable def fX3_isMade_L35 (s0 : Int32) (σ : Mem) : Option (Int32 × Mem) :=
  chk (s0 == 0 || s0 == 1) <|
  some (s0, σ)
set_option maxHeartbeats 4000000 in
set_option maxRecDepth 100000 in
theorem tX3_isMade_L35 {E : Gx} {cI : ClassId} {ad : Nat → Nat} (C : Cx E rmX3_isMade cI layX ad 2 RX3 cX3_isMade) {out : Int32 × Mem} (K0 : KI E rmX3_isMade cI layX ad 2 cX3_isMade .boolean out) {s0 : Int32} {σ : Mem} (h : fX3_isMade_L35 s0 σ = some out) : G E rmX3_isMade cI layX ad 2 35 [] [.int s0] σ := by
  unfold fX3_isMade_L35 at h
  obtain ⟨hz, h⟩ := chk_some h
  cases h
  exact K0 _ _ dX3_isMade_35 (zb_nar hz)
noncomputable def fX3_isMade_L30 (σ : Mem) : Option (Int32 × Mem) :=
  fX3_isMade_L35 1 σ
set_option maxHeartbeats 4000000 in
set_option maxRecDepth 100000 in
theorem tX3_isMade_L30 {E : Gx} {cI : ClassId} {ad : Nat → Nat} (C : Cx E rmX3_isMade cI layX ad 2 RX3 cX3_isMade) {out : Int32 × Mem} (K0 : KI E rmX3_isMade cI layX ad 2 cX3_isMade .boolean out) {σ : Mem} (h : fX3_isMade_L30 σ = some out) : G E rmX3_isMade cI layX ad 2 30 [] [] σ := by
  unfold fX3_isMade_L30 at h
  refine g_iconst 31 (v := 1) C dX3_isMade_30 (by decide) rfl ?_
  refine g_goto 35 C dX3_isMade_31 (by decide) ?_
  exact tX3_isMade_L35 (s0 := 1) (σ := σ) C K0 h
noncomputable def fX3_isMade (a1 : Int32) (σ : Mem) : Option (Int32 × Mem) :=
  chk (inb a1 30) <|
  if (σ 8 a1.toNatClampNeg) = 2 then
    fX3_isMade_L30 σ
  else
    chk (inb a1 30) <|
    if (σ 8 a1.toNatClampNeg) = 3 then
      fX3_isMade_L30 σ
    else
      chk (inb a1 30) <|
      if (σ 8 a1.toNatClampNeg) = 4 then
        fX3_isMade_L30 σ
      else
        fX3_isMade_L35 0 σ
set_option maxHeartbeats 4000000 in
set_option maxRecDepth 100000 in
theorem mX3_isMade {l : Launch} {D : va_G} {cI : ClassId} {ad : Nat → Nat} {a1 : Int32} {σ : Mem} {out : Int32 × Mem} (h : fX3_isMade a1 σ = some out) : MI l D cI layX ad yX3_isMade cX3_isMade 2 .boolean rmX3_isMade [.ref (ad 3), .int a1] σ out := by
  refine met_i (by decide) (Nat.le_of_ble_eq_true rfl) (fun E C K0 => ?_)
  show G E rmX3_isMade cI layX ad 2 0 [(0, .ref (ad 3)), (1, .int a1)] [] σ
  unfold fX3_isMade at h
  refine g_aload_n 1 C dX3_isMade_0 rfl (j := 0) rfl rfl ?_
  refine g_getr 4 (j := 1) C rfl rfl wu_X3 (by decide) wf_X3_9 rfl dX3_isMade_1 rfl ?_
  refine g_iload_n 5 C dX3_isMade_4 rfl (j := 1) rfl rfl ?_
  refine g_iald 6 C rfl dX3_isMade_5 rfl h (fun h => ?_)
  refine g_iconst 7 (v := 2) C dX3_isMade_6 (by decide) rfl ?_
  refine g_icmp_eq 30 10 C dX3_isMade_7 (by decide) rfl h (fun h => ?_) (fun h => ?_)
  · exact g_sub [] (tX3_isMade_L30 (σ := σ) C K0 h) rfl
  · refine g_aload_n 11 C dX3_isMade_10 rfl (j := 0) rfl rfl ?_
    refine g_getr 14 (j := 1) C rfl rfl wu_X3 (by decide) wf_X3_9 rfl dX3_isMade_11 rfl ?_
    refine g_iload_n 15 C dX3_isMade_14 rfl (j := 1) rfl rfl ?_
    refine g_iald 16 C rfl dX3_isMade_15 rfl h (fun h => ?_)
    refine g_iconst 17 (v := 3) C dX3_isMade_16 (by decide) rfl ?_
    refine g_icmp_eq 30 20 C dX3_isMade_17 (by decide) rfl h (fun h => ?_) (fun h => ?_)
    · exact g_sub [] (tX3_isMade_L30 (σ := σ) C K0 h) rfl
    · refine g_aload_n 21 C dX3_isMade_20 rfl (j := 0) rfl rfl ?_
      refine g_getr 24 (j := 1) C rfl rfl wu_X3 (by decide) wf_X3_9 rfl dX3_isMade_21 rfl ?_
      refine g_iload_n 25 C dX3_isMade_24 rfl (j := 1) rfl rfl ?_
      refine g_iald 26 C rfl dX3_isMade_25 rfl h (fun h => ?_)
      refine g_iconst 27 (v := 4) C dX3_isMade_26 (by decide) rfl ?_
      refine g_icmp_ne 34 30 C dX3_isMade_27 (by decide) rfl h (fun h => ?_) (fun h => ?_)
      · exact g_sub [] (tX3_isMade_L30 (σ := σ) C K0 h) rfl
      · refine g_iconst 35 (v := 0) C dX3_isMade_34 (by decide) rfl ?_
        exact g_sub [] (tX3_isMade_L35 (s0 := 0) (σ := σ) C K0 h) rfl

/-! LoopReducer$Names.add(III)I -/
abbrev rmX3_add : Room := { frames := 0, cells := 0, slots := 0, locals := 0 }
theorem qX3_add : yX3_add.cls ≠ "java/lang/invoke/MethodHandle" ∧ yX3_add.cls ≠ "java/lang/invoke/VarHandle" ∧ (parseMethodDescriptor yX3_add.desc).map (fun d => d.parameters.length) = some 3 := by decide +kernel
theorem DX3_add : ∀ q ∈ ([(0, .aload_n 0, 1), (1, .getfield 40, 3), (4, .bipush 30, 2), (6, .if_icmp .lt 5, 3), (9, .iconst (-1), 1), (10, .ireturn, 1), (11, .aload_n 0, 1), (12, .getfield 9, 3), (15, .aload_n 0, 1), (16, .getfield 40, 3), (19, .iload_n 1, 1), (20, .iastore, 1), (21, .aload_n 0, 1), (22, .getfield 15, 3), (25, .aload_n 0, 1), (26, .getfield 40, 3), (29, .iload_n 2, 1), (30, .iastore, 1), (31, .aload_n 0, 1), (32, .getfield 18, 3), (35, .aload_n 0, 1), (36, .getfield 40, 3), (39, .iload_n 3, 1), (40, .iastore, 1), (41, .aload_n 0, 1), (42, .dup, 1), (43, .getfield 47, 3), (46, .iload_n 1, 1), (47, .iconst 1, 1), (48, .if_icmp .ne 7, 3), (51, .iconst 1, 1), (52, .goto 4, 3), (55, .iconst 0, 1), (56, .iadd, 1), (57, .putfield 47, 3), (60, .aload_n 0, 1), (61, .dup, 1), (62, .getfield 50, 3), (65, .iload_n 1, 1), (66, .iconst 5, 1), (67, .if_icmp .ne 7, 3), (70, .iconst 1, 1), (71, .goto 4, 3), (74, .iconst 0, 1), (75, .iadd, 1), (76, .putfield 50, 3), (79, .aload_n 0, 1), (80, .dup, 1), (81, .getfield 31, 3), (84, .iconst 1, 1), (85, .iadd, 1), (86, .putfield 31, 3), (89, .aload_n 0, 1), (90, .dup, 1), (91, .getfield 40, 3), (94, .iconst 1, 1), (95, .iadd, 1), (96, .putfield 40, 3), (99, .aload_n 0, 1), (100, .getfield 40, 3), (103, .iconst 1, 1), (104, .isub, 1), (105, .ireturn, 1)] : List (Nat × Instr × Nat)), decode cX3_add q.1 = .ok q.2 := by decide +kernel
theorem dX3_add_0 : decode cX3_add 0 = .ok (.aload_n 0, 1) := DX3_add (0, .aload_n 0, 1) (List.mem_of_getElem? (i := 0) rfl)
theorem dX3_add_1 : decode cX3_add 1 = .ok (.getfield 40, 3) := DX3_add (1, .getfield 40, 3) (List.mem_of_getElem? (i := 1) rfl)
theorem dX3_add_4 : decode cX3_add 4 = .ok (.bipush 30, 2) := DX3_add (4, .bipush 30, 2) (List.mem_of_getElem? (i := 2) rfl)
theorem dX3_add_6 : decode cX3_add 6 = .ok (.if_icmp .lt 5, 3) := DX3_add (6, .if_icmp .lt 5, 3) (List.mem_of_getElem? (i := 3) rfl)
theorem dX3_add_9 : decode cX3_add 9 = .ok (.iconst (-1), 1) := DX3_add (9, .iconst (-1), 1) (List.mem_of_getElem? (i := 4) rfl)
theorem dX3_add_10 : decode cX3_add 10 = .ok (.ireturn, 1) := DX3_add (10, .ireturn, 1) (List.mem_of_getElem? (i := 5) rfl)
theorem dX3_add_11 : decode cX3_add 11 = .ok (.aload_n 0, 1) := DX3_add (11, .aload_n 0, 1) (List.mem_of_getElem? (i := 6) rfl)
theorem dX3_add_12 : decode cX3_add 12 = .ok (.getfield 9, 3) := DX3_add (12, .getfield 9, 3) (List.mem_of_getElem? (i := 7) rfl)
theorem dX3_add_15 : decode cX3_add 15 = .ok (.aload_n 0, 1) := DX3_add (15, .aload_n 0, 1) (List.mem_of_getElem? (i := 8) rfl)
theorem dX3_add_16 : decode cX3_add 16 = .ok (.getfield 40, 3) := DX3_add (16, .getfield 40, 3) (List.mem_of_getElem? (i := 9) rfl)
theorem dX3_add_19 : decode cX3_add 19 = .ok (.iload_n 1, 1) := DX3_add (19, .iload_n 1, 1) (List.mem_of_getElem? (i := 10) rfl)
theorem dX3_add_20 : decode cX3_add 20 = .ok (.iastore, 1) := DX3_add (20, .iastore, 1) (List.mem_of_getElem? (i := 11) rfl)
theorem dX3_add_21 : decode cX3_add 21 = .ok (.aload_n 0, 1) := DX3_add (21, .aload_n 0, 1) (List.mem_of_getElem? (i := 12) rfl)
theorem dX3_add_22 : decode cX3_add 22 = .ok (.getfield 15, 3) := DX3_add (22, .getfield 15, 3) (List.mem_of_getElem? (i := 13) rfl)
theorem dX3_add_25 : decode cX3_add 25 = .ok (.aload_n 0, 1) := DX3_add (25, .aload_n 0, 1) (List.mem_of_getElem? (i := 14) rfl)
theorem dX3_add_26 : decode cX3_add 26 = .ok (.getfield 40, 3) := DX3_add (26, .getfield 40, 3) (List.mem_of_getElem? (i := 15) rfl)
theorem dX3_add_29 : decode cX3_add 29 = .ok (.iload_n 2, 1) := DX3_add (29, .iload_n 2, 1) (List.mem_of_getElem? (i := 16) rfl)
theorem dX3_add_30 : decode cX3_add 30 = .ok (.iastore, 1) := DX3_add (30, .iastore, 1) (List.mem_of_getElem? (i := 17) rfl)
theorem dX3_add_31 : decode cX3_add 31 = .ok (.aload_n 0, 1) := DX3_add (31, .aload_n 0, 1) (List.mem_of_getElem? (i := 18) rfl)
theorem dX3_add_32 : decode cX3_add 32 = .ok (.getfield 18, 3) := DX3_add (32, .getfield 18, 3) (List.mem_of_getElem? (i := 19) rfl)
theorem dX3_add_35 : decode cX3_add 35 = .ok (.aload_n 0, 1) := DX3_add (35, .aload_n 0, 1) (List.mem_of_getElem? (i := 20) rfl)
theorem dX3_add_36 : decode cX3_add 36 = .ok (.getfield 40, 3) := DX3_add (36, .getfield 40, 3) (List.mem_of_getElem? (i := 21) rfl)
theorem dX3_add_39 : decode cX3_add 39 = .ok (.iload_n 3, 1) := DX3_add (39, .iload_n 3, 1) (List.mem_of_getElem? (i := 22) rfl)
theorem dX3_add_40 : decode cX3_add 40 = .ok (.iastore, 1) := DX3_add (40, .iastore, 1) (List.mem_of_getElem? (i := 23) rfl)
theorem dX3_add_41 : decode cX3_add 41 = .ok (.aload_n 0, 1) := DX3_add (41, .aload_n 0, 1) (List.mem_of_getElem? (i := 24) rfl)
theorem dX3_add_42 : decode cX3_add 42 = .ok (.dup, 1) := DX3_add (42, .dup, 1) (List.mem_of_getElem? (i := 25) rfl)
theorem dX3_add_43 : decode cX3_add 43 = .ok (.getfield 47, 3) := DX3_add (43, .getfield 47, 3) (List.mem_of_getElem? (i := 26) rfl)
theorem dX3_add_46 : decode cX3_add 46 = .ok (.iload_n 1, 1) := DX3_add (46, .iload_n 1, 1) (List.mem_of_getElem? (i := 27) rfl)
theorem dX3_add_47 : decode cX3_add 47 = .ok (.iconst 1, 1) := DX3_add (47, .iconst 1, 1) (List.mem_of_getElem? (i := 28) rfl)
theorem dX3_add_48 : decode cX3_add 48 = .ok (.if_icmp .ne 7, 3) := DX3_add (48, .if_icmp .ne 7, 3) (List.mem_of_getElem? (i := 29) rfl)
theorem dX3_add_51 : decode cX3_add 51 = .ok (.iconst 1, 1) := DX3_add (51, .iconst 1, 1) (List.mem_of_getElem? (i := 30) rfl)
theorem dX3_add_52 : decode cX3_add 52 = .ok (.goto 4, 3) := DX3_add (52, .goto 4, 3) (List.mem_of_getElem? (i := 31) rfl)
theorem dX3_add_55 : decode cX3_add 55 = .ok (.iconst 0, 1) := DX3_add (55, .iconst 0, 1) (List.mem_of_getElem? (i := 32) rfl)
theorem dX3_add_56 : decode cX3_add 56 = .ok (.iadd, 1) := DX3_add (56, .iadd, 1) (List.mem_of_getElem? (i := 33) rfl)
theorem dX3_add_57 : decode cX3_add 57 = .ok (.putfield 47, 3) := DX3_add (57, .putfield 47, 3) (List.mem_of_getElem? (i := 34) rfl)
theorem dX3_add_60 : decode cX3_add 60 = .ok (.aload_n 0, 1) := DX3_add (60, .aload_n 0, 1) (List.mem_of_getElem? (i := 35) rfl)
theorem dX3_add_61 : decode cX3_add 61 = .ok (.dup, 1) := DX3_add (61, .dup, 1) (List.mem_of_getElem? (i := 36) rfl)
theorem dX3_add_62 : decode cX3_add 62 = .ok (.getfield 50, 3) := DX3_add (62, .getfield 50, 3) (List.mem_of_getElem? (i := 37) rfl)
theorem dX3_add_65 : decode cX3_add 65 = .ok (.iload_n 1, 1) := DX3_add (65, .iload_n 1, 1) (List.mem_of_getElem? (i := 38) rfl)
theorem dX3_add_66 : decode cX3_add 66 = .ok (.iconst 5, 1) := DX3_add (66, .iconst 5, 1) (List.mem_of_getElem? (i := 39) rfl)
theorem dX3_add_67 : decode cX3_add 67 = .ok (.if_icmp .ne 7, 3) := DX3_add (67, .if_icmp .ne 7, 3) (List.mem_of_getElem? (i := 40) rfl)
theorem dX3_add_70 : decode cX3_add 70 = .ok (.iconst 1, 1) := DX3_add (70, .iconst 1, 1) (List.mem_of_getElem? (i := 41) rfl)
theorem dX3_add_71 : decode cX3_add 71 = .ok (.goto 4, 3) := DX3_add (71, .goto 4, 3) (List.mem_of_getElem? (i := 42) rfl)
theorem dX3_add_74 : decode cX3_add 74 = .ok (.iconst 0, 1) := DX3_add (74, .iconst 0, 1) (List.mem_of_getElem? (i := 43) rfl)
theorem dX3_add_75 : decode cX3_add 75 = .ok (.iadd, 1) := DX3_add (75, .iadd, 1) (List.mem_of_getElem? (i := 44) rfl)
theorem dX3_add_76 : decode cX3_add 76 = .ok (.putfield 50, 3) := DX3_add (76, .putfield 50, 3) (List.mem_of_getElem? (i := 45) rfl)
theorem dX3_add_79 : decode cX3_add 79 = .ok (.aload_n 0, 1) := DX3_add (79, .aload_n 0, 1) (List.mem_of_getElem? (i := 46) rfl)
theorem dX3_add_80 : decode cX3_add 80 = .ok (.dup, 1) := DX3_add (80, .dup, 1) (List.mem_of_getElem? (i := 47) rfl)
theorem dX3_add_81 : decode cX3_add 81 = .ok (.getfield 31, 3) := DX3_add (81, .getfield 31, 3) (List.mem_of_getElem? (i := 48) rfl)
theorem dX3_add_84 : decode cX3_add 84 = .ok (.iconst 1, 1) := DX3_add (84, .iconst 1, 1) (List.mem_of_getElem? (i := 49) rfl)
theorem dX3_add_85 : decode cX3_add 85 = .ok (.iadd, 1) := DX3_add (85, .iadd, 1) (List.mem_of_getElem? (i := 50) rfl)
theorem dX3_add_86 : decode cX3_add 86 = .ok (.putfield 31, 3) := DX3_add (86, .putfield 31, 3) (List.mem_of_getElem? (i := 51) rfl)
theorem dX3_add_89 : decode cX3_add 89 = .ok (.aload_n 0, 1) := DX3_add (89, .aload_n 0, 1) (List.mem_of_getElem? (i := 52) rfl)
theorem dX3_add_90 : decode cX3_add 90 = .ok (.dup, 1) := DX3_add (90, .dup, 1) (List.mem_of_getElem? (i := 53) rfl)
theorem dX3_add_91 : decode cX3_add 91 = .ok (.getfield 40, 3) := DX3_add (91, .getfield 40, 3) (List.mem_of_getElem? (i := 54) rfl)
theorem dX3_add_94 : decode cX3_add 94 = .ok (.iconst 1, 1) := DX3_add (94, .iconst 1, 1) (List.mem_of_getElem? (i := 55) rfl)
theorem dX3_add_95 : decode cX3_add 95 = .ok (.iadd, 1) := DX3_add (95, .iadd, 1) (List.mem_of_getElem? (i := 56) rfl)
theorem dX3_add_96 : decode cX3_add 96 = .ok (.putfield 40, 3) := DX3_add (96, .putfield 40, 3) (List.mem_of_getElem? (i := 57) rfl)
theorem dX3_add_99 : decode cX3_add 99 = .ok (.aload_n 0, 1) := DX3_add (99, .aload_n 0, 1) (List.mem_of_getElem? (i := 58) rfl)
theorem dX3_add_100 : decode cX3_add 100 = .ok (.getfield 40, 3) := DX3_add (100, .getfield 40, 3) (List.mem_of_getElem? (i := 59) rfl)
theorem dX3_add_103 : decode cX3_add 103 = .ok (.iconst 1, 1) := DX3_add (103, .iconst 1, 1) (List.mem_of_getElem? (i := 60) rfl)
theorem dX3_add_104 : decode cX3_add 104 = .ok (.isub, 1) := DX3_add (104, .isub, 1) (List.mem_of_getElem? (i := 61) rfl)
theorem dX3_add_105 : decode cX3_add 105 = .ok (.ireturn, 1) := DX3_add (105, .ireturn, 1) (List.mem_of_getElem? (i := 62) rfl)
noncomputable def fX3_add_L75 (s1 : Int32) (s2 : Int32) (σ : Mem) : Option (Int32 × Mem) :=
  some (((up2 (up2 (up2 σ 3 6 (s1 + s2)) 3 11 (((up2 σ 3 6 (s1 + s2)) 3 11) + 1)) 3 4 (((up2 (up2 σ 3 6 (s1 + s2)) 3 11 (((up2 σ 3 6 (s1 + s2)) 3 11) + 1)) 3 4) + 1)) 3 4) - 1, up2 (up2 (up2 σ 3 6 (s1 + s2)) 3 11 (((up2 σ 3 6 (s1 + s2)) 3 11) + 1)) 3 4 (((up2 (up2 σ 3 6 (s1 + s2)) 3 11 (((up2 σ 3 6 (s1 + s2)) 3 11) + 1)) 3 4) + 1))
set_option maxHeartbeats 4000000 in
set_option maxRecDepth 100000 in
theorem tX3_add_L75 {E : Gx} {cI : ClassId} {ad : Nat → Nat} (C : Cx E rmX3_add cI layX ad 4 RX3 cX3_add) {out : Int32 × Mem} (K0 : KI E rmX3_add cI layX ad 4 cX3_add .int out) {s1 : Int32} {s2 : Int32} {σ : Mem} (h : fX3_add_L75 s1 s2 σ = some out) : G E rmX3_add cI layX ad 4 75 [(0, .ref (ad 3))] [.int s2, .int s1, .ref (ad 3)] σ := by
  unfold fX3_add_L75 at h
  refine g_iadd 76 C dX3_add_75 rfl ?_
  refine g_puti 79 (j := 6) C rfl rfl wu_X3 (by decide) wf_X3_50 tyX3 tyX3_ok nmX3 rfl rfl rfl rfl dX3_add_76 rfl ?_
  refine g_aload_n 80 C dX3_add_79 rfl (j := 0) rfl rfl ?_
  refine g_dup 81 C dX3_add_80 rfl rfl ?_
  refine g_geti 84 (j := 11) C rfl rfl wu_X3 (by decide) wf_X3_31 rfl dX3_add_81 rfl ?_
  refine g_iconst 85 (v := 1) C dX3_add_84 (by decide) rfl ?_
  refine g_iadd 86 C dX3_add_85 rfl ?_
  refine g_puti 89 (j := 11) C rfl rfl wu_X3 (by decide) wf_X3_31 tyX3 tyX3_ok nmX3 rfl rfl rfl rfl dX3_add_86 rfl ?_
  refine g_aload_n 90 C dX3_add_89 rfl (j := 0) rfl rfl ?_
  refine g_dup 91 C dX3_add_90 rfl rfl ?_
  refine g_geti 94 (j := 4) C rfl rfl wu_X3 (by decide) wf_X3_40 rfl dX3_add_91 rfl ?_
  refine g_iconst 95 (v := 1) C dX3_add_94 (by decide) rfl ?_
  refine g_iadd 96 C dX3_add_95 rfl ?_
  refine g_puti 99 (j := 4) C rfl rfl wu_X3 (by decide) wf_X3_40 tyX3 tyX3_ok nmX3 rfl rfl rfl rfl dX3_add_96 rfl ?_
  refine g_aload_n 100 C dX3_add_99 rfl (j := 0) rfl rfl ?_
  refine g_geti 103 (j := 4) C rfl rfl wu_X3 (by decide) wf_X3_40 rfl dX3_add_100 rfl ?_
  refine g_iconst 104 (v := 1) C dX3_add_103 (by decide) rfl ?_
  refine g_isub 105 C dX3_add_104 rfl ?_
  cases h
  exact K0 _ _ dX3_add_105 rfl
noncomputable def fX3_add_L56 (l1 : Int32) (s1 : Int32) (s2 : Int32) (σ : Mem) : Option (Int32 × Mem) :=
  if l1 = 5 then
    fX3_add_L75 ((up2 σ 3 5 (s1 + s2)) 3 6) 1 (up2 σ 3 5 (s1 + s2))
  else
    fX3_add_L75 ((up2 σ 3 5 (s1 + s2)) 3 6) 0 (up2 σ 3 5 (s1 + s2))
set_option maxHeartbeats 4000000 in
set_option maxRecDepth 100000 in
theorem tX3_add_L56 {E : Gx} {cI : ClassId} {ad : Nat → Nat} (C : Cx E rmX3_add cI layX ad 4 RX3 cX3_add) {out : Int32 × Mem} (K0 : KI E rmX3_add cI layX ad 4 cX3_add .int out) {l1 : Int32} {s1 : Int32} {s2 : Int32} {σ : Mem} (h : fX3_add_L56 l1 s1 s2 σ = some out) : G E rmX3_add cI layX ad 4 56 [(0, .ref (ad 3)), (1, .int l1)] [.int s2, .int s1, .ref (ad 3)] σ := by
  unfold fX3_add_L56 at h
  refine g_iadd 57 C dX3_add_56 rfl ?_
  refine g_puti 60 (j := 5) C rfl rfl wu_X3 (by decide) wf_X3_47 tyX3 tyX3_ok nmX3 rfl rfl rfl rfl dX3_add_57 rfl ?_
  refine g_aload_n 61 C dX3_add_60 rfl (j := 0) rfl rfl ?_
  refine g_dup 62 C dX3_add_61 rfl rfl ?_
  refine g_geti 65 (j := 6) C rfl rfl wu_X3 (by decide) wf_X3_50 rfl dX3_add_62 rfl ?_
  refine g_iload_n 66 C dX3_add_65 rfl (j := 1) rfl rfl ?_
  refine g_iconst 67 (v := 5) C dX3_add_66 (by decide) rfl ?_
  refine g_icmp_ne 74 70 C dX3_add_67 (by decide) rfl h (fun h => ?_) (fun h => ?_)
  · refine g_iconst 71 (v := 1) C dX3_add_70 (by decide) rfl ?_
    refine g_goto 75 C dX3_add_71 (by decide) ?_
    exact g_sub [0] (tX3_add_L75 (s1 := ((up2 σ 3 5 (s1 + s2)) 3 6)) (s2 := 1) (σ := up2 σ 3 5 (s1 + s2)) C K0 h) rfl
  · refine g_iconst 75 (v := 0) C dX3_add_74 (by decide) rfl ?_
    exact g_sub [0] (tX3_add_L75 (s1 := ((up2 σ 3 5 (s1 + s2)) 3 6)) (s2 := 0) (σ := up2 σ 3 5 (s1 + s2)) C K0 h) rfl
noncomputable def fX3_add (a1 : Int32) (a2 : Int32) (a3 : Int32) (σ : Mem) : Option (Int32 × Mem) :=
  if (σ 3 4) < 30 then
    chk (inb (σ 3 4) 30) <|
    chk (inb ((up2 σ 8 (σ 3 4).toNatClampNeg a1) 3 4) 30) <|
    chk (inb ((up2 (up2 σ 8 (σ 3 4).toNatClampNeg a1) 9 ((up2 σ 8 (σ 3 4).toNatClampNeg a1) 3 4).toNatClampNeg a2) 3 4) 30) <|
    if a1 = 1 then
      fX3_add_L56 a1 ((up2 (up2 (up2 σ 8 (σ 3 4).toNatClampNeg a1) 9 ((up2 σ 8 (σ 3 4).toNatClampNeg a1) 3 4).toNatClampNeg a2) 10 ((up2 (up2 σ 8 (σ 3 4).toNatClampNeg a1) 9 ((up2 σ 8 (σ 3 4).toNatClampNeg a1) 3 4).toNatClampNeg a2) 3 4).toNatClampNeg a3) 3 5) 1 (up2 (up2 (up2 σ 8 (σ 3 4).toNatClampNeg a1) 9 ((up2 σ 8 (σ 3 4).toNatClampNeg a1) 3 4).toNatClampNeg a2) 10 ((up2 (up2 σ 8 (σ 3 4).toNatClampNeg a1) 9 ((up2 σ 8 (σ 3 4).toNatClampNeg a1) 3 4).toNatClampNeg a2) 3 4).toNatClampNeg a3)
    else
      fX3_add_L56 a1 ((up2 (up2 (up2 σ 8 (σ 3 4).toNatClampNeg a1) 9 ((up2 σ 8 (σ 3 4).toNatClampNeg a1) 3 4).toNatClampNeg a2) 10 ((up2 (up2 σ 8 (σ 3 4).toNatClampNeg a1) 9 ((up2 σ 8 (σ 3 4).toNatClampNeg a1) 3 4).toNatClampNeg a2) 3 4).toNatClampNeg a3) 3 5) 0 (up2 (up2 (up2 σ 8 (σ 3 4).toNatClampNeg a1) 9 ((up2 σ 8 (σ 3 4).toNatClampNeg a1) 3 4).toNatClampNeg a2) 10 ((up2 (up2 σ 8 (σ 3 4).toNatClampNeg a1) 9 ((up2 σ 8 (σ 3 4).toNatClampNeg a1) 3 4).toNatClampNeg a2) 3 4).toNatClampNeg a3)
  else
    some ((-1), σ)
set_option maxHeartbeats 4000000 in
set_option maxRecDepth 100000 in
theorem mX3_add {l : Launch} {D : va_G} {cI : ClassId} {ad : Nat → Nat} {a1 : Int32} {a2 : Int32} {a3 : Int32} {σ : Mem} {out : Int32 × Mem} (h : fX3_add a1 a2 a3 σ = some out) : MI l D cI layX ad yX3_add cX3_add 4 .int rmX3_add [.ref (ad 3), .int a1, .int a2, .int a3] σ out := by
  refine met_i (by decide) (Nat.le_of_ble_eq_true rfl) (fun E C K0 => ?_)
  show G E rmX3_add cI layX ad 4 0 [(0, .ref (ad 3)), (1, .int a1), (2, .int a2), (3, .int a3)] [] σ
  unfold fX3_add at h
  refine g_aload_n 1 C dX3_add_0 rfl (j := 0) rfl rfl ?_
  refine g_geti 4 (j := 4) C rfl rfl wu_X3 (by decide) wf_X3_40 rfl dX3_add_1 rfl ?_
  refine g_bipush 6 (v := 30) C dX3_add_4 (by decide) rfl ?_
  refine g_icmp_lt 11 9 C dX3_add_6 (by decide) rfl h (fun h => ?_) (fun h => ?_)
  · refine g_aload_n 12 C dX3_add_11 rfl (j := 0) rfl rfl ?_
    refine g_getr 15 (j := 1) C rfl rfl wu_X3 (by decide) wf_X3_9 rfl dX3_add_12 rfl ?_
    refine g_aload_n 16 C dX3_add_15 rfl (j := 0) rfl rfl ?_
    refine g_geti 19 (j := 4) C rfl rfl wu_X3 (by decide) wf_X3_40 rfl dX3_add_16 rfl ?_
    refine g_iload_n 20 C dX3_add_19 rfl (j := 1) rfl rfl ?_
    refine g_iast 21 C rfl dX3_add_20 rfl h (fun h => ?_)
    refine g_aload_n 22 C dX3_add_21 rfl (j := 0) rfl rfl ?_
    refine g_getr 25 (j := 2) C rfl rfl wu_X3 (by decide) wf_X3_15 rfl dX3_add_22 rfl ?_
    refine g_aload_n 26 C dX3_add_25 rfl (j := 0) rfl rfl ?_
    refine g_geti 29 (j := 4) C rfl rfl wu_X3 (by decide) wf_X3_40 rfl dX3_add_26 rfl ?_
    refine g_iload_n 30 C dX3_add_29 rfl (j := 2) rfl rfl ?_
    refine g_iast 31 C rfl dX3_add_30 rfl h (fun h => ?_)
    refine g_aload_n 32 C dX3_add_31 rfl (j := 0) rfl rfl ?_
    refine g_getr 35 (j := 3) C rfl rfl wu_X3 (by decide) wf_X3_18 rfl dX3_add_32 rfl ?_
    refine g_aload_n 36 C dX3_add_35 rfl (j := 0) rfl rfl ?_
    refine g_geti 39 (j := 4) C rfl rfl wu_X3 (by decide) wf_X3_40 rfl dX3_add_36 rfl ?_
    refine g_iload_n 40 C dX3_add_39 rfl (j := 3) rfl rfl ?_
    refine g_iast 41 C rfl dX3_add_40 rfl h (fun h => ?_)
    refine g_aload_n 42 C dX3_add_41 rfl (j := 0) rfl rfl ?_
    refine g_dup 43 C dX3_add_42 rfl rfl ?_
    refine g_geti 46 (j := 5) C rfl rfl wu_X3 (by decide) wf_X3_47 rfl dX3_add_43 rfl ?_
    refine g_iload_n 47 C dX3_add_46 rfl (j := 1) rfl rfl ?_
    refine g_iconst 48 (v := 1) C dX3_add_47 (by decide) rfl ?_
    refine g_icmp_ne 55 51 C dX3_add_48 (by decide) rfl h (fun h => ?_) (fun h => ?_)
    · refine g_iconst 52 (v := 1) C dX3_add_51 (by decide) rfl ?_
      refine g_goto 56 C dX3_add_52 (by decide) ?_
      exact g_sub [0, 1] (tX3_add_L56 (l1 := a1) (s1 := ((up2 (up2 (up2 σ 8 (σ 3 4).toNatClampNeg a1) 9 ((up2 σ 8 (σ 3 4).toNatClampNeg a1) 3 4).toNatClampNeg a2) 10 ((up2 (up2 σ 8 (σ 3 4).toNatClampNeg a1) 9 ((up2 σ 8 (σ 3 4).toNatClampNeg a1) 3 4).toNatClampNeg a2) 3 4).toNatClampNeg a3) 3 5)) (s2 := 1) (σ := up2 (up2 (up2 σ 8 (σ 3 4).toNatClampNeg a1) 9 ((up2 σ 8 (σ 3 4).toNatClampNeg a1) 3 4).toNatClampNeg a2) 10 ((up2 (up2 σ 8 (σ 3 4).toNatClampNeg a1) 9 ((up2 σ 8 (σ 3 4).toNatClampNeg a1) 3 4).toNatClampNeg a2) 3 4).toNatClampNeg a3) C K0 h) rfl
    · refine g_iconst 56 (v := 0) C dX3_add_55 (by decide) rfl ?_
      exact g_sub [0, 1] (tX3_add_L56 (l1 := a1) (s1 := ((up2 (up2 (up2 σ 8 (σ 3 4).toNatClampNeg a1) 9 ((up2 σ 8 (σ 3 4).toNatClampNeg a1) 3 4).toNatClampNeg a2) 10 ((up2 (up2 σ 8 (σ 3 4).toNatClampNeg a1) 9 ((up2 σ 8 (σ 3 4).toNatClampNeg a1) 3 4).toNatClampNeg a2) 3 4).toNatClampNeg a3) 3 5)) (s2 := 0) (σ := up2 (up2 (up2 σ 8 (σ 3 4).toNatClampNeg a1) 9 ((up2 σ 8 (σ 3 4).toNatClampNeg a1) 3 4).toNatClampNeg a2) 10 ((up2 (up2 σ 8 (σ 3 4).toNatClampNeg a1) 9 ((up2 σ 8 (σ 3 4).toNatClampNeg a1) 3 4).toNatClampNeg a2) 3 4).toNatClampNeg a3) C K0 h) rfl
  · refine g_iconst 10 (v := (-1)) C dX3_add_9 (by decide) rfl ?_
    cases h
    exact K0 _ _ dX3_add_10 rfl

/-! LoopReducer$Names.asked()I -/
abbrev rmX3_asked : Room := { frames := 0, cells := 0, slots := 0, locals := 0 }
theorem qX3_asked : yX3_asked.cls ≠ "java/lang/invoke/MethodHandle" ∧ yX3_asked.cls ≠ "java/lang/invoke/VarHandle" ∧ (parseMethodDescriptor yX3_asked.desc).map (fun d => d.parameters.length) = some 0 := by decide +kernel
theorem DX3_asked : ∀ q ∈ ([(0, .aload_n 0, 1), (1, .getfield 21, 3), (4, .iconst (-1), 1), (5, .if_icmp .ne 8, 3), (8, .aload_n 0, 1), (9, .getfield 67, 3), (12, .ireturn, 1), (13, .aload_n 0, 1), (14, .getfield 67, 3), (17, .iconst 1, 1), (18, .aload_n 0, 1), (19, .getfield 25, 3), (22, .ishl, 1), (23, .ior, 1), (24, .iconst 1, 1), (25, .aload_n 0, 1), (26, .getfield 28, 3), (29, .ishl, 1), (30, .ior, 1), (31, .ireturn, 1)] : List (Nat × Instr × Nat)), decode cX3_asked q.1 = .ok q.2 := by decide +kernel
theorem dX3_asked_0 : decode cX3_asked 0 = .ok (.aload_n 0, 1) := DX3_asked (0, .aload_n 0, 1) (List.mem_of_getElem? (i := 0) rfl)
theorem dX3_asked_1 : decode cX3_asked 1 = .ok (.getfield 21, 3) := DX3_asked (1, .getfield 21, 3) (List.mem_of_getElem? (i := 1) rfl)
theorem dX3_asked_4 : decode cX3_asked 4 = .ok (.iconst (-1), 1) := DX3_asked (4, .iconst (-1), 1) (List.mem_of_getElem? (i := 2) rfl)
theorem dX3_asked_5 : decode cX3_asked 5 = .ok (.if_icmp .ne 8, 3) := DX3_asked (5, .if_icmp .ne 8, 3) (List.mem_of_getElem? (i := 3) rfl)
theorem dX3_asked_8 : decode cX3_asked 8 = .ok (.aload_n 0, 1) := DX3_asked (8, .aload_n 0, 1) (List.mem_of_getElem? (i := 4) rfl)
theorem dX3_asked_9 : decode cX3_asked 9 = .ok (.getfield 67, 3) := DX3_asked (9, .getfield 67, 3) (List.mem_of_getElem? (i := 5) rfl)
theorem dX3_asked_12 : decode cX3_asked 12 = .ok (.ireturn, 1) := DX3_asked (12, .ireturn, 1) (List.mem_of_getElem? (i := 6) rfl)
theorem dX3_asked_13 : decode cX3_asked 13 = .ok (.aload_n 0, 1) := DX3_asked (13, .aload_n 0, 1) (List.mem_of_getElem? (i := 7) rfl)
theorem dX3_asked_14 : decode cX3_asked 14 = .ok (.getfield 67, 3) := DX3_asked (14, .getfield 67, 3) (List.mem_of_getElem? (i := 8) rfl)
theorem dX3_asked_17 : decode cX3_asked 17 = .ok (.iconst 1, 1) := DX3_asked (17, .iconst 1, 1) (List.mem_of_getElem? (i := 9) rfl)
theorem dX3_asked_18 : decode cX3_asked 18 = .ok (.aload_n 0, 1) := DX3_asked (18, .aload_n 0, 1) (List.mem_of_getElem? (i := 10) rfl)
theorem dX3_asked_19 : decode cX3_asked 19 = .ok (.getfield 25, 3) := DX3_asked (19, .getfield 25, 3) (List.mem_of_getElem? (i := 11) rfl)
theorem dX3_asked_22 : decode cX3_asked 22 = .ok (.ishl, 1) := DX3_asked (22, .ishl, 1) (List.mem_of_getElem? (i := 12) rfl)
theorem dX3_asked_23 : decode cX3_asked 23 = .ok (.ior, 1) := DX3_asked (23, .ior, 1) (List.mem_of_getElem? (i := 13) rfl)
theorem dX3_asked_24 : decode cX3_asked 24 = .ok (.iconst 1, 1) := DX3_asked (24, .iconst 1, 1) (List.mem_of_getElem? (i := 14) rfl)
theorem dX3_asked_25 : decode cX3_asked 25 = .ok (.aload_n 0, 1) := DX3_asked (25, .aload_n 0, 1) (List.mem_of_getElem? (i := 15) rfl)
theorem dX3_asked_26 : decode cX3_asked 26 = .ok (.getfield 28, 3) := DX3_asked (26, .getfield 28, 3) (List.mem_of_getElem? (i := 16) rfl)
theorem dX3_asked_29 : decode cX3_asked 29 = .ok (.ishl, 1) := DX3_asked (29, .ishl, 1) (List.mem_of_getElem? (i := 17) rfl)
theorem dX3_asked_30 : decode cX3_asked 30 = .ok (.ior, 1) := DX3_asked (30, .ior, 1) (List.mem_of_getElem? (i := 18) rfl)
theorem dX3_asked_31 : decode cX3_asked 31 = .ok (.ireturn, 1) := DX3_asked (31, .ireturn, 1) (List.mem_of_getElem? (i := 19) rfl)
noncomputable def fX3_asked (σ : Mem) : Option (Int32 × Mem) :=
  if (σ 3 8) = (-1) then
    some (σ 3 7, σ)
  else
    some (((σ 3 7) ||| (1 <<< ((σ 3 9) &&& 31))) ||| (1 <<< ((σ 3 10) &&& 31)), σ)
set_option maxHeartbeats 4000000 in
set_option maxRecDepth 100000 in
theorem mX3_asked {l : Launch} {D : va_G} {cI : ClassId} {ad : Nat → Nat} {σ : Mem} {out : Int32 × Mem} (h : fX3_asked σ = some out) : MI l D cI layX ad yX3_asked cX3_asked 1 .int rmX3_asked [.ref (ad 3)] σ out := by
  refine met_i (by decide) (Nat.le_of_ble_eq_true rfl) (fun E C K0 => ?_)
  show G E rmX3_asked cI layX ad 1 0 [(0, .ref (ad 3))] [] σ
  unfold fX3_asked at h
  refine g_aload_n 1 C dX3_asked_0 rfl (j := 0) rfl rfl ?_
  refine g_geti 4 (j := 8) C rfl rfl wu_X3 (by decide) wf_X3_21 rfl dX3_asked_1 rfl ?_
  refine g_iconst 5 (v := (-1)) C dX3_asked_4 (by decide) rfl ?_
  refine g_icmp_ne 13 8 C dX3_asked_5 (by decide) rfl h (fun h => ?_) (fun h => ?_)
  · refine g_aload_n 9 C dX3_asked_8 rfl (j := 0) rfl rfl ?_
    refine g_geti 12 (j := 7) C rfl rfl wu_X3 (by decide) wf_X3_67 rfl dX3_asked_9 rfl ?_
    cases h
    exact K0 _ _ dX3_asked_12 rfl
  · refine g_aload_n 14 C dX3_asked_13 rfl (j := 0) rfl rfl ?_
    refine g_geti 17 (j := 7) C rfl rfl wu_X3 (by decide) wf_X3_67 rfl dX3_asked_14 rfl ?_
    refine g_iconst 18 (v := 1) C dX3_asked_17 (by decide) rfl ?_
    refine g_aload_n 19 C dX3_asked_18 rfl (j := 0) rfl rfl ?_
    refine g_geti 22 (j := 9) C rfl rfl wu_X3 (by decide) wf_X3_25 rfl dX3_asked_19 rfl ?_
    refine g_ishl 23 C dX3_asked_22 rfl ?_
    refine g_ior 24 C dX3_asked_23 rfl ?_
    refine g_iconst 25 (v := 1) C dX3_asked_24 (by decide) rfl ?_
    refine g_aload_n 26 C dX3_asked_25 rfl (j := 0) rfl rfl ?_
    refine g_geti 29 (j := 10) C rfl rfl wu_X3 (by decide) wf_X3_28 rfl dX3_asked_26 rfl ?_
    refine g_ishl 30 C dX3_asked_29 rfl ?_
    refine g_ior 31 C dX3_asked_30 rfl ?_
    cases h
    exact K0 _ _ dX3_asked_31 rfl

/-! LoopReducer$Names.usesIt(II)Z -/
abbrev rmX3_usesIt : Room := { frames := 0, cells := 0, slots := 0, locals := 0 }
theorem qX3_usesIt : yX3_usesIt.cls ≠ "java/lang/invoke/MethodHandle" ∧ yX3_usesIt.cls ≠ "java/lang/invoke/VarHandle" ∧ (parseMethodDescriptor yX3_usesIt.desc).map (fun d => d.parameters.length) = some 2 := by decide +kernel
theorem DX3_usesIt : ∀ q ∈ ([(0, .aload_n 0, 1), (1, .getfield 9, 3), (4, .iload_n 1, 1), (5, .iaload, 1), (6, .ifCond .eq 13, 3), (9, .aload_n 0, 1), (10, .getfield 9, 3), (13, .iload_n 1, 1), (14, .iaload, 1), (15, .iconst 1, 1), (16, .if_icmp .ne 5, 3), (19, .iconst 0, 1), (20, .ireturn, 1), (21, .aload_n 0, 1), (22, .getfield 15, 3), (25, .iload_n 1, 1), (26, .iaload, 1), (27, .iload_n 2, 1), (28, .if_icmp .eq 13, 3), (31, .aload_n 0, 1), (32, .getfield 18, 3), (35, .iload_n 1, 1), (36, .iaload, 1), (37, .iload_n 2, 1), (38, .if_icmp .ne 7, 3), (41, .iconst 1, 1), (42, .goto 4, 3), (45, .iconst 0, 1), (46, .ireturn, 1)] : List (Nat × Instr × Nat)), decode cX3_usesIt q.1 = .ok q.2 := by decide +kernel
theorem dX3_usesIt_0 : decode cX3_usesIt 0 = .ok (.aload_n 0, 1) := DX3_usesIt (0, .aload_n 0, 1) (List.mem_of_getElem? (i := 0) rfl)
theorem dX3_usesIt_1 : decode cX3_usesIt 1 = .ok (.getfield 9, 3) := DX3_usesIt (1, .getfield 9, 3) (List.mem_of_getElem? (i := 1) rfl)
theorem dX3_usesIt_4 : decode cX3_usesIt 4 = .ok (.iload_n 1, 1) := DX3_usesIt (4, .iload_n 1, 1) (List.mem_of_getElem? (i := 2) rfl)
theorem dX3_usesIt_5 : decode cX3_usesIt 5 = .ok (.iaload, 1) := DX3_usesIt (5, .iaload, 1) (List.mem_of_getElem? (i := 3) rfl)
theorem dX3_usesIt_6 : decode cX3_usesIt 6 = .ok (.ifCond .eq 13, 3) := DX3_usesIt (6, .ifCond .eq 13, 3) (List.mem_of_getElem? (i := 4) rfl)
theorem dX3_usesIt_9 : decode cX3_usesIt 9 = .ok (.aload_n 0, 1) := DX3_usesIt (9, .aload_n 0, 1) (List.mem_of_getElem? (i := 5) rfl)
theorem dX3_usesIt_10 : decode cX3_usesIt 10 = .ok (.getfield 9, 3) := DX3_usesIt (10, .getfield 9, 3) (List.mem_of_getElem? (i := 6) rfl)
theorem dX3_usesIt_13 : decode cX3_usesIt 13 = .ok (.iload_n 1, 1) := DX3_usesIt (13, .iload_n 1, 1) (List.mem_of_getElem? (i := 7) rfl)
theorem dX3_usesIt_14 : decode cX3_usesIt 14 = .ok (.iaload, 1) := DX3_usesIt (14, .iaload, 1) (List.mem_of_getElem? (i := 8) rfl)
theorem dX3_usesIt_15 : decode cX3_usesIt 15 = .ok (.iconst 1, 1) := DX3_usesIt (15, .iconst 1, 1) (List.mem_of_getElem? (i := 9) rfl)
theorem dX3_usesIt_16 : decode cX3_usesIt 16 = .ok (.if_icmp .ne 5, 3) := DX3_usesIt (16, .if_icmp .ne 5, 3) (List.mem_of_getElem? (i := 10) rfl)
theorem dX3_usesIt_19 : decode cX3_usesIt 19 = .ok (.iconst 0, 1) := DX3_usesIt (19, .iconst 0, 1) (List.mem_of_getElem? (i := 11) rfl)
theorem dX3_usesIt_20 : decode cX3_usesIt 20 = .ok (.ireturn, 1) := DX3_usesIt (20, .ireturn, 1) (List.mem_of_getElem? (i := 12) rfl)
theorem dX3_usesIt_21 : decode cX3_usesIt 21 = .ok (.aload_n 0, 1) := DX3_usesIt (21, .aload_n 0, 1) (List.mem_of_getElem? (i := 13) rfl)
theorem dX3_usesIt_22 : decode cX3_usesIt 22 = .ok (.getfield 15, 3) := DX3_usesIt (22, .getfield 15, 3) (List.mem_of_getElem? (i := 14) rfl)
theorem dX3_usesIt_25 : decode cX3_usesIt 25 = .ok (.iload_n 1, 1) := DX3_usesIt (25, .iload_n 1, 1) (List.mem_of_getElem? (i := 15) rfl)
theorem dX3_usesIt_26 : decode cX3_usesIt 26 = .ok (.iaload, 1) := DX3_usesIt (26, .iaload, 1) (List.mem_of_getElem? (i := 16) rfl)
theorem dX3_usesIt_27 : decode cX3_usesIt 27 = .ok (.iload_n 2, 1) := DX3_usesIt (27, .iload_n 2, 1) (List.mem_of_getElem? (i := 17) rfl)
theorem dX3_usesIt_28 : decode cX3_usesIt 28 = .ok (.if_icmp .eq 13, 3) := DX3_usesIt (28, .if_icmp .eq 13, 3) (List.mem_of_getElem? (i := 18) rfl)
theorem dX3_usesIt_31 : decode cX3_usesIt 31 = .ok (.aload_n 0, 1) := DX3_usesIt (31, .aload_n 0, 1) (List.mem_of_getElem? (i := 19) rfl)
theorem dX3_usesIt_32 : decode cX3_usesIt 32 = .ok (.getfield 18, 3) := DX3_usesIt (32, .getfield 18, 3) (List.mem_of_getElem? (i := 20) rfl)
theorem dX3_usesIt_35 : decode cX3_usesIt 35 = .ok (.iload_n 1, 1) := DX3_usesIt (35, .iload_n 1, 1) (List.mem_of_getElem? (i := 21) rfl)
theorem dX3_usesIt_36 : decode cX3_usesIt 36 = .ok (.iaload, 1) := DX3_usesIt (36, .iaload, 1) (List.mem_of_getElem? (i := 22) rfl)
theorem dX3_usesIt_37 : decode cX3_usesIt 37 = .ok (.iload_n 2, 1) := DX3_usesIt (37, .iload_n 2, 1) (List.mem_of_getElem? (i := 23) rfl)
theorem dX3_usesIt_38 : decode cX3_usesIt 38 = .ok (.if_icmp .ne 7, 3) := DX3_usesIt (38, .if_icmp .ne 7, 3) (List.mem_of_getElem? (i := 24) rfl)
theorem dX3_usesIt_41 : decode cX3_usesIt 41 = .ok (.iconst 1, 1) := DX3_usesIt (41, .iconst 1, 1) (List.mem_of_getElem? (i := 25) rfl)
theorem dX3_usesIt_42 : decode cX3_usesIt 42 = .ok (.goto 4, 3) := DX3_usesIt (42, .goto 4, 3) (List.mem_of_getElem? (i := 26) rfl)
theorem dX3_usesIt_45 : decode cX3_usesIt 45 = .ok (.iconst 0, 1) := DX3_usesIt (45, .iconst 0, 1) (List.mem_of_getElem? (i := 27) rfl)
theorem dX3_usesIt_46 : decode cX3_usesIt 46 = .ok (.ireturn, 1) := DX3_usesIt (46, .ireturn, 1) (List.mem_of_getElem? (i := 28) rfl)
noncomputable def fX3_usesIt_L19 (σ : Mem) : Option (Int32 × Mem) :=
  some (0, σ)
set_option maxHeartbeats 4000000 in
set_option maxRecDepth 100000 in
theorem tX3_usesIt_L19 {E : Gx} {cI : ClassId} {ad : Nat → Nat} (C : Cx E rmX3_usesIt cI layX ad 3 RX3 cX3_usesIt) {out : Int32 × Mem} (K0 : KI E rmX3_usesIt cI layX ad 3 cX3_usesIt .boolean out) {σ : Mem} (h : fX3_usesIt_L19 σ = some out) : G E rmX3_usesIt cI layX ad 3 19 [] [] σ := by
  unfold fX3_usesIt_L19 at h
  refine g_iconst 20 (v := 0) C dX3_usesIt_19 (by decide) rfl ?_
  cases h
  exact K0 _ _ dX3_usesIt_20 (zb_nar (x := 0) (by decide))
noncomputable def fX3_usesIt_L46 (s0 : Int32) (σ : Mem) : Option (Int32 × Mem) :=
  chk (s0 == 0 || s0 == 1) <|
  some (s0, σ)
set_option maxHeartbeats 4000000 in
set_option maxRecDepth 100000 in
theorem tX3_usesIt_L46 {E : Gx} {cI : ClassId} {ad : Nat → Nat} (C : Cx E rmX3_usesIt cI layX ad 3 RX3 cX3_usesIt) {out : Int32 × Mem} (K0 : KI E rmX3_usesIt cI layX ad 3 cX3_usesIt .boolean out) {s0 : Int32} {σ : Mem} (h : fX3_usesIt_L46 s0 σ = some out) : G E rmX3_usesIt cI layX ad 3 46 [] [.int s0] σ := by
  unfold fX3_usesIt_L46 at h
  obtain ⟨hz, h⟩ := chk_some h
  cases h
  exact K0 _ _ dX3_usesIt_46 (zb_nar hz)
noncomputable def fX3_usesIt_L41 (σ : Mem) : Option (Int32 × Mem) :=
  fX3_usesIt_L46 1 σ
set_option maxHeartbeats 4000000 in
set_option maxRecDepth 100000 in
theorem tX3_usesIt_L41 {E : Gx} {cI : ClassId} {ad : Nat → Nat} (C : Cx E rmX3_usesIt cI layX ad 3 RX3 cX3_usesIt) {out : Int32 × Mem} (K0 : KI E rmX3_usesIt cI layX ad 3 cX3_usesIt .boolean out) {σ : Mem} (h : fX3_usesIt_L41 σ = some out) : G E rmX3_usesIt cI layX ad 3 41 [] [] σ := by
  unfold fX3_usesIt_L41 at h
  refine g_iconst 42 (v := 1) C dX3_usesIt_41 (by decide) rfl ?_
  refine g_goto 46 C dX3_usesIt_42 (by decide) ?_
  exact tX3_usesIt_L46 (s0 := 1) (σ := σ) C K0 h
noncomputable def fX3_usesIt (a1 : Int32) (a2 : Int32) (σ : Mem) : Option (Int32 × Mem) :=
  chk (inb a1 30) <|
  if (σ 8 a1.toNatClampNeg) = 0 then
    fX3_usesIt_L19 σ
  else
    chk (inb a1 30) <|
    if (σ 8 a1.toNatClampNeg) = 1 then
      fX3_usesIt_L19 σ
    else
      chk (inb a1 30) <|
      if (σ 9 a1.toNatClampNeg) = a2 then
        fX3_usesIt_L41 σ
      else
        chk (inb a1 30) <|
        if (σ 10 a1.toNatClampNeg) = a2 then
          fX3_usesIt_L41 σ
        else
          fX3_usesIt_L46 0 σ
set_option maxHeartbeats 4000000 in
set_option maxRecDepth 100000 in
theorem mX3_usesIt {l : Launch} {D : va_G} {cI : ClassId} {ad : Nat → Nat} {a1 : Int32} {a2 : Int32} {σ : Mem} {out : Int32 × Mem} (h : fX3_usesIt a1 a2 σ = some out) : MI l D cI layX ad yX3_usesIt cX3_usesIt 3 .boolean rmX3_usesIt [.ref (ad 3), .int a1, .int a2] σ out := by
  refine met_i (by decide) (Nat.le_of_ble_eq_true rfl) (fun E C K0 => ?_)
  show G E rmX3_usesIt cI layX ad 3 0 [(0, .ref (ad 3)), (1, .int a1), (2, .int a2)] [] σ
  unfold fX3_usesIt at h
  refine g_aload_n 1 C dX3_usesIt_0 rfl (j := 0) rfl rfl ?_
  refine g_getr 4 (j := 1) C rfl rfl wu_X3 (by decide) wf_X3_9 rfl dX3_usesIt_1 rfl ?_
  refine g_iload_n 5 C dX3_usesIt_4 rfl (j := 1) rfl rfl ?_
  refine g_iald 6 C rfl dX3_usesIt_5 rfl h (fun h => ?_)
  refine g_if_eq 19 9 C dX3_usesIt_6 (by decide) rfl h (fun h => ?_) (fun h => ?_)
  · exact g_sub [] (tX3_usesIt_L19 (σ := σ) C K0 h) rfl
  · refine g_aload_n 10 C dX3_usesIt_9 rfl (j := 0) rfl rfl ?_
    refine g_getr 13 (j := 1) C rfl rfl wu_X3 (by decide) wf_X3_9 rfl dX3_usesIt_10 rfl ?_
    refine g_iload_n 14 C dX3_usesIt_13 rfl (j := 1) rfl rfl ?_
    refine g_iald 15 C rfl dX3_usesIt_14 rfl h (fun h => ?_)
    refine g_iconst 16 (v := 1) C dX3_usesIt_15 (by decide) rfl ?_
    refine g_icmp_ne 21 19 C dX3_usesIt_16 (by decide) rfl h (fun h => ?_) (fun h => ?_)
    · exact g_sub [] (tX3_usesIt_L19 (σ := σ) C K0 h) rfl
    · refine g_aload_n 22 C dX3_usesIt_21 rfl (j := 0) rfl rfl ?_
      refine g_getr 25 (j := 2) C rfl rfl wu_X3 (by decide) wf_X3_15 rfl dX3_usesIt_22 rfl ?_
      refine g_iload_n 26 C dX3_usesIt_25 rfl (j := 1) rfl rfl ?_
      refine g_iald 27 C rfl dX3_usesIt_26 rfl h (fun h => ?_)
      refine g_iload_n 28 C dX3_usesIt_27 rfl (j := 2) rfl rfl ?_
      refine g_icmp_eq 41 31 C dX3_usesIt_28 (by decide) rfl h (fun h => ?_) (fun h => ?_)
      · exact g_sub [] (tX3_usesIt_L41 (σ := σ) C K0 h) rfl
      · refine g_aload_n 32 C dX3_usesIt_31 rfl (j := 0) rfl rfl ?_
        refine g_getr 35 (j := 3) C rfl rfl wu_X3 (by decide) wf_X3_18 rfl dX3_usesIt_32 rfl ?_
        refine g_iload_n 36 C dX3_usesIt_35 rfl (j := 1) rfl rfl ?_
        refine g_iald 37 C rfl dX3_usesIt_36 rfl h (fun h => ?_)
        refine g_iload_n 38 C dX3_usesIt_37 rfl (j := 2) rfl rfl ?_
        refine g_icmp_ne 45 41 C dX3_usesIt_38 (by decide) rfl h (fun h => ?_) (fun h => ?_)
        · exact g_sub [] (tX3_usesIt_L41 (σ := σ) C K0 h) rfl
        · refine g_iconst 46 (v := 0) C dX3_usesIt_45 (by decide) rfl ?_
          exact g_sub [] (tX3_usesIt_L46 (s0 := 0) (σ := σ) C K0 h) rfl

/-! LoopReducer$Names.parts(I)I -/
abbrev rmX3_parts : Room := { frames := 1, cells := 0, slots := 0, locals := 21 }
theorem qX3_parts : yX3_parts.cls ≠ "java/lang/invoke/MethodHandle" ∧ yX3_parts.cls ≠ "java/lang/invoke/VarHandle" ∧ (parseMethodDescriptor yX3_parts.desc).map (fun d => d.parameters.length) = some 1 := by decide +kernel
theorem DX3_parts : ∀ q ∈ ([(0, .aload_n 0, 1), (1, .getfield 9, 3), (4, .iload_n 1, 1), (5, .iaload, 1), (6, .iconst 5, 1), (7, .if_icmp .ne 12, 3), (10, .iconst 1, 1), (11, .aload_n 0, 1), (12, .getfield 18, 3), (15, .iload_n 1, 1), (16, .iaload, 1), (17, .ishl, 1), (18, .ireturn, 1), (19, .aload_n 0, 1), (20, .iload_n 1, 1), (21, .invokevirtual 73, 3), (24, .ifCond .eq 23, 3), (27, .iconst 1, 1), (28, .aload_n 0, 1), (29, .getfield 15, 3), (32, .iload_n 1, 1), (33, .iaload, 1), (34, .ishl, 1), (35, .iconst 1, 1), (36, .aload_n 0, 1), (37, .getfield 18, 3), (40, .iload_n 1, 1), (41, .iaload, 1), (42, .ishl, 1), (43, .ior, 1), (44, .goto 4, 3), (47, .iconst 0, 1), (48, .ireturn, 1)] : List (Nat × Instr × Nat)), decode cX3_parts q.1 = .ok q.2 := by decide +kernel
theorem dX3_parts_0 : decode cX3_parts 0 = .ok (.aload_n 0, 1) := DX3_parts (0, .aload_n 0, 1) (List.mem_of_getElem? (i := 0) rfl)
theorem dX3_parts_1 : decode cX3_parts 1 = .ok (.getfield 9, 3) := DX3_parts (1, .getfield 9, 3) (List.mem_of_getElem? (i := 1) rfl)
theorem dX3_parts_4 : decode cX3_parts 4 = .ok (.iload_n 1, 1) := DX3_parts (4, .iload_n 1, 1) (List.mem_of_getElem? (i := 2) rfl)
theorem dX3_parts_5 : decode cX3_parts 5 = .ok (.iaload, 1) := DX3_parts (5, .iaload, 1) (List.mem_of_getElem? (i := 3) rfl)
theorem dX3_parts_6 : decode cX3_parts 6 = .ok (.iconst 5, 1) := DX3_parts (6, .iconst 5, 1) (List.mem_of_getElem? (i := 4) rfl)
theorem dX3_parts_7 : decode cX3_parts 7 = .ok (.if_icmp .ne 12, 3) := DX3_parts (7, .if_icmp .ne 12, 3) (List.mem_of_getElem? (i := 5) rfl)
theorem dX3_parts_10 : decode cX3_parts 10 = .ok (.iconst 1, 1) := DX3_parts (10, .iconst 1, 1) (List.mem_of_getElem? (i := 6) rfl)
theorem dX3_parts_11 : decode cX3_parts 11 = .ok (.aload_n 0, 1) := DX3_parts (11, .aload_n 0, 1) (List.mem_of_getElem? (i := 7) rfl)
theorem dX3_parts_12 : decode cX3_parts 12 = .ok (.getfield 18, 3) := DX3_parts (12, .getfield 18, 3) (List.mem_of_getElem? (i := 8) rfl)
theorem dX3_parts_15 : decode cX3_parts 15 = .ok (.iload_n 1, 1) := DX3_parts (15, .iload_n 1, 1) (List.mem_of_getElem? (i := 9) rfl)
theorem dX3_parts_16 : decode cX3_parts 16 = .ok (.iaload, 1) := DX3_parts (16, .iaload, 1) (List.mem_of_getElem? (i := 10) rfl)
theorem dX3_parts_17 : decode cX3_parts 17 = .ok (.ishl, 1) := DX3_parts (17, .ishl, 1) (List.mem_of_getElem? (i := 11) rfl)
theorem dX3_parts_18 : decode cX3_parts 18 = .ok (.ireturn, 1) := DX3_parts (18, .ireturn, 1) (List.mem_of_getElem? (i := 12) rfl)
theorem dX3_parts_19 : decode cX3_parts 19 = .ok (.aload_n 0, 1) := DX3_parts (19, .aload_n 0, 1) (List.mem_of_getElem? (i := 13) rfl)
theorem dX3_parts_20 : decode cX3_parts 20 = .ok (.iload_n 1, 1) := DX3_parts (20, .iload_n 1, 1) (List.mem_of_getElem? (i := 14) rfl)
theorem dX3_parts_21 : decode cX3_parts 21 = .ok (.invokevirtual 73, 3) := DX3_parts (21, .invokevirtual 73, 3) (List.mem_of_getElem? (i := 15) rfl)
theorem dX3_parts_24 : decode cX3_parts 24 = .ok (.ifCond .eq 23, 3) := DX3_parts (24, .ifCond .eq 23, 3) (List.mem_of_getElem? (i := 16) rfl)
theorem dX3_parts_27 : decode cX3_parts 27 = .ok (.iconst 1, 1) := DX3_parts (27, .iconst 1, 1) (List.mem_of_getElem? (i := 17) rfl)
theorem dX3_parts_28 : decode cX3_parts 28 = .ok (.aload_n 0, 1) := DX3_parts (28, .aload_n 0, 1) (List.mem_of_getElem? (i := 18) rfl)
theorem dX3_parts_29 : decode cX3_parts 29 = .ok (.getfield 15, 3) := DX3_parts (29, .getfield 15, 3) (List.mem_of_getElem? (i := 19) rfl)
theorem dX3_parts_32 : decode cX3_parts 32 = .ok (.iload_n 1, 1) := DX3_parts (32, .iload_n 1, 1) (List.mem_of_getElem? (i := 20) rfl)
theorem dX3_parts_33 : decode cX3_parts 33 = .ok (.iaload, 1) := DX3_parts (33, .iaload, 1) (List.mem_of_getElem? (i := 21) rfl)
theorem dX3_parts_34 : decode cX3_parts 34 = .ok (.ishl, 1) := DX3_parts (34, .ishl, 1) (List.mem_of_getElem? (i := 22) rfl)
theorem dX3_parts_35 : decode cX3_parts 35 = .ok (.iconst 1, 1) := DX3_parts (35, .iconst 1, 1) (List.mem_of_getElem? (i := 23) rfl)
theorem dX3_parts_36 : decode cX3_parts 36 = .ok (.aload_n 0, 1) := DX3_parts (36, .aload_n 0, 1) (List.mem_of_getElem? (i := 24) rfl)
theorem dX3_parts_37 : decode cX3_parts 37 = .ok (.getfield 18, 3) := DX3_parts (37, .getfield 18, 3) (List.mem_of_getElem? (i := 25) rfl)
theorem dX3_parts_40 : decode cX3_parts 40 = .ok (.iload_n 1, 1) := DX3_parts (40, .iload_n 1, 1) (List.mem_of_getElem? (i := 26) rfl)
theorem dX3_parts_41 : decode cX3_parts 41 = .ok (.iaload, 1) := DX3_parts (41, .iaload, 1) (List.mem_of_getElem? (i := 27) rfl)
theorem dX3_parts_42 : decode cX3_parts 42 = .ok (.ishl, 1) := DX3_parts (42, .ishl, 1) (List.mem_of_getElem? (i := 28) rfl)
theorem dX3_parts_43 : decode cX3_parts 43 = .ok (.ior, 1) := DX3_parts (43, .ior, 1) (List.mem_of_getElem? (i := 29) rfl)
theorem dX3_parts_44 : decode cX3_parts 44 = .ok (.goto 4, 3) := DX3_parts (44, .goto 4, 3) (List.mem_of_getElem? (i := 30) rfl)
theorem dX3_parts_47 : decode cX3_parts 47 = .ok (.iconst 0, 1) := DX3_parts (47, .iconst 0, 1) (List.mem_of_getElem? (i := 31) rfl)
theorem dX3_parts_48 : decode cX3_parts 48 = .ok (.ireturn, 1) := DX3_parts (48, .ireturn, 1) (List.mem_of_getElem? (i := 32) rfl)
noncomputable def fX3_parts_L48 (s0 : Int32) (σ : Mem) : Option (Int32 × Mem) :=
  some (s0, σ)
set_option maxHeartbeats 4000000 in
set_option maxRecDepth 100000 in
theorem tX3_parts_L48 {E : Gx} {cI : ClassId} {ad : Nat → Nat} (C : Cx E rmX3_parts cI layX ad 2 RX3 cX3_parts) {out : Int32 × Mem} (K0 : KI E rmX3_parts cI layX ad 2 cX3_parts .int out) {s0 : Int32} {σ : Mem} (h : fX3_parts_L48 s0 σ = some out) : G E rmX3_parts cI layX ad 2 48 [] [.int s0] σ := by
  unfold fX3_parts_L48 at h
  cases h
  exact K0 _ _ dX3_parts_48 rfl
noncomputable def fX3_parts (a1 : Int32) (σ : Mem) : Option (Int32 × Mem) :=
  chk (inb a1 30) <|
  if (σ 8 a1.toNatClampNeg) = 5 then
    chk (inb a1 30) <|
    some (1 <<< ((σ 10 a1.toNatClampNeg) &&& 31), σ)
  else
    (fX3_isMade a1 σ).bind fun o1 =>
    if o1.1 = 0 then
      fX3_parts_L48 0 o1.2
    else
      chk (inb a1 30) <|
      chk (inb a1 30) <|
      fX3_parts_L48 ((1 <<< ((o1.2 9 a1.toNatClampNeg) &&& 31)) ||| (1 <<< ((o1.2 10 a1.toNatClampNeg) &&& 31))) o1.2
set_option maxHeartbeats 4000000 in
set_option maxRecDepth 100000 in
theorem mX3_parts {l : Launch} {D : va_G} {cI : ClassId} {ad : Nat → Nat} {a1 : Int32} {σ : Mem} {out : Int32 × Mem} (h : fX3_parts a1 σ = some out) : MI l D cI layX ad yX3_parts cX3_parts 2 .int rmX3_parts [.ref (ad 3), .int a1] σ out := by
  refine met_i (by decide) (Nat.le_of_ble_eq_true rfl) (fun E C K0 => ?_)
  show G E rmX3_parts cI layX ad 2 0 [(0, .ref (ad 3)), (1, .int a1)] [] σ
  unfold fX3_parts at h
  refine g_aload_n 1 C dX3_parts_0 rfl (j := 0) rfl rfl ?_
  refine g_getr 4 (j := 1) C rfl rfl wu_X3 (by decide) wf_X3_9 rfl dX3_parts_1 rfl ?_
  refine g_iload_n 5 C dX3_parts_4 rfl (j := 1) rfl rfl ?_
  refine g_iald 6 C rfl dX3_parts_5 rfl h (fun h => ?_)
  refine g_iconst 7 (v := 5) C dX3_parts_6 (by decide) rfl ?_
  refine g_icmp_ne 19 10 C dX3_parts_7 (by decide) rfl h (fun h => ?_) (fun h => ?_)
  · refine g_iconst 11 (v := 1) C dX3_parts_10 (by decide) rfl ?_
    refine g_aload_n 12 C dX3_parts_11 rfl (j := 0) rfl rfl ?_
    refine g_getr 15 (j := 3) C rfl rfl wu_X3 (by decide) wf_X3_18 rfl dX3_parts_12 rfl ?_
    refine g_iload_n 16 C dX3_parts_15 rfl (j := 1) rfl rfl ?_
    refine g_iald 17 C rfl dX3_parts_16 rfl h (fun h => ?_)
    refine g_ishl 18 C dX3_parts_17 rfl ?_
    cases h
    exact K0 _ _ dX3_parts_18 rfl
  · refine g_aload_n 20 C dX3_parts_19 rfl (j := 0) rfl rfl ?_
    refine g_iload_n 21 C dX3_parts_20 rfl (j := 1) rfl rfl ?_
    refine g_cvi 24 C (As := [.int a1]) (fun _ h => mX3_isMade (a1 := a1) (σ := σ) h) wl_X3_73 wi_X3_isMade wz_X3_isMade wc_X3_isMade wn_X3 qX3_isMade rfl rfl ⟨Nat.le_of_ble_eq_true rfl, Nat.le_of_ble_eq_true rfl⟩ rfl rfl rfl rfl (Nat.le_of_ble_eq_true rfl) dX3_parts_21 rfl h (fun o1 h => ?_)
    refine g_if_eq 47 27 C dX3_parts_24 (by decide) rfl h (fun h => ?_) (fun h => ?_)
    · refine g_iconst 48 (v := 0) C dX3_parts_47 (by decide) rfl ?_
      exact g_sub [] (tX3_parts_L48 (s0 := 0) (σ := o1.2) C K0 h) rfl
    · refine g_iconst 28 (v := 1) C dX3_parts_27 (by decide) rfl ?_
      refine g_aload_n 29 C dX3_parts_28 rfl (j := 0) rfl rfl ?_
      refine g_getr 32 (j := 2) C rfl rfl wu_X3 (by decide) wf_X3_15 rfl dX3_parts_29 rfl ?_
      refine g_iload_n 33 C dX3_parts_32 rfl (j := 1) rfl rfl ?_
      refine g_iald 34 C rfl dX3_parts_33 rfl h (fun h => ?_)
      refine g_ishl 35 C dX3_parts_34 rfl ?_
      refine g_iconst 36 (v := 1) C dX3_parts_35 (by decide) rfl ?_
      refine g_aload_n 37 C dX3_parts_36 rfl (j := 0) rfl rfl ?_
      refine g_getr 40 (j := 3) C rfl rfl wu_X3 (by decide) wf_X3_18 rfl dX3_parts_37 rfl ?_
      refine g_iload_n 41 C dX3_parts_40 rfl (j := 1) rfl rfl ?_
      refine g_iald 42 C rfl dX3_parts_41 rfl h (fun h => ?_)
      refine g_ishl 43 C dX3_parts_42 rfl ?_
      refine g_ior 44 C dX3_parts_43 rfl ?_
      refine g_goto 48 C dX3_parts_44 (by decide) ?_
      exact g_sub [] (tX3_parts_L48 (s0 := ((1 <<< ((o1.2 9 a1.toNatClampNeg) &&& 31)) ||| (1 <<< ((o1.2 10 a1.toNatClampNeg) &&& 31)))) (σ := o1.2) C K0 h) rfl

/-! LoopReducer$Names.amountOf(I)I -/
abbrev rmX3_amountOf : Room := { frames := 0, cells := 0, slots := 0, locals := 0 }
theorem qX3_amountOf : yX3_amountOf.cls ≠ "java/lang/invoke/MethodHandle" ∧ yX3_amountOf.cls ≠ "java/lang/invoke/VarHandle" ∧ (parseMethodDescriptor yX3_amountOf.desc).map (fun d => d.parameters.length) = some 1 := by decide +kernel
theorem DX3_amountOf : ∀ q ∈ ([(0, .iconst 0, 1), (1, .istore_n 2, 1), (2, .iconst 0, 1), (3, .istore_n 3, 1), (4, .iload_n 3, 1), (5, .aload_n 0, 1), (6, .getfield 40, 3), (9, .if_icmp .ge 27, 3), (12, .iload_n 2, 1), (13, .aload_n 0, 1), (14, .getfield 9, 3), (17, .iload_n 3, 1), (18, .iaload, 1), (19, .iload_n 1, 1), (20, .if_icmp .ne 7, 3), (23, .iconst 1, 1), (24, .goto 4, 3), (27, .iconst 0, 1), (28, .iadd, 1), (29, .istore_n 2, 1), (30, .iinc 3 1, 3), (33, .goto (-29), 3), (36, .iload_n 2, 1), (37, .ireturn, 1)] : List (Nat × Instr × Nat)), decode cX3_amountOf q.1 = .ok q.2 := by decide +kernel
theorem dX3_amountOf_0 : decode cX3_amountOf 0 = .ok (.iconst 0, 1) := DX3_amountOf (0, .iconst 0, 1) (List.mem_of_getElem? (i := 0) rfl)
theorem dX3_amountOf_1 : decode cX3_amountOf 1 = .ok (.istore_n 2, 1) := DX3_amountOf (1, .istore_n 2, 1) (List.mem_of_getElem? (i := 1) rfl)
theorem dX3_amountOf_2 : decode cX3_amountOf 2 = .ok (.iconst 0, 1) := DX3_amountOf (2, .iconst 0, 1) (List.mem_of_getElem? (i := 2) rfl)
theorem dX3_amountOf_3 : decode cX3_amountOf 3 = .ok (.istore_n 3, 1) := DX3_amountOf (3, .istore_n 3, 1) (List.mem_of_getElem? (i := 3) rfl)
theorem dX3_amountOf_4 : decode cX3_amountOf 4 = .ok (.iload_n 3, 1) := DX3_amountOf (4, .iload_n 3, 1) (List.mem_of_getElem? (i := 4) rfl)
theorem dX3_amountOf_5 : decode cX3_amountOf 5 = .ok (.aload_n 0, 1) := DX3_amountOf (5, .aload_n 0, 1) (List.mem_of_getElem? (i := 5) rfl)
theorem dX3_amountOf_6 : decode cX3_amountOf 6 = .ok (.getfield 40, 3) := DX3_amountOf (6, .getfield 40, 3) (List.mem_of_getElem? (i := 6) rfl)
theorem dX3_amountOf_9 : decode cX3_amountOf 9 = .ok (.if_icmp .ge 27, 3) := DX3_amountOf (9, .if_icmp .ge 27, 3) (List.mem_of_getElem? (i := 7) rfl)
theorem dX3_amountOf_12 : decode cX3_amountOf 12 = .ok (.iload_n 2, 1) := DX3_amountOf (12, .iload_n 2, 1) (List.mem_of_getElem? (i := 8) rfl)
theorem dX3_amountOf_13 : decode cX3_amountOf 13 = .ok (.aload_n 0, 1) := DX3_amountOf (13, .aload_n 0, 1) (List.mem_of_getElem? (i := 9) rfl)
theorem dX3_amountOf_14 : decode cX3_amountOf 14 = .ok (.getfield 9, 3) := DX3_amountOf (14, .getfield 9, 3) (List.mem_of_getElem? (i := 10) rfl)
theorem dX3_amountOf_17 : decode cX3_amountOf 17 = .ok (.iload_n 3, 1) := DX3_amountOf (17, .iload_n 3, 1) (List.mem_of_getElem? (i := 11) rfl)
theorem dX3_amountOf_18 : decode cX3_amountOf 18 = .ok (.iaload, 1) := DX3_amountOf (18, .iaload, 1) (List.mem_of_getElem? (i := 12) rfl)
theorem dX3_amountOf_19 : decode cX3_amountOf 19 = .ok (.iload_n 1, 1) := DX3_amountOf (19, .iload_n 1, 1) (List.mem_of_getElem? (i := 13) rfl)
theorem dX3_amountOf_20 : decode cX3_amountOf 20 = .ok (.if_icmp .ne 7, 3) := DX3_amountOf (20, .if_icmp .ne 7, 3) (List.mem_of_getElem? (i := 14) rfl)
theorem dX3_amountOf_23 : decode cX3_amountOf 23 = .ok (.iconst 1, 1) := DX3_amountOf (23, .iconst 1, 1) (List.mem_of_getElem? (i := 15) rfl)
theorem dX3_amountOf_24 : decode cX3_amountOf 24 = .ok (.goto 4, 3) := DX3_amountOf (24, .goto 4, 3) (List.mem_of_getElem? (i := 16) rfl)
theorem dX3_amountOf_27 : decode cX3_amountOf 27 = .ok (.iconst 0, 1) := DX3_amountOf (27, .iconst 0, 1) (List.mem_of_getElem? (i := 17) rfl)
theorem dX3_amountOf_28 : decode cX3_amountOf 28 = .ok (.iadd, 1) := DX3_amountOf (28, .iadd, 1) (List.mem_of_getElem? (i := 18) rfl)
theorem dX3_amountOf_29 : decode cX3_amountOf 29 = .ok (.istore_n 2, 1) := DX3_amountOf (29, .istore_n 2, 1) (List.mem_of_getElem? (i := 19) rfl)
theorem dX3_amountOf_30 : decode cX3_amountOf 30 = .ok (.iinc 3 1, 3) := DX3_amountOf (30, .iinc 3 1, 3) (List.mem_of_getElem? (i := 20) rfl)
theorem dX3_amountOf_33 : decode cX3_amountOf 33 = .ok (.goto (-29), 3) := DX3_amountOf (33, .goto (-29), 3) (List.mem_of_getElem? (i := 21) rfl)
theorem dX3_amountOf_36 : decode cX3_amountOf 36 = .ok (.iload_n 2, 1) := DX3_amountOf (36, .iload_n 2, 1) (List.mem_of_getElem? (i := 22) rfl)
theorem dX3_amountOf_37 : decode cX3_amountOf 37 = .ok (.ireturn, 1) := DX3_amountOf (37, .ireturn, 1) (List.mem_of_getElem? (i := 23) rfl)
noncomputable def fX3_amountOf_L28 (l1 : Int32) (l3 : Int32) (s0 : Int32) (s1 : Int32) (σ : Mem) : Option ((Int32 × Int32 × Mem) ⊕ (Int32 × Mem)) :=
  some (.inl (s0 + s1, l3 + 1, σ))
set_option maxHeartbeats 4000000 in
set_option maxRecDepth 100000 in
theorem tX3_amountOf_L28 {E : Gx} {cI : ClassId} {ad : Nat → Nat} (C : Cx E rmX3_amountOf cI layX ad 4 RX3 cX3_amountOf) {out : Int32 × Mem} (K0 : KI E rmX3_amountOf cI layX ad 4 cX3_amountOf .int out) {l1 : Int32} {l3 : Int32} {s0 : Int32} {s1 : Int32} {σ : Mem} {res : (Int32 × Int32 × Mem) ⊕ (Int32 × Mem)} (h : fX3_amountOf_L28 l1 l3 s0 s1 σ = some res) (K : Sum.elim (fun a => G E rmX3_amountOf cI layX ad 4 4 [(0, .ref (ad 3)), (1, .int l1), (2, .int a.1), (3, .int a.2.1)] [] a.2.2) (fun b => G E rmX3_amountOf cI layX ad 4 36 [(2, .int b.1)] [] b.2) res) : G E rmX3_amountOf cI layX ad 4 28 [(0, .ref (ad 3)), (1, .int l1), (3, .int l3)] [.int s1, .int s0] σ := by
  unfold fX3_amountOf_L28 at h
  refine g_iadd 29 C dX3_amountOf_28 rfl ?_
  refine g_istore_n 30 [(2, .int (s0 + s1)), (0, .ref (ad 3)), (1, .int l1), (3, .int l3)] C dX3_amountOf_29 rfl (by decide) rfl rfl ?_
  refine g_iinc 33 [(3, .int (l3 + 1)), (2, .int (s0 + s1)), (0, .ref (ad 3)), (1, .int l1)] C dX3_amountOf_30 (j := 3) rfl (by rfl) (by decide) rfl rfl ?_
  refine g_goto 4 C dX3_amountOf_33 (by decide) ?_
  have hh := end_inl h K
  exact g_sub [2, 3, 1, 0] (hh) rfl
noncomputable def fX3_amountOf_B4 (l1 : Int32) (l2 : Int32) (l3 : Int32) (σ : Mem) : Option ((Int32 × Int32 × Mem) ⊕ (Int32 × Mem)) :=
  if (σ 3 4) ≤ l3 then
    some (.inr (l2, σ))
  else
    chk (inb l3 30) <|
    if (σ 8 l3.toNatClampNeg) = l1 then
      fX3_amountOf_L28 l1 l3 l2 1 σ
    else
      fX3_amountOf_L28 l1 l3 l2 0 σ
set_option maxHeartbeats 4000000 in
set_option maxRecDepth 100000 in
theorem tX3_amountOf_B4 {E : Gx} {cI : ClassId} {ad : Nat → Nat} (C : Cx E rmX3_amountOf cI layX ad 4 RX3 cX3_amountOf) {out : Int32 × Mem} (K0 : KI E rmX3_amountOf cI layX ad 4 cX3_amountOf .int out) {l1 : Int32} {l2 : Int32} {l3 : Int32} {σ : Mem} {res : (Int32 × Int32 × Mem) ⊕ (Int32 × Mem)} (h : fX3_amountOf_B4 l1 l2 l3 σ = some res) (K : Sum.elim (fun a => G E rmX3_amountOf cI layX ad 4 4 [(0, .ref (ad 3)), (1, .int l1), (2, .int a.1), (3, .int a.2.1)] [] a.2.2) (fun b => G E rmX3_amountOf cI layX ad 4 36 [(2, .int b.1)] [] b.2) res) : G E rmX3_amountOf cI layX ad 4 4 [(0, .ref (ad 3)), (1, .int l1), (2, .int l2), (3, .int l3)] [] σ := by
  unfold fX3_amountOf_B4 at h
  refine g_iload_n 5 C dX3_amountOf_4 rfl (j := 3) rfl rfl ?_
  refine g_aload_n 6 C dX3_amountOf_5 rfl (j := 0) rfl rfl ?_
  refine g_geti 9 (j := 4) C rfl rfl wu_X3 (by decide) wf_X3_40 rfl dX3_amountOf_6 rfl ?_
  refine g_icmp_ge 36 12 C dX3_amountOf_9 (by decide) rfl h (fun h => ?_) (fun h => ?_)
  · have hh := end_inr h K
    exact g_sub [2] (hh) rfl
  · refine g_iload_n 13 C dX3_amountOf_12 rfl (j := 2) rfl rfl ?_
    refine g_aload_n 14 C dX3_amountOf_13 rfl (j := 0) rfl rfl ?_
    refine g_getr 17 (j := 1) C rfl rfl wu_X3 (by decide) wf_X3_9 rfl dX3_amountOf_14 rfl ?_
    refine g_iload_n 18 C dX3_amountOf_17 rfl (j := 3) rfl rfl ?_
    refine g_iald 19 C rfl dX3_amountOf_18 rfl h (fun h => ?_)
    refine g_iload_n 20 C dX3_amountOf_19 rfl (j := 1) rfl rfl ?_
    refine g_icmp_ne 27 23 C dX3_amountOf_20 (by decide) rfl h (fun h => ?_) (fun h => ?_)
    · refine g_iconst 24 (v := 1) C dX3_amountOf_23 (by decide) rfl ?_
      refine g_goto 28 C dX3_amountOf_24 (by decide) ?_
      exact g_sub [0, 1, 3] (tX3_amountOf_L28 (l1 := l1) (l3 := l3) (s0 := l2) (s1 := 1) (σ := σ) C K0 h K) rfl
    · refine g_iconst 28 (v := 0) C dX3_amountOf_27 (by decide) rfl ?_
      exact g_sub [0, 1, 3] (tX3_amountOf_L28 (l1 := l1) (l3 := l3) (s0 := l2) (s1 := 0) (σ := σ) C K0 h K) rfl
noncomputable def fX3_amountOf_L36 (l2 : Int32) (σ : Mem) : Option (Int32 × Mem) :=
  some (l2, σ)
set_option maxHeartbeats 4000000 in
set_option maxRecDepth 100000 in
theorem tX3_amountOf_L36 {E : Gx} {cI : ClassId} {ad : Nat → Nat} (C : Cx E rmX3_amountOf cI layX ad 4 RX3 cX3_amountOf) {out : Int32 × Mem} (K0 : KI E rmX3_amountOf cI layX ad 4 cX3_amountOf .int out) {l2 : Int32} {σ : Mem} (h : fX3_amountOf_L36 l2 σ = some out) : G E rmX3_amountOf cI layX ad 4 36 [(2, .int l2)] [] σ := by
  unfold fX3_amountOf_L36 at h
  refine g_iload_n 37 C dX3_amountOf_36 rfl (j := 0) rfl rfl ?_
  cases h
  exact K0 _ _ dX3_amountOf_37 rfl
noncomputable def fX3_amountOf (a1 : Int32) (σ : Mem) : Option (Int32 × Mem) :=
  (loop (fun a => fX3_amountOf_B4 a1 a.1 a.2.1 a.2.2) (0, 0, σ)).bind fun b1 =>
  fX3_amountOf_L36 b1.1 b1.2
set_option maxHeartbeats 4000000 in
set_option maxRecDepth 100000 in
theorem mX3_amountOf {l : Launch} {D : va_G} {cI : ClassId} {ad : Nat → Nat} {a1 : Int32} {σ : Mem} {out : Int32 × Mem} (h : fX3_amountOf a1 σ = some out) : MI l D cI layX ad yX3_amountOf cX3_amountOf 4 .int rmX3_amountOf [.ref (ad 3), .int a1] σ out := by
  refine met_i (by decide) (Nat.le_of_ble_eq_true rfl) (fun E C K0 => ?_)
  show G E rmX3_amountOf cI layX ad 4 0 [(0, .ref (ad 3)), (1, .int a1)] [] σ
  unfold fX3_amountOf at h
  refine g_iconst 1 (v := 0) C dX3_amountOf_0 (by decide) rfl ?_
  refine g_istore_n 2 [(2, .int 0), (0, .ref (ad 3)), (1, .int a1)] C dX3_amountOf_1 rfl (by decide) rfl rfl ?_
  refine g_iconst 3 (v := 0) C dX3_amountOf_2 (by decide) rfl ?_
  refine g_istore_n 4 [(3, .int 0), (2, .int 0), (0, .ref (ad 3)), (1, .int a1)] C dX3_amountOf_3 rfl (by decide) rfl rfl ?_
  obtain ⟨b1, hb, h⟩ := bind_some h
  refine g_sub [2, 3, 1, 0] (g_loop (a := (0, 0, σ)) (fun a => G E rmX3_amountOf cI layX ad 4 4 [(0, .ref (ad 3)), (1, .int a1), (2, .int a.1), (3, .int a.2.1)] [] a.2.2) (fun b => G E rmX3_amountOf cI layX ad 4 36 [(2, .int b.1)] [] b.2) hb (fun a res h K => tX3_amountOf_B4 (l1 := a1) (l2 := a.1) (l3 := a.2.1) (σ := a.2.2) (res := res) C K0 h K) ?_) rfl
  show G E rmX3_amountOf cI layX ad 4 36 [(2, .int b1.1)] [] b1.2
  exact tX3_amountOf_L36 (l2 := b1.1) (σ := b1.2) C K0 h

/-! LoopReducer$Names.reckon(I[I)I -/
abbrev rmX3_reckon : Room := { frames := 0, cells := 0, slots := 0, locals := 0 }
theorem qX3_reckon : yX3_reckon.cls ≠ "java/lang/invoke/MethodHandle" ∧ yX3_reckon.cls ≠ "java/lang/invoke/VarHandle" ∧ (parseMethodDescriptor yX3_reckon.desc).map (fun d => d.parameters.length) = some 2 := by decide +kernel
theorem DX3_reckon : ∀ q ∈ ([(0, .aload_n 2, 1), (1, .aload_n 0, 1), (2, .getfield 15, 3), (5, .iload_n 1, 1), (6, .iaload, 1), (7, .iaload, 1), (8, .istore_n 3, 1), (9, .aload_n 2, 1), (10, .aload_n 0, 1), (11, .getfield 18, 3), (14, .iload_n 1, 1), (15, .iaload, 1), (16, .iaload, 1), (17, .istore 4, 2), (19, .aload_n 0, 1), (20, .getfield 9, 3), (23, .iload_n 1, 1), (24, .iaload, 1), (25, .iconst 4, 1), (26, .if_icmp .ne 13, 3), (29, .iload_n 3, 1), (30, .iload 4, 2), (32, .imul, 1), (33, .aload_n 0, 1), (34, .getfield 37, 3), (37, .iand, 1), (38, .ireturn, 1), (39, .aload_n 0, 1), (40, .getfield 9, 3), (43, .iload_n 1, 1), (44, .iaload, 1), (45, .iconst 2, 1), (46, .if_icmp .ne 10, 3), (49, .iload_n 3, 1), (50, .iload 4, 2), (52, .iadd, 1), (53, .goto 7, 3), (56, .iload_n 3, 1), (57, .iload 4, 2), (59, .isub, 1), (60, .aload_n 0, 1), (61, .getfield 37, 3), (64, .iand, 1), (65, .ireturn, 1)] : List (Nat × Instr × Nat)), decode cX3_reckon q.1 = .ok q.2 := by decide +kernel
theorem dX3_reckon_0 : decode cX3_reckon 0 = .ok (.aload_n 2, 1) := DX3_reckon (0, .aload_n 2, 1) (List.mem_of_getElem? (i := 0) rfl)
theorem dX3_reckon_1 : decode cX3_reckon 1 = .ok (.aload_n 0, 1) := DX3_reckon (1, .aload_n 0, 1) (List.mem_of_getElem? (i := 1) rfl)
theorem dX3_reckon_2 : decode cX3_reckon 2 = .ok (.getfield 15, 3) := DX3_reckon (2, .getfield 15, 3) (List.mem_of_getElem? (i := 2) rfl)
theorem dX3_reckon_5 : decode cX3_reckon 5 = .ok (.iload_n 1, 1) := DX3_reckon (5, .iload_n 1, 1) (List.mem_of_getElem? (i := 3) rfl)
theorem dX3_reckon_6 : decode cX3_reckon 6 = .ok (.iaload, 1) := DX3_reckon (6, .iaload, 1) (List.mem_of_getElem? (i := 4) rfl)
theorem dX3_reckon_7 : decode cX3_reckon 7 = .ok (.iaload, 1) := DX3_reckon (7, .iaload, 1) (List.mem_of_getElem? (i := 5) rfl)
theorem dX3_reckon_8 : decode cX3_reckon 8 = .ok (.istore_n 3, 1) := DX3_reckon (8, .istore_n 3, 1) (List.mem_of_getElem? (i := 6) rfl)
theorem dX3_reckon_9 : decode cX3_reckon 9 = .ok (.aload_n 2, 1) := DX3_reckon (9, .aload_n 2, 1) (List.mem_of_getElem? (i := 7) rfl)
theorem dX3_reckon_10 : decode cX3_reckon 10 = .ok (.aload_n 0, 1) := DX3_reckon (10, .aload_n 0, 1) (List.mem_of_getElem? (i := 8) rfl)
theorem dX3_reckon_11 : decode cX3_reckon 11 = .ok (.getfield 18, 3) := DX3_reckon (11, .getfield 18, 3) (List.mem_of_getElem? (i := 9) rfl)
theorem dX3_reckon_14 : decode cX3_reckon 14 = .ok (.iload_n 1, 1) := DX3_reckon (14, .iload_n 1, 1) (List.mem_of_getElem? (i := 10) rfl)
theorem dX3_reckon_15 : decode cX3_reckon 15 = .ok (.iaload, 1) := DX3_reckon (15, .iaload, 1) (List.mem_of_getElem? (i := 11) rfl)
theorem dX3_reckon_16 : decode cX3_reckon 16 = .ok (.iaload, 1) := DX3_reckon (16, .iaload, 1) (List.mem_of_getElem? (i := 12) rfl)
theorem dX3_reckon_17 : decode cX3_reckon 17 = .ok (.istore 4, 2) := DX3_reckon (17, .istore 4, 2) (List.mem_of_getElem? (i := 13) rfl)
theorem dX3_reckon_19 : decode cX3_reckon 19 = .ok (.aload_n 0, 1) := DX3_reckon (19, .aload_n 0, 1) (List.mem_of_getElem? (i := 14) rfl)
theorem dX3_reckon_20 : decode cX3_reckon 20 = .ok (.getfield 9, 3) := DX3_reckon (20, .getfield 9, 3) (List.mem_of_getElem? (i := 15) rfl)
theorem dX3_reckon_23 : decode cX3_reckon 23 = .ok (.iload_n 1, 1) := DX3_reckon (23, .iload_n 1, 1) (List.mem_of_getElem? (i := 16) rfl)
theorem dX3_reckon_24 : decode cX3_reckon 24 = .ok (.iaload, 1) := DX3_reckon (24, .iaload, 1) (List.mem_of_getElem? (i := 17) rfl)
theorem dX3_reckon_25 : decode cX3_reckon 25 = .ok (.iconst 4, 1) := DX3_reckon (25, .iconst 4, 1) (List.mem_of_getElem? (i := 18) rfl)
theorem dX3_reckon_26 : decode cX3_reckon 26 = .ok (.if_icmp .ne 13, 3) := DX3_reckon (26, .if_icmp .ne 13, 3) (List.mem_of_getElem? (i := 19) rfl)
theorem dX3_reckon_29 : decode cX3_reckon 29 = .ok (.iload_n 3, 1) := DX3_reckon (29, .iload_n 3, 1) (List.mem_of_getElem? (i := 20) rfl)
theorem dX3_reckon_30 : decode cX3_reckon 30 = .ok (.iload 4, 2) := DX3_reckon (30, .iload 4, 2) (List.mem_of_getElem? (i := 21) rfl)
theorem dX3_reckon_32 : decode cX3_reckon 32 = .ok (.imul, 1) := DX3_reckon (32, .imul, 1) (List.mem_of_getElem? (i := 22) rfl)
theorem dX3_reckon_33 : decode cX3_reckon 33 = .ok (.aload_n 0, 1) := DX3_reckon (33, .aload_n 0, 1) (List.mem_of_getElem? (i := 23) rfl)
theorem dX3_reckon_34 : decode cX3_reckon 34 = .ok (.getfield 37, 3) := DX3_reckon (34, .getfield 37, 3) (List.mem_of_getElem? (i := 24) rfl)
theorem dX3_reckon_37 : decode cX3_reckon 37 = .ok (.iand, 1) := DX3_reckon (37, .iand, 1) (List.mem_of_getElem? (i := 25) rfl)
theorem dX3_reckon_38 : decode cX3_reckon 38 = .ok (.ireturn, 1) := DX3_reckon (38, .ireturn, 1) (List.mem_of_getElem? (i := 26) rfl)
theorem dX3_reckon_39 : decode cX3_reckon 39 = .ok (.aload_n 0, 1) := DX3_reckon (39, .aload_n 0, 1) (List.mem_of_getElem? (i := 27) rfl)
theorem dX3_reckon_40 : decode cX3_reckon 40 = .ok (.getfield 9, 3) := DX3_reckon (40, .getfield 9, 3) (List.mem_of_getElem? (i := 28) rfl)
theorem dX3_reckon_43 : decode cX3_reckon 43 = .ok (.iload_n 1, 1) := DX3_reckon (43, .iload_n 1, 1) (List.mem_of_getElem? (i := 29) rfl)
theorem dX3_reckon_44 : decode cX3_reckon 44 = .ok (.iaload, 1) := DX3_reckon (44, .iaload, 1) (List.mem_of_getElem? (i := 30) rfl)
theorem dX3_reckon_45 : decode cX3_reckon 45 = .ok (.iconst 2, 1) := DX3_reckon (45, .iconst 2, 1) (List.mem_of_getElem? (i := 31) rfl)
theorem dX3_reckon_46 : decode cX3_reckon 46 = .ok (.if_icmp .ne 10, 3) := DX3_reckon (46, .if_icmp .ne 10, 3) (List.mem_of_getElem? (i := 32) rfl)
theorem dX3_reckon_49 : decode cX3_reckon 49 = .ok (.iload_n 3, 1) := DX3_reckon (49, .iload_n 3, 1) (List.mem_of_getElem? (i := 33) rfl)
theorem dX3_reckon_50 : decode cX3_reckon 50 = .ok (.iload 4, 2) := DX3_reckon (50, .iload 4, 2) (List.mem_of_getElem? (i := 34) rfl)
theorem dX3_reckon_52 : decode cX3_reckon 52 = .ok (.iadd, 1) := DX3_reckon (52, .iadd, 1) (List.mem_of_getElem? (i := 35) rfl)
theorem dX3_reckon_53 : decode cX3_reckon 53 = .ok (.goto 7, 3) := DX3_reckon (53, .goto 7, 3) (List.mem_of_getElem? (i := 36) rfl)
theorem dX3_reckon_56 : decode cX3_reckon 56 = .ok (.iload_n 3, 1) := DX3_reckon (56, .iload_n 3, 1) (List.mem_of_getElem? (i := 37) rfl)
theorem dX3_reckon_57 : decode cX3_reckon 57 = .ok (.iload 4, 2) := DX3_reckon (57, .iload 4, 2) (List.mem_of_getElem? (i := 38) rfl)
theorem dX3_reckon_59 : decode cX3_reckon 59 = .ok (.isub, 1) := DX3_reckon (59, .isub, 1) (List.mem_of_getElem? (i := 39) rfl)
theorem dX3_reckon_60 : decode cX3_reckon 60 = .ok (.aload_n 0, 1) := DX3_reckon (60, .aload_n 0, 1) (List.mem_of_getElem? (i := 40) rfl)
theorem dX3_reckon_61 : decode cX3_reckon 61 = .ok (.getfield 37, 3) := DX3_reckon (61, .getfield 37, 3) (List.mem_of_getElem? (i := 41) rfl)
theorem dX3_reckon_64 : decode cX3_reckon 64 = .ok (.iand, 1) := DX3_reckon (64, .iand, 1) (List.mem_of_getElem? (i := 42) rfl)
theorem dX3_reckon_65 : decode cX3_reckon 65 = .ok (.ireturn, 1) := DX3_reckon (65, .ireturn, 1) (List.mem_of_getElem? (i := 43) rfl)
noncomputable def fX3_reckon_L60 (s0 : Int32) (σ : Mem) : Option (Int32 × Mem) :=
  some (s0 &&& (σ 3 0), σ)
set_option maxHeartbeats 4000000 in
set_option maxRecDepth 100000 in
theorem tX3_reckon_L60 {E : Gx} {cI : ClassId} {ad : Nat → Nat} (C : Cx E rmX3_reckon cI layX ad 5 RX3 cX3_reckon) {out : Int32 × Mem} (K0 : KI E rmX3_reckon cI layX ad 5 cX3_reckon .int out) {s0 : Int32} {σ : Mem} (h : fX3_reckon_L60 s0 σ = some out) : G E rmX3_reckon cI layX ad 5 60 [(0, .ref (ad 3))] [.int s0] σ := by
  unfold fX3_reckon_L60 at h
  refine g_aload_n 61 C dX3_reckon_60 rfl (j := 0) rfl rfl ?_
  refine g_geti 64 (j := 0) C rfl rfl wu_X3 (by decide) wf_X3_37 rfl dX3_reckon_61 rfl ?_
  refine g_iand 65 C dX3_reckon_64 rfl ?_
  cases h
  exact K0 _ _ dX3_reckon_65 rfl
noncomputable def fX3_reckon (a1 : Int32) (σ : Mem) : Option (Int32 × Mem) :=
  chk (inb a1 30) <|
  chk (inb (σ 9 a1.toNatClampNeg) 30) <|
  chk (inb a1 30) <|
  chk (inb (σ 10 a1.toNatClampNeg) 30) <|
  chk (inb a1 30) <|
  if (σ 8 a1.toNatClampNeg) = 4 then
    some (((σ 27 (σ 9 a1.toNatClampNeg).toNatClampNeg) * (σ 27 (σ 10 a1.toNatClampNeg).toNatClampNeg)) &&& (σ 3 0), σ)
  else
    chk (inb a1 30) <|
    if (σ 8 a1.toNatClampNeg) = 2 then
      fX3_reckon_L60 ((σ 27 (σ 9 a1.toNatClampNeg).toNatClampNeg) + (σ 27 (σ 10 a1.toNatClampNeg).toNatClampNeg)) σ
    else
      fX3_reckon_L60 ((σ 27 (σ 9 a1.toNatClampNeg).toNatClampNeg) - (σ 27 (σ 10 a1.toNatClampNeg).toNatClampNeg)) σ
set_option maxHeartbeats 4000000 in
set_option maxRecDepth 100000 in
theorem mX3_reckon {l : Launch} {D : va_G} {cI : ClassId} {ad : Nat → Nat} {a1 : Int32} {σ : Mem} {out : Int32 × Mem} (h : fX3_reckon a1 σ = some out) : MI l D cI layX ad yX3_reckon cX3_reckon 5 .int rmX3_reckon [.ref (ad 3), .int a1, .ref (ad 27)] σ out := by
  refine met_i (by decide) (Nat.le_of_ble_eq_true rfl) (fun E C K0 => ?_)
  show G E rmX3_reckon cI layX ad 5 0 [(0, .ref (ad 3)), (1, .int a1), (2, .ref (ad 27))] [] σ
  unfold fX3_reckon at h
  refine g_aload_n 1 C dX3_reckon_0 rfl (j := 2) rfl rfl ?_
  refine g_aload_n 2 C dX3_reckon_1 rfl (j := 0) rfl rfl ?_
  refine g_getr 5 (j := 2) C rfl rfl wu_X3 (by decide) wf_X3_15 rfl dX3_reckon_2 rfl ?_
  refine g_iload_n 6 C dX3_reckon_5 rfl (j := 1) rfl rfl ?_
  refine g_iald 7 C rfl dX3_reckon_6 rfl h (fun h => ?_)
  refine g_iald 8 C rfl dX3_reckon_7 rfl h (fun h => ?_)
  refine g_istore_n 9 [(3, .int (σ 27 (σ 9 a1.toNatClampNeg).toNatClampNeg)), (0, .ref (ad 3)), (1, .int a1), (2, .ref (ad 27))] C dX3_reckon_8 rfl (by decide) rfl rfl ?_
  refine g_aload_n 10 C dX3_reckon_9 rfl (j := 3) rfl rfl ?_
  refine g_aload_n 11 C dX3_reckon_10 rfl (j := 1) rfl rfl ?_
  refine g_getr 14 (j := 3) C rfl rfl wu_X3 (by decide) wf_X3_18 rfl dX3_reckon_11 rfl ?_
  refine g_iload_n 15 C dX3_reckon_14 rfl (j := 2) rfl rfl ?_
  refine g_iald 16 C rfl dX3_reckon_15 rfl h (fun h => ?_)
  refine g_iald 17 C rfl dX3_reckon_16 rfl h (fun h => ?_)
  refine g_istore 19 [(4, .int (σ 27 (σ 10 a1.toNatClampNeg).toNatClampNeg)), (3, .int (σ 27 (σ 9 a1.toNatClampNeg).toNatClampNeg)), (0, .ref (ad 3)), (1, .int a1), (2, .ref (ad 27))] C dX3_reckon_17 (by decide) rfl rfl ?_
  refine g_aload_n 20 C dX3_reckon_19 rfl (j := 2) rfl rfl ?_
  refine g_getr 23 (j := 1) C rfl rfl wu_X3 (by decide) wf_X3_9 rfl dX3_reckon_20 rfl ?_
  refine g_iload_n 24 C dX3_reckon_23 rfl (j := 3) rfl rfl ?_
  refine g_iald 25 C rfl dX3_reckon_24 rfl h (fun h => ?_)
  refine g_iconst 26 (v := 4) C dX3_reckon_25 (by decide) rfl ?_
  refine g_icmp_ne 39 29 C dX3_reckon_26 (by decide) rfl h (fun h => ?_) (fun h => ?_)
  · refine g_iload_n 30 C dX3_reckon_29 rfl (j := 1) rfl rfl ?_
    refine g_iload 32 C dX3_reckon_30 (j := 0) rfl rfl ?_
    refine g_imul 33 C dX3_reckon_32 rfl ?_
    refine g_aload_n 34 C dX3_reckon_33 rfl (j := 2) rfl rfl ?_
    refine g_geti 37 (j := 0) C rfl rfl wu_X3 (by decide) wf_X3_37 rfl dX3_reckon_34 rfl ?_
    refine g_iand 38 C dX3_reckon_37 rfl ?_
    cases h
    exact K0 _ _ dX3_reckon_38 rfl
  · refine g_aload_n 40 C dX3_reckon_39 rfl (j := 2) rfl rfl ?_
    refine g_getr 43 (j := 1) C rfl rfl wu_X3 (by decide) wf_X3_9 rfl dX3_reckon_40 rfl ?_
    refine g_iload_n 44 C dX3_reckon_43 rfl (j := 3) rfl rfl ?_
    refine g_iald 45 C rfl dX3_reckon_44 rfl h (fun h => ?_)
    refine g_iconst 46 (v := 2) C dX3_reckon_45 (by decide) rfl ?_
    refine g_icmp_ne 56 49 C dX3_reckon_46 (by decide) rfl h (fun h => ?_) (fun h => ?_)
    · refine g_iload_n 50 C dX3_reckon_49 rfl (j := 1) rfl rfl ?_
      refine g_iload 52 C dX3_reckon_50 (j := 0) rfl rfl ?_
      refine g_iadd 53 C dX3_reckon_52 rfl ?_
      refine g_goto 60 C dX3_reckon_53 (by decide) ?_
      exact g_sub [2] (tX3_reckon_L60 (s0 := ((σ 27 (σ 9 a1.toNatClampNeg).toNatClampNeg) + (σ 27 (σ 10 a1.toNatClampNeg).toNatClampNeg))) (σ := σ) C K0 h) rfl
    · refine g_iload_n 57 C dX3_reckon_56 rfl (j := 1) rfl rfl ?_
      refine g_iload 59 C dX3_reckon_57 (j := 0) rfl rfl ?_
      refine g_isub 60 C dX3_reckon_59 rfl ?_
      exact g_sub [2] (tX3_reckon_L60 (s0 := ((σ 27 (σ 9 a1.toNatClampNeg).toNatClampNeg) - (σ 27 (σ 10 a1.toNatClampNeg).toNatClampNeg))) (σ := σ) C K0 h) rfl

/-! LoopReducer.isIn(II)Z -/
abbrev rmX7_isIn : Room := { frames := 0, cells := 0, slots := 0, locals := 0 }
theorem qX7_isIn : yX7_isIn.cls ≠ "java/lang/invoke/MethodHandle" ∧ yX7_isIn.cls ≠ "java/lang/invoke/VarHandle" ∧ (parseMethodDescriptor yX7_isIn.desc).map (fun d => d.parameters.length) = some 2 := by decide +kernel
theorem DX7_isIn : ∀ q ∈ ([(0, .iload_n 0, 1), (1, .iload_n 1, 1), (2, .iushr, 1), (3, .iconst 1, 1), (4, .iand, 1), (5, .ifCond .eq 7, 3), (8, .iconst 1, 1), (9, .goto 4, 3), (12, .iconst 0, 1), (13, .ireturn, 1)] : List (Nat × Instr × Nat)), decode cX7_isIn q.1 = .ok q.2 := by decide +kernel
theorem dX7_isIn_0 : decode cX7_isIn 0 = .ok (.iload_n 0, 1) := DX7_isIn (0, .iload_n 0, 1) (List.mem_of_getElem? (i := 0) rfl)
theorem dX7_isIn_1 : decode cX7_isIn 1 = .ok (.iload_n 1, 1) := DX7_isIn (1, .iload_n 1, 1) (List.mem_of_getElem? (i := 1) rfl)
theorem dX7_isIn_2 : decode cX7_isIn 2 = .ok (.iushr, 1) := DX7_isIn (2, .iushr, 1) (List.mem_of_getElem? (i := 2) rfl)
theorem dX7_isIn_3 : decode cX7_isIn 3 = .ok (.iconst 1, 1) := DX7_isIn (3, .iconst 1, 1) (List.mem_of_getElem? (i := 3) rfl)
theorem dX7_isIn_4 : decode cX7_isIn 4 = .ok (.iand, 1) := DX7_isIn (4, .iand, 1) (List.mem_of_getElem? (i := 4) rfl)
theorem dX7_isIn_5 : decode cX7_isIn 5 = .ok (.ifCond .eq 7, 3) := DX7_isIn (5, .ifCond .eq 7, 3) (List.mem_of_getElem? (i := 5) rfl)
theorem dX7_isIn_8 : decode cX7_isIn 8 = .ok (.iconst 1, 1) := DX7_isIn (8, .iconst 1, 1) (List.mem_of_getElem? (i := 6) rfl)
theorem dX7_isIn_9 : decode cX7_isIn 9 = .ok (.goto 4, 3) := DX7_isIn (9, .goto 4, 3) (List.mem_of_getElem? (i := 7) rfl)
theorem dX7_isIn_12 : decode cX7_isIn 12 = .ok (.iconst 0, 1) := DX7_isIn (12, .iconst 0, 1) (List.mem_of_getElem? (i := 8) rfl)
theorem dX7_isIn_13 : decode cX7_isIn 13 = .ok (.ireturn, 1) := DX7_isIn (13, .ireturn, 1) (List.mem_of_getElem? (i := 9) rfl)
noncomputable def fX7_isIn_L13 (s0 : Int32) (σ : Mem) : Option (Int32 × Mem) :=
  chk (s0 == 0 || s0 == 1) <|
  some (s0, σ)
set_option maxHeartbeats 4000000 in
set_option maxRecDepth 100000 in
theorem tX7_isIn_L13 {E : Gx} {cI : ClassId} {ad : Nat → Nat} (C : Cx E rmX7_isIn cI layX ad 2 RX7 cX7_isIn) {out : Int32 × Mem} (K0 : KI E rmX7_isIn cI layX ad 2 cX7_isIn .boolean out) {s0 : Int32} {σ : Mem} (h : fX7_isIn_L13 s0 σ = some out) : G E rmX7_isIn cI layX ad 2 13 [] [.int s0] σ := by
  unfold fX7_isIn_L13 at h
  obtain ⟨hz, h⟩ := chk_some h
  cases h
  exact K0 _ _ dX7_isIn_13 (zb_nar hz)
noncomputable def fX7_isIn (a1 : Int32) (a2 : Int32) (σ : Mem) : Option (Int32 × Mem) :=
  if ((iushrV a1 a2) &&& 1) = 0 then
    fX7_isIn_L13 0 σ
  else
    fX7_isIn_L13 1 σ
set_option maxHeartbeats 4000000 in
set_option maxRecDepth 100000 in
theorem mX7_isIn {l : Launch} {D : va_G} {cI : ClassId} {ad : Nat → Nat} {a1 : Int32} {a2 : Int32} {σ : Mem} {out : Int32 × Mem} (h : fX7_isIn a1 a2 σ = some out) : MI l D cI layX ad yX7_isIn cX7_isIn 2 .boolean rmX7_isIn [.int a1, .int a2] σ out := by
  refine met_i (by decide) (Nat.le_of_ble_eq_true rfl) (fun E C K0 => ?_)
  show G E rmX7_isIn cI layX ad 2 0 [(0, .int a1), (1, .int a2)] [] σ
  unfold fX7_isIn at h
  refine g_iload_n 1 C dX7_isIn_0 rfl (j := 0) rfl rfl ?_
  refine g_iload_n 2 C dX7_isIn_1 rfl (j := 1) rfl rfl ?_
  refine g_iushr 3 C dX7_isIn_2 rfl ?_
  refine g_iconst 4 (v := 1) C dX7_isIn_3 (by decide) rfl ?_
  refine g_iand 5 C dX7_isIn_4 rfl ?_
  refine g_if_eq 12 8 C dX7_isIn_5 (by decide) rfl h (fun h => ?_) (fun h => ?_)
  · refine g_iconst 13 (v := 0) C dX7_isIn_12 (by decide) rfl ?_
    exact g_sub [] (tX7_isIn_L13 (s0 := 0) (σ := σ) C K0 h) rfl
  · refine g_iconst 9 (v := 1) C dX7_isIn_8 (by decide) rfl ?_
    refine g_goto 13 C dX7_isIn_9 (by decide) ?_
    exact g_sub [] (tX7_isIn_L13 (s0 := 1) (σ := σ) C K0 h) rfl

/-! java/lang/Integer.bitCount(I)I -/
abbrev rmJ6_bitCount_0f7a4 : Room := { frames := 0, cells := 0, slots := 0, locals := 0 }
theorem qJ6_bitCount_0f7a4 : yJ6_bitCount_0f7a4.cls ≠ "java/lang/invoke/MethodHandle" ∧ yJ6_bitCount_0f7a4.cls ≠ "java/lang/invoke/VarHandle" ∧ (parseMethodDescriptor yJ6_bitCount_0f7a4.desc).map (fun d => d.parameters.length) = some 1 := by decide +kernel
theorem DJ6_bitCount_0f7a4 : ∀ q ∈ ([(0, .iload_n 0, 1), (1, .iload_n 0, 1), (2, .iconst 1, 1), (3, .iushr, 1), (4, .ldc_w 265, 3), (7, .iand, 1), (8, .isub, 1), (9, .istore_n 0, 1), (10, .iload_n 0, 1), (11, .ldc_w 266, 3), (14, .iand, 1), (15, .iload_n 0, 1), (16, .iconst 2, 1), (17, .iushr, 1), (18, .ldc_w 266, 3), (21, .iand, 1), (22, .iadd, 1), (23, .istore_n 0, 1), (24, .iload_n 0, 1), (25, .iload_n 0, 1), (26, .iconst 4, 1), (27, .iushr, 1), (28, .iadd, 1), (29, .ldc_w 267, 3), (32, .iand, 1), (33, .istore_n 0, 1), (34, .iload_n 0, 1), (35, .iload_n 0, 1), (36, .bipush 8, 2), (38, .iushr, 1), (39, .iadd, 1), (40, .istore_n 0, 1), (41, .iload_n 0, 1), (42, .iload_n 0, 1), (43, .bipush 16, 2), (45, .iushr, 1), (46, .iadd, 1), (47, .istore_n 0, 1), (48, .iload_n 0, 1), (49, .bipush 63, 2), (51, .iand, 1), (52, .ireturn, 1)] : List (Nat × Instr × Nat)), decode cJ6_bitCount_0f7a4 q.1 = .ok q.2 := by decide +kernel
theorem dJ6_bitCount_0f7a4_0 : decode cJ6_bitCount_0f7a4 0 = .ok (.iload_n 0, 1) := DJ6_bitCount_0f7a4 (0, .iload_n 0, 1) (List.mem_of_getElem? (i := 0) rfl)
theorem dJ6_bitCount_0f7a4_1 : decode cJ6_bitCount_0f7a4 1 = .ok (.iload_n 0, 1) := DJ6_bitCount_0f7a4 (1, .iload_n 0, 1) (List.mem_of_getElem? (i := 1) rfl)
theorem dJ6_bitCount_0f7a4_2 : decode cJ6_bitCount_0f7a4 2 = .ok (.iconst 1, 1) := DJ6_bitCount_0f7a4 (2, .iconst 1, 1) (List.mem_of_getElem? (i := 2) rfl)
theorem dJ6_bitCount_0f7a4_3 : decode cJ6_bitCount_0f7a4 3 = .ok (.iushr, 1) := DJ6_bitCount_0f7a4 (3, .iushr, 1) (List.mem_of_getElem? (i := 3) rfl)
theorem dJ6_bitCount_0f7a4_4 : decode cJ6_bitCount_0f7a4 4 = .ok (.ldc_w 265, 3) := DJ6_bitCount_0f7a4 (4, .ldc_w 265, 3) (List.mem_of_getElem? (i := 4) rfl)
theorem dJ6_bitCount_0f7a4_7 : decode cJ6_bitCount_0f7a4 7 = .ok (.iand, 1) := DJ6_bitCount_0f7a4 (7, .iand, 1) (List.mem_of_getElem? (i := 5) rfl)
theorem dJ6_bitCount_0f7a4_8 : decode cJ6_bitCount_0f7a4 8 = .ok (.isub, 1) := DJ6_bitCount_0f7a4 (8, .isub, 1) (List.mem_of_getElem? (i := 6) rfl)
theorem dJ6_bitCount_0f7a4_9 : decode cJ6_bitCount_0f7a4 9 = .ok (.istore_n 0, 1) := DJ6_bitCount_0f7a4 (9, .istore_n 0, 1) (List.mem_of_getElem? (i := 7) rfl)
theorem dJ6_bitCount_0f7a4_10 : decode cJ6_bitCount_0f7a4 10 = .ok (.iload_n 0, 1) := DJ6_bitCount_0f7a4 (10, .iload_n 0, 1) (List.mem_of_getElem? (i := 8) rfl)
theorem dJ6_bitCount_0f7a4_11 : decode cJ6_bitCount_0f7a4 11 = .ok (.ldc_w 266, 3) := DJ6_bitCount_0f7a4 (11, .ldc_w 266, 3) (List.mem_of_getElem? (i := 9) rfl)
theorem dJ6_bitCount_0f7a4_14 : decode cJ6_bitCount_0f7a4 14 = .ok (.iand, 1) := DJ6_bitCount_0f7a4 (14, .iand, 1) (List.mem_of_getElem? (i := 10) rfl)
theorem dJ6_bitCount_0f7a4_15 : decode cJ6_bitCount_0f7a4 15 = .ok (.iload_n 0, 1) := DJ6_bitCount_0f7a4 (15, .iload_n 0, 1) (List.mem_of_getElem? (i := 11) rfl)
theorem dJ6_bitCount_0f7a4_16 : decode cJ6_bitCount_0f7a4 16 = .ok (.iconst 2, 1) := DJ6_bitCount_0f7a4 (16, .iconst 2, 1) (List.mem_of_getElem? (i := 12) rfl)
theorem dJ6_bitCount_0f7a4_17 : decode cJ6_bitCount_0f7a4 17 = .ok (.iushr, 1) := DJ6_bitCount_0f7a4 (17, .iushr, 1) (List.mem_of_getElem? (i := 13) rfl)
theorem dJ6_bitCount_0f7a4_18 : decode cJ6_bitCount_0f7a4 18 = .ok (.ldc_w 266, 3) := DJ6_bitCount_0f7a4 (18, .ldc_w 266, 3) (List.mem_of_getElem? (i := 14) rfl)
theorem dJ6_bitCount_0f7a4_21 : decode cJ6_bitCount_0f7a4 21 = .ok (.iand, 1) := DJ6_bitCount_0f7a4 (21, .iand, 1) (List.mem_of_getElem? (i := 15) rfl)
theorem dJ6_bitCount_0f7a4_22 : decode cJ6_bitCount_0f7a4 22 = .ok (.iadd, 1) := DJ6_bitCount_0f7a4 (22, .iadd, 1) (List.mem_of_getElem? (i := 16) rfl)
theorem dJ6_bitCount_0f7a4_23 : decode cJ6_bitCount_0f7a4 23 = .ok (.istore_n 0, 1) := DJ6_bitCount_0f7a4 (23, .istore_n 0, 1) (List.mem_of_getElem? (i := 17) rfl)
theorem dJ6_bitCount_0f7a4_24 : decode cJ6_bitCount_0f7a4 24 = .ok (.iload_n 0, 1) := DJ6_bitCount_0f7a4 (24, .iload_n 0, 1) (List.mem_of_getElem? (i := 18) rfl)
theorem dJ6_bitCount_0f7a4_25 : decode cJ6_bitCount_0f7a4 25 = .ok (.iload_n 0, 1) := DJ6_bitCount_0f7a4 (25, .iload_n 0, 1) (List.mem_of_getElem? (i := 19) rfl)
theorem dJ6_bitCount_0f7a4_26 : decode cJ6_bitCount_0f7a4 26 = .ok (.iconst 4, 1) := DJ6_bitCount_0f7a4 (26, .iconst 4, 1) (List.mem_of_getElem? (i := 20) rfl)
theorem dJ6_bitCount_0f7a4_27 : decode cJ6_bitCount_0f7a4 27 = .ok (.iushr, 1) := DJ6_bitCount_0f7a4 (27, .iushr, 1) (List.mem_of_getElem? (i := 21) rfl)
theorem dJ6_bitCount_0f7a4_28 : decode cJ6_bitCount_0f7a4 28 = .ok (.iadd, 1) := DJ6_bitCount_0f7a4 (28, .iadd, 1) (List.mem_of_getElem? (i := 22) rfl)
theorem dJ6_bitCount_0f7a4_29 : decode cJ6_bitCount_0f7a4 29 = .ok (.ldc_w 267, 3) := DJ6_bitCount_0f7a4 (29, .ldc_w 267, 3) (List.mem_of_getElem? (i := 23) rfl)
theorem dJ6_bitCount_0f7a4_32 : decode cJ6_bitCount_0f7a4 32 = .ok (.iand, 1) := DJ6_bitCount_0f7a4 (32, .iand, 1) (List.mem_of_getElem? (i := 24) rfl)
theorem dJ6_bitCount_0f7a4_33 : decode cJ6_bitCount_0f7a4 33 = .ok (.istore_n 0, 1) := DJ6_bitCount_0f7a4 (33, .istore_n 0, 1) (List.mem_of_getElem? (i := 25) rfl)
theorem dJ6_bitCount_0f7a4_34 : decode cJ6_bitCount_0f7a4 34 = .ok (.iload_n 0, 1) := DJ6_bitCount_0f7a4 (34, .iload_n 0, 1) (List.mem_of_getElem? (i := 26) rfl)
theorem dJ6_bitCount_0f7a4_35 : decode cJ6_bitCount_0f7a4 35 = .ok (.iload_n 0, 1) := DJ6_bitCount_0f7a4 (35, .iload_n 0, 1) (List.mem_of_getElem? (i := 27) rfl)
theorem dJ6_bitCount_0f7a4_36 : decode cJ6_bitCount_0f7a4 36 = .ok (.bipush 8, 2) := DJ6_bitCount_0f7a4 (36, .bipush 8, 2) (List.mem_of_getElem? (i := 28) rfl)
theorem dJ6_bitCount_0f7a4_38 : decode cJ6_bitCount_0f7a4 38 = .ok (.iushr, 1) := DJ6_bitCount_0f7a4 (38, .iushr, 1) (List.mem_of_getElem? (i := 29) rfl)
theorem dJ6_bitCount_0f7a4_39 : decode cJ6_bitCount_0f7a4 39 = .ok (.iadd, 1) := DJ6_bitCount_0f7a4 (39, .iadd, 1) (List.mem_of_getElem? (i := 30) rfl)
theorem dJ6_bitCount_0f7a4_40 : decode cJ6_bitCount_0f7a4 40 = .ok (.istore_n 0, 1) := DJ6_bitCount_0f7a4 (40, .istore_n 0, 1) (List.mem_of_getElem? (i := 31) rfl)
theorem dJ6_bitCount_0f7a4_41 : decode cJ6_bitCount_0f7a4 41 = .ok (.iload_n 0, 1) := DJ6_bitCount_0f7a4 (41, .iload_n 0, 1) (List.mem_of_getElem? (i := 32) rfl)
theorem dJ6_bitCount_0f7a4_42 : decode cJ6_bitCount_0f7a4 42 = .ok (.iload_n 0, 1) := DJ6_bitCount_0f7a4 (42, .iload_n 0, 1) (List.mem_of_getElem? (i := 33) rfl)
theorem dJ6_bitCount_0f7a4_43 : decode cJ6_bitCount_0f7a4 43 = .ok (.bipush 16, 2) := DJ6_bitCount_0f7a4 (43, .bipush 16, 2) (List.mem_of_getElem? (i := 34) rfl)
theorem dJ6_bitCount_0f7a4_45 : decode cJ6_bitCount_0f7a4 45 = .ok (.iushr, 1) := DJ6_bitCount_0f7a4 (45, .iushr, 1) (List.mem_of_getElem? (i := 35) rfl)
theorem dJ6_bitCount_0f7a4_46 : decode cJ6_bitCount_0f7a4 46 = .ok (.iadd, 1) := DJ6_bitCount_0f7a4 (46, .iadd, 1) (List.mem_of_getElem? (i := 36) rfl)
theorem dJ6_bitCount_0f7a4_47 : decode cJ6_bitCount_0f7a4 47 = .ok (.istore_n 0, 1) := DJ6_bitCount_0f7a4 (47, .istore_n 0, 1) (List.mem_of_getElem? (i := 37) rfl)
theorem dJ6_bitCount_0f7a4_48 : decode cJ6_bitCount_0f7a4 48 = .ok (.iload_n 0, 1) := DJ6_bitCount_0f7a4 (48, .iload_n 0, 1) (List.mem_of_getElem? (i := 38) rfl)
theorem dJ6_bitCount_0f7a4_49 : decode cJ6_bitCount_0f7a4 49 = .ok (.bipush 63, 2) := DJ6_bitCount_0f7a4 (49, .bipush 63, 2) (List.mem_of_getElem? (i := 39) rfl)
theorem dJ6_bitCount_0f7a4_51 : decode cJ6_bitCount_0f7a4 51 = .ok (.iand, 1) := DJ6_bitCount_0f7a4 (51, .iand, 1) (List.mem_of_getElem? (i := 40) rfl)
theorem dJ6_bitCount_0f7a4_52 : decode cJ6_bitCount_0f7a4 52 = .ok (.ireturn, 1) := DJ6_bitCount_0f7a4 (52, .ireturn, 1) (List.mem_of_getElem? (i := 41) rfl)
noncomputable def fJ6_bitCount_0f7a4 (a1 : Int32) (σ : Mem) : Option (Int32 × Mem) :=
  some ((((((((a1 - ((iushrV a1 1) &&& 1431655765)) &&& 858993459) + ((iushrV (a1 - ((iushrV a1 1) &&& 1431655765)) 2) &&& 858993459)) + (iushrV (((a1 - ((iushrV a1 1) &&& 1431655765)) &&& 858993459) + ((iushrV (a1 - ((iushrV a1 1) &&& 1431655765)) 2) &&& 858993459)) 4)) &&& 252645135) + (iushrV (((((a1 - ((iushrV a1 1) &&& 1431655765)) &&& 858993459) + ((iushrV (a1 - ((iushrV a1 1) &&& 1431655765)) 2) &&& 858993459)) + (iushrV (((a1 - ((iushrV a1 1) &&& 1431655765)) &&& 858993459) + ((iushrV (a1 - ((iushrV a1 1) &&& 1431655765)) 2) &&& 858993459)) 4)) &&& 252645135) 8)) + (iushrV ((((((a1 - ((iushrV a1 1) &&& 1431655765)) &&& 858993459) + ((iushrV (a1 - ((iushrV a1 1) &&& 1431655765)) 2) &&& 858993459)) + (iushrV (((a1 - ((iushrV a1 1) &&& 1431655765)) &&& 858993459) + ((iushrV (a1 - ((iushrV a1 1) &&& 1431655765)) 2) &&& 858993459)) 4)) &&& 252645135) + (iushrV (((((a1 - ((iushrV a1 1) &&& 1431655765)) &&& 858993459) + ((iushrV (a1 - ((iushrV a1 1) &&& 1431655765)) 2) &&& 858993459)) + (iushrV (((a1 - ((iushrV a1 1) &&& 1431655765)) &&& 858993459) + ((iushrV (a1 - ((iushrV a1 1) &&& 1431655765)) 2) &&& 858993459)) 4)) &&& 252645135) 8)) 16)) &&& 63, σ)
set_option maxHeartbeats 4000000 in
set_option maxRecDepth 100000 in
theorem mJ6_bitCount_0f7a4 {l : Launch} {D : va_G} {cI : ClassId} {ad : Nat → Nat} {a1 : Int32} {σ : Mem} {out : Int32 × Mem} (h : fJ6_bitCount_0f7a4 a1 σ = some out) : MI l D cI layX ad yJ6_bitCount_0f7a4 cJ6_bitCount_0f7a4 1 .int rmJ6_bitCount_0f7a4 [.int a1] σ out := by
  refine met_i (by decide) (Nat.le_of_ble_eq_true rfl) (fun E C K0 => ?_)
  show G E rmJ6_bitCount_0f7a4 cI layX ad 1 0 [(0, .int a1)] [] σ
  unfold fJ6_bitCount_0f7a4 at h
  refine g_iload_n 1 C dJ6_bitCount_0f7a4_0 rfl (j := 0) rfl rfl ?_
  refine g_iload_n 2 C dJ6_bitCount_0f7a4_1 rfl (j := 0) rfl rfl ?_
  refine g_iconst 3 (v := 1) C dJ6_bitCount_0f7a4_2 (by decide) rfl ?_
  refine g_iushr 4 C dJ6_bitCount_0f7a4_3 rfl ?_
  refine g_ldcw 7 (v := 1431655765) C dJ6_bitCount_0f7a4_4 wk_J6_265 rfl ?_
  refine g_iand 8 C dJ6_bitCount_0f7a4_7 rfl ?_
  refine g_isub 9 C dJ6_bitCount_0f7a4_8 rfl ?_
  refine g_istore_n 10 [(0, .int (a1 - ((iushrV a1 1) &&& 1431655765)))] C dJ6_bitCount_0f7a4_9 rfl (by decide) rfl rfl ?_
  refine g_iload_n 11 C dJ6_bitCount_0f7a4_10 rfl (j := 0) rfl rfl ?_
  refine g_ldcw 14 (v := 858993459) C dJ6_bitCount_0f7a4_11 wk_J6_266 rfl ?_
  refine g_iand 15 C dJ6_bitCount_0f7a4_14 rfl ?_
  refine g_iload_n 16 C dJ6_bitCount_0f7a4_15 rfl (j := 0) rfl rfl ?_
  refine g_iconst 17 (v := 2) C dJ6_bitCount_0f7a4_16 (by decide) rfl ?_
  refine g_iushr 18 C dJ6_bitCount_0f7a4_17 rfl ?_
  refine g_ldcw 21 (v := 858993459) C dJ6_bitCount_0f7a4_18 wk_J6_266 rfl ?_
  refine g_iand 22 C dJ6_bitCount_0f7a4_21 rfl ?_
  refine g_iadd 23 C dJ6_bitCount_0f7a4_22 rfl ?_
  refine g_istore_n 24 [(0, .int (((a1 - ((iushrV a1 1) &&& 1431655765)) &&& 858993459) + ((iushrV (a1 - ((iushrV a1 1) &&& 1431655765)) 2) &&& 858993459)))] C dJ6_bitCount_0f7a4_23 rfl (by decide) rfl rfl ?_
  refine g_iload_n 25 C dJ6_bitCount_0f7a4_24 rfl (j := 0) rfl rfl ?_
  refine g_iload_n 26 C dJ6_bitCount_0f7a4_25 rfl (j := 0) rfl rfl ?_
  refine g_iconst 27 (v := 4) C dJ6_bitCount_0f7a4_26 (by decide) rfl ?_
  refine g_iushr 28 C dJ6_bitCount_0f7a4_27 rfl ?_
  refine g_iadd 29 C dJ6_bitCount_0f7a4_28 rfl ?_
  refine g_ldcw 32 (v := 252645135) C dJ6_bitCount_0f7a4_29 wk_J6_267 rfl ?_
  refine g_iand 33 C dJ6_bitCount_0f7a4_32 rfl ?_
  refine g_istore_n 34 [(0, .int (((((a1 - ((iushrV a1 1) &&& 1431655765)) &&& 858993459) + ((iushrV (a1 - ((iushrV a1 1) &&& 1431655765)) 2) &&& 858993459)) + (iushrV (((a1 - ((iushrV a1 1) &&& 1431655765)) &&& 858993459) + ((iushrV (a1 - ((iushrV a1 1) &&& 1431655765)) 2) &&& 858993459)) 4)) &&& 252645135))] C dJ6_bitCount_0f7a4_33 rfl (by decide) rfl rfl ?_
  refine g_iload_n 35 C dJ6_bitCount_0f7a4_34 rfl (j := 0) rfl rfl ?_
  refine g_iload_n 36 C dJ6_bitCount_0f7a4_35 rfl (j := 0) rfl rfl ?_
  refine g_bipush 38 (v := 8) C dJ6_bitCount_0f7a4_36 (by decide) rfl ?_
  refine g_iushr 39 C dJ6_bitCount_0f7a4_38 rfl ?_
  refine g_iadd 40 C dJ6_bitCount_0f7a4_39 rfl ?_
  refine g_istore_n 41 [(0, .int ((((((a1 - ((iushrV a1 1) &&& 1431655765)) &&& 858993459) + ((iushrV (a1 - ((iushrV a1 1) &&& 1431655765)) 2) &&& 858993459)) + (iushrV (((a1 - ((iushrV a1 1) &&& 1431655765)) &&& 858993459) + ((iushrV (a1 - ((iushrV a1 1) &&& 1431655765)) 2) &&& 858993459)) 4)) &&& 252645135) + (iushrV (((((a1 - ((iushrV a1 1) &&& 1431655765)) &&& 858993459) + ((iushrV (a1 - ((iushrV a1 1) &&& 1431655765)) 2) &&& 858993459)) + (iushrV (((a1 - ((iushrV a1 1) &&& 1431655765)) &&& 858993459) + ((iushrV (a1 - ((iushrV a1 1) &&& 1431655765)) 2) &&& 858993459)) 4)) &&& 252645135) 8)))] C dJ6_bitCount_0f7a4_40 rfl (by decide) rfl rfl ?_
  refine g_iload_n 42 C dJ6_bitCount_0f7a4_41 rfl (j := 0) rfl rfl ?_
  refine g_iload_n 43 C dJ6_bitCount_0f7a4_42 rfl (j := 0) rfl rfl ?_
  refine g_bipush 45 (v := 16) C dJ6_bitCount_0f7a4_43 (by decide) rfl ?_
  refine g_iushr 46 C dJ6_bitCount_0f7a4_45 rfl ?_
  refine g_iadd 47 C dJ6_bitCount_0f7a4_46 rfl ?_
  refine g_istore_n 48 [(0, .int (((((((a1 - ((iushrV a1 1) &&& 1431655765)) &&& 858993459) + ((iushrV (a1 - ((iushrV a1 1) &&& 1431655765)) 2) &&& 858993459)) + (iushrV (((a1 - ((iushrV a1 1) &&& 1431655765)) &&& 858993459) + ((iushrV (a1 - ((iushrV a1 1) &&& 1431655765)) 2) &&& 858993459)) 4)) &&& 252645135) + (iushrV (((((a1 - ((iushrV a1 1) &&& 1431655765)) &&& 858993459) + ((iushrV (a1 - ((iushrV a1 1) &&& 1431655765)) 2) &&& 858993459)) + (iushrV (((a1 - ((iushrV a1 1) &&& 1431655765)) &&& 858993459) + ((iushrV (a1 - ((iushrV a1 1) &&& 1431655765)) 2) &&& 858993459)) 4)) &&& 252645135) 8)) + (iushrV ((((((a1 - ((iushrV a1 1) &&& 1431655765)) &&& 858993459) + ((iushrV (a1 - ((iushrV a1 1) &&& 1431655765)) 2) &&& 858993459)) + (iushrV (((a1 - ((iushrV a1 1) &&& 1431655765)) &&& 858993459) + ((iushrV (a1 - ((iushrV a1 1) &&& 1431655765)) 2) &&& 858993459)) 4)) &&& 252645135) + (iushrV (((((a1 - ((iushrV a1 1) &&& 1431655765)) &&& 858993459) + ((iushrV (a1 - ((iushrV a1 1) &&& 1431655765)) 2) &&& 858993459)) + (iushrV (((a1 - ((iushrV a1 1) &&& 1431655765)) &&& 858993459) + ((iushrV (a1 - ((iushrV a1 1) &&& 1431655765)) 2) &&& 858993459)) 4)) &&& 252645135) 8)) 16)))] C dJ6_bitCount_0f7a4_47 rfl (by decide) rfl rfl ?_
  refine g_iload_n 49 C dJ6_bitCount_0f7a4_48 rfl (j := 0) rfl rfl ?_
  refine g_bipush 51 (v := 63) C dJ6_bitCount_0f7a4_49 (by decide) rfl ?_
  refine g_iand 52 C dJ6_bitCount_0f7a4_51 rfl ?_
  cases h
  exact K0 _ _ dJ6_bitCount_0f7a4_52 rfl

/-! LoopReducer$Names.isAsked(I)Z -/
abbrev rmX3_isAsked : Room := { frames := 1, cells := 0, slots := 0, locals := 21 }
theorem qX3_isAsked : yX3_isAsked.cls ≠ "java/lang/invoke/MethodHandle" ∧ yX3_isAsked.cls ≠ "java/lang/invoke/VarHandle" ∧ (parseMethodDescriptor yX3_isAsked.desc).map (fun d => d.parameters.length) = some 1 := by decide +kernel
theorem DX3_isAsked : ∀ q ∈ ([(0, .aload_n 0, 1), (1, .invokevirtual 59, 3), (4, .iload_n 1, 1), (5, .invokestatic 63, 3), (8, .ireturn, 1)] : List (Nat × Instr × Nat)), decode cX3_isAsked q.1 = .ok q.2 := by decide +kernel
theorem dX3_isAsked_0 : decode cX3_isAsked 0 = .ok (.aload_n 0, 1) := DX3_isAsked (0, .aload_n 0, 1) (List.mem_of_getElem? (i := 0) rfl)
theorem dX3_isAsked_1 : decode cX3_isAsked 1 = .ok (.invokevirtual 59, 3) := DX3_isAsked (1, .invokevirtual 59, 3) (List.mem_of_getElem? (i := 1) rfl)
theorem dX3_isAsked_4 : decode cX3_isAsked 4 = .ok (.iload_n 1, 1) := DX3_isAsked (4, .iload_n 1, 1) (List.mem_of_getElem? (i := 2) rfl)
theorem dX3_isAsked_5 : decode cX3_isAsked 5 = .ok (.invokestatic 63, 3) := DX3_isAsked (5, .invokestatic 63, 3) (List.mem_of_getElem? (i := 3) rfl)
theorem dX3_isAsked_8 : decode cX3_isAsked 8 = .ok (.ireturn, 1) := DX3_isAsked (8, .ireturn, 1) (List.mem_of_getElem? (i := 4) rfl)
noncomputable def fX3_isAsked (a1 : Int32) (σ : Mem) : Option (Int32 × Mem) :=
  (fX3_asked σ).bind fun o1 =>
  (fX7_isIn o1.1 a1 o1.2).bind fun o2 =>
  chk (o2.1 == 0 || o2.1 == 1) <|
  some (o2.1, o2.2)
set_option maxHeartbeats 4000000 in
set_option maxRecDepth 100000 in
theorem mX3_isAsked {l : Launch} {D : va_G} {cI : ClassId} {ad : Nat → Nat} {a1 : Int32} {σ : Mem} {out : Int32 × Mem} (h : fX3_isAsked a1 σ = some out) : MI l D cI layX ad yX3_isAsked cX3_isAsked 2 .boolean rmX3_isAsked [.ref (ad 3), .int a1] σ out := by
  refine met_i (by decide) (Nat.le_of_ble_eq_true rfl) (fun E C K0 => ?_)
  show G E rmX3_isAsked cI layX ad 2 0 [(0, .ref (ad 3)), (1, .int a1)] [] σ
  unfold fX3_isAsked at h
  refine g_aload_n 1 C dX3_isAsked_0 rfl (j := 0) rfl rfl ?_
  refine g_cvi 4 C (As := []) (fun _ h => mX3_asked (σ := σ) h) wl_X3_59 wi_X3_asked wz_X3_asked wc_X3_asked wn_X3 qX3_asked rfl rfl ⟨Nat.le_of_ble_eq_true rfl, Nat.le_of_ble_eq_true rfl⟩ rfl rfl rfl rfl (Nat.le_of_ble_eq_true rfl) dX3_isAsked_1 rfl h (fun o1 h => ?_)
  refine g_iload_n 5 C dX3_isAsked_4 rfl (j := 1) rfl rfl ?_
  refine g_cti 8 C (As := [.int o1.1, .int a1]) (fun _ h => mX7_isIn (a1 := o1.1) (a2 := a1) (σ := o1.2) h) (List.mem_of_getElem? (i := 11) rfl) ws_X7_isIn wc_X7_isIn wn_X7 qX7_isIn rfl rfl ⟨Nat.le_of_ble_eq_true rfl, Nat.le_of_ble_eq_true rfl⟩ rfl rfl (Nat.le_of_ble_eq_true rfl) dX3_isAsked_5 rfl h (fun o2 h => ?_)
  obtain ⟨hz, h⟩ := chk_some h
  cases h
  exact K0 _ _ dX3_isAsked_8 (zb_nar hz)

/-! LoopReducer$Names.isUsed(I)Z -/
abbrev rmX3_isUsed : Room := { frames := 1, cells := 0, slots := 0, locals := 22 }
theorem qX3_isUsed : yX3_isUsed.cls ≠ "java/lang/invoke/MethodHandle" ∧ yX3_isUsed.cls ≠ "java/lang/invoke/VarHandle" ∧ (parseMethodDescriptor yX3_isUsed.desc).map (fun d => d.parameters.length) = some 1 := by decide +kernel
theorem DX3_isUsed : ∀ q ∈ ([(0, .iconst 0, 1), (1, .istore_n 2, 1), (2, .iload_n 2, 1), (3, .aload_n 0, 1), (4, .getfield 40, 3), (7, .if_icmp .ge 25, 3), (10, .iload_n 2, 1), (11, .iload_n 1, 1), (12, .if_icmp .eq 14, 3), (15, .aload_n 0, 1), (16, .iload_n 2, 1), (17, .iload_n 1, 1), (18, .invokevirtual 70, 3), (21, .ifCond .eq 5, 3), (24, .iconst 1, 1), (25, .ireturn, 1), (26, .iinc 2 1, 3), (29, .goto (-27), 3), (32, .iconst 0, 1), (33, .ireturn, 1)] : List (Nat × Instr × Nat)), decode cX3_isUsed q.1 = .ok q.2 := by decide +kernel
theorem dX3_isUsed_0 : decode cX3_isUsed 0 = .ok (.iconst 0, 1) := DX3_isUsed (0, .iconst 0, 1) (List.mem_of_getElem? (i := 0) rfl)
theorem dX3_isUsed_1 : decode cX3_isUsed 1 = .ok (.istore_n 2, 1) := DX3_isUsed (1, .istore_n 2, 1) (List.mem_of_getElem? (i := 1) rfl)
theorem dX3_isUsed_2 : decode cX3_isUsed 2 = .ok (.iload_n 2, 1) := DX3_isUsed (2, .iload_n 2, 1) (List.mem_of_getElem? (i := 2) rfl)
theorem dX3_isUsed_3 : decode cX3_isUsed 3 = .ok (.aload_n 0, 1) := DX3_isUsed (3, .aload_n 0, 1) (List.mem_of_getElem? (i := 3) rfl)
theorem dX3_isUsed_4 : decode cX3_isUsed 4 = .ok (.getfield 40, 3) := DX3_isUsed (4, .getfield 40, 3) (List.mem_of_getElem? (i := 4) rfl)
theorem dX3_isUsed_7 : decode cX3_isUsed 7 = .ok (.if_icmp .ge 25, 3) := DX3_isUsed (7, .if_icmp .ge 25, 3) (List.mem_of_getElem? (i := 5) rfl)
theorem dX3_isUsed_10 : decode cX3_isUsed 10 = .ok (.iload_n 2, 1) := DX3_isUsed (10, .iload_n 2, 1) (List.mem_of_getElem? (i := 6) rfl)
theorem dX3_isUsed_11 : decode cX3_isUsed 11 = .ok (.iload_n 1, 1) := DX3_isUsed (11, .iload_n 1, 1) (List.mem_of_getElem? (i := 7) rfl)
theorem dX3_isUsed_12 : decode cX3_isUsed 12 = .ok (.if_icmp .eq 14, 3) := DX3_isUsed (12, .if_icmp .eq 14, 3) (List.mem_of_getElem? (i := 8) rfl)
theorem dX3_isUsed_15 : decode cX3_isUsed 15 = .ok (.aload_n 0, 1) := DX3_isUsed (15, .aload_n 0, 1) (List.mem_of_getElem? (i := 9) rfl)
theorem dX3_isUsed_16 : decode cX3_isUsed 16 = .ok (.iload_n 2, 1) := DX3_isUsed (16, .iload_n 2, 1) (List.mem_of_getElem? (i := 10) rfl)
theorem dX3_isUsed_17 : decode cX3_isUsed 17 = .ok (.iload_n 1, 1) := DX3_isUsed (17, .iload_n 1, 1) (List.mem_of_getElem? (i := 11) rfl)
theorem dX3_isUsed_18 : decode cX3_isUsed 18 = .ok (.invokevirtual 70, 3) := DX3_isUsed (18, .invokevirtual 70, 3) (List.mem_of_getElem? (i := 12) rfl)
theorem dX3_isUsed_21 : decode cX3_isUsed 21 = .ok (.ifCond .eq 5, 3) := DX3_isUsed (21, .ifCond .eq 5, 3) (List.mem_of_getElem? (i := 13) rfl)
theorem dX3_isUsed_24 : decode cX3_isUsed 24 = .ok (.iconst 1, 1) := DX3_isUsed (24, .iconst 1, 1) (List.mem_of_getElem? (i := 14) rfl)
theorem dX3_isUsed_25 : decode cX3_isUsed 25 = .ok (.ireturn, 1) := DX3_isUsed (25, .ireturn, 1) (List.mem_of_getElem? (i := 15) rfl)
theorem dX3_isUsed_26 : decode cX3_isUsed 26 = .ok (.iinc 2 1, 3) := DX3_isUsed (26, .iinc 2 1, 3) (List.mem_of_getElem? (i := 16) rfl)
theorem dX3_isUsed_29 : decode cX3_isUsed 29 = .ok (.goto (-27), 3) := DX3_isUsed (29, .goto (-27), 3) (List.mem_of_getElem? (i := 17) rfl)
theorem dX3_isUsed_32 : decode cX3_isUsed 32 = .ok (.iconst 0, 1) := DX3_isUsed (32, .iconst 0, 1) (List.mem_of_getElem? (i := 18) rfl)
theorem dX3_isUsed_33 : decode cX3_isUsed 33 = .ok (.ireturn, 1) := DX3_isUsed (33, .ireturn, 1) (List.mem_of_getElem? (i := 19) rfl)
noncomputable def fX3_isUsed_L26 (l1 : Int32) (l2 : Int32) (σ : Mem) : Option ((Int32 × Mem) ⊕ ((Mem) ⊕ (Int32 × Mem))) :=
  some (.inl (l2 + 1, σ))
set_option maxHeartbeats 4000000 in
set_option maxRecDepth 100000 in
theorem tX3_isUsed_L26 {E : Gx} {cI : ClassId} {ad : Nat → Nat} (C : Cx E rmX3_isUsed cI layX ad 3 RX3 cX3_isUsed) {out : Int32 × Mem} (K0 : KI E rmX3_isUsed cI layX ad 3 cX3_isUsed .boolean out) {l1 : Int32} {l2 : Int32} {σ : Mem} {res : (Int32 × Mem) ⊕ ((Mem) ⊕ (Int32 × Mem))} (h : fX3_isUsed_L26 l1 l2 σ = some res) (K : Sum.elim (fun a => G E rmX3_isUsed cI layX ad 3 2 [(0, .ref (ad 3)), (1, .int l1), (2, .int a.1)] [] a.2) (Sum.elim (fun b => G E rmX3_isUsed cI layX ad 3 32 [] [] b) (fun b => b = out)) res) : G E rmX3_isUsed cI layX ad 3 26 [(0, .ref (ad 3)), (1, .int l1), (2, .int l2)] [] σ := by
  unfold fX3_isUsed_L26 at h
  refine g_iinc 29 [(2, .int (l2 + 1)), (0, .ref (ad 3)), (1, .int l1)] C dX3_isUsed_26 (j := 2) rfl (by rfl) (by decide) rfl rfl ?_
  refine g_goto 2 C dX3_isUsed_29 (by decide) ?_
  have hh := end_inl h K
  exact g_sub [1, 2, 0] (hh) rfl
noncomputable def fX3_isUsed_B2 (l1 : Int32) (l2 : Int32) (σ : Mem) : Option ((Int32 × Mem) ⊕ ((Mem) ⊕ (Int32 × Mem))) :=
  if (σ 3 4) ≤ l2 then
    some (.inr (.inl σ))
  else
    if l2 = l1 then
      fX3_isUsed_L26 l1 l2 σ
    else
      (fX3_usesIt l2 l1 σ).bind fun o1 =>
      if o1.1 = 0 then
        fX3_isUsed_L26 l1 l2 o1.2
      else
        some (.inr (.inr (1, o1.2)))
set_option maxHeartbeats 4000000 in
set_option maxRecDepth 100000 in
theorem tX3_isUsed_B2 {E : Gx} {cI : ClassId} {ad : Nat → Nat} (C : Cx E rmX3_isUsed cI layX ad 3 RX3 cX3_isUsed) {out : Int32 × Mem} (K0 : KI E rmX3_isUsed cI layX ad 3 cX3_isUsed .boolean out) {l1 : Int32} {l2 : Int32} {σ : Mem} {res : (Int32 × Mem) ⊕ ((Mem) ⊕ (Int32 × Mem))} (h : fX3_isUsed_B2 l1 l2 σ = some res) (K : Sum.elim (fun a => G E rmX3_isUsed cI layX ad 3 2 [(0, .ref (ad 3)), (1, .int l1), (2, .int a.1)] [] a.2) (Sum.elim (fun b => G E rmX3_isUsed cI layX ad 3 32 [] [] b) (fun b => b = out)) res) : G E rmX3_isUsed cI layX ad 3 2 [(0, .ref (ad 3)), (1, .int l1), (2, .int l2)] [] σ := by
  unfold fX3_isUsed_B2 at h
  refine g_iload_n 3 C dX3_isUsed_2 rfl (j := 2) rfl rfl ?_
  refine g_aload_n 4 C dX3_isUsed_3 rfl (j := 0) rfl rfl ?_
  refine g_geti 7 (j := 4) C rfl rfl wu_X3 (by decide) wf_X3_40 rfl dX3_isUsed_4 rfl ?_
  refine g_icmp_ge 32 10 C dX3_isUsed_7 (by decide) rfl h (fun h => ?_) (fun h => ?_)
  · have hh := end_alt0_2 h K
    exact g_sub [] (hh) rfl
  · refine g_iload_n 11 C dX3_isUsed_10 rfl (j := 2) rfl rfl ?_
    refine g_iload_n 12 C dX3_isUsed_11 rfl (j := 1) rfl rfl ?_
    refine g_icmp_eq 26 15 C dX3_isUsed_12 (by decide) rfl h (fun h => ?_) (fun h => ?_)
    · exact tX3_isUsed_L26 (l1 := l1) (l2 := l2) (σ := σ) C K0 h K
    · refine g_aload_n 16 C dX3_isUsed_15 rfl (j := 0) rfl rfl ?_
      refine g_iload_n 17 C dX3_isUsed_16 rfl (j := 2) rfl rfl ?_
      refine g_iload_n 18 C dX3_isUsed_17 rfl (j := 1) rfl rfl ?_
      refine g_cvi 21 C (As := [.int l2, .int l1]) (fun _ h => mX3_usesIt (a1 := l2) (a2 := l1) (σ := σ) h) wl_X3_70 wi_X3_usesIt wz_X3_usesIt wc_X3_usesIt wn_X3 qX3_usesIt rfl rfl ⟨Nat.le_of_ble_eq_true rfl, Nat.le_of_ble_eq_true rfl⟩ rfl rfl rfl rfl (Nat.le_of_ble_eq_true rfl) dX3_isUsed_18 rfl h (fun o1 h => ?_)
      refine g_if_eq 26 24 C dX3_isUsed_21 (by decide) rfl h (fun h => ?_) (fun h => ?_)
      · exact tX3_isUsed_L26 (l1 := l1) (l2 := l2) (σ := o1.2) C K0 h K
      · refine g_iconst 25 (v := 1) C dX3_isUsed_24 (by decide) rfl ?_
        have ho := end_alt1_2 h K
        replace ho : (1, o1.2) = out := ho
        subst ho
        exact K0 _ _ dX3_isUsed_25 (zb_nar (x := 1) (by decide))
noncomputable def fX3_isUsed_L32 (σ : Mem) : Option (Int32 × Mem) :=
  some (0, σ)
set_option maxHeartbeats 4000000 in
set_option maxRecDepth 100000 in
theorem tX3_isUsed_L32 {E : Gx} {cI : ClassId} {ad : Nat → Nat} (C : Cx E rmX3_isUsed cI layX ad 3 RX3 cX3_isUsed) {out : Int32 × Mem} (K0 : KI E rmX3_isUsed cI layX ad 3 cX3_isUsed .boolean out) {σ : Mem} (h : fX3_isUsed_L32 σ = some out) : G E rmX3_isUsed cI layX ad 3 32 [] [] σ := by
  unfold fX3_isUsed_L32 at h
  refine g_iconst 33 (v := 0) C dX3_isUsed_32 (by decide) rfl ?_
  cases h
  exact K0 _ _ dX3_isUsed_33 (zb_nar (x := 0) (by decide))
noncomputable def fX3_isUsed (a1 : Int32) (σ : Mem) : Option (Int32 × Mem) :=
  (loop (fun a => fX3_isUsed_B2 a1 a.1 a.2) (0, σ)).bind (Sum.elim (fun b2x0 => fX3_isUsed_L32 b2x0) (fun b2r => some b2r))
set_option maxHeartbeats 4000000 in
set_option maxRecDepth 100000 in
theorem mX3_isUsed {l : Launch} {D : va_G} {cI : ClassId} {ad : Nat → Nat} {a1 : Int32} {σ : Mem} {out : Int32 × Mem} (h : fX3_isUsed a1 σ = some out) : MI l D cI layX ad yX3_isUsed cX3_isUsed 3 .boolean rmX3_isUsed [.ref (ad 3), .int a1] σ out := by
  refine met_i (by decide) (Nat.le_of_ble_eq_true rfl) (fun E C K0 => ?_)
  show G E rmX3_isUsed cI layX ad 3 0 [(0, .ref (ad 3)), (1, .int a1)] [] σ
  unfold fX3_isUsed at h
  refine g_iconst 1 (v := 0) C dX3_isUsed_0 (by decide) rfl ?_
  refine g_istore_n 2 [(2, .int 0), (0, .ref (ad 3)), (1, .int a1)] C dX3_isUsed_1 rfl (by decide) rfl rfl ?_
  obtain ⟨b2, hb, h⟩ := bind_some h
  refine g_sub [1, 2, 0] (g_loop (a := (0, σ)) (fun a => G E rmX3_isUsed cI layX ad 3 2 [(0, .ref (ad 3)), (1, .int a1), (2, .int a.1)] [] a.2) (Sum.elim (fun b => G E rmX3_isUsed cI layX ad 3 32 [] [] b) (fun b => b = out)) hb (fun a res h K => tX3_isUsed_B2 (l1 := a1) (l2 := a.1) (σ := a.2) (res := res) C K0 h K) ?_) rfl
  rcases b2 with b2x0 | b2r
  · show G E rmX3_isUsed cI layX ad 3 32 [] [] b2x0
    exact tX3_isUsed_L32 (σ := b2x0) C K0 h
  · exact end_top h

/-! LoopReducer$Names.takeLast()I -/
abbrev rmX3_takeLast : Room := { frames := 2, cells := 0, slots := 0, locals := 44 }
theorem qX3_takeLast : yX3_takeLast.cls ≠ "java/lang/invoke/MethodHandle" ∧ yX3_takeLast.cls ≠ "java/lang/invoke/VarHandle" ∧ (parseMethodDescriptor yX3_takeLast.desc).map (fun d => d.parameters.length) = some 0 := by decide +kernel
theorem DX3_takeLast : ∀ q ∈ ([(0, .aload_n 0, 1), (1, .getfield 40, 3), (4, .iconst 1, 1), (5, .isub, 1), (6, .istore_n 1, 1), (7, .iload_n 1, 1), (8, .ifCond .lt 19, 3), (11, .aload_n 0, 1), (12, .iload_n 1, 1), (13, .invokevirtual 53, 3), (16, .ifCond .ne 11, 3), (19, .aload_n 0, 1), (20, .iload_n 1, 1), (21, .invokevirtual 56, 3), (24, .ifCond .eq 5, 3), (27, .iconst (-1), 1), (28, .ireturn, 1), (29, .aload_n 0, 1), (30, .dup, 1), (31, .getfield 47, 3), (34, .aload_n 0, 1), (35, .getfield 9, 3), (38, .iload_n 1, 1), (39, .iaload, 1), (40, .iconst 1, 1), (41, .if_icmp .ne 7, 3), (44, .iconst 1, 1), (45, .goto 4, 3), (48, .iconst 0, 1), (49, .isub, 1), (50, .putfield 47, 3), (53, .aload_n 0, 1), (54, .dup, 1), (55, .getfield 50, 3), (58, .aload_n 0, 1), (59, .getfield 9, 3), (62, .iload_n 1, 1), (63, .iaload, 1), (64, .iconst 5, 1), (65, .if_icmp .ne 7, 3), (68, .iconst 1, 1), (69, .goto 4, 3), (72, .iconst 0, 1), (73, .isub, 1), (74, .putfield 50, 3), (77, .aload_n 0, 1), (78, .dup, 1), (79, .getfield 31, 3), (82, .iconst 1, 1), (83, .iadd, 1), (84, .putfield 31, 3), (87, .aload_n 0, 1), (88, .iload_n 1, 1), (89, .putfield 40, 3), (92, .aload_n 0, 1), (93, .getfield 40, 3), (96, .ireturn, 1)] : List (Nat × Instr × Nat)), decode cX3_takeLast q.1 = .ok q.2 := by decide +kernel
theorem dX3_takeLast_0 : decode cX3_takeLast 0 = .ok (.aload_n 0, 1) := DX3_takeLast (0, .aload_n 0, 1) (List.mem_of_getElem? (i := 0) rfl)
theorem dX3_takeLast_1 : decode cX3_takeLast 1 = .ok (.getfield 40, 3) := DX3_takeLast (1, .getfield 40, 3) (List.mem_of_getElem? (i := 1) rfl)
theorem dX3_takeLast_4 : decode cX3_takeLast 4 = .ok (.iconst 1, 1) := DX3_takeLast (4, .iconst 1, 1) (List.mem_of_getElem? (i := 2) rfl)
theorem dX3_takeLast_5 : decode cX3_takeLast 5 = .ok (.isub, 1) := DX3_takeLast (5, .isub, 1) (List.mem_of_getElem? (i := 3) rfl)
theorem dX3_takeLast_6 : decode cX3_takeLast 6 = .ok (.istore_n 1, 1) := DX3_takeLast (6, .istore_n 1, 1) (List.mem_of_getElem? (i := 4) rfl)
theorem dX3_takeLast_7 : decode cX3_takeLast 7 = .ok (.iload_n 1, 1) := DX3_takeLast (7, .iload_n 1, 1) (List.mem_of_getElem? (i := 5) rfl)
theorem dX3_takeLast_8 : decode cX3_takeLast 8 = .ok (.ifCond .lt 19, 3) := DX3_takeLast (8, .ifCond .lt 19, 3) (List.mem_of_getElem? (i := 6) rfl)
theorem dX3_takeLast_11 : decode cX3_takeLast 11 = .ok (.aload_n 0, 1) := DX3_takeLast (11, .aload_n 0, 1) (List.mem_of_getElem? (i := 7) rfl)
theorem dX3_takeLast_12 : decode cX3_takeLast 12 = .ok (.iload_n 1, 1) := DX3_takeLast (12, .iload_n 1, 1) (List.mem_of_getElem? (i := 8) rfl)
theorem dX3_takeLast_13 : decode cX3_takeLast 13 = .ok (.invokevirtual 53, 3) := DX3_takeLast (13, .invokevirtual 53, 3) (List.mem_of_getElem? (i := 9) rfl)
theorem dX3_takeLast_16 : decode cX3_takeLast 16 = .ok (.ifCond .ne 11, 3) := DX3_takeLast (16, .ifCond .ne 11, 3) (List.mem_of_getElem? (i := 10) rfl)
theorem dX3_takeLast_19 : decode cX3_takeLast 19 = .ok (.aload_n 0, 1) := DX3_takeLast (19, .aload_n 0, 1) (List.mem_of_getElem? (i := 11) rfl)
theorem dX3_takeLast_20 : decode cX3_takeLast 20 = .ok (.iload_n 1, 1) := DX3_takeLast (20, .iload_n 1, 1) (List.mem_of_getElem? (i := 12) rfl)
theorem dX3_takeLast_21 : decode cX3_takeLast 21 = .ok (.invokevirtual 56, 3) := DX3_takeLast (21, .invokevirtual 56, 3) (List.mem_of_getElem? (i := 13) rfl)
theorem dX3_takeLast_24 : decode cX3_takeLast 24 = .ok (.ifCond .eq 5, 3) := DX3_takeLast (24, .ifCond .eq 5, 3) (List.mem_of_getElem? (i := 14) rfl)
theorem dX3_takeLast_27 : decode cX3_takeLast 27 = .ok (.iconst (-1), 1) := DX3_takeLast (27, .iconst (-1), 1) (List.mem_of_getElem? (i := 15) rfl)
theorem dX3_takeLast_28 : decode cX3_takeLast 28 = .ok (.ireturn, 1) := DX3_takeLast (28, .ireturn, 1) (List.mem_of_getElem? (i := 16) rfl)
theorem dX3_takeLast_29 : decode cX3_takeLast 29 = .ok (.aload_n 0, 1) := DX3_takeLast (29, .aload_n 0, 1) (List.mem_of_getElem? (i := 17) rfl)
theorem dX3_takeLast_30 : decode cX3_takeLast 30 = .ok (.dup, 1) := DX3_takeLast (30, .dup, 1) (List.mem_of_getElem? (i := 18) rfl)
theorem dX3_takeLast_31 : decode cX3_takeLast 31 = .ok (.getfield 47, 3) := DX3_takeLast (31, .getfield 47, 3) (List.mem_of_getElem? (i := 19) rfl)
theorem dX3_takeLast_34 : decode cX3_takeLast 34 = .ok (.aload_n 0, 1) := DX3_takeLast (34, .aload_n 0, 1) (List.mem_of_getElem? (i := 20) rfl)
theorem dX3_takeLast_35 : decode cX3_takeLast 35 = .ok (.getfield 9, 3) := DX3_takeLast (35, .getfield 9, 3) (List.mem_of_getElem? (i := 21) rfl)
theorem dX3_takeLast_38 : decode cX3_takeLast 38 = .ok (.iload_n 1, 1) := DX3_takeLast (38, .iload_n 1, 1) (List.mem_of_getElem? (i := 22) rfl)
theorem dX3_takeLast_39 : decode cX3_takeLast 39 = .ok (.iaload, 1) := DX3_takeLast (39, .iaload, 1) (List.mem_of_getElem? (i := 23) rfl)
theorem dX3_takeLast_40 : decode cX3_takeLast 40 = .ok (.iconst 1, 1) := DX3_takeLast (40, .iconst 1, 1) (List.mem_of_getElem? (i := 24) rfl)
theorem dX3_takeLast_41 : decode cX3_takeLast 41 = .ok (.if_icmp .ne 7, 3) := DX3_takeLast (41, .if_icmp .ne 7, 3) (List.mem_of_getElem? (i := 25) rfl)
theorem dX3_takeLast_44 : decode cX3_takeLast 44 = .ok (.iconst 1, 1) := DX3_takeLast (44, .iconst 1, 1) (List.mem_of_getElem? (i := 26) rfl)
theorem dX3_takeLast_45 : decode cX3_takeLast 45 = .ok (.goto 4, 3) := DX3_takeLast (45, .goto 4, 3) (List.mem_of_getElem? (i := 27) rfl)
theorem dX3_takeLast_48 : decode cX3_takeLast 48 = .ok (.iconst 0, 1) := DX3_takeLast (48, .iconst 0, 1) (List.mem_of_getElem? (i := 28) rfl)
theorem dX3_takeLast_49 : decode cX3_takeLast 49 = .ok (.isub, 1) := DX3_takeLast (49, .isub, 1) (List.mem_of_getElem? (i := 29) rfl)
theorem dX3_takeLast_50 : decode cX3_takeLast 50 = .ok (.putfield 47, 3) := DX3_takeLast (50, .putfield 47, 3) (List.mem_of_getElem? (i := 30) rfl)
theorem dX3_takeLast_53 : decode cX3_takeLast 53 = .ok (.aload_n 0, 1) := DX3_takeLast (53, .aload_n 0, 1) (List.mem_of_getElem? (i := 31) rfl)
theorem dX3_takeLast_54 : decode cX3_takeLast 54 = .ok (.dup, 1) := DX3_takeLast (54, .dup, 1) (List.mem_of_getElem? (i := 32) rfl)
theorem dX3_takeLast_55 : decode cX3_takeLast 55 = .ok (.getfield 50, 3) := DX3_takeLast (55, .getfield 50, 3) (List.mem_of_getElem? (i := 33) rfl)
theorem dX3_takeLast_58 : decode cX3_takeLast 58 = .ok (.aload_n 0, 1) := DX3_takeLast (58, .aload_n 0, 1) (List.mem_of_getElem? (i := 34) rfl)
theorem dX3_takeLast_59 : decode cX3_takeLast 59 = .ok (.getfield 9, 3) := DX3_takeLast (59, .getfield 9, 3) (List.mem_of_getElem? (i := 35) rfl)
theorem dX3_takeLast_62 : decode cX3_takeLast 62 = .ok (.iload_n 1, 1) := DX3_takeLast (62, .iload_n 1, 1) (List.mem_of_getElem? (i := 36) rfl)
theorem dX3_takeLast_63 : decode cX3_takeLast 63 = .ok (.iaload, 1) := DX3_takeLast (63, .iaload, 1) (List.mem_of_getElem? (i := 37) rfl)
theorem dX3_takeLast_64 : decode cX3_takeLast 64 = .ok (.iconst 5, 1) := DX3_takeLast (64, .iconst 5, 1) (List.mem_of_getElem? (i := 38) rfl)
theorem dX3_takeLast_65 : decode cX3_takeLast 65 = .ok (.if_icmp .ne 7, 3) := DX3_takeLast (65, .if_icmp .ne 7, 3) (List.mem_of_getElem? (i := 39) rfl)
theorem dX3_takeLast_68 : decode cX3_takeLast 68 = .ok (.iconst 1, 1) := DX3_takeLast (68, .iconst 1, 1) (List.mem_of_getElem? (i := 40) rfl)
theorem dX3_takeLast_69 : decode cX3_takeLast 69 = .ok (.goto 4, 3) := DX3_takeLast (69, .goto 4, 3) (List.mem_of_getElem? (i := 41) rfl)
theorem dX3_takeLast_72 : decode cX3_takeLast 72 = .ok (.iconst 0, 1) := DX3_takeLast (72, .iconst 0, 1) (List.mem_of_getElem? (i := 42) rfl)
theorem dX3_takeLast_73 : decode cX3_takeLast 73 = .ok (.isub, 1) := DX3_takeLast (73, .isub, 1) (List.mem_of_getElem? (i := 43) rfl)
theorem dX3_takeLast_74 : decode cX3_takeLast 74 = .ok (.putfield 50, 3) := DX3_takeLast (74, .putfield 50, 3) (List.mem_of_getElem? (i := 44) rfl)
theorem dX3_takeLast_77 : decode cX3_takeLast 77 = .ok (.aload_n 0, 1) := DX3_takeLast (77, .aload_n 0, 1) (List.mem_of_getElem? (i := 45) rfl)
theorem dX3_takeLast_78 : decode cX3_takeLast 78 = .ok (.dup, 1) := DX3_takeLast (78, .dup, 1) (List.mem_of_getElem? (i := 46) rfl)
theorem dX3_takeLast_79 : decode cX3_takeLast 79 = .ok (.getfield 31, 3) := DX3_takeLast (79, .getfield 31, 3) (List.mem_of_getElem? (i := 47) rfl)
theorem dX3_takeLast_82 : decode cX3_takeLast 82 = .ok (.iconst 1, 1) := DX3_takeLast (82, .iconst 1, 1) (List.mem_of_getElem? (i := 48) rfl)
theorem dX3_takeLast_83 : decode cX3_takeLast 83 = .ok (.iadd, 1) := DX3_takeLast (83, .iadd, 1) (List.mem_of_getElem? (i := 49) rfl)
theorem dX3_takeLast_84 : decode cX3_takeLast 84 = .ok (.putfield 31, 3) := DX3_takeLast (84, .putfield 31, 3) (List.mem_of_getElem? (i := 50) rfl)
theorem dX3_takeLast_87 : decode cX3_takeLast 87 = .ok (.aload_n 0, 1) := DX3_takeLast (87, .aload_n 0, 1) (List.mem_of_getElem? (i := 51) rfl)
theorem dX3_takeLast_88 : decode cX3_takeLast 88 = .ok (.iload_n 1, 1) := DX3_takeLast (88, .iload_n 1, 1) (List.mem_of_getElem? (i := 52) rfl)
theorem dX3_takeLast_89 : decode cX3_takeLast 89 = .ok (.putfield 40, 3) := DX3_takeLast (89, .putfield 40, 3) (List.mem_of_getElem? (i := 53) rfl)
theorem dX3_takeLast_92 : decode cX3_takeLast 92 = .ok (.aload_n 0, 1) := DX3_takeLast (92, .aload_n 0, 1) (List.mem_of_getElem? (i := 54) rfl)
theorem dX3_takeLast_93 : decode cX3_takeLast 93 = .ok (.getfield 40, 3) := DX3_takeLast (93, .getfield 40, 3) (List.mem_of_getElem? (i := 55) rfl)
theorem dX3_takeLast_96 : decode cX3_takeLast 96 = .ok (.ireturn, 1) := DX3_takeLast (96, .ireturn, 1) (List.mem_of_getElem? (i := 56) rfl)
noncomputable def fX3_takeLast_L27 (σ : Mem) : Option (Int32 × Mem) :=
  some ((-1), σ)
set_option maxHeartbeats 4000000 in
set_option maxRecDepth 100000 in
theorem tX3_takeLast_L27 {E : Gx} {cI : ClassId} {ad : Nat → Nat} (C : Cx E rmX3_takeLast cI layX ad 2 RX3 cX3_takeLast) {out : Int32 × Mem} (K0 : KI E rmX3_takeLast cI layX ad 2 cX3_takeLast .int out) {σ : Mem} (h : fX3_takeLast_L27 σ = some out) : G E rmX3_takeLast cI layX ad 2 27 [] [] σ := by
  unfold fX3_takeLast_L27 at h
  refine g_iconst 28 (v := (-1)) C dX3_takeLast_27 (by decide) rfl ?_
  cases h
  exact K0 _ _ dX3_takeLast_28 rfl
noncomputable def fX3_takeLast_L73 (l1 : Int32) (s1 : Int32) (s2 : Int32) (σ : Mem) : Option (Int32 × Mem) :=
  some ((up2 (up2 (up2 σ 3 6 (s1 - s2)) 3 11 (((up2 σ 3 6 (s1 - s2)) 3 11) + 1)) 3 4 l1) 3 4, up2 (up2 (up2 σ 3 6 (s1 - s2)) 3 11 (((up2 σ 3 6 (s1 - s2)) 3 11) + 1)) 3 4 l1)
set_option maxHeartbeats 4000000 in
set_option maxRecDepth 100000 in
theorem tX3_takeLast_L73 {E : Gx} {cI : ClassId} {ad : Nat → Nat} (C : Cx E rmX3_takeLast cI layX ad 2 RX3 cX3_takeLast) {out : Int32 × Mem} (K0 : KI E rmX3_takeLast cI layX ad 2 cX3_takeLast .int out) {l1 : Int32} {s1 : Int32} {s2 : Int32} {σ : Mem} (h : fX3_takeLast_L73 l1 s1 s2 σ = some out) : G E rmX3_takeLast cI layX ad 2 73 [(0, .ref (ad 3)), (1, .int l1)] [.int s2, .int s1, .ref (ad 3)] σ := by
  unfold fX3_takeLast_L73 at h
  refine g_isub 74 C dX3_takeLast_73 rfl ?_
  refine g_puti 77 (j := 6) C rfl rfl wu_X3 (by decide) wf_X3_50 tyX3 tyX3_ok nmX3 rfl rfl rfl rfl dX3_takeLast_74 rfl ?_
  refine g_aload_n 78 C dX3_takeLast_77 rfl (j := 0) rfl rfl ?_
  refine g_dup 79 C dX3_takeLast_78 rfl rfl ?_
  refine g_geti 82 (j := 11) C rfl rfl wu_X3 (by decide) wf_X3_31 rfl dX3_takeLast_79 rfl ?_
  refine g_iconst 83 (v := 1) C dX3_takeLast_82 (by decide) rfl ?_
  refine g_iadd 84 C dX3_takeLast_83 rfl ?_
  refine g_puti 87 (j := 11) C rfl rfl wu_X3 (by decide) wf_X3_31 tyX3 tyX3_ok nmX3 rfl rfl rfl rfl dX3_takeLast_84 rfl ?_
  refine g_aload_n 88 C dX3_takeLast_87 rfl (j := 0) rfl rfl ?_
  refine g_iload_n 89 C dX3_takeLast_88 rfl (j := 1) rfl rfl ?_
  refine g_puti 92 (j := 4) C rfl rfl wu_X3 (by decide) wf_X3_40 tyX3 tyX3_ok nmX3 rfl rfl rfl rfl dX3_takeLast_89 rfl ?_
  refine g_aload_n 93 C dX3_takeLast_92 rfl (j := 0) rfl rfl ?_
  refine g_geti 96 (j := 4) C rfl rfl wu_X3 (by decide) wf_X3_40 rfl dX3_takeLast_93 rfl ?_
  cases h
  exact K0 _ _ dX3_takeLast_96 rfl
noncomputable def fX3_takeLast_L49 (l1 : Int32) (s1 : Int32) (s2 : Int32) (σ : Mem) : Option (Int32 × Mem) :=
  chk (inb l1 30) <|
  if ((up2 σ 3 5 (s1 - s2)) 8 l1.toNatClampNeg) = 5 then
    fX3_takeLast_L73 l1 ((up2 σ 3 5 (s1 - s2)) 3 6) 1 (up2 σ 3 5 (s1 - s2))
  else
    fX3_takeLast_L73 l1 ((up2 σ 3 5 (s1 - s2)) 3 6) 0 (up2 σ 3 5 (s1 - s2))
set_option maxHeartbeats 4000000 in
set_option maxRecDepth 100000 in
theorem tX3_takeLast_L49 {E : Gx} {cI : ClassId} {ad : Nat → Nat} (C : Cx E rmX3_takeLast cI layX ad 2 RX3 cX3_takeLast) {out : Int32 × Mem} (K0 : KI E rmX3_takeLast cI layX ad 2 cX3_takeLast .int out) {l1 : Int32} {s1 : Int32} {s2 : Int32} {σ : Mem} (h : fX3_takeLast_L49 l1 s1 s2 σ = some out) : G E rmX3_takeLast cI layX ad 2 49 [(0, .ref (ad 3)), (1, .int l1)] [.int s2, .int s1, .ref (ad 3)] σ := by
  unfold fX3_takeLast_L49 at h
  refine g_isub 50 C dX3_takeLast_49 rfl ?_
  refine g_puti 53 (j := 5) C rfl rfl wu_X3 (by decide) wf_X3_47 tyX3 tyX3_ok nmX3 rfl rfl rfl rfl dX3_takeLast_50 rfl ?_
  refine g_aload_n 54 C dX3_takeLast_53 rfl (j := 0) rfl rfl ?_
  refine g_dup 55 C dX3_takeLast_54 rfl rfl ?_
  refine g_geti 58 (j := 6) C rfl rfl wu_X3 (by decide) wf_X3_50 rfl dX3_takeLast_55 rfl ?_
  refine g_aload_n 59 C dX3_takeLast_58 rfl (j := 0) rfl rfl ?_
  refine g_getr 62 (j := 1) C rfl rfl wu_X3 (by decide) wf_X3_9 rfl dX3_takeLast_59 rfl ?_
  refine g_iload_n 63 C dX3_takeLast_62 rfl (j := 1) rfl rfl ?_
  refine g_iald 64 C rfl dX3_takeLast_63 rfl h (fun h => ?_)
  refine g_iconst 65 (v := 5) C dX3_takeLast_64 (by decide) rfl ?_
  refine g_icmp_ne 72 68 C dX3_takeLast_65 (by decide) rfl h (fun h => ?_) (fun h => ?_)
  · refine g_iconst 69 (v := 1) C dX3_takeLast_68 (by decide) rfl ?_
    refine g_goto 73 C dX3_takeLast_69 (by decide) ?_
    exact tX3_takeLast_L73 (l1 := l1) (s1 := ((up2 σ 3 5 (s1 - s2)) 3 6)) (s2 := 1) (σ := up2 σ 3 5 (s1 - s2)) C K0 h
  · refine g_iconst 73 (v := 0) C dX3_takeLast_72 (by decide) rfl ?_
    exact tX3_takeLast_L73 (l1 := l1) (s1 := ((up2 σ 3 5 (s1 - s2)) 3 6)) (s2 := 0) (σ := up2 σ 3 5 (s1 - s2)) C K0 h
noncomputable def fX3_takeLast (σ : Mem) : Option (Int32 × Mem) :=
  if ((σ 3 4) - 1) < 0 then
    fX3_takeLast_L27 σ
  else
    (fX3_isAsked ((σ 3 4) - 1) σ).bind fun o1 =>
    if o1.1 = 0 then
      (fX3_isUsed ((σ 3 4) - 1) o1.2).bind fun o2 =>
      if o2.1 = 0 then
        chk (inb ((σ 3 4) - 1) 30) <|
        if (o2.2 8 ((σ 3 4) - 1).toNatClampNeg) = 1 then
          fX3_takeLast_L49 ((σ 3 4) - 1) (o2.2 3 5) 1 o2.2
        else
          fX3_takeLast_L49 ((σ 3 4) - 1) (o2.2 3 5) 0 o2.2
      else
        fX3_takeLast_L27 o2.2
    else
      fX3_takeLast_L27 o1.2
set_option maxHeartbeats 4000000 in
set_option maxRecDepth 100000 in
theorem mX3_takeLast {l : Launch} {D : va_G} {cI : ClassId} {ad : Nat → Nat} {σ : Mem} {out : Int32 × Mem} (h : fX3_takeLast σ = some out) : MI l D cI layX ad yX3_takeLast cX3_takeLast 2 .int rmX3_takeLast [.ref (ad 3)] σ out := by
  refine met_i (by decide) (Nat.le_of_ble_eq_true rfl) (fun E C K0 => ?_)
  show G E rmX3_takeLast cI layX ad 2 0 [(0, .ref (ad 3))] [] σ
  unfold fX3_takeLast at h
  refine g_aload_n 1 C dX3_takeLast_0 rfl (j := 0) rfl rfl ?_
  refine g_geti 4 (j := 4) C rfl rfl wu_X3 (by decide) wf_X3_40 rfl dX3_takeLast_1 rfl ?_
  refine g_iconst 5 (v := 1) C dX3_takeLast_4 (by decide) rfl ?_
  refine g_isub 6 C dX3_takeLast_5 rfl ?_
  refine g_istore_n 7 [(1, .int ((σ 3 4) - 1)), (0, .ref (ad 3))] C dX3_takeLast_6 rfl (by decide) rfl rfl ?_
  refine g_iload_n 8 C dX3_takeLast_7 rfl (j := 0) rfl rfl ?_
  refine g_if_lt 27 11 C dX3_takeLast_8 (by decide) rfl h (fun h => ?_) (fun h => ?_)
  · exact g_sub [] (tX3_takeLast_L27 (σ := σ) C K0 h) rfl
  · refine g_aload_n 12 C dX3_takeLast_11 rfl (j := 1) rfl rfl ?_
    refine g_iload_n 13 C dX3_takeLast_12 rfl (j := 0) rfl rfl ?_
    refine g_cvi 16 C (As := [.int ((σ 3 4) - 1)]) (fun _ h => mX3_isAsked (a1 := (σ 3 4) - 1) (σ := σ) h) wl_X3_53 wi_X3_isAsked wz_X3_isAsked wc_X3_isAsked wn_X3 qX3_isAsked rfl rfl ⟨Nat.le_of_ble_eq_true rfl, Nat.le_of_ble_eq_true rfl⟩ rfl rfl rfl rfl (Nat.le_of_ble_eq_true rfl) dX3_takeLast_13 rfl h (fun o1 h => ?_)
    refine g_if_ne 27 19 C dX3_takeLast_16 (by decide) rfl h (fun h => ?_) (fun h => ?_)
    · refine g_aload_n 20 C dX3_takeLast_19 rfl (j := 1) rfl rfl ?_
      refine g_iload_n 21 C dX3_takeLast_20 rfl (j := 0) rfl rfl ?_
      refine g_cvi 24 C (As := [.int ((σ 3 4) - 1)]) (fun _ h => mX3_isUsed (a1 := (σ 3 4) - 1) (σ := o1.2) h) wl_X3_56 wi_X3_isUsed wz_X3_isUsed wc_X3_isUsed wn_X3 qX3_isUsed rfl rfl ⟨Nat.le_of_ble_eq_true rfl, Nat.le_of_ble_eq_true rfl⟩ rfl rfl rfl rfl (Nat.le_of_ble_eq_true rfl) dX3_takeLast_21 rfl h (fun o2 h => ?_)
      refine g_if_eq 29 27 C dX3_takeLast_24 (by decide) rfl h (fun h => ?_) (fun h => ?_)
      · refine g_aload_n 30 C dX3_takeLast_29 rfl (j := 1) rfl rfl ?_
        refine g_dup 31 C dX3_takeLast_30 rfl rfl ?_
        refine g_geti 34 (j := 5) C rfl rfl wu_X3 (by decide) wf_X3_47 rfl dX3_takeLast_31 rfl ?_
        refine g_aload_n 35 C dX3_takeLast_34 rfl (j := 1) rfl rfl ?_
        refine g_getr 38 (j := 1) C rfl rfl wu_X3 (by decide) wf_X3_9 rfl dX3_takeLast_35 rfl ?_
        refine g_iload_n 39 C dX3_takeLast_38 rfl (j := 0) rfl rfl ?_
        refine g_iald 40 C rfl dX3_takeLast_39 rfl h (fun h => ?_)
        refine g_iconst 41 (v := 1) C dX3_takeLast_40 (by decide) rfl ?_
        refine g_icmp_ne 48 44 C dX3_takeLast_41 (by decide) rfl h (fun h => ?_) (fun h => ?_)
        · refine g_iconst 45 (v := 1) C dX3_takeLast_44 (by decide) rfl ?_
          refine g_goto 49 C dX3_takeLast_45 (by decide) ?_
          exact g_sub [1, 0] (tX3_takeLast_L49 (l1 := ((σ 3 4) - 1)) (s1 := (o2.2 3 5)) (s2 := 1) (σ := o2.2) C K0 h) rfl
        · refine g_iconst 49 (v := 0) C dX3_takeLast_48 (by decide) rfl ?_
          exact g_sub [1, 0] (tX3_takeLast_L49 (l1 := ((σ 3 4) - 1)) (s1 := (o2.2 3 5)) (s2 := 0) (σ := o2.2) C K0 h) rfl
      · exact g_sub [] (tX3_takeLast_L27 (σ := o2.2) C K0 h) rfl
    · exact g_sub [] (tX3_takeLast_L27 (σ := o1.2) C K0 h) rfl
