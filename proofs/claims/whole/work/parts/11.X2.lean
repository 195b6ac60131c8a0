/-! LoopReducer$Monomials.exponent(II)I -/
abbrev rmX2_exponent : Room := { frames := 0, cells := 0, slots := 0, locals := 0 }
theorem qX2_exponent : yX2_exponent.cls ≠ "java/lang/invoke/MethodHandle" ∧ yX2_exponent.cls ≠ "java/lang/invoke/VarHandle" ∧ (parseMethodDescriptor yX2_exponent.desc).map (fun d => d.parameters.length) = some 2 := by decide +kernel
theorem DX2_exponent : ∀ q ∈ ([(0, .aload_n 0, 1), (1, .getfield 9, 3), (4, .iload_n 1, 1), (5, .iaload, 1), (6, .istore_n 3, 1), (7, .iload_n 2, 1), (8, .ifCond .ne 8, 3), (11, .iload_n 3, 1), (12, .bipush 7, 2), (14, .irem, 1), (15, .ireturn, 1), (16, .iload_n 2, 1), (17, .iconst 1, 1), (18, .if_icmp .ne 13, 3), (21, .iload_n 3, 1), (22, .bipush 7, 2), (24, .idiv, 1), (25, .bipush 7, 2), (27, .irem, 1), (28, .goto 7, 3), (31, .iload_n 3, 1), (32, .bipush 49, 2), (34, .idiv, 1), (35, .ireturn, 1)] : List (Nat × Instr × Nat)), decode cX2_exponent q.1 = .ok q.2 := by decide +kernel
theorem dX2_exponent_0 : decode cX2_exponent 0 = .ok (.aload_n 0, 1) := DX2_exponent (0, .aload_n 0, 1) (List.mem_of_getElem? (i := 0) rfl)
theorem dX2_exponent_1 : decode cX2_exponent 1 = .ok (.getfield 9, 3) := DX2_exponent (1, .getfield 9, 3) (List.mem_of_getElem? (i := 1) rfl)
theorem dX2_exponent_4 : decode cX2_exponent 4 = .ok (.iload_n 1, 1) := DX2_exponent (4, .iload_n 1, 1) (List.mem_of_getElem? (i := 2) rfl)
theorem dX2_exponent_5 : decode cX2_exponent 5 = .ok (.iaload, 1) := DX2_exponent (5, .iaload, 1) (List.mem_of_getElem? (i := 3) rfl)
theorem dX2_exponent_6 : decode cX2_exponent 6 = .ok (.istore_n 3, 1) := DX2_exponent (6, .istore_n 3, 1) (List.mem_of_getElem? (i := 4) rfl)
theorem dX2_exponent_7 : decode cX2_exponent 7 = .ok (.iload_n 2, 1) := DX2_exponent (7, .iload_n 2, 1) (List.mem_of_getElem? (i := 5) rfl)
theorem dX2_exponent_8 : decode cX2_exponent 8 = .ok (.ifCond .ne 8, 3) := DX2_exponent (8, .ifCond .ne 8, 3) (List.mem_of_getElem? (i := 6) rfl)
theorem dX2_exponent_11 : decode cX2_exponent 11 = .ok (.iload_n 3, 1) := DX2_exponent (11, .iload_n 3, 1) (List.mem_of_getElem? (i := 7) rfl)
theorem dX2_exponent_12 : decode cX2_exponent 12 = .ok (.bipush 7, 2) := DX2_exponent (12, .bipush 7, 2) (List.mem_of_getElem? (i := 8) rfl)
theorem dX2_exponent_14 : decode cX2_exponent 14 = .ok (.irem, 1) := DX2_exponent (14, .irem, 1) (List.mem_of_getElem? (i := 9) rfl)
theorem dX2_exponent_15 : decode cX2_exponent 15 = .ok (.ireturn, 1) := DX2_exponent (15, .ireturn, 1) (List.mem_of_getElem? (i := 10) rfl)
theorem dX2_exponent_16 : decode cX2_exponent 16 = .ok (.iload_n 2, 1) := DX2_exponent (16, .iload_n 2, 1) (List.mem_of_getElem? (i := 11) rfl)
theorem dX2_exponent_17 : decode cX2_exponent 17 = .ok (.iconst 1, 1) := DX2_exponent (17, .iconst 1, 1) (List.mem_of_getElem? (i := 12) rfl)
theorem dX2_exponent_18 : decode cX2_exponent 18 = .ok (.if_icmp .ne 13, 3) := DX2_exponent (18, .if_icmp .ne 13, 3) (List.mem_of_getElem? (i := 13) rfl)
theorem dX2_exponent_21 : decode cX2_exponent 21 = .ok (.iload_n 3, 1) := DX2_exponent (21, .iload_n 3, 1) (List.mem_of_getElem? (i := 14) rfl)
theorem dX2_exponent_22 : decode cX2_exponent 22 = .ok (.bipush 7, 2) := DX2_exponent (22, .bipush 7, 2) (List.mem_of_getElem? (i := 15) rfl)
theorem dX2_exponent_24 : decode cX2_exponent 24 = .ok (.idiv, 1) := DX2_exponent (24, .idiv, 1) (List.mem_of_getElem? (i := 16) rfl)
theorem dX2_exponent_25 : decode cX2_exponent 25 = .ok (.bipush 7, 2) := DX2_exponent (25, .bipush 7, 2) (List.mem_of_getElem? (i := 17) rfl)
theorem dX2_exponent_27 : decode cX2_exponent 27 = .ok (.irem, 1) := DX2_exponent (27, .irem, 1) (List.mem_of_getElem? (i := 18) rfl)
theorem dX2_exponent_28 : decode cX2_exponent 28 = .ok (.goto 7, 3) := DX2_exponent (28, .goto 7, 3) (List.mem_of_getElem? (i := 19) rfl)
theorem dX2_exponent_31 : decode cX2_exponent 31 = .ok (.iload_n 3, 1) := DX2_exponent (31, .iload_n 3, 1) (List.mem_of_getElem? (i := 20) rfl)
theorem dX2_exponent_32 : decode cX2_exponent 32 = .ok (.bipush 49, 2) := DX2_exponent (32, .bipush 49, 2) (List.mem_of_getElem? (i := 21) rfl)
theorem dX2_exponent_34 : decode cX2_exponent 34 = .ok (.idiv, 1) := DX2_exponent (34, .idiv, 1) (List.mem_of_getElem? (i := 22) rfl)
theorem dX2_exponent_35 : decode cX2_exponent 35 = .ok (.ireturn, 1) := DX2_exponent (35, .ireturn, 1) (List.mem_of_getElem? (i := 23) rfl)
noncomputable def fX2_exponent_L35 (s0 : Int32) (σ : Mem) : Option (Int32 × Mem) :=
  some (s0, σ)
set_option maxHeartbeats 4000000 in
set_option maxRecDepth 100000 in
theorem tX2_exponent_L35 {E : Gx} {cI : ClassId} {ad : Nat → Nat} (C : Cx E rmX2_exponent cI layX ad 4 RX2 cX2_exponent) {out : Int32 × Mem} (K0 : KI E rmX2_exponent cI layX ad 4 cX2_exponent .int out) {s0 : Int32} {σ : Mem} (h : fX2_exponent_L35 s0 σ = some out) : G E rmX2_exponent cI layX ad 4 35 [] [.int s0] σ := by
  unfold fX2_exponent_L35 at h
  cases h
  exact K0 _ _ dX2_exponent_35 rfl
noncomputable def fX2_exponent (a1 : Int32) (a2 : Int32) (σ : Mem) : Option (Int32 × Mem) :=
  chk (inb a1 84) <|
  if a2 = 0 then
    some ((σ 11 a1.toNatClampNeg) - (σ 11 a1.toNatClampNeg) / 7 * 7, σ)
  else
    if a2 = 1 then
      fX2_exponent_L35 (((σ 11 a1.toNatClampNeg) / 7) - ((σ 11 a1.toNatClampNeg) / 7) / 7 * 7) σ
    else
      fX2_exponent_L35 ((σ 11 a1.toNatClampNeg) / 49) σ
set_option maxHeartbeats 4000000 in
set_option maxRecDepth 100000 in
theorem mX2_exponent {l : Launch} {D : va_G} {cI : ClassId} {ad : Nat → Nat} {a1 : Int32} {a2 : Int32} {σ : Mem} {out : Int32 × Mem} (h : fX2_exponent a1 a2 σ = some out) : MI l D cI layX ad yX2_exponent cX2_exponent 4 .int rmX2_exponent [.ref (ad 2), .int a1, .int a2] σ out := by
  refine met_i (by decide) (Nat.le_of_ble_eq_true rfl) (fun E C K0 => ?_)
  show G E rmX2_exponent cI layX ad 4 0 [(0, .ref (ad 2)), (1, .int a1), (2, .int a2)] [] σ
  unfold fX2_exponent at h
  refine g_aload_n 1 C dX2_exponent_0 rfl (j := 0) rfl rfl ?_
  refine g_getr 4 (j := 1) C rfl rfl wu_X2 (by decide) wf_X2_9 rfl dX2_exponent_1 rfl ?_
  refine g_iload_n 5 C dX2_exponent_4 rfl (j := 1) rfl rfl ?_
  refine g_iald 6 C rfl dX2_exponent_5 rfl h (fun h => ?_)
  refine g_istore_n 7 [(3, .int (σ 11 a1.toNatClampNeg)), (0, .ref (ad 2)), (1, .int a1), (2, .int a2)] C dX2_exponent_6 rfl (by decide) rfl rfl ?_
  refine g_iload_n 8 C dX2_exponent_7 rfl (j := 3) rfl rfl ?_
  refine g_if_ne 16 11 C dX2_exponent_8 (by decide) rfl h (fun h => ?_) (fun h => ?_)
  · refine g_iload_n 12 C dX2_exponent_11 rfl (j := 0) rfl rfl ?_
    refine g_bipush 14 (v := 7) C dX2_exponent_12 (by decide) rfl ?_
    refine g_irem 15 C dX2_exponent_14 (by decide) rfl ?_
    cases h
    exact K0 _ _ dX2_exponent_15 rfl
  · refine g_iload_n 17 C dX2_exponent_16 rfl (j := 3) rfl rfl ?_
    refine g_iconst 18 (v := 1) C dX2_exponent_17 (by decide) rfl ?_
    refine g_icmp_ne 31 21 C dX2_exponent_18 (by decide) rfl h (fun h => ?_) (fun h => ?_)
    · refine g_iload_n 22 C dX2_exponent_21 rfl (j := 0) rfl rfl ?_
      refine g_bipush 24 (v := 7) C dX2_exponent_22 (by decide) rfl ?_
      refine g_idiv 25 C dX2_exponent_24 (by decide) rfl ?_
      refine g_bipush 27 (v := 7) C dX2_exponent_25 (by decide) rfl ?_
      refine g_irem 28 C dX2_exponent_27 (by decide) rfl ?_
      refine g_goto 35 C dX2_exponent_28 (by decide) ?_
      exact g_sub [] (tX2_exponent_L35 (s0 := (((σ 11 a1.toNatClampNeg) / 7) - ((σ 11 a1.toNatClampNeg) / 7) / 7 * 7)) (σ := σ) C K0 h) rfl
    · refine g_iload_n 32 C dX2_exponent_31 rfl (j := 0) rfl rfl ?_
      refine g_bipush 34 (v := 49) C dX2_exponent_32 (by decide) rfl ?_
      refine g_idiv 35 C dX2_exponent_34 (by decide) rfl ?_
      exact g_sub [] (tX2_exponent_L35 (s0 := ((σ 11 a1.toNatClampNeg) / 49)) (σ := σ) C K0 h) rfl

/-! LoopReducer$Monomials.placeOfProduct(II)I -/
abbrev rmX2_placeOfProduct : Room := { frames := 0, cells := 0, slots := 0, locals := 0 }
theorem qX2_placeOfProduct : yX2_placeOfProduct.cls ≠ "java/lang/invoke/MethodHandle" ∧ yX2_placeOfProduct.cls ≠ "java/lang/invoke/VarHandle" ∧ (parseMethodDescriptor yX2_placeOfProduct.desc).map (fun d => d.parameters.length) = some 2 := by decide +kernel
theorem DX2_placeOfProduct : ∀ q ∈ ([(0, .aload_n 0, 1), (1, .getfield 15, 3), (4, .iload_n 1, 1), (5, .iaload, 1), (6, .aload_n 0, 1), (7, .getfield 15, 3), (10, .iload_n 2, 1), (11, .iaload, 1), (12, .iadd, 1), (13, .bipush 6, 2), (15, .if_icmp .le 5, 3), (18, .iconst (-1), 1), (19, .ireturn, 1), (20, .aload_n 0, 1), (21, .getfield 18, 3), (24, .aload_n 0, 1), (25, .getfield 9, 3), (28, .iload_n 1, 1), (29, .iaload, 1), (30, .aload_n 0, 1), (31, .getfield 9, 3), (34, .iload_n 2, 1), (35, .iaload, 1), (36, .iadd, 1), (37, .iaload, 1), (38, .ireturn, 1)] : List (Nat × Instr × Nat)), decode cX2_placeOfProduct q.1 = .ok q.2 := by decide +kernel
theorem dX2_placeOfProduct_0 : decode cX2_placeOfProduct 0 = .ok (.aload_n 0, 1) := DX2_placeOfProduct (0, .aload_n 0, 1) (List.mem_of_getElem? (i := 0) rfl)
theorem dX2_placeOfProduct_1 : decode cX2_placeOfProduct 1 = .ok (.getfield 15, 3) := DX2_placeOfProduct (1, .getfield 15, 3) (List.mem_of_getElem? (i := 1) rfl)
theorem dX2_placeOfProduct_4 : decode cX2_placeOfProduct 4 = .ok (.iload_n 1, 1) := DX2_placeOfProduct (4, .iload_n 1, 1) (List.mem_of_getElem? (i := 2) rfl)
theorem dX2_placeOfProduct_5 : decode cX2_placeOfProduct 5 = .ok (.iaload, 1) := DX2_placeOfProduct (5, .iaload, 1) (List.mem_of_getElem? (i := 3) rfl)
theorem dX2_placeOfProduct_6 : decode cX2_placeOfProduct 6 = .ok (.aload_n 0, 1) := DX2_placeOfProduct (6, .aload_n 0, 1) (List.mem_of_getElem? (i := 4) rfl)
theorem dX2_placeOfProduct_7 : decode cX2_placeOfProduct 7 = .ok (.getfield 15, 3) := DX2_placeOfProduct (7, .getfield 15, 3) (List.mem_of_getElem? (i := 5) rfl)
theorem dX2_placeOfProduct_10 : decode cX2_placeOfProduct 10 = .ok (.iload_n 2, 1) := DX2_placeOfProduct (10, .iload_n 2, 1) (List.mem_of_getElem? (i := 6) rfl)
theorem dX2_placeOfProduct_11 : decode cX2_placeOfProduct 11 = .ok (.iaload, 1) := DX2_placeOfProduct (11, .iaload, 1) (List.mem_of_getElem? (i := 7) rfl)
theorem dX2_placeOfProduct_12 : decode cX2_placeOfProduct 12 = .ok (.iadd, 1) := DX2_placeOfProduct (12, .iadd, 1) (List.mem_of_getElem? (i := 8) rfl)
theorem dX2_placeOfProduct_13 : decode cX2_placeOfProduct 13 = .ok (.bipush 6, 2) := DX2_placeOfProduct (13, .bipush 6, 2) (List.mem_of_getElem? (i := 9) rfl)
theorem dX2_placeOfProduct_15 : decode cX2_placeOfProduct 15 = .ok (.if_icmp .le 5, 3) := DX2_placeOfProduct (15, .if_icmp .le 5, 3) (List.mem_of_getElem? (i := 10) rfl)
theorem dX2_placeOfProduct_18 : decode cX2_placeOfProduct 18 = .ok (.iconst (-1), 1) := DX2_placeOfProduct (18, .iconst (-1), 1) (List.mem_of_getElem? (i := 11) rfl)
theorem dX2_placeOfProduct_19 : decode cX2_placeOfProduct 19 = .ok (.ireturn, 1) := DX2_placeOfProduct (19, .ireturn, 1) (List.mem_of_getElem? (i := 12) rfl)
theorem dX2_placeOfProduct_20 : decode cX2_placeOfProduct 20 = .ok (.aload_n 0, 1) := DX2_placeOfProduct (20, .aload_n 0, 1) (List.mem_of_getElem? (i := 13) rfl)
theorem dX2_placeOfProduct_21 : decode cX2_placeOfProduct 21 = .ok (.getfield 18, 3) := DX2_placeOfProduct (21, .getfield 18, 3) (List.mem_of_getElem? (i := 14) rfl)
theorem dX2_placeOfProduct_24 : decode cX2_placeOfProduct 24 = .ok (.aload_n 0, 1) := DX2_placeOfProduct (24, .aload_n 0, 1) (List.mem_of_getElem? (i := 15) rfl)
theorem dX2_placeOfProduct_25 : decode cX2_placeOfProduct 25 = .ok (.getfield 9, 3) := DX2_placeOfProduct (25, .getfield 9, 3) (List.mem_of_getElem? (i := 16) rfl)
theorem dX2_placeOfProduct_28 : decode cX2_placeOfProduct 28 = .ok (.iload_n 1, 1) := DX2_placeOfProduct (28, .iload_n 1, 1) (List.mem_of_getElem? (i := 17) rfl)
theorem dX2_placeOfProduct_29 : decode cX2_placeOfProduct 29 = .ok (.iaload, 1) := DX2_placeOfProduct (29, .iaload, 1) (List.mem_of_getElem? (i := 18) rfl)
theorem dX2_placeOfProduct_30 : decode cX2_placeOfProduct 30 = .ok (.aload_n 0, 1) := DX2_placeOfProduct (30, .aload_n 0, 1) (List.mem_of_getElem? (i := 19) rfl)
theorem dX2_placeOfProduct_31 : decode cX2_placeOfProduct 31 = .ok (.getfield 9, 3) := DX2_placeOfProduct (31, .getfield 9, 3) (List.mem_of_getElem? (i := 20) rfl)
theorem dX2_placeOfProduct_34 : decode cX2_placeOfProduct 34 = .ok (.iload_n 2, 1) := DX2_placeOfProduct (34, .iload_n 2, 1) (List.mem_of_getElem? (i := 21) rfl)
theorem dX2_placeOfProduct_35 : decode cX2_placeOfProduct 35 = .ok (.iaload, 1) := DX2_placeOfProduct (35, .iaload, 1) (List.mem_of_getElem? (i := 22) rfl)
theorem dX2_placeOfProduct_36 : decode cX2_placeOfProduct 36 = .ok (.iadd, 1) := DX2_placeOfProduct (36, .iadd, 1) (List.mem_of_getElem? (i := 23) rfl)
theorem dX2_placeOfProduct_37 : decode cX2_placeOfProduct 37 = .ok (.iaload, 1) := DX2_placeOfProduct (37, .iaload, 1) (List.mem_of_getElem? (i := 24) rfl)
theorem dX2_placeOfProduct_38 : decode cX2_placeOfProduct 38 = .ok (.ireturn, 1) := DX2_placeOfProduct (38, .ireturn, 1) (List.mem_of_getElem? (i := 25) rfl)
noncomputable def fX2_placeOfProduct (a1 : Int32) (a2 : Int32) (σ : Mem) : Option (Int32 × Mem) :=
  chk (inb a1 84) <|
  chk (inb a2 84) <|
  if ((σ 12 a1.toNatClampNeg) + (σ 12 a2.toNatClampNeg)) ≤ 6 then
    chk (inb a1 84) <|
    chk (inb a2 84) <|
    chk (inb ((σ 11 a1.toNatClampNeg) + (σ 11 a2.toNatClampNeg)) 343) <|
    some (σ 13 ((σ 11 a1.toNatClampNeg) + (σ 11 a2.toNatClampNeg)).toNatClampNeg, σ)
  else
    some ((-1), σ)
set_option maxHeartbeats 4000000 in
set_option maxRecDepth 100000 in
theorem mX2_placeOfProduct {l : Launch} {D : va_G} {cI : ClassId} {ad : Nat → Nat} {a1 : Int32} {a2 : Int32} {σ : Mem} {out : Int32 × Mem} (h : fX2_placeOfProduct a1 a2 σ = some out) : MI l D cI layX ad yX2_placeOfProduct cX2_placeOfProduct 3 .int rmX2_placeOfProduct [.ref (ad 2), .int a1, .int a2] σ out := by
  refine met_i (by decide) (Nat.le_of_ble_eq_true rfl) (fun E C K0 => ?_)
  show G E rmX2_placeOfProduct cI layX ad 3 0 [(0, .ref (ad 2)), (1, .int a1), (2, .int a2)] [] σ
  unfold fX2_placeOfProduct at h
  refine g_aload_n 1 C dX2_placeOfProduct_0 rfl (j := 0) rfl rfl ?_
  refine g_getr 4 (j := 2) C rfl rfl wu_X2 (by decide) wf_X2_15 rfl dX2_placeOfProduct_1 rfl ?_
  refine g_iload_n 5 C dX2_placeOfProduct_4 rfl (j := 1) rfl rfl ?_
  refine g_iald 6 C rfl dX2_placeOfProduct_5 rfl h (fun h => ?_)
  refine g_aload_n 7 C dX2_placeOfProduct_6 rfl (j := 0) rfl rfl ?_
  refine g_getr 10 (j := 2) C rfl rfl wu_X2 (by decide) wf_X2_15 rfl dX2_placeOfProduct_7 rfl ?_
  refine g_iload_n 11 C dX2_placeOfProduct_10 rfl (j := 2) rfl rfl ?_
  refine g_iald 12 C rfl dX2_placeOfProduct_11 rfl h (fun h => ?_)
  refine g_iadd 13 C dX2_placeOfProduct_12 rfl ?_
  refine g_bipush 15 (v := 6) C dX2_placeOfProduct_13 (by decide) rfl ?_
  refine g_icmp_le 20 18 C dX2_placeOfProduct_15 (by decide) rfl h (fun h => ?_) (fun h => ?_)
  · refine g_aload_n 21 C dX2_placeOfProduct_20 rfl (j := 0) rfl rfl ?_
    refine g_getr 24 (j := 3) C rfl rfl wu_X2 (by decide) wf_X2_18 rfl dX2_placeOfProduct_21 rfl ?_
    refine g_aload_n 25 C dX2_placeOfProduct_24 rfl (j := 0) rfl rfl ?_
    refine g_getr 28 (j := 1) C rfl rfl wu_X2 (by decide) wf_X2_9 rfl dX2_placeOfProduct_25 rfl ?_
    refine g_iload_n 29 C dX2_placeOfProduct_28 rfl (j := 1) rfl rfl ?_
    refine g_iald 30 C rfl dX2_placeOfProduct_29 rfl h (fun h => ?_)
    refine g_aload_n 31 C dX2_placeOfProduct_30 rfl (j := 0) rfl rfl ?_
    refine g_getr 34 (j := 1) C rfl rfl wu_X2 (by decide) wf_X2_9 rfl dX2_placeOfProduct_31 rfl ?_
    refine g_iload_n 35 C dX2_placeOfProduct_34 rfl (j := 2) rfl rfl ?_
    refine g_iald 36 C rfl dX2_placeOfProduct_35 rfl h (fun h => ?_)
    refine g_iadd 37 C dX2_placeOfProduct_36 rfl ?_
    refine g_iald 38 C rfl dX2_placeOfProduct_37 rfl h (fun h => ?_)
    cases h
    exact K0 _ _ dX2_placeOfProduct_38 rfl
  · refine g_iconst 19 (v := (-1)) C dX2_placeOfProduct_18 (by decide) rfl ?_
    cases h
    exact K0 _ _ dX2_placeOfProduct_19 rfl

/-! LoopReducer$Monomials.fillPowers(II)V -/
abbrev rmX2_fillPowers : Room := { frames := 0, cells := 0, slots := 0, locals := 0 }
theorem qX2_fillPowers : yX2_fillPowers.cls ≠ "java/lang/invoke/MethodHandle" ∧ yX2_fillPowers.cls ≠ "java/lang/invoke/VarHandle" ∧ (parseMethodDescriptor yX2_fillPowers.desc).map (fun d => d.parameters.length) = some 2 := by decide +kernel
theorem DX2_fillPowers : ∀ q ∈ ([(0, .iconst 1, 1), (1, .istore_n 3, 1), (2, .iconst 0, 1), (3, .istore 4, 2), (5, .iload 4, 2), (7, .bipush 7, 2), (9, .if_icmp .ge 28, 3), (12, .aload_n 0, 1), (13, .getfield 21, 3), (16, .iload_n 1, 1), (17, .iload 4, 2), (19, .iadd, 1), (20, .iload_n 3, 1), (21, .iastore, 1), (22, .iload_n 3, 1), (23, .iload_n 2, 1), (24, .imul, 1), (25, .aload_n 0, 1), (26, .getfield 24, 3), (29, .iand, 1), (30, .istore_n 3, 1), (31, .iinc 4 1, 3), (34, .goto (-29), 3), (37, .return_, 1)] : List (Nat × Instr × Nat)), decode cX2_fillPowers q.1 = .ok q.2 := by decide +kernel
theorem dX2_fillPowers_0 : decode cX2_fillPowers 0 = .ok (.iconst 1, 1) := DX2_fillPowers (0, .iconst 1, 1) (List.mem_of_getElem? (i := 0) rfl)
theorem dX2_fillPowers_1 : decode cX2_fillPowers 1 = .ok (.istore_n 3, 1) := DX2_fillPowers (1, .istore_n 3, 1) (List.mem_of_getElem? (i := 1) rfl)
theorem dX2_fillPowers_2 : decode cX2_fillPowers 2 = .ok (.iconst 0, 1) := DX2_fillPowers (2, .iconst 0, 1) (List.mem_of_getElem? (i := 2) rfl)
theorem dX2_fillPowers_3 : decode cX2_fillPowers 3 = .ok (.istore 4, 2) := DX2_fillPowers (3, .istore 4, 2) (List.mem_of_getElem? (i := 3) rfl)
theorem dX2_fillPowers_5 : decode cX2_fillPowers 5 = .ok (.iload 4, 2) := DX2_fillPowers (5, .iload 4, 2) (List.mem_of_getElem? (i := 4) rfl)
theorem dX2_fillPowers_7 : decode cX2_fillPowers 7 = .ok (.bipush 7, 2) := DX2_fillPowers (7, .bipush 7, 2) (List.mem_of_getElem? (i := 5) rfl)
theorem dX2_fillPowers_9 : decode cX2_fillPowers 9 = .ok (.if_icmp .ge 28, 3) := DX2_fillPowers (9, .if_icmp .ge 28, 3) (List.mem_of_getElem? (i := 6) rfl)
theorem dX2_fillPowers_12 : decode cX2_fillPowers 12 = .ok (.aload_n 0, 1) := DX2_fillPowers (12, .aload_n 0, 1) (List.mem_of_getElem? (i := 7) rfl)
theorem dX2_fillPowers_13 : decode cX2_fillPowers 13 = .ok (.getfield 21, 3) := DX2_fillPowers (13, .getfield 21, 3) (List.mem_of_getElem? (i := 8) rfl)
theorem dX2_fillPowers_16 : decode cX2_fillPowers 16 = .ok (.iload_n 1, 1) := DX2_fillPowers (16, .iload_n 1, 1) (List.mem_of_getElem? (i := 9) rfl)
theorem dX2_fillPowers_17 : decode cX2_fillPowers 17 = .ok (.iload 4, 2) := DX2_fillPowers (17, .iload 4, 2) (List.mem_of_getElem? (i := 10) rfl)
theorem dX2_fillPowers_19 : decode cX2_fillPowers 19 = .ok (.iadd, 1) := DX2_fillPowers (19, .iadd, 1) (List.mem_of_getElem? (i := 11) rfl)
theorem dX2_fillPowers_20 : decode cX2_fillPowers 20 = .ok (.iload_n 3, 1) := DX2_fillPowers (20, .iload_n 3, 1) (List.mem_of_getElem? (i := 12) rfl)
theorem dX2_fillPowers_21 : decode cX2_fillPowers 21 = .ok (.iastore, 1) := DX2_fillPowers (21, .iastore, 1) (List.mem_of_getElem? (i := 13) rfl)
theorem dX2_fillPowers_22 : decode cX2_fillPowers 22 = .ok (.iload_n 3, 1) := DX2_fillPowers (22, .iload_n 3, 1) (List.mem_of_getElem? (i := 14) rfl)
theorem dX2_fillPowers_23 : decode cX2_fillPowers 23 = .ok (.iload_n 2, 1) := DX2_fillPowers (23, .iload_n 2, 1) (List.mem_of_getElem? (i := 15) rfl)
theorem dX2_fillPowers_24 : decode cX2_fillPowers 24 = .ok (.imul, 1) := DX2_fillPowers (24, .imul, 1) (List.mem_of_getElem? (i := 16) rfl)
theorem dX2_fillPowers_25 : decode cX2_fillPowers 25 = .ok (.aload_n 0, 1) := DX2_fillPowers (25, .aload_n 0, 1) (List.mem_of_getElem? (i := 17) rfl)
theorem dX2_fillPowers_26 : decode cX2_fillPowers 26 = .ok (.getfield 24, 3) := DX2_fillPowers (26, .getfield 24, 3) (List.mem_of_getElem? (i := 18) rfl)
theorem dX2_fillPowers_29 : decode cX2_fillPowers 29 = .ok (.iand, 1) := DX2_fillPowers (29, .iand, 1) (List.mem_of_getElem? (i := 19) rfl)
theorem dX2_fillPowers_30 : decode cX2_fillPowers 30 = .ok (.istore_n 3, 1) := DX2_fillPowers (30, .istore_n 3, 1) (List.mem_of_getElem? (i := 20) rfl)
theorem dX2_fillPowers_31 : decode cX2_fillPowers 31 = .ok (.iinc 4 1, 3) := DX2_fillPowers (31, .iinc 4 1, 3) (List.mem_of_getElem? (i := 21) rfl)
theorem dX2_fillPowers_34 : decode cX2_fillPowers 34 = .ok (.goto (-29), 3) := DX2_fillPowers (34, .goto (-29), 3) (List.mem_of_getElem? (i := 22) rfl)
theorem dX2_fillPowers_37 : decode cX2_fillPowers 37 = .ok (.return_, 1) := DX2_fillPowers (37, .return_, 1) (List.mem_of_getElem? (i := 23) rfl)
noncomputable def fX2_fillPowers_B5 (l1 : Int32) (l2 : Int32) (l3 : Int32) (l4 : Int32) (σ : Mem) : Option ((Int32 × Int32 × Mem) ⊕ (Mem)) :=
  if 7 ≤ l4 then
    some (.inr σ)
  else
    chk (inb (l1 + l4) 21) <|
    some (.inl ((l3 * l2) &&& ((up2 σ 14 (l1 + l4).toNatClampNeg l3) 2 0), l4 + 1, up2 σ 14 (l1 + l4).toNatClampNeg l3))
set_option maxHeartbeats 4000000 in
set_option maxRecDepth 100000 in
theorem tX2_fillPowers_B5 {E : Gx} {cI : ClassId} {ad : Nat → Nat} (C : Cx E rmX2_fillPowers cI layX ad 5 RX2 cX2_fillPowers) {out : Mem} (K0 : KV E rmX2_fillPowers cI layX ad 5 cX2_fillPowers out) {l1 : Int32} {l2 : Int32} {l3 : Int32} {l4 : Int32} {σ : Mem} {res : (Int32 × Int32 × Mem) ⊕ (Mem)} (h : fX2_fillPowers_B5 l1 l2 l3 l4 σ = some res) (K : Sum.elim (fun a => G E rmX2_fillPowers cI layX ad 5 5 [(0, .ref (ad 2)), (1, .int l1), (2, .int l2), (3, .int a.1), (4, .int a.2.1)] [] a.2.2) (fun b => G E rmX2_fillPowers cI layX ad 5 37 [] [] b) res) : G E rmX2_fillPowers cI layX ad 5 5 [(0, .ref (ad 2)), (1, .int l1), (2, .int l2), (3, .int l3), (4, .int l4)] [] σ := by
  unfold fX2_fillPowers_B5 at h
  refine g_iload 7 C dX2_fillPowers_5 (j := 4) rfl rfl ?_
  refine g_bipush 9 (v := 7) C dX2_fillPowers_7 (by decide) rfl ?_
  refine g_icmp_ge 37 12 C dX2_fillPowers_9 (by decide) rfl h (fun h => ?_) (fun h => ?_)
  · have hh := end_inr h K
    exact g_sub [] (hh) rfl
  · refine g_aload_n 13 C dX2_fillPowers_12 rfl (j := 0) rfl rfl ?_
    refine g_getr 16 (j := 4) C rfl rfl wu_X2 (by decide) wf_X2_21 rfl dX2_fillPowers_13 rfl ?_
    refine g_iload_n 17 C dX2_fillPowers_16 rfl (j := 1) rfl rfl ?_
    refine g_iload 19 C dX2_fillPowers_17 (j := 4) rfl rfl ?_
    refine g_iadd 20 C dX2_fillPowers_19 rfl ?_
    refine g_iload_n 21 C dX2_fillPowers_20 rfl (j := 3) rfl rfl ?_
    refine g_iast 22 C rfl dX2_fillPowers_21 rfl h (fun h => ?_)
    refine g_iload_n 23 C dX2_fillPowers_22 rfl (j := 3) rfl rfl ?_
    refine g_iload_n 24 C dX2_fillPowers_23 rfl (j := 2) rfl rfl ?_
    refine g_imul 25 C dX2_fillPowers_24 rfl ?_
    refine g_aload_n 26 C dX2_fillPowers_25 rfl (j := 0) rfl rfl ?_
    refine g_geti 29 (j := 0) C rfl rfl wu_X2 (by decide) wf_X2_24 rfl dX2_fillPowers_26 rfl ?_
    refine g_iand 30 C dX2_fillPowers_29 rfl ?_
    refine g_istore_n 31 [(3, .int ((l3 * l2) &&& ((up2 σ 14 (l1 + l4).toNatClampNeg l3) 2 0))), (0, .ref (ad 2)), (1, .int l1), (2, .int l2), (4, .int l4)] C dX2_fillPowers_30 rfl (by decide) rfl rfl ?_
    refine g_iinc 34 [(4, .int (l4 + 1)), (3, .int ((l3 * l2) &&& ((up2 σ 14 (l1 + l4).toNatClampNeg l3) 2 0))), (0, .ref (ad 2)), (1, .int l1), (2, .int l2)] C dX2_fillPowers_31 (j := 4) rfl (by rfl) (by decide) rfl rfl ?_
    refine g_goto 5 C dX2_fillPowers_34 (by decide) ?_
    have hh := end_inl h K
    exact g_sub [2, 3, 4, 1, 0] (hh) rfl
noncomputable def fX2_fillPowers_L37 (σ : Mem) : Option (Mem) :=
  some σ
set_option maxHeartbeats 4000000 in
set_option maxRecDepth 100000 in
theorem tX2_fillPowers_L37 {E : Gx} {cI : ClassId} {ad : Nat → Nat} (C : Cx E rmX2_fillPowers cI layX ad 5 RX2 cX2_fillPowers) {out : Mem} (K0 : KV E rmX2_fillPowers cI layX ad 5 cX2_fillPowers out) {σ : Mem} (h : fX2_fillPowers_L37 σ = some out) : G E rmX2_fillPowers cI layX ad 5 37 [] [] σ := by
  unfold fX2_fillPowers_L37 at h
  cases h
  exact K0 _ _ dX2_fillPowers_37
noncomputable def fX2_fillPowers (a1 : Int32) (a2 : Int32) (σ : Mem) : Option (Mem) :=
  (loop (fun a => fX2_fillPowers_B5 a1 a2 a.1 a.2.1 a.2.2) (1, 0, σ)).bind fun b1 =>
  fX2_fillPowers_L37 b1
set_option maxHeartbeats 4000000 in
set_option maxRecDepth 100000 in
theorem mX2_fillPowers {l : Launch} {D : va_G} {cI : ClassId} {ad : Nat → Nat} {a1 : Int32} {a2 : Int32} {σ : Mem} {out : Mem} (h : fX2_fillPowers a1 a2 σ = some out) : MV l D cI layX ad yX2_fillPowers cX2_fillPowers 5 rmX2_fillPowers [.ref (ad 2), .int a1, .int a2] σ out := by
  refine met_v (by decide) (Nat.le_of_ble_eq_true rfl) (fun E C K0 => ?_)
  show G E rmX2_fillPowers cI layX ad 5 0 [(0, .ref (ad 2)), (1, .int a1), (2, .int a2)] [] σ
  unfold fX2_fillPowers at h
  refine g_iconst 1 (v := 1) C dX2_fillPowers_0 (by decide) rfl ?_
  refine g_istore_n 2 [(3, .int 1), (0, .ref (ad 2)), (1, .int a1), (2, .int a2)] C dX2_fillPowers_1 rfl (by decide) rfl rfl ?_
  refine g_iconst 3 (v := 0) C dX2_fillPowers_2 (by decide) rfl ?_
  refine g_istore 5 [(4, .int 0), (3, .int 1), (0, .ref (ad 2)), (1, .int a1), (2, .int a2)] C dX2_fillPowers_3 (by decide) rfl rfl ?_
  obtain ⟨b1, hb, h⟩ := bind_some h
  refine g_sub [2, 3, 4, 1, 0] (g_loop (a := (1, 0, σ)) (fun a => G E rmX2_fillPowers cI layX ad 5 5 [(0, .ref (ad 2)), (1, .int a1), (2, .int a2), (3, .int a.1), (4, .int a.2.1)] [] a.2.2) (fun b => G E rmX2_fillPowers cI layX ad 5 37 [] [] b) hb (fun a res h K => tX2_fillPowers_B5 (l1 := a1) (l2 := a2) (l3 := a.1) (l4 := a.2.1) (σ := a.2.2) (res := res) C K0 h K) ?_) rfl
  show G E rmX2_fillPowers cI layX ad 5 37 [] [] b1
  exact tX2_fillPowers_L37 (σ := b1) C K0 h

/-! LoopReducer$Monomials.worth(I)I -/
abbrev rmX2_worth : Room := { frames := 0, cells := 0, slots := 0, locals := 0 }
theorem qX2_worth : yX2_worth.cls ≠ "java/lang/invoke/MethodHandle" ∧ yX2_worth.cls ≠ "java/lang/invoke/VarHandle" ∧ (parseMethodDescriptor yX2_worth.desc).map (fun d => d.parameters.length) = some 1 := by decide +kernel
theorem DX2_worth : ∀ q ∈ ([(0, .aload_n 0, 1), (1, .getfield 9, 3), (4, .iload_n 1, 1), (5, .iaload, 1), (6, .istore_n 2, 1), (7, .aload_n 0, 1), (8, .getfield 21, 3), (11, .iload_n 2, 1), (12, .bipush 7, 2), (14, .irem, 1), (15, .iaload, 1), (16, .istore_n 3, 1), (17, .aload_n 0, 1), (18, .getfield 21, 3), (21, .bipush 7, 2), (23, .iload_n 2, 1), (24, .bipush 7, 2), (26, .idiv, 1), (27, .bipush 7, 2), (29, .irem, 1), (30, .iadd, 1), (31, .iaload, 1), (32, .istore 4, 2), (34, .iload_n 3, 1), (35, .iload 4, 2), (37, .imul, 1), (38, .aload_n 0, 1), (39, .getfield 21, 3), (42, .bipush 14, 2), (44, .iload_n 2, 1), (45, .bipush 49, 2), (47, .idiv, 1), (48, .iadd, 1), (49, .iaload, 1), (50, .imul, 1), (51, .aload_n 0, 1), (52, .getfield 24, 3), (55, .iand, 1), (56, .ireturn, 1)] : List (Nat × Instr × Nat)), decode cX2_worth q.1 = .ok q.2 := by decide +kernel
theorem dX2_worth_0 : decode cX2_worth 0 = .ok (.aload_n 0, 1) := DX2_worth (0, .aload_n 0, 1) (List.mem_of_getElem? (i := 0) rfl)
theorem dX2_worth_1 : decode cX2_worth 1 = .ok (.getfield 9, 3) := DX2_worth (1, .getfield 9, 3) (List.mem_of_getElem? (i := 1) rfl)
theorem dX2_worth_4 : decode cX2_worth 4 = .ok (.iload_n 1, 1) := DX2_worth (4, .iload_n 1, 1) (List.mem_of_getElem? (i := 2) rfl)
theorem dX2_worth_5 : decode cX2_worth 5 = .ok (.iaload, 1) := DX2_worth (5, .iaload, 1) (List.mem_of_getElem? (i := 3) rfl)
theorem dX2_worth_6 : decode cX2_worth 6 = .ok (.istore_n 2, 1) := DX2_worth (6, .istore_n 2, 1) (List.mem_of_getElem? (i := 4) rfl)
theorem dX2_worth_7 : decode cX2_worth 7 = .ok (.aload_n 0, 1) := DX2_worth (7, .aload_n 0, 1) (List.mem_of_getElem? (i := 5) rfl)
theorem dX2_worth_8 : decode cX2_worth 8 = .ok (.getfield 21, 3) := DX2_worth (8, .getfield 21, 3) (List.mem_of_getElem? (i := 6) rfl)
theorem dX2_worth_11 : decode cX2_worth 11 = .ok (.iload_n 2, 1) := DX2_worth (11, .iload_n 2, 1) (List.mem_of_getElem? (i := 7) rfl)
theorem dX2_worth_12 : decode cX2_worth 12 = .ok (.bipush 7, 2) := DX2_worth (12, .bipush 7, 2) (List.mem_of_getElem? (i := 8) rfl)
theorem dX2_worth_14 : decode cX2_worth 14 = .ok (.irem, 1) := DX2_worth (14, .irem, 1) (List.mem_of_getElem? (i := 9) rfl)
theorem dX2_worth_15 : decode cX2_worth 15 = .ok (.iaload, 1) := DX2_worth (15, .iaload, 1) (List.mem_of_getElem? (i := 10) rfl)
theorem dX2_worth_16 : decode cX2_worth 16 = .ok (.istore_n 3, 1) := DX2_worth (16, .istore_n 3, 1) (List.mem_of_getElem? (i := 11) rfl)
theorem dX2_worth_17 : decode cX2_worth 17 = .ok (.aload_n 0, 1) := DX2_worth (17, .aload_n 0, 1) (List.mem_of_getElem? (i := 12) rfl)
theorem dX2_worth_18 : decode cX2_worth 18 = .ok (.getfield 21, 3) := DX2_worth (18, .getfield 21, 3) (List.mem_of_getElem? (i := 13) rfl)
theorem dX2_worth_21 : decode cX2_worth 21 = .ok (.bipush 7, 2) := DX2_worth (21, .bipush 7, 2) (List.mem_of_getElem? (i := 14) rfl)
theorem dX2_worth_23 : decode cX2_worth 23 = .ok (.iload_n 2, 1) := DX2_worth (23, .iload_n 2, 1) (List.mem_of_getElem? (i := 15) rfl)
theorem dX2_worth_24 : decode cX2_worth 24 = .ok (.bipush 7, 2) := DX2_worth (24, .bipush 7, 2) (List.mem_of_getElem? (i := 16) rfl)
theorem dX2_worth_26 : decode cX2_worth 26 = .ok (.idiv, 1) := DX2_worth (26, .idiv, 1) (List.mem_of_getElem? (i := 17) rfl)
theorem dX2_worth_27 : decode cX2_worth 27 = .ok (.bipush 7, 2) := DX2_worth (27, .bipush 7, 2) (List.mem_of_getElem? (i := 18) rfl)
theorem dX2_worth_29 : decode cX2_worth 29 = .ok (.irem, 1) := DX2_worth (29, .irem, 1) (List.mem_of_getElem? (i := 19) rfl)
theorem dX2_worth_30 : decode cX2_worth 30 = .ok (.iadd, 1) := DX2_worth (30, .iadd, 1) (List.mem_of_getElem? (i := 20) rfl)
theorem dX2_worth_31 : decode cX2_worth 31 = .ok (.iaload, 1) := DX2_worth (31, .iaload, 1) (List.mem_of_getElem? (i := 21) rfl)
theorem dX2_worth_32 : decode cX2_worth 32 = .ok (.istore 4, 2) := DX2_worth (32, .istore 4, 2) (List.mem_of_getElem? (i := 22) rfl)
theorem dX2_worth_34 : decode cX2_worth 34 = .ok (.iload_n 3, 1) := DX2_worth (34, .iload_n 3, 1) (List.mem_of_getElem? (i := 23) rfl)
theorem dX2_worth_35 : decode cX2_worth 35 = .ok (.iload 4, 2) := DX2_worth (35, .iload 4, 2) (List.mem_of_getElem? (i := 24) rfl)
theorem dX2_worth_37 : decode cX2_worth 37 = .ok (.imul, 1) := DX2_worth (37, .imul, 1) (List.mem_of_getElem? (i := 25) rfl)
theorem dX2_worth_38 : decode cX2_worth 38 = .ok (.aload_n 0, 1) := DX2_worth (38, .aload_n 0, 1) (List.mem_of_getElem? (i := 26) rfl)
theorem dX2_worth_39 : decode cX2_worth 39 = .ok (.getfield 21, 3) := DX2_worth (39, .getfield 21, 3) (List.mem_of_getElem? (i := 27) rfl)
theorem dX2_worth_42 : decode cX2_worth 42 = .ok (.bipush 14, 2) := DX2_worth (42, .bipush 14, 2) (List.mem_of_getElem? (i := 28) rfl)
theorem dX2_worth_44 : decode cX2_worth 44 = .ok (.iload_n 2, 1) := DX2_worth (44, .iload_n 2, 1) (List.mem_of_getElem? (i := 29) rfl)
theorem dX2_worth_45 : decode cX2_worth 45 = .ok (.bipush 49, 2) := DX2_worth (45, .bipush 49, 2) (List.mem_of_getElem? (i := 30) rfl)
theorem dX2_worth_47 : decode cX2_worth 47 = .ok (.idiv, 1) := DX2_worth (47, .idiv, 1) (List.mem_of_getElem? (i := 31) rfl)
theorem dX2_worth_48 : decode cX2_worth 48 = .ok (.iadd, 1) := DX2_worth (48, .iadd, 1) (List.mem_of_getElem? (i := 32) rfl)
theorem dX2_worth_49 : decode cX2_worth 49 = .ok (.iaload, 1) := DX2_worth (49, .iaload, 1) (List.mem_of_getElem? (i := 33) rfl)
theorem dX2_worth_50 : decode cX2_worth 50 = .ok (.imul, 1) := DX2_worth (50, .imul, 1) (List.mem_of_getElem? (i := 34) rfl)
theorem dX2_worth_51 : decode cX2_worth 51 = .ok (.aload_n 0, 1) := DX2_worth (51, .aload_n 0, 1) (List.mem_of_getElem? (i := 35) rfl)
theorem dX2_worth_52 : decode cX2_worth 52 = .ok (.getfield 24, 3) := DX2_worth (52, .getfield 24, 3) (List.mem_of_getElem? (i := 36) rfl)
theorem dX2_worth_55 : decode cX2_worth 55 = .ok (.iand, 1) := DX2_worth (55, .iand, 1) (List.mem_of_getElem? (i := 37) rfl)
theorem dX2_worth_56 : decode cX2_worth 56 = .ok (.ireturn, 1) := DX2_worth (56, .ireturn, 1) (List.mem_of_getElem? (i := 38) rfl)
noncomputable def fX2_worth (a1 : Int32) (σ : Mem) : Option (Int32 × Mem) :=
  chk (inb a1 84) <|
  chk (inb ((σ 11 a1.toNatClampNeg) - (σ 11 a1.toNatClampNeg) / 7 * 7) 21) <|
  chk (inb (7 + (((σ 11 a1.toNatClampNeg) / 7) - ((σ 11 a1.toNatClampNeg) / 7) / 7 * 7)) 21) <|
  chk (inb (14 + ((σ 11 a1.toNatClampNeg) / 49)) 21) <|
  some ((((σ 14 ((σ 11 a1.toNatClampNeg) - (σ 11 a1.toNatClampNeg) / 7 * 7).toNatClampNeg) * (σ 14 (7 + (((σ 11 a1.toNatClampNeg) / 7) - ((σ 11 a1.toNatClampNeg) / 7) / 7 * 7)).toNatClampNeg)) * (σ 14 (14 + ((σ 11 a1.toNatClampNeg) / 49)).toNatClampNeg)) &&& (σ 2 0), σ)
set_option maxHeartbeats 4000000 in
set_option maxRecDepth 100000 in
theorem mX2_worth {l : Launch} {D : va_G} {cI : ClassId} {ad : Nat → Nat} {a1 : Int32} {σ : Mem} {out : Int32 × Mem} (h : fX2_worth a1 σ = some out) : MI l D cI layX ad yX2_worth cX2_worth 5 .int rmX2_worth [.ref (ad 2), .int a1] σ out := by
  refine met_i (by decide) (Nat.le_of_ble_eq_true rfl) (fun E C K0 => ?_)
  show G E rmX2_worth cI layX ad 5 0 [(0, .ref (ad 2)), (1, .int a1)] [] σ
  unfold fX2_worth at h
  refine g_aload_n 1 C dX2_worth_0 rfl (j := 0) rfl rfl ?_
  refine g_getr 4 (j := 1) C rfl rfl wu_X2 (by decide) wf_X2_9 rfl dX2_worth_1 rfl ?_
  refine g_iload_n 5 C dX2_worth_4 rfl (j := 1) rfl rfl ?_
  refine g_iald 6 C rfl dX2_worth_5 rfl h (fun h => ?_)
  refine g_istore_n 7 [(2, .int (σ 11 a1.toNatClampNeg)), (0, .ref (ad 2)), (1, .int a1)] C dX2_worth_6 rfl (by decide) rfl rfl ?_
  refine g_aload_n 8 C dX2_worth_7 rfl (j := 1) rfl rfl ?_
  refine g_getr 11 (j := 4) C rfl rfl wu_X2 (by decide) wf_X2_21 rfl dX2_worth_8 rfl ?_
  refine g_iload_n 12 C dX2_worth_11 rfl (j := 0) rfl rfl ?_
  refine g_bipush 14 (v := 7) C dX2_worth_12 (by decide) rfl ?_
  refine g_irem 15 C dX2_worth_14 (by decide) rfl ?_
  refine g_iald 16 C rfl dX2_worth_15 rfl h (fun h => ?_)
  refine g_istore_n 17 [(3, .int (σ 14 ((σ 11 a1.toNatClampNeg) - (σ 11 a1.toNatClampNeg) / 7 * 7).toNatClampNeg)), (2, .int (σ 11 a1.toNatClampNeg)), (0, .ref (ad 2)), (1, .int a1)] C dX2_worth_16 rfl (by decide) rfl rfl ?_
  refine g_aload_n 18 C dX2_worth_17 rfl (j := 2) rfl rfl ?_
  refine g_getr 21 (j := 4) C rfl rfl wu_X2 (by decide) wf_X2_21 rfl dX2_worth_18 rfl ?_
  refine g_bipush 23 (v := 7) C dX2_worth_21 (by decide) rfl ?_
  refine g_iload_n 24 C dX2_worth_23 rfl (j := 1) rfl rfl ?_
  refine g_bipush 26 (v := 7) C dX2_worth_24 (by decide) rfl ?_
  refine g_idiv 27 C dX2_worth_26 (by decide) rfl ?_
  refine g_bipush 29 (v := 7) C dX2_worth_27 (by decide) rfl ?_
  refine g_irem 30 C dX2_worth_29 (by decide) rfl ?_
  refine g_iadd 31 C dX2_worth_30 rfl ?_
  refine g_iald 32 C rfl dX2_worth_31 rfl h (fun h => ?_)
  refine g_istore 34 [(4, .int (σ 14 (7 + (((σ 11 a1.toNatClampNeg) / 7) - ((σ 11 a1.toNatClampNeg) / 7) / 7 * 7)).toNatClampNeg)), (3, .int (σ 14 ((σ 11 a1.toNatClampNeg) - (σ 11 a1.toNatClampNeg) / 7 * 7).toNatClampNeg)), (2, .int (σ 11 a1.toNatClampNeg)), (0, .ref (ad 2)), (1, .int a1)] C dX2_worth_32 (by decide) rfl rfl ?_
  refine g_iload_n 35 C dX2_worth_34 rfl (j := 1) rfl rfl ?_
  refine g_iload 37 C dX2_worth_35 (j := 0) rfl rfl ?_
  refine g_imul 38 C dX2_worth_37 rfl ?_
  refine g_aload_n 39 C dX2_worth_38 rfl (j := 3) rfl rfl ?_
  refine g_getr 42 (j := 4) C rfl rfl wu_X2 (by decide) wf_X2_21 rfl dX2_worth_39 rfl ?_
  refine g_bipush 44 (v := 14) C dX2_worth_42 (by decide) rfl ?_
  refine g_iload_n 45 C dX2_worth_44 rfl (j := 2) rfl rfl ?_
  refine g_bipush 47 (v := 49) C dX2_worth_45 (by decide) rfl ?_
  refine g_idiv 48 C dX2_worth_47 (by decide) rfl ?_
  refine g_iadd 49 C dX2_worth_48 rfl ?_
  refine g_iald 50 C rfl dX2_worth_49 rfl h (fun h => ?_)
  refine g_imul 51 C dX2_worth_50 rfl ?_
  refine g_aload_n 52 C dX2_worth_51 rfl (j := 3) rfl rfl ?_
  refine g_geti 55 (j := 0) C rfl rfl wu_X2 (by decide) wf_X2_24 rfl dX2_worth_52 rfl ?_
  refine g_iand 56 C dX2_worth_55 rfl ?_
  cases h
  exact K0 _ _ dX2_worth_56 rfl

/-! LoopReducer$Monomials.give(III)V -/
abbrev rmX2_give : Room := { frames := 1, cells := 0, slots := 0, locals := 24 }
theorem qX2_give : yX2_give.cls ≠ "java/lang/invoke/MethodHandle" ∧ yX2_give.cls ≠ "java/lang/invoke/VarHandle" ∧ (parseMethodDescriptor yX2_give.desc).map (fun d => d.parameters.length) = some 3 := by decide +kernel
theorem DX2_give : ∀ q ∈ ([(0, .aload_n 0, 1), (1, .iconst 0, 1), (2, .iload_n 1, 1), (3, .invokevirtual 28, 3), (6, .aload_n 0, 1), (7, .bipush 7, 2), (9, .iload_n 2, 1), (10, .invokevirtual 28, 3), (13, .aload_n 0, 1), (14, .bipush 14, 2), (16, .iload_n 3, 1), (17, .invokevirtual 28, 3), (20, .return_, 1)] : List (Nat × Instr × Nat)), decode cX2_give q.1 = .ok q.2 := by decide +kernel
theorem dX2_give_0 : decode cX2_give 0 = .ok (.aload_n 0, 1) := DX2_give (0, .aload_n 0, 1) (List.mem_of_getElem? (i := 0) rfl)
theorem dX2_give_1 : decode cX2_give 1 = .ok (.iconst 0, 1) := DX2_give (1, .iconst 0, 1) (List.mem_of_getElem? (i := 1) rfl)
theorem dX2_give_2 : decode cX2_give 2 = .ok (.iload_n 1, 1) := DX2_give (2, .iload_n 1, 1) (List.mem_of_getElem? (i := 2) rfl)
theorem dX2_give_3 : decode cX2_give 3 = .ok (.invokevirtual 28, 3) := DX2_give (3, .invokevirtual 28, 3) (List.mem_of_getElem? (i := 3) rfl)
theorem dX2_give_6 : decode cX2_give 6 = .ok (.aload_n 0, 1) := DX2_give (6, .aload_n 0, 1) (List.mem_of_getElem? (i := 4) rfl)
theorem dX2_give_7 : decode cX2_give 7 = .ok (.bipush 7, 2) := DX2_give (7, .bipush 7, 2) (List.mem_of_getElem? (i := 5) rfl)
theorem dX2_give_9 : decode cX2_give 9 = .ok (.iload_n 2, 1) := DX2_give (9, .iload_n 2, 1) (List.mem_of_getElem? (i := 6) rfl)
theorem dX2_give_10 : decode cX2_give 10 = .ok (.invokevirtual 28, 3) := DX2_give (10, .invokevirtual 28, 3) (List.mem_of_getElem? (i := 7) rfl)
theorem dX2_give_13 : decode cX2_give 13 = .ok (.aload_n 0, 1) := DX2_give (13, .aload_n 0, 1) (List.mem_of_getElem? (i := 8) rfl)
theorem dX2_give_14 : decode cX2_give 14 = .ok (.bipush 14, 2) := DX2_give (14, .bipush 14, 2) (List.mem_of_getElem? (i := 9) rfl)
theorem dX2_give_16 : decode cX2_give 16 = .ok (.iload_n 3, 1) := DX2_give (16, .iload_n 3, 1) (List.mem_of_getElem? (i := 10) rfl)
theorem dX2_give_17 : decode cX2_give 17 = .ok (.invokevirtual 28, 3) := DX2_give (17, .invokevirtual 28, 3) (List.mem_of_getElem? (i := 11) rfl)
theorem dX2_give_20 : decode cX2_give 20 = .ok (.return_, 1) := DX2_give (20, .return_, 1) (List.mem_of_getElem? (i := 12) rfl)
noncomputable def fX2_give (a1 : Int32) (a2 : Int32) (a3 : Int32) (σ : Mem) : Option (Mem) :=
  (fX2_fillPowers 0 a1 σ).bind fun o1 =>
  (fX2_fillPowers 7 a2 o1).bind fun o2 =>
  (fX2_fillPowers 14 a3 o2).bind fun o3 =>
  some o3
set_option maxHeartbeats 4000000 in
set_option maxRecDepth 100000 in
theorem mX2_give {l : Launch} {D : va_G} {cI : ClassId} {ad : Nat → Nat} {a1 : Int32} {a2 : Int32} {a3 : Int32} {σ : Mem} {out : Mem} (h : fX2_give a1 a2 a3 σ = some out) : MV l D cI layX ad yX2_give cX2_give 4 rmX2_give [.ref (ad 2), .int a1, .int a2, .int a3] σ out := by
  refine met_v (by decide) (Nat.le_of_ble_eq_true rfl) (fun E C K0 => ?_)
  show G E rmX2_give cI layX ad 4 0 [(0, .ref (ad 2)), (1, .int a1), (2, .int a2), (3, .int a3)] [] σ
  unfold fX2_give at h
  refine g_aload_n 1 C dX2_give_0 rfl (j := 0) rfl rfl ?_
  refine g_iconst 2 (v := 0) C dX2_give_1 (by decide) rfl ?_
  refine g_iload_n 3 C dX2_give_2 rfl (j := 1) rfl rfl ?_
  refine g_cvv 6 C (As := [.int 0, .int a1]) (fun _ h => mX2_fillPowers (a1 := 0) (a2 := a1) (σ := σ) h) wl_X2_28 wi_X2_fillPowers wz_X2_fillPowers wc_X2_fillPowers wn_X2 qX2_fillPowers rfl rfl ⟨Nat.le_of_ble_eq_true rfl, Nat.le_of_ble_eq_true rfl⟩ rfl rfl rfl rfl (Nat.le_of_ble_eq_true rfl) dX2_give_3 rfl h (fun o1 h => ?_)
  refine g_aload_n 7 C dX2_give_6 rfl (j := 0) rfl rfl ?_
  refine g_bipush 9 (v := 7) C dX2_give_7 (by decide) rfl ?_
  refine g_iload_n 10 C dX2_give_9 rfl (j := 2) rfl rfl ?_
  refine g_cvv 13 C (As := [.int 7, .int a2]) (fun _ h => mX2_fillPowers (a1 := 7) (a2 := a2) (σ := o1) h) wl_X2_28 wi_X2_fillPowers wz_X2_fillPowers wc_X2_fillPowers wn_X2 qX2_fillPowers rfl rfl ⟨Nat.le_of_ble_eq_true rfl, Nat.le_of_ble_eq_true rfl⟩ rfl rfl rfl rfl (Nat.le_of_ble_eq_true rfl) dX2_give_10 rfl h (fun o2 h => ?_)
  refine g_aload_n 14 C dX2_give_13 rfl (j := 0) rfl rfl ?_
  refine g_bipush 16 (v := 14) C dX2_give_14 (by decide) rfl ?_
  refine g_iload_n 17 C dX2_give_16 rfl (j := 3) rfl rfl ?_
  refine g_cvv 20 C (As := [.int 14, .int a3]) (fun _ h => mX2_fillPowers (a1 := 14) (a2 := a3) (σ := o2) h) wl_X2_28 wi_X2_fillPowers wz_X2_fillPowers wc_X2_fillPowers wn_X2 qX2_fillPowers rfl rfl ⟨Nat.le_of_ble_eq_true rfl, Nat.le_of_ble_eq_true rfl⟩ rfl rfl rfl rfl (Nat.le_of_ble_eq_true rfl) dX2_give_17 rfl h (fun o3 h => ?_)
  cases h
  exact K0 _ _ dX2_give_20
