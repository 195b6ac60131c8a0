/-! LoopReducerModel.asked()I -/
abbrev rmX8_asked : Room := { frames := 0, cells := 0, slots := 0, locals := 0 }
theorem qX8_asked : yX8_asked.cls ≠ "java/lang/invoke/MethodHandle" ∧ yX8_asked.cls ≠ "java/lang/invoke/VarHandle" ∧ (parseMethodDescriptor yX8_asked.desc).map (fun d => d.parameters.length) = some 0 := by decide +kernel
theorem DX8_asked : ∀ q ∈ ([(0, .aload_n 0, 1), (1, .getfield 23, 3), (4, .iconst (-1), 1), (5, .if_icmp .ne 10, 3), (8, .aload_n 0, 1), (9, .getfield 99, 3), (12, .goto 21, 3), (15, .aload_n 0, 1), (16, .getfield 99, 3), (19, .iconst 1, 1), (20, .aload_n 0, 1), (21, .getfield 27, 3), (24, .ishl, 1), (25, .ior, 1), (26, .iconst 1, 1), (27, .aload_n 0, 1), (28, .getfield 30, 3), (31, .ishl, 1), (32, .ior, 1), (33, .ireturn, 1)] : List (Nat × Instr × Nat)), decode cX8_asked q.1 = .ok q.2 := by decide +kernel
theorem dX8_asked_0 : decode cX8_asked 0 = .ok (.aload_n 0, 1) := DX8_asked (0, .aload_n 0, 1) (List.mem_of_getElem? (i := 0) rfl)
theorem dX8_asked_1 : decode cX8_asked 1 = .ok (.getfield 23, 3) := DX8_asked (1, .getfield 23, 3) (List.mem_of_getElem? (i := 1) rfl)
theorem dX8_asked_4 : decode cX8_asked 4 = .ok (.iconst (-1), 1) := DX8_asked (4, .iconst (-1), 1) (List.mem_of_getElem? (i := 2) rfl)
theorem dX8_asked_5 : decode cX8_asked 5 = .ok (.if_icmp .ne 10, 3) := DX8_asked (5, .if_icmp .ne 10, 3) (List.mem_of_getElem? (i := 3) rfl)
theorem dX8_asked_8 : decode cX8_asked 8 = .ok (.aload_n 0, 1) := DX8_asked (8, .aload_n 0, 1) (List.mem_of_getElem? (i := 4) rfl)
theorem dX8_asked_9 : decode cX8_asked 9 = .ok (.getfield 99, 3) := DX8_asked (9, .getfield 99, 3) (List.mem_of_getElem? (i := 5) rfl)
theorem dX8_asked_12 : decode cX8_asked 12 = .ok (.goto 21, 3) := DX8_asked (12, .goto 21, 3) (List.mem_of_getElem? (i := 6) rfl)
theorem dX8_asked_15 : decode cX8_asked 15 = .ok (.aload_n 0, 1) := DX8_asked (15, .aload_n 0, 1) (List.mem_of_getElem? (i := 7) rfl)
theorem dX8_asked_16 : decode cX8_asked 16 = .ok (.getfield 99, 3) := DX8_asked (16, .getfield 99, 3) (List.mem_of_getElem? (i := 8) rfl)
theorem dX8_asked_19 : decode cX8_asked 19 = .ok (.iconst 1, 1) := DX8_asked (19, .iconst 1, 1) (List.mem_of_getElem? (i := 9) rfl)
theorem dX8_asked_20 : decode cX8_asked 20 = .ok (.aload_n 0, 1) := DX8_asked (20, .aload_n 0, 1) (List.mem_of_getElem? (i := 10) rfl)
theorem dX8_asked_21 : decode cX8_asked 21 = .ok (.getfield 27, 3) := DX8_asked (21, .getfield 27, 3) (List.mem_of_getElem? (i := 11) rfl)
theorem dX8_asked_24 : decode cX8_asked 24 = .ok (.ishl, 1) := DX8_asked (24, .ishl, 1) (List.mem_of_getElem? (i := 12) rfl)
theorem dX8_asked_25 : decode cX8_asked 25 = .ok (.ior, 1) := DX8_asked (25, .ior, 1) (List.mem_of_getElem? (i := 13) rfl)
theorem dX8_asked_26 : decode cX8_asked 26 = .ok (.iconst 1, 1) := DX8_asked (26, .iconst 1, 1) (List.mem_of_getElem? (i := 14) rfl)
theorem dX8_asked_27 : decode cX8_asked 27 = .ok (.aload_n 0, 1) := DX8_asked (27, .aload_n 0, 1) (List.mem_of_getElem? (i := 15) rfl)
theorem dX8_asked_28 : decode cX8_asked 28 = .ok (.getfield 30, 3) := DX8_asked (28, .getfield 30, 3) (List.mem_of_getElem? (i := 16) rfl)
theorem dX8_asked_31 : decode cX8_asked 31 = .ok (.ishl, 1) := DX8_asked (31, .ishl, 1) (List.mem_of_getElem? (i := 17) rfl)
theorem dX8_asked_32 : decode cX8_asked 32 = .ok (.ior, 1) := DX8_asked (32, .ior, 1) (List.mem_of_getElem? (i := 18) rfl)
theorem dX8_asked_33 : decode cX8_asked 33 = .ok (.ireturn, 1) := DX8_asked (33, .ireturn, 1) (List.mem_of_getElem? (i := 19) rfl)
noncomputable def fX8_asked_L33 (s0 : Int32) (σ : Mem) : Option (Int32 × Mem) :=
  some (s0, σ)
set_option maxHeartbeats 4000000 in
set_option maxRecDepth 100000 in
theorem tX8_asked_L33 {E : Gx} {cI : ClassId} {ad : Nat → Nat} (C : Cx E rmX8_asked cI layM ad 1 RX8 cX8_asked) {out : Int32 × Mem} (K0 : KI E rmX8_asked cI layM ad 1 cX8_asked .int out) {s0 : Int32} {σ : Mem} (h : fX8_asked_L33 s0 σ = some out) : G E rmX8_asked cI layM ad 1 33 [] [.int s0] σ := by
  unfold fX8_asked_L33 at h
  cases h
  exact K0 _ _ dX8_asked_33 rfl
noncomputable def fX8_asked (σ : Mem) : Option (Int32 × Mem) :=
  if (σ 0 8) = (-1) then
    fX8_asked_L33 (σ 0 7) σ
  else
    fX8_asked_L33 (((σ 0 7) ||| (1 <<< ((σ 0 9) &&& 31))) ||| (1 <<< ((σ 0 10) &&& 31))) σ
set_option maxHeartbeats 4000000 in
set_option maxRecDepth 100000 in
theorem mX8_asked {l : Launch} {D : va_G} {cI : ClassId} {ad : Nat → Nat} {σ : Mem} {out : Int32 × Mem} (h : fX8_asked σ = some out) : MI l D cI layM ad yX8_asked cX8_asked 1 .int rmX8_asked [.ref (ad 0)] σ out := by
  refine met_i (by decide) (Nat.le_of_ble_eq_true rfl) (fun E C K0 => ?_)
  show G E rmX8_asked cI layM ad 1 0 [(0, .ref (ad 0))] [] σ
  unfold fX8_asked at h
  refine g_aload_n 1 C dX8_asked_0 rfl (j := 0) rfl rfl ?_
  refine g_geti 4 (j := 8) C rfl rfl wu_X8 (by decide) wf_X8_23 rfl dX8_asked_1 rfl ?_
  refine g_iconst 5 (v := (-1)) C dX8_asked_4 (by decide) rfl ?_
  refine g_icmp_ne 15 8 C dX8_asked_5 (by decide) rfl h (fun h => ?_) (fun h => ?_)
  · refine g_aload_n 9 C dX8_asked_8 rfl (j := 0) rfl rfl ?_
    refine g_geti 12 (j := 7) C rfl rfl wu_X8 (by decide) wf_X8_99 rfl dX8_asked_9 rfl ?_
    refine g_goto 33 C dX8_asked_12 (by decide) ?_
    exact g_sub [] (tX8_asked_L33 (s0 := (σ 0 7)) (σ := σ) C K0 h) rfl
  · refine g_aload_n 16 C dX8_asked_15 rfl (j := 0) rfl rfl ?_
    refine g_geti 19 (j := 7) C rfl rfl wu_X8 (by decide) wf_X8_99 rfl dX8_asked_16 rfl ?_
    refine g_iconst 20 (v := 1) C dX8_asked_19 (by decide) rfl ?_
    refine g_aload_n 21 C dX8_asked_20 rfl (j := 0) rfl rfl ?_
    refine g_geti 24 (j := 9) C rfl rfl wu_X8 (by decide) wf_X8_27 rfl dX8_asked_21 rfl ?_
    refine g_ishl 25 C dX8_asked_24 rfl ?_
    refine g_ior 26 C dX8_asked_25 rfl ?_
    refine g_iconst 27 (v := 1) C dX8_asked_26 (by decide) rfl ?_
    refine g_aload_n 28 C dX8_asked_27 rfl (j := 0) rfl rfl ?_
    refine g_geti 31 (j := 10) C rfl rfl wu_X8 (by decide) wf_X8_30 rfl dX8_asked_28 rfl ?_
    refine g_ishl 32 C dX8_asked_31 rfl ?_
    refine g_ior 33 C dX8_asked_32 rfl ?_
    exact g_sub [] (tX8_asked_L33 (s0 := (((σ 0 7) ||| (1 <<< ((σ 0 9) &&& 31))) ||| (1 <<< ((σ 0 10) &&& 31)))) (σ := σ) C K0 h) rfl

/-! LoopReducerModel.cellOf(I)I -/
abbrev rmX8_cellOf : Room := { frames := 1, cells := 0, slots := 0, locals := 23 }
theorem qX8_cellOf : yX8_cellOf.cls ≠ "java/lang/invoke/MethodHandle" ∧ yX8_cellOf.cls ≠ "java/lang/invoke/VarHandle" ∧ (parseMethodDescriptor yX8_cellOf.desc).map (fun d => d.parameters.length) = some 1 := by decide +kernel
theorem DX8_cellOf : ∀ q ∈ ([(0, .iconst 0, 1), (1, .istore_n 2, 1), (2, .iload_n 2, 1), (3, .aload_n 0, 1), (4, .getfield 223, 3), (7, .if_icmp .ge 24, 3), (10, .aload_n 0, 1), (11, .bipush 34, 2), (13, .iload_n 2, 1), (14, .iadd, 1), (15, .bipush 30, 2), (17, .invokevirtual 196, 3), (20, .ifCond .eq 5, 3), (23, .iload_n 2, 1), (24, .ireturn, 1), (25, .iinc 2 1, 3), (28, .goto (-26), 3), (31, .aload_n 0, 1), (32, .bipush 30, 2), (34, .bipush 34, 2), (36, .aload_n 0, 1), (37, .getfield 223, 3), (40, .iadd, 1), (41, .invokevirtual 156, 3), (44, .aload_n 0, 1), (45, .getfield 48, 3), (48, .aload_n 0, 1), (49, .getfield 223, 3), (52, .iload_n 1, 1), (53, .iastore, 1), (54, .aload_n 0, 1), (55, .dup, 1), (56, .getfield 223, 3), (59, .iconst 1, 1), (60, .iadd, 1), (61, .putfield 223, 3), (64, .aload_n 0, 1), (65, .getfield 223, 3), (68, .iconst 1, 1), (69, .isub, 1), (70, .ireturn, 1)] : List (Nat × Instr × Nat)), decode cX8_cellOf q.1 = .ok q.2 := by decide +kernel
theorem dX8_cellOf_0 : decode cX8_cellOf 0 = .ok (.iconst 0, 1) := DX8_cellOf (0, .iconst 0, 1) (List.mem_of_getElem? (i := 0) rfl)
theorem dX8_cellOf_1 : decode cX8_cellOf 1 = .ok (.istore_n 2, 1) := DX8_cellOf (1, .istore_n 2, 1) (List.mem_of_getElem? (i := 1) rfl)
theorem dX8_cellOf_2 : decode cX8_cellOf 2 = .ok (.iload_n 2, 1) := DX8_cellOf (2, .iload_n 2, 1) (List.mem_of_getElem? (i := 2) rfl)
theorem dX8_cellOf_3 : decode cX8_cellOf 3 = .ok (.aload_n 0, 1) := DX8_cellOf (3, .aload_n 0, 1) (List.mem_of_getElem? (i := 3) rfl)
theorem dX8_cellOf_4 : decode cX8_cellOf 4 = .ok (.getfield 223, 3) := DX8_cellOf (4, .getfield 223, 3) (List.mem_of_getElem? (i := 4) rfl)
theorem dX8_cellOf_7 : decode cX8_cellOf 7 = .ok (.if_icmp .ge 24, 3) := DX8_cellOf (7, .if_icmp .ge 24, 3) (List.mem_of_getElem? (i := 5) rfl)
theorem dX8_cellOf_10 : decode cX8_cellOf 10 = .ok (.aload_n 0, 1) := DX8_cellOf (10, .aload_n 0, 1) (List.mem_of_getElem? (i := 6) rfl)
theorem dX8_cellOf_11 : decode cX8_cellOf 11 = .ok (.bipush 34, 2) := DX8_cellOf (11, .bipush 34, 2) (List.mem_of_getElem? (i := 7) rfl)
theorem dX8_cellOf_13 : decode cX8_cellOf 13 = .ok (.iload_n 2, 1) := DX8_cellOf (13, .iload_n 2, 1) (List.mem_of_getElem? (i := 8) rfl)
theorem dX8_cellOf_14 : decode cX8_cellOf 14 = .ok (.iadd, 1) := DX8_cellOf (14, .iadd, 1) (List.mem_of_getElem? (i := 9) rfl)
theorem dX8_cellOf_15 : decode cX8_cellOf 15 = .ok (.bipush 30, 2) := DX8_cellOf (15, .bipush 30, 2) (List.mem_of_getElem? (i := 10) rfl)
theorem dX8_cellOf_17 : decode cX8_cellOf 17 = .ok (.invokevirtual 196, 3) := DX8_cellOf (17, .invokevirtual 196, 3) (List.mem_of_getElem? (i := 11) rfl)
theorem dX8_cellOf_20 : decode cX8_cellOf 20 = .ok (.ifCond .eq 5, 3) := DX8_cellOf (20, .ifCond .eq 5, 3) (List.mem_of_getElem? (i := 12) rfl)
theorem dX8_cellOf_23 : decode cX8_cellOf 23 = .ok (.iload_n 2, 1) := DX8_cellOf (23, .iload_n 2, 1) (List.mem_of_getElem? (i := 13) rfl)
theorem dX8_cellOf_24 : decode cX8_cellOf 24 = .ok (.ireturn, 1) := DX8_cellOf (24, .ireturn, 1) (List.mem_of_getElem? (i := 14) rfl)
theorem dX8_cellOf_25 : decode cX8_cellOf 25 = .ok (.iinc 2 1, 3) := DX8_cellOf (25, .iinc 2 1, 3) (List.mem_of_getElem? (i := 15) rfl)
theorem dX8_cellOf_28 : decode cX8_cellOf 28 = .ok (.goto (-26), 3) := DX8_cellOf (28, .goto (-26), 3) (List.mem_of_getElem? (i := 16) rfl)
theorem dX8_cellOf_31 : decode cX8_cellOf 31 = .ok (.aload_n 0, 1) := DX8_cellOf (31, .aload_n 0, 1) (List.mem_of_getElem? (i := 17) rfl)
theorem dX8_cellOf_32 : decode cX8_cellOf 32 = .ok (.bipush 30, 2) := DX8_cellOf (32, .bipush 30, 2) (List.mem_of_getElem? (i := 18) rfl)
theorem dX8_cellOf_34 : decode cX8_cellOf 34 = .ok (.bipush 34, 2) := DX8_cellOf (34, .bipush 34, 2) (List.mem_of_getElem? (i := 19) rfl)
theorem dX8_cellOf_36 : decode cX8_cellOf 36 = .ok (.aload_n 0, 1) := DX8_cellOf (36, .aload_n 0, 1) (List.mem_of_getElem? (i := 20) rfl)
theorem dX8_cellOf_37 : decode cX8_cellOf 37 = .ok (.getfield 223, 3) := DX8_cellOf (37, .getfield 223, 3) (List.mem_of_getElem? (i := 21) rfl)
theorem dX8_cellOf_40 : decode cX8_cellOf 40 = .ok (.iadd, 1) := DX8_cellOf (40, .iadd, 1) (List.mem_of_getElem? (i := 22) rfl)
theorem dX8_cellOf_41 : decode cX8_cellOf 41 = .ok (.invokevirtual 156, 3) := DX8_cellOf (41, .invokevirtual 156, 3) (List.mem_of_getElem? (i := 23) rfl)
theorem dX8_cellOf_44 : decode cX8_cellOf 44 = .ok (.aload_n 0, 1) := DX8_cellOf (44, .aload_n 0, 1) (List.mem_of_getElem? (i := 24) rfl)
theorem dX8_cellOf_45 : decode cX8_cellOf 45 = .ok (.getfield 48, 3) := DX8_cellOf (45, .getfield 48, 3) (List.mem_of_getElem? (i := 25) rfl)
theorem dX8_cellOf_48 : decode cX8_cellOf 48 = .ok (.aload_n 0, 1) := DX8_cellOf (48, .aload_n 0, 1) (List.mem_of_getElem? (i := 26) rfl)
theorem dX8_cellOf_49 : decode cX8_cellOf 49 = .ok (.getfield 223, 3) := DX8_cellOf (49, .getfield 223, 3) (List.mem_of_getElem? (i := 27) rfl)
theorem dX8_cellOf_52 : decode cX8_cellOf 52 = .ok (.iload_n 1, 1) := DX8_cellOf (52, .iload_n 1, 1) (List.mem_of_getElem? (i := 28) rfl)
theorem dX8_cellOf_53 : decode cX8_cellOf 53 = .ok (.iastore, 1) := DX8_cellOf (53, .iastore, 1) (List.mem_of_getElem? (i := 29) rfl)
theorem dX8_cellOf_54 : decode cX8_cellOf 54 = .ok (.aload_n 0, 1) := DX8_cellOf (54, .aload_n 0, 1) (List.mem_of_getElem? (i := 30) rfl)
theorem dX8_cellOf_55 : decode cX8_cellOf 55 = .ok (.dup, 1) := DX8_cellOf (55, .dup, 1) (List.mem_of_getElem? (i := 31) rfl)
theorem dX8_cellOf_56 : decode cX8_cellOf 56 = .ok (.getfield 223, 3) := DX8_cellOf (56, .getfield 223, 3) (List.mem_of_getElem? (i := 32) rfl)
theorem dX8_cellOf_59 : decode cX8_cellOf 59 = .ok (.iconst 1, 1) := DX8_cellOf (59, .iconst 1, 1) (List.mem_of_getElem? (i := 33) rfl)
theorem dX8_cellOf_60 : decode cX8_cellOf 60 = .ok (.iadd, 1) := DX8_cellOf (60, .iadd, 1) (List.mem_of_getElem? (i := 34) rfl)
theorem dX8_cellOf_61 : decode cX8_cellOf 61 = .ok (.putfield 223, 3) := DX8_cellOf (61, .putfield 223, 3) (List.mem_of_getElem? (i := 35) rfl)
theorem dX8_cellOf_64 : decode cX8_cellOf 64 = .ok (.aload_n 0, 1) := DX8_cellOf (64, .aload_n 0, 1) (List.mem_of_getElem? (i := 36) rfl)
theorem dX8_cellOf_65 : decode cX8_cellOf 65 = .ok (.getfield 223, 3) := DX8_cellOf (65, .getfield 223, 3) (List.mem_of_getElem? (i := 37) rfl)
theorem dX8_cellOf_68 : decode cX8_cellOf 68 = .ok (.iconst 1, 1) := DX8_cellOf (68, .iconst 1, 1) (List.mem_of_getElem? (i := 38) rfl)
theorem dX8_cellOf_69 : decode cX8_cellOf 69 = .ok (.isub, 1) := DX8_cellOf (69, .isub, 1) (List.mem_of_getElem? (i := 39) rfl)
theorem dX8_cellOf_70 : decode cX8_cellOf 70 = .ok (.ireturn, 1) := DX8_cellOf (70, .ireturn, 1) (List.mem_of_getElem? (i := 40) rfl)
noncomputable def fX8_cellOf_B2 (l1 : Int32) (l2 : Int32) (σ : Mem) : Option ((Int32 × Mem) ⊕ ((Mem) ⊕ (Int32 × Mem))) :=
  if (σ 0 17) ≤ l2 then
    some (.inr (.inl σ))
  else
    (fX8_areAlike (34 + l2) 30 σ).bind fun o1 =>
    if o1.1 = 0 then
      some (.inl (l2 + 1, o1.2))
    else
      some (.inr (.inr (l2, o1.2)))
set_option maxHeartbeats 4000000 in
set_option maxRecDepth 100000 in
theorem tX8_cellOf_B2 {E : Gx} {cI : ClassId} {ad : Nat → Nat} (C : Cx E rmX8_cellOf cI layM ad 3 RX8 cX8_cellOf) {out : Int32 × Mem} (K0 : KI E rmX8_cellOf cI layM ad 3 cX8_cellOf .int out) {l1 : Int32} {l2 : Int32} {σ : Mem} {res : (Int32 × Mem) ⊕ ((Mem) ⊕ (Int32 × Mem))} (h : fX8_cellOf_B2 l1 l2 σ = some res) (K : Sum.elim (fun a => G E rmX8_cellOf cI layM ad 3 2 [(0, .ref (ad 0)), (1, .int l1), (2, .int a.1)] [] a.2) (Sum.elim (fun b => G E rmX8_cellOf cI layM ad 3 31 [(0, .ref (ad 0)), (1, .int l1)] [] b) (fun b => b = out)) res) : G E rmX8_cellOf cI layM ad 3 2 [(0, .ref (ad 0)), (1, .int l1), (2, .int l2)] [] σ := by
  unfold fX8_cellOf_B2 at h
  refine g_iload_n 3 C dX8_cellOf_2 rfl (j := 2) rfl rfl ?_
  refine g_aload_n 4 C dX8_cellOf_3 rfl (j := 0) rfl rfl ?_
  refine g_geti 7 (j := 17) C rfl rfl wu_X8 (by decide) wf_X8_223 rfl dX8_cellOf_4 rfl ?_
  refine g_icmp_ge 31 10 C dX8_cellOf_7 (by decide) rfl h (fun h => ?_) (fun h => ?_)
  · have hh := end_alt0_2 h K
    exact g_sub [0, 1] (hh) rfl
  · refine g_aload_n 11 C dX8_cellOf_10 rfl (j := 0) rfl rfl ?_
    refine g_bipush 13 (v := 34) C dX8_cellOf_11 (by decide) rfl ?_
    refine g_iload_n 14 C dX8_cellOf_13 rfl (j := 2) rfl rfl ?_
    refine g_iadd 15 C dX8_cellOf_14 rfl ?_
    refine g_bipush 17 (v := 30) C dX8_cellOf_15 (by decide) rfl ?_
    refine g_cvi 20 C (As := [.int (34 + l2), .int 30]) (fun _ h => mX8_areAlike (a1 := 34 + l2) (a2 := 30) (σ := σ) h) wl_X8_196 wi_X8_areAlike wz_X8_areAlike wc_X8_areAlike wn_X8 qX8_areAlike rfl rfl ⟨Nat.le_of_ble_eq_true rfl, Nat.le_of_ble_eq_true rfl⟩ rfl rfl rfl rfl (Nat.le_of_ble_eq_true rfl) dX8_cellOf_17 rfl h (fun o1 h => ?_)
    refine g_if_eq 25 23 C dX8_cellOf_20 (by decide) rfl h (fun h => ?_) (fun h => ?_)
    · refine g_iinc 28 [(2, .int (l2 + 1)), (0, .ref (ad 0)), (1, .int l1)] C dX8_cellOf_25 (j := 2) rfl (by rfl) (by decide) rfl rfl ?_
      refine g_goto 2 C dX8_cellOf_28 (by decide) ?_
      have hh := end_inl h K
      exact g_sub [1, 2, 0] (hh) rfl
    · refine g_iload_n 24 C dX8_cellOf_23 rfl (j := 2) rfl rfl ?_
      have ho := end_alt1_2 h K
      replace ho : (l2, o1.2) = out := ho
      subst ho
      exact K0 _ _ dX8_cellOf_24 rfl
noncomputable def fX8_cellOf_L31 (l1 : Int32) (σ : Mem) : Option (Int32 × Mem) :=
  (fX8_copies 30 (34 + (σ 0 17)) σ).bind fun o3 =>
  chk (inb (o3 0 17) 90) <|
  some (((up2 (up2 o3 10 (o3 0 17).toNatClampNeg l1) 0 17 (((up2 o3 10 (o3 0 17).toNatClampNeg l1) 0 17) + 1)) 0 17) - 1, up2 (up2 o3 10 (o3 0 17).toNatClampNeg l1) 0 17 (((up2 o3 10 (o3 0 17).toNatClampNeg l1) 0 17) + 1))
set_option maxHeartbeats 4000000 in
set_option maxRecDepth 100000 in
theorem tX8_cellOf_L31 {E : Gx} {cI : ClassId} {ad : Nat → Nat} (C : Cx E rmX8_cellOf cI layM ad 3 RX8 cX8_cellOf) {out : Int32 × Mem} (K0 : KI E rmX8_cellOf cI layM ad 3 cX8_cellOf .int out) {l1 : Int32} {σ : Mem} (h : fX8_cellOf_L31 l1 σ = some out) : G E rmX8_cellOf cI layM ad 3 31 [(0, .ref (ad 0)), (1, .int l1)] [] σ := by
  unfold fX8_cellOf_L31 at h
  refine g_aload_n 32 C dX8_cellOf_31 rfl (j := 0) rfl rfl ?_
  refine g_bipush 34 (v := 30) C dX8_cellOf_32 (by decide) rfl ?_
  refine g_bipush 36 (v := 34) C dX8_cellOf_34 (by decide) rfl ?_
  refine g_aload_n 37 C dX8_cellOf_36 rfl (j := 0) rfl rfl ?_
  refine g_geti 40 (j := 17) C rfl rfl wu_X8 (by decide) wf_X8_223 rfl dX8_cellOf_37 rfl ?_
  refine g_iadd 41 C dX8_cellOf_40 rfl ?_
  refine g_cvv 44 C (As := [.int 30, .int (34 + (σ 0 17))]) (fun _ h => mX8_copies (a1 := 30) (a2 := 34 + (σ 0 17)) (σ := σ) h) wl_X8_156 wi_X8_copies wz_X8_copies wc_X8_copies wn_X8 qX8_copies rfl rfl ⟨Nat.le_of_ble_eq_true rfl, Nat.le_of_ble_eq_true rfl⟩ rfl rfl rfl rfl (Nat.le_of_ble_eq_true rfl) dX8_cellOf_41 rfl h (fun o3 h => ?_)
  refine g_aload_n 45 C dX8_cellOf_44 rfl (j := 0) rfl rfl ?_
  refine g_getr 48 (j := 18) C rfl rfl wu_X8 (by decide) wf_X8_48 rfl dX8_cellOf_45 rfl ?_
  refine g_aload_n 49 C dX8_cellOf_48 rfl (j := 0) rfl rfl ?_
  refine g_geti 52 (j := 17) C rfl rfl wu_X8 (by decide) wf_X8_223 rfl dX8_cellOf_49 rfl ?_
  refine g_iload_n 53 C dX8_cellOf_52 rfl (j := 1) rfl rfl ?_
  refine g_iast 54 C rfl dX8_cellOf_53 rfl h (fun h => ?_)
  refine g_aload_n 55 C dX8_cellOf_54 rfl (j := 0) rfl rfl ?_
  refine g_dup 56 C dX8_cellOf_55 rfl rfl ?_
  refine g_geti 59 (j := 17) C rfl rfl wu_X8 (by decide) wf_X8_223 rfl dX8_cellOf_56 rfl ?_
  refine g_iconst 60 (v := 1) C dX8_cellOf_59 (by decide) rfl ?_
  refine g_iadd 61 C dX8_cellOf_60 rfl ?_
  refine g_puti 64 (j := 17) C rfl rfl wu_X8 (by decide) wf_X8_223 tyX8 tyX8_ok nmX8 rfl rfl rfl rfl dX8_cellOf_61 rfl ?_
  refine g_aload_n 65 C dX8_cellOf_64 rfl (j := 0) rfl rfl ?_
  refine g_geti 68 (j := 17) C rfl rfl wu_X8 (by decide) wf_X8_223 rfl dX8_cellOf_65 rfl ?_
  refine g_iconst 69 (v := 1) C dX8_cellOf_68 (by decide) rfl ?_
  refine g_isub 70 C dX8_cellOf_69 rfl ?_
  cases h
  exact K0 _ _ dX8_cellOf_70 rfl
noncomputable def fX8_cellOf (a1 : Int32) (σ : Mem) : Option (Int32 × Mem) :=
  (loop (fun a => fX8_cellOf_B2 a1 a.1 a.2) (0, σ)).bind (Sum.elim (fun b2x0 => fX8_cellOf_L31 a1 b2x0) (fun b2r => some b2r))
set_option maxHeartbeats 4000000 in
set_option maxRecDepth 100000 in
theorem mX8_cellOf {l : Launch} {D : va_G} {cI : ClassId} {ad : Nat → Nat} {a1 : Int32} {σ : Mem} {out : Int32 × Mem} (h : fX8_cellOf a1 σ = some out) : MI l D cI layM ad yX8_cellOf cX8_cellOf 3 .int rmX8_cellOf [.ref (ad 0), .int a1] σ out := by
  refine met_i (by decide) (Nat.le_of_ble_eq_true rfl) (fun E C K0 => ?_)
  show G E rmX8_cellOf cI layM ad 3 0 [(0, .ref (ad 0)), (1, .int a1)] [] σ
  unfold fX8_cellOf at h
  refine g_iconst 1 (v := 0) C dX8_cellOf_0 (by decide) rfl ?_
  refine g_istore_n 2 [(2, .int 0), (0, .ref (ad 0)), (1, .int a1)] C dX8_cellOf_1 rfl (by decide) rfl rfl ?_
  obtain ⟨b2, hb, h⟩ := bind_some h
  refine g_sub [1, 2, 0] (g_loop (a := (0, σ)) (fun a => G E rmX8_cellOf cI layM ad 3 2 [(0, .ref (ad 0)), (1, .int a1), (2, .int a.1)] [] a.2) (Sum.elim (fun b => G E rmX8_cellOf cI layM ad 3 31 [(0, .ref (ad 0)), (1, .int a1)] [] b) (fun b => b = out)) hb (fun a res h K => tX8_cellOf_B2 (l1 := a1) (l2 := a.1) (σ := a.2) (res := res) C K0 h K) ?_) rfl
  rcases b2 with b2x0 | b2r
  · show G E rmX8_cellOf cI layM ad 3 31 [(0, .ref (ad 0)), (1, .int a1)] [] b2x0
    exact tX8_cellOf_L31 (l1 := a1) (σ := b2x0) C K0 h
  · exact end_top h

/-! LoopReducerModel.laysCells(I)V -/
abbrev rmX8_laysCells : Room := { frames := 2, cells := 0, slots := 0, locals := 45 }
theorem qX8_laysCells : yX8_laysCells.cls ≠ "java/lang/invoke/MethodHandle" ∧ yX8_laysCells.cls ≠ "java/lang/invoke/VarHandle" ∧ (parseMethodDescriptor yX8_laysCells.desc).map (fun d => d.parameters.length) = some 1 := by decide +kernel
theorem DX8_laysCells : ∀ q ∈ ([(0, .aload_n 0, 1), (1, .iconst 0, 1), (2, .putfield 223, 3), (5, .iconst 0, 1), (6, .istore_n 2, 1), (7, .iload_n 2, 1), (8, .aload_n 0, 1), (9, .getfield 72, 3), (12, .if_icmp .ge 142, 3), (15, .iload_n 1, 1), (16, .iload_n 2, 1), (17, .invokestatic 102, 3), (20, .ifCond .eq 128, 3), (23, .aload_n 0, 1), (24, .getfield 14, 3), (27, .iload_n 2, 1), (28, .iaload, 1), (29, .iconst 4, 1), (30, .if_icmp .ne 118, 3), (33, .aload_n 0, 1), (34, .getfield 39, 3), (37, .iload_n 2, 1), (38, .iaload, 1), (39, .iconst 1, 1), (40, .if_icmp .eq 6, 3), (43, .goto 105, 3), (46, .aload_n 0, 1), (47, .iload_n 2, 1), (48, .bipush 30, 2), (50, .invokevirtual 156, 3), (53, .iconst (-1), 1), (54, .istore_n 3, 1), (55, .aload_n 0, 1), (56, .bipush 30, 2), (58, .invokevirtual 124, 3), (61, .ifCond .le 87, 3), (64, .aload_n 0, 1), (65, .iload_n 2, 1), (66, .invokevirtual 226, 3), (69, .istore 4, 2), (71, .iload_n 3, 1), (72, .iconst (-1), 1), (73, .if_icmp .eq 11, 3), (76, .aload_n 0, 1), (77, .getfield 51, 3), (80, .iload_n 3, 1), (81, .iload 4, 2), (83, .iastore, 1), (84, .aload_n 0, 1), (85, .getfield 51, 3), (88, .iload 4, 2), (90, .bipush (-2), 2), (92, .iastore, 1), (93, .iload 4, 2), (95, .istore_n 3, 1), (96, .iconst 0, 1), (97, .istore 5, 2), (99, .iload 5, 2), (101, .sipush 1372, 3), (104, .if_icmp .ge 41, 3), (107, .aload_n 0, 1), (108, .getfield 8, 3), (111, .ldc 154, 2), (113, .iload 5, 2), (115, .iadd, 1), (116, .iload 5, 2), (118, .sipush 1029, 3), (121, .if_icmp .ge 16, 3), (124, .aload_n 0, 1), (125, .getfield 8, 3), (128, .ldc 229, 2), (130, .iload 5, 2), (132, .iadd, 1), (133, .iaload, 1), (134, .goto 4, 3), (137, .iconst 0, 1), (138, .iastore, 1), (139, .iinc 5 1, 3), (142, .goto (-43), 3), (145, .goto (-90), 3), (148, .iinc 2 1, 3), (151, .goto (-144), 3), (154, .return_, 1)] : List (Nat × Instr × Nat)), decode cX8_laysCells q.1 = .ok q.2 := by decide +kernel
theorem dX8_laysCells_0 : decode cX8_laysCells 0 = .ok (.aload_n 0, 1) := DX8_laysCells (0, .aload_n 0, 1) (List.mem_of_getElem? (i := 0) rfl)
theorem dX8_laysCells_1 : decode cX8_laysCells 1 = .ok (.iconst 0, 1) := DX8_laysCells (1, .iconst 0, 1) (List.mem_of_getElem? (i := 1) rfl)
theorem dX8_laysCells_2 : decode cX8_laysCells 2 = .ok (.putfield 223, 3) := DX8_laysCells (2, .putfield 223, 3) (List.mem_of_getElem? (i := 2) rfl)
theorem dX8_laysCells_5 : decode cX8_laysCells 5 = .ok (.iconst 0, 1) := DX8_laysCells (5, .iconst 0, 1) (List.mem_of_getElem? (i := 3) rfl)
theorem dX8_laysCells_6 : decode cX8_laysCells 6 = .ok (.istore_n 2, 1) := DX8_laysCells (6, .istore_n 2, 1) (List.mem_of_getElem? (i := 4) rfl)
theorem dX8_laysCells_7 : decode cX8_laysCells 7 = .ok (.iload_n 2, 1) := DX8_laysCells (7, .iload_n 2, 1) (List.mem_of_getElem? (i := 5) rfl)
theorem dX8_laysCells_8 : decode cX8_laysCells 8 = .ok (.aload_n 0, 1) := DX8_laysCells (8, .aload_n 0, 1) (List.mem_of_getElem? (i := 6) rfl)
theorem dX8_laysCells_9 : decode cX8_laysCells 9 = .ok (.getfield 72, 3) := DX8_laysCells (9, .getfield 72, 3) (List.mem_of_getElem? (i := 7) rfl)
theorem dX8_laysCells_12 : decode cX8_laysCells 12 = .ok (.if_icmp .ge 142, 3) := DX8_laysCells (12, .if_icmp .ge 142, 3) (List.mem_of_getElem? (i := 8) rfl)
theorem dX8_laysCells_15 : decode cX8_laysCells 15 = .ok (.iload_n 1, 1) := DX8_laysCells (15, .iload_n 1, 1) (List.mem_of_getElem? (i := 9) rfl)
theorem dX8_laysCells_16 : decode cX8_laysCells 16 = .ok (.iload_n 2, 1) := DX8_laysCells (16, .iload_n 2, 1) (List.mem_of_getElem? (i := 10) rfl)
theorem dX8_laysCells_17 : decode cX8_laysCells 17 = .ok (.invokestatic 102, 3) := DX8_laysCells (17, .invokestatic 102, 3) (List.mem_of_getElem? (i := 11) rfl)
theorem dX8_laysCells_20 : decode cX8_laysCells 20 = .ok (.ifCond .eq 128, 3) := DX8_laysCells (20, .ifCond .eq 128, 3) (List.mem_of_getElem? (i := 12) rfl)
theorem dX8_laysCells_23 : decode cX8_laysCells 23 = .ok (.aload_n 0, 1) := DX8_laysCells (23, .aload_n 0, 1) (List.mem_of_getElem? (i := 13) rfl)
theorem dX8_laysCells_24 : decode cX8_laysCells 24 = .ok (.getfield 14, 3) := DX8_laysCells (24, .getfield 14, 3) (List.mem_of_getElem? (i := 14) rfl)
theorem dX8_laysCells_27 : decode cX8_laysCells 27 = .ok (.iload_n 2, 1) := DX8_laysCells (27, .iload_n 2, 1) (List.mem_of_getElem? (i := 15) rfl)
theorem dX8_laysCells_28 : decode cX8_laysCells 28 = .ok (.iaload, 1) := DX8_laysCells (28, .iaload, 1) (List.mem_of_getElem? (i := 16) rfl)
theorem dX8_laysCells_29 : decode cX8_laysCells 29 = .ok (.iconst 4, 1) := DX8_laysCells (29, .iconst 4, 1) (List.mem_of_getElem? (i := 17) rfl)
theorem dX8_laysCells_30 : decode cX8_laysCells 30 = .ok (.if_icmp .ne 118, 3) := DX8_laysCells (30, .if_icmp .ne 118, 3) (List.mem_of_getElem? (i := 18) rfl)
theorem dX8_laysCells_33 : decode cX8_laysCells 33 = .ok (.aload_n 0, 1) := DX8_laysCells (33, .aload_n 0, 1) (List.mem_of_getElem? (i := 19) rfl)
theorem dX8_laysCells_34 : decode cX8_laysCells 34 = .ok (.getfield 39, 3) := DX8_laysCells (34, .getfield 39, 3) (List.mem_of_getElem? (i := 20) rfl)
theorem dX8_laysCells_37 : decode cX8_laysCells 37 = .ok (.iload_n 2, 1) := DX8_laysCells (37, .iload_n 2, 1) (List.mem_of_getElem? (i := 21) rfl)
theorem dX8_laysCells_38 : decode cX8_laysCells 38 = .ok (.iaload, 1) := DX8_laysCells (38, .iaload, 1) (List.mem_of_getElem? (i := 22) rfl)
theorem dX8_laysCells_39 : decode cX8_laysCells 39 = .ok (.iconst 1, 1) := DX8_laysCells (39, .iconst 1, 1) (List.mem_of_getElem? (i := 23) rfl)
theorem dX8_laysCells_40 : decode cX8_laysCells 40 = .ok (.if_icmp .eq 6, 3) := DX8_laysCells (40, .if_icmp .eq 6, 3) (List.mem_of_getElem? (i := 24) rfl)
theorem dX8_laysCells_43 : decode cX8_laysCells 43 = .ok (.goto 105, 3) := DX8_laysCells (43, .goto 105, 3) (List.mem_of_getElem? (i := 25) rfl)
theorem dX8_laysCells_46 : decode cX8_laysCells 46 = .ok (.aload_n 0, 1) := DX8_laysCells (46, .aload_n 0, 1) (List.mem_of_getElem? (i := 26) rfl)
theorem dX8_laysCells_47 : decode cX8_laysCells 47 = .ok (.iload_n 2, 1) := DX8_laysCells (47, .iload_n 2, 1) (List.mem_of_getElem? (i := 27) rfl)
theorem dX8_laysCells_48 : decode cX8_laysCells 48 = .ok (.bipush 30, 2) := DX8_laysCells (48, .bipush 30, 2) (List.mem_of_getElem? (i := 28) rfl)
theorem dX8_laysCells_50 : decode cX8_laysCells 50 = .ok (.invokevirtual 156, 3) := DX8_laysCells (50, .invokevirtual 156, 3) (List.mem_of_getElem? (i := 29) rfl)
theorem dX8_laysCells_53 : decode cX8_laysCells 53 = .ok (.iconst (-1), 1) := DX8_laysCells (53, .iconst (-1), 1) (List.mem_of_getElem? (i := 30) rfl)
theorem dX8_laysCells_54 : decode cX8_laysCells 54 = .ok (.istore_n 3, 1) := DX8_laysCells (54, .istore_n 3, 1) (List.mem_of_getElem? (i := 31) rfl)
theorem dX8_laysCells_55 : decode cX8_laysCells 55 = .ok (.aload_n 0, 1) := DX8_laysCells (55, .aload_n 0, 1) (List.mem_of_getElem? (i := 32) rfl)
theorem dX8_laysCells_56 : decode cX8_laysCells 56 = .ok (.bipush 30, 2) := DX8_laysCells (56, .bipush 30, 2) (List.mem_of_getElem? (i := 33) rfl)
theorem dX8_laysCells_58 : decode cX8_laysCells 58 = .ok (.invokevirtual 124, 3) := DX8_laysCells (58, .invokevirtual 124, 3) (List.mem_of_getElem? (i := 34) rfl)
theorem dX8_laysCells_61 : decode cX8_laysCells 61 = .ok (.ifCond .le 87, 3) := DX8_laysCells (61, .ifCond .le 87, 3) (List.mem_of_getElem? (i := 35) rfl)
theorem dX8_laysCells_64 : decode cX8_laysCells 64 = .ok (.aload_n 0, 1) := DX8_laysCells (64, .aload_n 0, 1) (List.mem_of_getElem? (i := 36) rfl)
theorem dX8_laysCells_65 : decode cX8_laysCells 65 = .ok (.iload_n 2, 1) := DX8_laysCells (65, .iload_n 2, 1) (List.mem_of_getElem? (i := 37) rfl)
theorem dX8_laysCells_66 : decode cX8_laysCells 66 = .ok (.invokevirtual 226, 3) := DX8_laysCells (66, .invokevirtual 226, 3) (List.mem_of_getElem? (i := 38) rfl)
theorem dX8_laysCells_69 : decode cX8_laysCells 69 = .ok (.istore 4, 2) := DX8_laysCells (69, .istore 4, 2) (List.mem_of_getElem? (i := 39) rfl)
theorem dX8_laysCells_71 : decode cX8_laysCells 71 = .ok (.iload_n 3, 1) := DX8_laysCells (71, .iload_n 3, 1) (List.mem_of_getElem? (i := 40) rfl)
theorem dX8_laysCells_72 : decode cX8_laysCells 72 = .ok (.iconst (-1), 1) := DX8_laysCells (72, .iconst (-1), 1) (List.mem_of_getElem? (i := 41) rfl)
theorem dX8_laysCells_73 : decode cX8_laysCells 73 = .ok (.if_icmp .eq 11, 3) := DX8_laysCells (73, .if_icmp .eq 11, 3) (List.mem_of_getElem? (i := 42) rfl)
theorem dX8_laysCells_76 : decode cX8_laysCells 76 = .ok (.aload_n 0, 1) := DX8_laysCells (76, .aload_n 0, 1) (List.mem_of_getElem? (i := 43) rfl)
theorem dX8_laysCells_77 : decode cX8_laysCells 77 = .ok (.getfield 51, 3) := DX8_laysCells (77, .getfield 51, 3) (List.mem_of_getElem? (i := 44) rfl)
theorem dX8_laysCells_80 : decode cX8_laysCells 80 = .ok (.iload_n 3, 1) := DX8_laysCells (80, .iload_n 3, 1) (List.mem_of_getElem? (i := 45) rfl)
theorem dX8_laysCells_81 : decode cX8_laysCells 81 = .ok (.iload 4, 2) := DX8_laysCells (81, .iload 4, 2) (List.mem_of_getElem? (i := 46) rfl)
theorem dX8_laysCells_83 : decode cX8_laysCells 83 = .ok (.iastore, 1) := DX8_laysCells (83, .iastore, 1) (List.mem_of_getElem? (i := 47) rfl)
theorem dX8_laysCells_84 : decode cX8_laysCells 84 = .ok (.aload_n 0, 1) := DX8_laysCells (84, .aload_n 0, 1) (List.mem_of_getElem? (i := 48) rfl)
theorem dX8_laysCells_85 : decode cX8_laysCells 85 = .ok (.getfield 51, 3) := DX8_laysCells (85, .getfield 51, 3) (List.mem_of_getElem? (i := 49) rfl)
theorem dX8_laysCells_88 : decode cX8_laysCells 88 = .ok (.iload 4, 2) := DX8_laysCells (88, .iload 4, 2) (List.mem_of_getElem? (i := 50) rfl)
theorem dX8_laysCells_90 : decode cX8_laysCells 90 = .ok (.bipush (-2), 2) := DX8_laysCells (90, .bipush (-2), 2) (List.mem_of_getElem? (i := 51) rfl)
theorem dX8_laysCells_92 : decode cX8_laysCells 92 = .ok (.iastore, 1) := DX8_laysCells (92, .iastore, 1) (List.mem_of_getElem? (i := 52) rfl)
theorem dX8_laysCells_93 : decode cX8_laysCells 93 = .ok (.iload 4, 2) := DX8_laysCells (93, .iload 4, 2) (List.mem_of_getElem? (i := 53) rfl)
theorem dX8_laysCells_95 : decode cX8_laysCells 95 = .ok (.istore_n 3, 1) := DX8_laysCells (95, .istore_n 3, 1) (List.mem_of_getElem? (i := 54) rfl)
theorem dX8_laysCells_96 : decode cX8_laysCells 96 = .ok (.iconst 0, 1) := DX8_laysCells (96, .iconst 0, 1) (List.mem_of_getElem? (i := 55) rfl)
theorem dX8_laysCells_97 : decode cX8_laysCells 97 = .ok (.istore 5, 2) := DX8_laysCells (97, .istore 5, 2) (List.mem_of_getElem? (i := 56) rfl)
theorem dX8_laysCells_99 : decode cX8_laysCells 99 = .ok (.iload 5, 2) := DX8_laysCells (99, .iload 5, 2) (List.mem_of_getElem? (i := 57) rfl)
theorem dX8_laysCells_101 : decode cX8_laysCells 101 = .ok (.sipush 1372, 3) := DX8_laysCells (101, .sipush 1372, 3) (List.mem_of_getElem? (i := 58) rfl)
theorem dX8_laysCells_104 : decode cX8_laysCells 104 = .ok (.if_icmp .ge 41, 3) := DX8_laysCells (104, .if_icmp .ge 41, 3) (List.mem_of_getElem? (i := 59) rfl)
theorem dX8_laysCells_107 : decode cX8_laysCells 107 = .ok (.aload_n 0, 1) := DX8_laysCells (107, .aload_n 0, 1) (List.mem_of_getElem? (i := 60) rfl)
theorem dX8_laysCells_108 : decode cX8_laysCells 108 = .ok (.getfield 8, 3) := DX8_laysCells (108, .getfield 8, 3) (List.mem_of_getElem? (i := 61) rfl)
theorem dX8_laysCells_111 : decode cX8_laysCells 111 = .ok (.ldc 154, 2) := DX8_laysCells (111, .ldc 154, 2) (List.mem_of_getElem? (i := 62) rfl)
theorem dX8_laysCells_113 : decode cX8_laysCells 113 = .ok (.iload 5, 2) := DX8_laysCells (113, .iload 5, 2) (List.mem_of_getElem? (i := 63) rfl)
theorem dX8_laysCells_115 : decode cX8_laysCells 115 = .ok (.iadd, 1) := DX8_laysCells (115, .iadd, 1) (List.mem_of_getElem? (i := 64) rfl)
theorem dX8_laysCells_116 : decode cX8_laysCells 116 = .ok (.iload 5, 2) := DX8_laysCells (116, .iload 5, 2) (List.mem_of_getElem? (i := 65) rfl)
theorem dX8_laysCells_118 : decode cX8_laysCells 118 = .ok (.sipush 1029, 3) := DX8_laysCells (118, .sipush 1029, 3) (List.mem_of_getElem? (i := 66) rfl)
theorem dX8_laysCells_121 : decode cX8_laysCells 121 = .ok (.if_icmp .ge 16, 3) := DX8_laysCells (121, .if_icmp .ge 16, 3) (List.mem_of_getElem? (i := 67) rfl)
theorem dX8_laysCells_124 : decode cX8_laysCells 124 = .ok (.aload_n 0, 1) := DX8_laysCells (124, .aload_n 0, 1) (List.mem_of_getElem? (i := 68) rfl)
theorem dX8_laysCells_125 : decode cX8_laysCells 125 = .ok (.getfield 8, 3) := DX8_laysCells (125, .getfield 8, 3) (List.mem_of_getElem? (i := 69) rfl)
theorem dX8_laysCells_128 : decode cX8_laysCells 128 = .ok (.ldc 229, 2) := DX8_laysCells (128, .ldc 229, 2) (List.mem_of_getElem? (i := 70) rfl)
theorem dX8_laysCells_130 : decode cX8_laysCells 130 = .ok (.iload 5, 2) := DX8_laysCells (130, .iload 5, 2) (List.mem_of_getElem? (i := 71) rfl)
theorem dX8_laysCells_132 : decode cX8_laysCells 132 = .ok (.iadd, 1) := DX8_laysCells (132, .iadd, 1) (List.mem_of_getElem? (i := 72) rfl)
theorem dX8_laysCells_133 : decode cX8_laysCells 133 = .ok (.iaload, 1) := DX8_laysCells (133, .iaload, 1) (List.mem_of_getElem? (i := 73) rfl)
theorem dX8_laysCells_134 : decode cX8_laysCells 134 = .ok (.goto 4, 3) := DX8_laysCells (134, .goto 4, 3) (List.mem_of_getElem? (i := 74) rfl)
theorem dX8_laysCells_137 : decode cX8_laysCells 137 = .ok (.iconst 0, 1) := DX8_laysCells (137, .iconst 0, 1) (List.mem_of_getElem? (i := 75) rfl)
theorem dX8_laysCells_138 : decode cX8_laysCells 138 = .ok (.iastore, 1) := DX8_laysCells (138, .iastore, 1) (List.mem_of_getElem? (i := 76) rfl)
theorem dX8_laysCells_139 : decode cX8_laysCells 139 = .ok (.iinc 5 1, 3) := DX8_laysCells (139, .iinc 5 1, 3) (List.mem_of_getElem? (i := 77) rfl)
theorem dX8_laysCells_142 : decode cX8_laysCells 142 = .ok (.goto (-43), 3) := DX8_laysCells (142, .goto (-43), 3) (List.mem_of_getElem? (i := 78) rfl)
theorem dX8_laysCells_145 : decode cX8_laysCells 145 = .ok (.goto (-90), 3) := DX8_laysCells (145, .goto (-90), 3) (List.mem_of_getElem? (i := 79) rfl)
theorem dX8_laysCells_148 : decode cX8_laysCells 148 = .ok (.iinc 2 1, 3) := DX8_laysCells (148, .iinc 2 1, 3) (List.mem_of_getElem? (i := 80) rfl)
theorem dX8_laysCells_151 : decode cX8_laysCells 151 = .ok (.goto (-144), 3) := DX8_laysCells (151, .goto (-144), 3) (List.mem_of_getElem? (i := 81) rfl)
theorem dX8_laysCells_154 : decode cX8_laysCells 154 = .ok (.return_, 1) := DX8_laysCells (154, .return_, 1) (List.mem_of_getElem? (i := 82) rfl)
noncomputable def fX8_laysCells_L148 (l1 : Int32) (l2 : Int32) (σ : Mem) : Option ((Int32 × Mem) ⊕ (Mem)) :=
  some (.inl (l2 + 1, σ))
set_option maxHeartbeats 4000000 in
set_option maxRecDepth 100000 in
theorem tX8_laysCells_L148 {E : Gx} {cI : ClassId} {ad : Nat → Nat} (C : Cx E rmX8_laysCells cI layM ad 6 RX8 cX8_laysCells) {out : Mem} (K0 : KV E rmX8_laysCells cI layM ad 6 cX8_laysCells out) {l1 : Int32} {l2 : Int32} {σ : Mem} {res : (Int32 × Mem) ⊕ (Mem)} (h : fX8_laysCells_L148 l1 l2 σ = some res) (K : Sum.elim (fun a => G E rmX8_laysCells cI layM ad 6 7 [(0, .ref (ad 0)), (1, .int l1), (2, .int a.1)] [] a.2) (fun b => G E rmX8_laysCells cI layM ad 6 154 [] [] b) res) : G E rmX8_laysCells cI layM ad 6 148 [(0, .ref (ad 0)), (1, .int l1), (2, .int l2)] [] σ := by
  unfold fX8_laysCells_L148 at h
  refine g_iinc 151 [(2, .int (l2 + 1)), (0, .ref (ad 0)), (1, .int l1)] C dX8_laysCells_148 (j := 2) rfl (by rfl) (by decide) rfl rfl ?_
  refine g_goto 7 C dX8_laysCells_151 (by decide) ?_
  have hh := end_inl h K
  exact g_sub [1, 2, 0] (hh) rfl
noncomputable def fX8_laysCells_L138 (l1 : Int32) (l2 : Int32) (l3 : Int32) (l5 : Int32) (s1 : Int32) (s2 : Int32) (σ : Mem) : Option ((Int32 × Mem) ⊕ (Mem)) :=
  chk (inb s1 170128) <|
  some (.inl (l5 + 1, up2 σ 1 s1.toNatClampNeg s2))
set_option maxHeartbeats 4000000 in
set_option maxRecDepth 100000 in
theorem tX8_laysCells_L138 {E : Gx} {cI : ClassId} {ad : Nat → Nat} (C : Cx E rmX8_laysCells cI layM ad 6 RX8 cX8_laysCells) {out : Mem} (K0 : KV E rmX8_laysCells cI layM ad 6 cX8_laysCells out) {l1 : Int32} {l2 : Int32} {l3 : Int32} {l5 : Int32} {s1 : Int32} {s2 : Int32} {σ : Mem} {res : (Int32 × Mem) ⊕ (Mem)} (h : fX8_laysCells_L138 l1 l2 l3 l5 s1 s2 σ = some res) (K : Sum.elim (fun a => G E rmX8_laysCells cI layM ad 6 99 [(0, .ref (ad 0)), (1, .int l1), (2, .int l2), (3, .int l3), (5, .int a.1)] [] a.2) (fun b => G E rmX8_laysCells cI layM ad 6 145 [(0, .ref (ad 0)), (1, .int l1), (2, .int l2), (3, .int l3)] [] b) res) : G E rmX8_laysCells cI layM ad 6 138 [(0, .ref (ad 0)), (1, .int l1), (2, .int l2), (3, .int l3), (5, .int l5)] [.int s2, .int s1, .ref (ad 1)] σ := by
  unfold fX8_laysCells_L138 at h
  refine g_iast 139 C rfl dX8_laysCells_138 rfl h (fun h => ?_)
  refine g_iinc 142 [(5, .int (l5 + 1)), (0, .ref (ad 0)), (1, .int l1), (2, .int l2), (3, .int l3)] C dX8_laysCells_139 (j := 4) rfl (by rfl) (by decide) rfl rfl ?_
  refine g_goto 99 C dX8_laysCells_142 (by decide) ?_
  have hh := end_inl h K
  exact g_sub [1, 2, 3, 4, 0] (hh) rfl
noncomputable def fX8_laysCells_B99 (l1 : Int32) (l2 : Int32) (l3 : Int32) (l5 : Int32) (σ : Mem) : Option ((Int32 × Mem) ⊕ (Mem)) :=
  if 1372 ≤ l5 then
    some (.inr σ)
  else
    if 1029 ≤ l5 then
      fX8_laysCells_L138 l1 l2 l3 l5 (41160 + l5) 0 σ
    else
      chk (inb (41503 + l5) 170128) <|
      fX8_laysCells_L138 l1 l2 l3 l5 (41160 + l5) (σ 1 (41503 + l5).toNatClampNeg) σ
set_option maxHeartbeats 4000000 in
set_option maxRecDepth 100000 in
theorem tX8_laysCells_B99 {E : Gx} {cI : ClassId} {ad : Nat → Nat} (C : Cx E rmX8_laysCells cI layM ad 6 RX8 cX8_laysCells) {out : Mem} (K0 : KV E rmX8_laysCells cI layM ad 6 cX8_laysCells out) {l1 : Int32} {l2 : Int32} {l3 : Int32} {l5 : Int32} {σ : Mem} {res : (Int32 × Mem) ⊕ (Mem)} (h : fX8_laysCells_B99 l1 l2 l3 l5 σ = some res) (K : Sum.elim (fun a => G E rmX8_laysCells cI layM ad 6 99 [(0, .ref (ad 0)), (1, .int l1), (2, .int l2), (3, .int l3), (5, .int a.1)] [] a.2) (fun b => G E rmX8_laysCells cI layM ad 6 145 [(0, .ref (ad 0)), (1, .int l1), (2, .int l2), (3, .int l3)] [] b) res) : G E rmX8_laysCells cI layM ad 6 99 [(0, .ref (ad 0)), (1, .int l1), (2, .int l2), (3, .int l3), (5, .int l5)] [] σ := by
  unfold fX8_laysCells_B99 at h
  refine g_iload 101 C dX8_laysCells_99 (j := 4) rfl rfl ?_
  refine g_sipush 104 (v := 1372) C dX8_laysCells_101 (by decide) rfl ?_
  refine g_icmp_ge 145 107 C dX8_laysCells_104 (by decide) rfl h (fun h => ?_) (fun h => ?_)
  · have hh := end_inr h K
    exact g_sub [0, 1, 2, 3] (hh) rfl
  · refine g_aload_n 108 C dX8_laysCells_107 rfl (j := 0) rfl rfl ?_
    refine g_getr 111 (j := 0) C rfl rfl wu_X8 (by decide) wf_X8_8 rfl dX8_laysCells_108 rfl ?_
    refine g_ldc 113 (v := 41160) C dX8_laysCells_111 wk_X8_154 rfl ?_
    refine g_iload 115 C dX8_laysCells_113 (j := 4) rfl rfl ?_
    refine g_iadd 116 C dX8_laysCells_115 rfl ?_
    refine g_iload 118 C dX8_laysCells_116 (j := 4) rfl rfl ?_
    refine g_sipush 121 (v := 1029) C dX8_laysCells_118 (by decide) rfl ?_
    refine g_icmp_ge 137 124 C dX8_laysCells_121 (by decide) rfl h (fun h => ?_) (fun h => ?_)
    · refine g_iconst 138 (v := 0) C dX8_laysCells_137 (by decide) rfl ?_
      exact tX8_laysCells_L138 (l1 := l1) (l2 := l2) (l3 := l3) (l5 := l5) (s1 := (41160 + l5)) (s2 := 0) (σ := σ) C K0 h K
    · refine g_aload_n 125 C dX8_laysCells_124 rfl (j := 0) rfl rfl ?_
      refine g_getr 128 (j := 0) C rfl rfl wu_X8 (by decide) wf_X8_8 rfl dX8_laysCells_125 rfl ?_
      refine g_ldc 130 (v := 41503) C dX8_laysCells_128 wk_X8_229 rfl ?_
      refine g_iload 132 C dX8_laysCells_130 (j := 4) rfl rfl ?_
      refine g_iadd 133 C dX8_laysCells_132 rfl ?_
      refine g_iald 134 C rfl dX8_laysCells_133 rfl h (fun h => ?_)
      refine g_goto 138 C dX8_laysCells_134 (by decide) ?_
      exact tX8_laysCells_L138 (l1 := l1) (l2 := l2) (l3 := l3) (l5 := l5) (s1 := (41160 + l5)) (s2 := (σ 1 (41503 + l5).toNatClampNeg)) (σ := σ) C K0 h K
noncomputable def fX8_laysCells_L145 (l1 : Int32) (l2 : Int32) (l3 : Int32) (σ : Mem) : Option ((Int32 × Mem) ⊕ (Mem)) :=
  some (.inl (l3, σ))
set_option maxHeartbeats 4000000 in
set_option maxRecDepth 100000 in
theorem tX8_laysCells_L145 {E : Gx} {cI : ClassId} {ad : Nat → Nat} (C : Cx E rmX8_laysCells cI layM ad 6 RX8 cX8_laysCells) {out : Mem} (K0 : KV E rmX8_laysCells cI layM ad 6 cX8_laysCells out) {l1 : Int32} {l2 : Int32} {l3 : Int32} {σ : Mem} {res : (Int32 × Mem) ⊕ (Mem)} (h : fX8_laysCells_L145 l1 l2 l3 σ = some res) (K : Sum.elim (fun a => G E rmX8_laysCells cI layM ad 6 55 [(0, .ref (ad 0)), (1, .int l1), (2, .int l2), (3, .int a.1)] [] a.2) (fun b => G E rmX8_laysCells cI layM ad 6 148 [(0, .ref (ad 0)), (1, .int l1), (2, .int l2)] [] b) res) : G E rmX8_laysCells cI layM ad 6 145 [(0, .ref (ad 0)), (1, .int l1), (2, .int l2), (3, .int l3)] [] σ := by
  unfold fX8_laysCells_L145 at h
  refine g_goto 55 C dX8_laysCells_145 (by decide) ?_
  have hh := end_inl h K
  exact hh
noncomputable def fX8_laysCells_L84 (l1 : Int32) (l2 : Int32) (l4 : Int32) (σ : Mem) : Option ((Int32 × Mem) ⊕ (Mem)) :=
  chk (inb l4 90) <|
  (loop (fun a => fX8_laysCells_B99 l1 l2 l4 a.1 a.2) (0, up2 σ 11 l4.toNatClampNeg (-2))).bind fun b5 =>
  fX8_laysCells_L145 l1 l2 l4 b5
set_option maxHeartbeats 4000000 in
set_option maxRecDepth 100000 in
theorem tX8_laysCells_L84 {E : Gx} {cI : ClassId} {ad : Nat → Nat} (C : Cx E rmX8_laysCells cI layM ad 6 RX8 cX8_laysCells) {out : Mem} (K0 : KV E rmX8_laysCells cI layM ad 6 cX8_laysCells out) {l1 : Int32} {l2 : Int32} {l4 : Int32} {σ : Mem} {res : (Int32 × Mem) ⊕ (Mem)} (h : fX8_laysCells_L84 l1 l2 l4 σ = some res) (K : Sum.elim (fun a => G E rmX8_laysCells cI layM ad 6 55 [(0, .ref (ad 0)), (1, .int l1), (2, .int l2), (3, .int a.1)] [] a.2) (fun b => G E rmX8_laysCells cI layM ad 6 148 [(0, .ref (ad 0)), (1, .int l1), (2, .int l2)] [] b) res) : G E rmX8_laysCells cI layM ad 6 84 [(0, .ref (ad 0)), (1, .int l1), (2, .int l2), (4, .int l4)] [] σ := by
  unfold fX8_laysCells_L84 at h
  refine g_aload_n 85 C dX8_laysCells_84 rfl (j := 0) rfl rfl ?_
  refine g_getr 88 (j := 19) C rfl rfl wu_X8 (by decide) wf_X8_51 rfl dX8_laysCells_85 rfl ?_
  refine g_iload 90 C dX8_laysCells_88 (j := 3) rfl rfl ?_
  refine g_bipush 92 (v := (-2)) C dX8_laysCells_90 (by decide) rfl ?_
  refine g_iast 93 C rfl dX8_laysCells_92 rfl h (fun h => ?_)
  refine g_iload 95 C dX8_laysCells_93 (j := 3) rfl rfl ?_
  refine g_istore_n 96 [(3, .int l4), (0, .ref (ad 0)), (1, .int l1), (2, .int l2), (4, .int l4)] C dX8_laysCells_95 rfl (by decide) rfl rfl ?_
  refine g_iconst 97 (v := 0) C dX8_laysCells_96 (by decide) rfl ?_
  refine g_istore 99 [(5, .int 0), (3, .int l4), (0, .ref (ad 0)), (1, .int l1), (2, .int l2), (4, .int l4)] C dX8_laysCells_97 (by decide) rfl rfl ?_
  obtain ⟨b5, hb, h⟩ := bind_some h
  refine g_sub [2, 3, 4, 1, 0] (g_loop (a := (0, up2 σ 11 l4.toNatClampNeg (-2))) (fun a => G E rmX8_laysCells cI layM ad 6 99 [(0, .ref (ad 0)), (1, .int l1), (2, .int l2), (3, .int l4), (5, .int a.1)] [] a.2) (fun b => G E rmX8_laysCells cI layM ad 6 145 [(0, .ref (ad 0)), (1, .int l1), (2, .int l2), (3, .int l4)] [] b) hb (fun a res h K => tX8_laysCells_B99 (l1 := l1) (l2 := l2) (l3 := l4) (l5 := a.1) (σ := a.2) (res := res) C K0 h K) ?_) rfl
  show G E rmX8_laysCells cI layM ad 6 145 [(0, .ref (ad 0)), (1, .int l1), (2, .int l2), (3, .int l4)] [] b5
  exact tX8_laysCells_L145 (l1 := l1) (l2 := l2) (l3 := l4) (σ := b5) C K0 h K
noncomputable def fX8_laysCells_B55 (l1 : Int32) (l2 : Int32) (l3 : Int32) (σ : Mem) : Option ((Int32 × Mem) ⊕ (Mem)) :=
  (fX8_degreeOf 30 σ).bind fun o3 =>
  if o3.1 ≤ 0 then
    some (.inr o3.2)
  else
    (fX8_cellOf l2 o3.2).bind fun o4 =>
    if l3 = (-1) then
      fX8_laysCells_L84 l1 l2 o4.1 o4.2
    else
      chk (inb l3 90) <|
      fX8_laysCells_L84 l1 l2 o4.1 (up2 o4.2 11 l3.toNatClampNeg o4.1)
set_option maxHeartbeats 4000000 in
set_option maxRecDepth 100000 in
theorem tX8_laysCells_B55 {E : Gx} {cI : ClassId} {ad : Nat → Nat} (C : Cx E rmX8_laysCells cI layM ad 6 RX8 cX8_laysCells) {out : Mem} (K0 : KV E rmX8_laysCells cI layM ad 6 cX8_laysCells out) {l1 : Int32} {l2 : Int32} {l3 : Int32} {σ : Mem} {res : (Int32 × Mem) ⊕ (Mem)} (h : fX8_laysCells_B55 l1 l2 l3 σ = some res) (K : Sum.elim (fun a => G E rmX8_laysCells cI layM ad 6 55 [(0, .ref (ad 0)), (1, .int l1), (2, .int l2), (3, .int a.1)] [] a.2) (fun b => G E rmX8_laysCells cI layM ad 6 148 [(0, .ref (ad 0)), (1, .int l1), (2, .int l2)] [] b) res) : G E rmX8_laysCells cI layM ad 6 55 [(0, .ref (ad 0)), (1, .int l1), (2, .int l2), (3, .int l3)] [] σ := by
  unfold fX8_laysCells_B55 at h
  refine g_aload_n 56 C dX8_laysCells_55 rfl (j := 0) rfl rfl ?_
  refine g_bipush 58 (v := 30) C dX8_laysCells_56 (by decide) rfl ?_
  refine g_cvi 61 C (As := [.int 30]) (fun _ h => mX8_degreeOf (a1 := 30) (σ := σ) h) wl_X8_124 wi_X8_degreeOf wz_X8_degreeOf wc_X8_degreeOf wn_X8 qX8_degreeOf rfl rfl ⟨Nat.le_of_ble_eq_true rfl, Nat.le_of_ble_eq_true rfl⟩ rfl rfl rfl rfl (Nat.le_of_ble_eq_true rfl) dX8_laysCells_58 rfl h (fun o3 h => ?_)
  refine g_if_le 148 64 C dX8_laysCells_61 (by decide) rfl h (fun h => ?_) (fun h => ?_)
  · have hh := end_inr h K
    exact g_sub [0, 1, 2] (hh) rfl
  · refine g_aload_n 65 C dX8_laysCells_64 rfl (j := 0) rfl rfl ?_
    refine g_iload_n 66 C dX8_laysCells_65 rfl (j := 2) rfl rfl ?_
    refine g_cvi 69 C (As := [.int l2]) (fun _ h => mX8_cellOf (a1 := l2) (σ := o3.2) h) wl_X8_226 wi_X8_cellOf wz_X8_cellOf wc_X8_cellOf wn_X8 qX8_cellOf rfl rfl ⟨Nat.le_of_ble_eq_true rfl, Nat.le_of_ble_eq_true rfl⟩ rfl rfl rfl rfl (Nat.le_of_ble_eq_true rfl) dX8_laysCells_66 rfl h (fun o4 h => ?_)
    refine g_istore 71 [(4, .int o4.1), (0, .ref (ad 0)), (1, .int l1), (2, .int l2), (3, .int l3)] C dX8_laysCells_69 (by decide) rfl rfl ?_
    refine g_iload_n 72 C dX8_laysCells_71 rfl (j := 4) rfl rfl ?_
    refine g_iconst 73 (v := (-1)) C dX8_laysCells_72 (by decide) rfl ?_
    refine g_icmp_eq 84 76 C dX8_laysCells_73 (by decide) rfl h (fun h => ?_) (fun h => ?_)
    · exact g_sub [1, 2, 3, 0] (tX8_laysCells_L84 (l1 := l1) (l2 := l2) (l4 := o4.1) (σ := o4.2) C K0 h K) rfl
    · refine g_aload_n 77 C dX8_laysCells_76 rfl (j := 1) rfl rfl ?_
      refine g_getr 80 (j := 19) C rfl rfl wu_X8 (by decide) wf_X8_51 rfl dX8_laysCells_77 rfl ?_
      refine g_iload_n 81 C dX8_laysCells_80 rfl (j := 4) rfl rfl ?_
      refine g_iload 83 C dX8_laysCells_81 (j := 0) rfl rfl ?_
      refine g_iast 84 C rfl dX8_laysCells_83 rfl h (fun h => ?_)
      exact g_sub [1, 2, 3, 0] (tX8_laysCells_L84 (l1 := l1) (l2 := l2) (l4 := o4.1) (σ := up2 o4.2 11 l3.toNatClampNeg o4.1) C K0 h K) rfl
noncomputable def fX8_laysCells_B7 (l1 : Int32) (l2 : Int32) (σ : Mem) : Option ((Int32 × Mem) ⊕ (Mem)) :=
  if (σ 0 6) ≤ l2 then
    some (.inr σ)
  else
    (fX8_has l1 l2 σ).bind fun o1 =>
    if o1.1 = 0 then
      fX8_laysCells_L148 l1 l2 o1.2
    else
      chk (inb l2 30) <|
      if (o1.2 2 l2.toNatClampNeg) = 4 then
        chk (inb l2 30) <|
        if (o1.2 7 l2.toNatClampNeg) = 1 then
          (fX8_copies l2 30 o1.2).bind fun o2 =>
          (loop (fun a => fX8_laysCells_B55 l1 l2 a.1 a.2) ((-1), o2)).bind fun b6 =>
          fX8_laysCells_L148 l1 l2 b6
        else
          fX8_laysCells_L148 l1 l2 o1.2
      else
        fX8_laysCells_L148 l1 l2 o1.2
set_option maxHeartbeats 4000000 in
set_option maxRecDepth 100000 in
theorem tX8_laysCells_B7 {E : Gx} {cI : ClassId} {ad : Nat → Nat} (C : Cx E rmX8_laysCells cI layM ad 6 RX8 cX8_laysCells) {out : Mem} (K0 : KV E rmX8_laysCells cI layM ad 6 cX8_laysCells out) {l1 : Int32} {l2 : Int32} {σ : Mem} {res : (Int32 × Mem) ⊕ (Mem)} (h : fX8_laysCells_B7 l1 l2 σ = some res) (K : Sum.elim (fun a => G E rmX8_laysCells cI layM ad 6 7 [(0, .ref (ad 0)), (1, .int l1), (2, .int a.1)] [] a.2) (fun b => G E rmX8_laysCells cI layM ad 6 154 [] [] b) res) : G E rmX8_laysCells cI layM ad 6 7 [(0, .ref (ad 0)), (1, .int l1), (2, .int l2)] [] σ := by
  unfold fX8_laysCells_B7 at h
  refine g_iload_n 8 C dX8_laysCells_7 rfl (j := 2) rfl rfl ?_
  refine g_aload_n 9 C dX8_laysCells_8 rfl (j := 0) rfl rfl ?_
  refine g_geti 12 (j := 6) C rfl rfl wu_X8 (by decide) wf_X8_72 rfl dX8_laysCells_9 rfl ?_
  refine g_icmp_ge 154 15 C dX8_laysCells_12 (by decide) rfl h (fun h => ?_) (fun h => ?_)
  · have hh := end_inr h K
    exact g_sub [] (hh) rfl
  · refine g_iload_n 16 C dX8_laysCells_15 rfl (j := 1) rfl rfl ?_
    refine g_iload_n 17 C dX8_laysCells_16 rfl (j := 2) rfl rfl ?_
    refine g_csi 20 C (As := [.int l1, .int l2]) (fun _ h => mX8_has (a1 := l1) (a2 := l2) (σ := σ) h) wl_X8_102 ws_X8_has wc_X8_has wn_X8 qX8_has rfl rfl ⟨Nat.le_of_ble_eq_true rfl, Nat.le_of_ble_eq_true rfl⟩ rfl rfl (Nat.le_of_ble_eq_true rfl) dX8_laysCells_17 rfl h (fun o1 h => ?_)
    refine g_if_eq 148 23 C dX8_laysCells_20 (by decide) rfl h (fun h => ?_) (fun h => ?_)
    · exact tX8_laysCells_L148 (l1 := l1) (l2 := l2) (σ := o1.2) C K0 h K
    · refine g_aload_n 24 C dX8_laysCells_23 rfl (j := 0) rfl rfl ?_
      refine g_getr 27 (j := 3) C rfl rfl wu_X8 (by decide) wf_X8_14 rfl dX8_laysCells_24 rfl ?_
      refine g_iload_n 28 C dX8_laysCells_27 rfl (j := 2) rfl rfl ?_
      refine g_iald 29 C rfl dX8_laysCells_28 rfl h (fun h => ?_)
      refine g_iconst 30 (v := 4) C dX8_laysCells_29 (by decide) rfl ?_
      refine g_icmp_ne 148 33 C dX8_laysCells_30 (by decide) rfl h (fun h => ?_) (fun h => ?_)
      · refine g_aload_n 34 C dX8_laysCells_33 rfl (j := 0) rfl rfl ?_
        refine g_getr 37 (j := 14) C rfl rfl wu_X8 (by decide) wf_X8_39 rfl dX8_laysCells_34 rfl ?_
        refine g_iload_n 38 C dX8_laysCells_37 rfl (j := 2) rfl rfl ?_
        refine g_iald 39 C rfl dX8_laysCells_38 rfl h (fun h => ?_)
        refine g_iconst 40 (v := 1) C dX8_laysCells_39 (by decide) rfl ?_
        refine g_icmp_eq 46 43 C dX8_laysCells_40 (by decide) rfl h (fun h => ?_) (fun h => ?_)
        · refine g_aload_n 47 C dX8_laysCells_46 rfl (j := 0) rfl rfl ?_
          refine g_iload_n 48 C dX8_laysCells_47 rfl (j := 2) rfl rfl ?_
          refine g_bipush 50 (v := 30) C dX8_laysCells_48 (by decide) rfl ?_
          refine g_cvv 53 C (As := [.int l2, .int 30]) (fun _ h => mX8_copies (a1 := l2) (a2 := 30) (σ := o1.2) h) wl_X8_156 wi_X8_copies wz_X8_copies wc_X8_copies wn_X8 qX8_copies rfl rfl ⟨Nat.le_of_ble_eq_true rfl, Nat.le_of_ble_eq_true rfl⟩ rfl rfl rfl rfl (Nat.le_of_ble_eq_true rfl) dX8_laysCells_50 rfl h (fun o2 h => ?_)
          refine g_iconst 54 (v := (-1)) C dX8_laysCells_53 (by decide) rfl ?_
          refine g_istore_n 55 [(3, .int (-1)), (0, .ref (ad 0)), (1, .int l1), (2, .int l2)] C dX8_laysCells_54 rfl (by decide) rfl rfl ?_
          obtain ⟨b6, hb, h⟩ := bind_some h
          refine g_sub [1, 2, 3, 0] (g_loop (a := ((-1), o2)) (fun a => G E rmX8_laysCells cI layM ad 6 55 [(0, .ref (ad 0)), (1, .int l1), (2, .int l2), (3, .int a.1)] [] a.2) (fun b => G E rmX8_laysCells cI layM ad 6 148 [(0, .ref (ad 0)), (1, .int l1), (2, .int l2)] [] b) hb (fun a res h K => tX8_laysCells_B55 (l1 := l1) (l2 := l2) (l3 := a.1) (σ := a.2) (res := res) C K0 h K) ?_) rfl
          show G E rmX8_laysCells cI layM ad 6 148 [(0, .ref (ad 0)), (1, .int l1), (2, .int l2)] [] b6
          exact tX8_laysCells_L148 (l1 := l1) (l2 := l2) (σ := b6) C K0 h K
        · refine g_goto 148 C dX8_laysCells_43 (by decide) ?_
          exact tX8_laysCells_L148 (l1 := l1) (l2 := l2) (σ := o1.2) C K0 h K
      · exact tX8_laysCells_L148 (l1 := l1) (l2 := l2) (σ := o1.2) C K0 h K
noncomputable def fX8_laysCells_L154 (σ : Mem) : Option (Mem) :=
  some σ
set_option maxHeartbeats 4000000 in
set_option maxRecDepth 100000 in
theorem tX8_laysCells_L154 {E : Gx} {cI : ClassId} {ad : Nat → Nat} (C : Cx E rmX8_laysCells cI layM ad 6 RX8 cX8_laysCells) {out : Mem} (K0 : KV E rmX8_laysCells cI layM ad 6 cX8_laysCells out) {σ : Mem} (h : fX8_laysCells_L154 σ = some out) : G E rmX8_laysCells cI layM ad 6 154 [] [] σ := by
  unfold fX8_laysCells_L154 at h
  cases h
  exact K0 _ _ dX8_laysCells_154
noncomputable def fX8_laysCells (a1 : Int32) (σ : Mem) : Option (Mem) :=
  (loop (fun a => fX8_laysCells_B7 a1 a.1 a.2) (0, up2 σ 0 17 0)).bind fun b7 =>
  fX8_laysCells_L154 b7
set_option maxHeartbeats 4000000 in
set_option maxRecDepth 100000 in
theorem mX8_laysCells {l : Launch} {D : va_G} {cI : ClassId} {ad : Nat → Nat} {a1 : Int32} {σ : Mem} {out : Mem} (h : fX8_laysCells a1 σ = some out) : MV l D cI layM ad yX8_laysCells cX8_laysCells 6 rmX8_laysCells [.ref (ad 0), .int a1] σ out := by
  refine met_v (by decide) (Nat.le_of_ble_eq_true rfl) (fun E C K0 => ?_)
  show G E rmX8_laysCells cI layM ad 6 0 [(0, .ref (ad 0)), (1, .int a1)] [] σ
  unfold fX8_laysCells at h
  refine g_aload_n 1 C dX8_laysCells_0 rfl (j := 0) rfl rfl ?_
  refine g_iconst 2 (v := 0) C dX8_laysCells_1 (by decide) rfl ?_
  refine g_puti 5 (j := 17) C rfl rfl wu_X8 (by decide) wf_X8_223 tyX8 tyX8_ok nmX8 rfl rfl rfl rfl dX8_laysCells_2 rfl ?_
  refine g_iconst 6 (v := 0) C dX8_laysCells_5 (by decide) rfl ?_
  refine g_istore_n 7 [(2, .int 0), (0, .ref (ad 0)), (1, .int a1)] C dX8_laysCells_6 rfl (by decide) rfl rfl ?_
  obtain ⟨b7, hb, h⟩ := bind_some h
  refine g_sub [1, 2, 0] (g_loop (a := (0, up2 σ 0 17 0)) (fun a => G E rmX8_laysCells cI layM ad 6 7 [(0, .ref (ad 0)), (1, .int a1), (2, .int a.1)] [] a.2) (fun b => G E rmX8_laysCells cI layM ad 6 154 [] [] b) hb (fun a res h K => tX8_laysCells_B7 (l1 := a1) (l2 := a.1) (σ := a.2) (res := res) C K0 h K) ?_) rfl
  show G E rmX8_laysCells cI layM ad 6 154 [] [] b7
  exact tX8_laysCells_L154 (σ := b7) C K0 h

/-! LoopReducerModel.manyOf(ZZ)I -/
abbrev rmX8_manyOf : Room := { frames := 1, cells := 0, slots := 0, locals := 21 }
theorem qX8_manyOf : yX8_manyOf.cls ≠ "java/lang/invoke/MethodHandle" ∧ yX8_manyOf.cls ≠ "java/lang/invoke/VarHandle" ∧ (parseMethodDescriptor yX8_manyOf.desc).map (fun d => d.parameters.length) = some 2 := by decide +kernel
theorem DX8_manyOf : ∀ q ∈ ([(0, .iconst 0, 1), (1, .istore_n 3, 1), (2, .iconst 0, 1), (3, .istore 4, 2), (5, .iload 4, 2), (7, .aload_n 0, 1), (8, .getfield 72, 3), (11, .if_icmp .ge 127, 3), (14, .iload_n 1, 1), (15, .ifCond .eq 22, 3), (18, .aload_n 0, 1), (19, .getfield 14, 3), (22, .iload 4, 2), (24, .iaload, 1), (25, .iconst 4, 1), (26, .if_icmp .ne 7, 3), (29, .iconst 1, 1), (30, .goto 34, 3), (33, .iconst 0, 1), (34, .goto 30, 3), (37, .aload_n 0, 1), (38, .getfield 14, 3), (41, .iload 4, 2), (43, .iaload, 1), (44, .iconst 2, 1), (45, .if_icmp .eq 14, 3), (48, .aload_n 0, 1), (49, .getfield 14, 3), (52, .iload 4, 2), (54, .iaload, 1), (55, .iconst 3, 1), (56, .if_icmp .ne 7, 3), (59, .iconst 1, 1), (60, .goto 4, 3), (63, .iconst 0, 1), (64, .istore 5, 2), (66, .aload_n 0, 1), (67, .getfield 39, 3), (70, .iload 4, 2), (72, .iaload, 1), (73, .ifCond .eq 34, 3), (76, .iload_n 1, 1), (77, .ifCond .eq 14, 3), (80, .aload_n 0, 1), (81, .getfield 39, 3), (84, .iload 4, 2), (86, .iaload, 1), (87, .iconst 1, 1), (88, .if_icmp .eq 19, 3), (91, .aload_n 0, 1), (92, .getfield 237, 3), (95, .iload 4, 2), (97, .invokestatic 102, 3), (100, .ifCond .eq 7, 3), (103, .iconst 1, 1), (104, .goto 4, 3), (107, .iconst 0, 1), (108, .istore 6, 2), (110, .iload_n 3, 1), (111, .iload 5, 2), (113, .ifCond .eq 16, 3), (116, .iload_n 2, 1), (117, .ifCond .eq 8, 3), (120, .iload 6, 2), (122, .ifCond .eq 7, 3), (125, .iconst 1, 1), (126, .goto 4, 3), (129, .iconst 0, 1), (130, .iadd, 1), (131, .istore_n 3, 1), (132, .iinc 4 1, 3), (135, .goto (-130), 3), (138, .iload_n 3, 1), (139, .ireturn, 1)] : List (Nat × Instr × Nat)), decode cX8_manyOf q.1 = .ok q.2 := by decide +kernel
theorem dX8_manyOf_0 : decode cX8_manyOf 0 = .ok (.iconst 0, 1) := DX8_manyOf (0, .iconst 0, 1) (List.mem_of_getElem? (i := 0) rfl)
theorem dX8_manyOf_1 : decode cX8_manyOf 1 = .ok (.istore_n 3, 1) := DX8_manyOf (1, .istore_n 3, 1) (List.mem_of_getElem? (i := 1) rfl)
theorem dX8_manyOf_2 : decode cX8_manyOf 2 = .ok (.iconst 0, 1) := DX8_manyOf (2, .iconst 0, 1) (List.mem_of_getElem? (i := 2) rfl)
theorem dX8_manyOf_3 : decode cX8_manyOf 3 = .ok (.istore 4, 2) := DX8_manyOf (3, .istore 4, 2) (List.mem_of_getElem? (i := 3) rfl)
theorem dX8_manyOf_5 : decode cX8_manyOf 5 = .ok (.iload 4, 2) := DX8_manyOf (5, .iload 4, 2) (List.mem_of_getElem? (i := 4) rfl)
theorem dX8_manyOf_7 : decode cX8_manyOf 7 = .ok (.aload_n 0, 1) := DX8_manyOf (7, .aload_n 0, 1) (List.mem_of_getElem? (i := 5) rfl)
theorem dX8_manyOf_8 : decode cX8_manyOf 8 = .ok (.getfield 72, 3) := DX8_manyOf (8, .getfield 72, 3) (List.mem_of_getElem? (i := 6) rfl)
theorem dX8_manyOf_11 : decode cX8_manyOf 11 = .ok (.if_icmp .ge 127, 3) := DX8_manyOf (11, .if_icmp .ge 127, 3) (List.mem_of_getElem? (i := 7) rfl)
theorem dX8_manyOf_14 : decode cX8_manyOf 14 = .ok (.iload_n 1, 1) := DX8_manyOf (14, .iload_n 1, 1) (List.mem_of_getElem? (i := 8) rfl)
theorem dX8_manyOf_15 : decode cX8_manyOf 15 = .ok (.ifCond .eq 22, 3) := DX8_manyOf (15, .ifCond .eq 22, 3) (List.mem_of_getElem? (i := 9) rfl)
theorem dX8_manyOf_18 : decode cX8_manyOf 18 = .ok (.aload_n 0, 1) := DX8_manyOf (18, .aload_n 0, 1) (List.mem_of_getElem? (i := 10) rfl)
theorem dX8_manyOf_19 : decode cX8_manyOf 19 = .ok (.getfield 14, 3) := DX8_manyOf (19, .getfield 14, 3) (List.mem_of_getElem? (i := 11) rfl)
theorem dX8_manyOf_22 : decode cX8_manyOf 22 = .ok (.iload 4, 2) := DX8_manyOf (22, .iload 4, 2) (List.mem_of_getElem? (i := 12) rfl)
theorem dX8_manyOf_24 : decode cX8_manyOf 24 = .ok (.iaload, 1) := DX8_manyOf (24, .iaload, 1) (List.mem_of_getElem? (i := 13) rfl)
theorem dX8_manyOf_25 : decode cX8_manyOf 25 = .ok (.iconst 4, 1) := DX8_manyOf (25, .iconst 4, 1) (List.mem_of_getElem? (i := 14) rfl)
theorem dX8_manyOf_26 : decode cX8_manyOf 26 = .ok (.if_icmp .ne 7, 3) := DX8_manyOf (26, .if_icmp .ne 7, 3) (List.mem_of_getElem? (i := 15) rfl)
theorem dX8_manyOf_29 : decode cX8_manyOf 29 = .ok (.iconst 1, 1) := DX8_manyOf (29, .iconst 1, 1) (List.mem_of_getElem? (i := 16) rfl)
theorem dX8_manyOf_30 : decode cX8_manyOf 30 = .ok (.goto 34, 3) := DX8_manyOf (30, .goto 34, 3) (List.mem_of_getElem? (i := 17) rfl)
theorem dX8_manyOf_33 : decode cX8_manyOf 33 = .ok (.iconst 0, 1) := DX8_manyOf (33, .iconst 0, 1) (List.mem_of_getElem? (i := 18) rfl)
theorem dX8_manyOf_34 : decode cX8_manyOf 34 = .ok (.goto 30, 3) := DX8_manyOf (34, .goto 30, 3) (List.mem_of_getElem? (i := 19) rfl)
theorem dX8_manyOf_37 : decode cX8_manyOf 37 = .ok (.aload_n 0, 1) := DX8_manyOf (37, .aload_n 0, 1) (List.mem_of_getElem? (i := 20) rfl)
theorem dX8_manyOf_38 : decode cX8_manyOf 38 = .ok (.getfield 14, 3) := DX8_manyOf (38, .getfield 14, 3) (List.mem_of_getElem? (i := 21) rfl)
theorem dX8_manyOf_41 : decode cX8_manyOf 41 = .ok (.iload 4, 2) := DX8_manyOf (41, .iload 4, 2) (List.mem_of_getElem? (i := 22) rfl)
theorem dX8_manyOf_43 : decode cX8_manyOf 43 = .ok (.iaload, 1) := DX8_manyOf (43, .iaload, 1) (List.mem_of_getElem? (i := 23) rfl)
theorem dX8_manyOf_44 : decode cX8_manyOf 44 = .ok (.iconst 2, 1) := DX8_manyOf (44, .iconst 2, 1) (List.mem_of_getElem? (i := 24) rfl)
theorem dX8_manyOf_45 : decode cX8_manyOf 45 = .ok (.if_icmp .eq 14, 3) := DX8_manyOf (45, .if_icmp .eq 14, 3) (List.mem_of_getElem? (i := 25) rfl)
theorem dX8_manyOf_48 : decode cX8_manyOf 48 = .ok (.aload_n 0, 1) := DX8_manyOf (48, .aload_n 0, 1) (List.mem_of_getElem? (i := 26) rfl)
theorem dX8_manyOf_49 : decode cX8_manyOf 49 = .ok (.getfield 14, 3) := DX8_manyOf (49, .getfield 14, 3) (List.mem_of_getElem? (i := 27) rfl)
theorem dX8_manyOf_52 : decode cX8_manyOf 52 = .ok (.iload 4, 2) := DX8_manyOf (52, .iload 4, 2) (List.mem_of_getElem? (i := 28) rfl)
theorem dX8_manyOf_54 : decode cX8_manyOf 54 = .ok (.iaload, 1) := DX8_manyOf (54, .iaload, 1) (List.mem_of_getElem? (i := 29) rfl)
theorem dX8_manyOf_55 : decode cX8_manyOf 55 = .ok (.iconst 3, 1) := DX8_manyOf (55, .iconst 3, 1) (List.mem_of_getElem? (i := 30) rfl)
theorem dX8_manyOf_56 : decode cX8_manyOf 56 = .ok (.if_icmp .ne 7, 3) := DX8_manyOf (56, .if_icmp .ne 7, 3) (List.mem_of_getElem? (i := 31) rfl)
theorem dX8_manyOf_59 : decode cX8_manyOf 59 = .ok (.iconst 1, 1) := DX8_manyOf (59, .iconst 1, 1) (List.mem_of_getElem? (i := 32) rfl)
theorem dX8_manyOf_60 : decode cX8_manyOf 60 = .ok (.goto 4, 3) := DX8_manyOf (60, .goto 4, 3) (List.mem_of_getElem? (i := 33) rfl)
theorem dX8_manyOf_63 : decode cX8_manyOf 63 = .ok (.iconst 0, 1) := DX8_manyOf (63, .iconst 0, 1) (List.mem_of_getElem? (i := 34) rfl)
theorem dX8_manyOf_64 : decode cX8_manyOf 64 = .ok (.istore 5, 2) := DX8_manyOf (64, .istore 5, 2) (List.mem_of_getElem? (i := 35) rfl)
theorem dX8_manyOf_66 : decode cX8_manyOf 66 = .ok (.aload_n 0, 1) := DX8_manyOf (66, .aload_n 0, 1) (List.mem_of_getElem? (i := 36) rfl)
theorem dX8_manyOf_67 : decode cX8_manyOf 67 = .ok (.getfield 39, 3) := DX8_manyOf (67, .getfield 39, 3) (List.mem_of_getElem? (i := 37) rfl)
theorem dX8_manyOf_70 : decode cX8_manyOf 70 = .ok (.iload 4, 2) := DX8_manyOf (70, .iload 4, 2) (List.mem_of_getElem? (i := 38) rfl)
theorem dX8_manyOf_72 : decode cX8_manyOf 72 = .ok (.iaload, 1) := DX8_manyOf (72, .iaload, 1) (List.mem_of_getElem? (i := 39) rfl)
theorem dX8_manyOf_73 : decode cX8_manyOf 73 = .ok (.ifCond .eq 34, 3) := DX8_manyOf (73, .ifCond .eq 34, 3) (List.mem_of_getElem? (i := 40) rfl)
theorem dX8_manyOf_76 : decode cX8_manyOf 76 = .ok (.iload_n 1, 1) := DX8_manyOf (76, .iload_n 1, 1) (List.mem_of_getElem? (i := 41) rfl)
theorem dX8_manyOf_77 : decode cX8_manyOf 77 = .ok (.ifCond .eq 14, 3) := DX8_manyOf (77, .ifCond .eq 14, 3) (List.mem_of_getElem? (i := 42) rfl)
theorem dX8_manyOf_80 : decode cX8_manyOf 80 = .ok (.aload_n 0, 1) := DX8_manyOf (80, .aload_n 0, 1) (List.mem_of_getElem? (i := 43) rfl)
theorem dX8_manyOf_81 : decode cX8_manyOf 81 = .ok (.getfield 39, 3) := DX8_manyOf (81, .getfield 39, 3) (List.mem_of_getElem? (i := 44) rfl)
theorem dX8_manyOf_84 : decode cX8_manyOf 84 = .ok (.iload 4, 2) := DX8_manyOf (84, .iload 4, 2) (List.mem_of_getElem? (i := 45) rfl)
theorem dX8_manyOf_86 : decode cX8_manyOf 86 = .ok (.iaload, 1) := DX8_manyOf (86, .iaload, 1) (List.mem_of_getElem? (i := 46) rfl)
theorem dX8_manyOf_87 : decode cX8_manyOf 87 = .ok (.iconst 1, 1) := DX8_manyOf (87, .iconst 1, 1) (List.mem_of_getElem? (i := 47) rfl)
theorem dX8_manyOf_88 : decode cX8_manyOf 88 = .ok (.if_icmp .eq 19, 3) := DX8_manyOf (88, .if_icmp .eq 19, 3) (List.mem_of_getElem? (i := 48) rfl)
theorem dX8_manyOf_91 : decode cX8_manyOf 91 = .ok (.aload_n 0, 1) := DX8_manyOf (91, .aload_n 0, 1) (List.mem_of_getElem? (i := 49) rfl)
theorem dX8_manyOf_92 : decode cX8_manyOf 92 = .ok (.getfield 237, 3) := DX8_manyOf (92, .getfield 237, 3) (List.mem_of_getElem? (i := 50) rfl)
theorem dX8_manyOf_95 : decode cX8_manyOf 95 = .ok (.iload 4, 2) := DX8_manyOf (95, .iload 4, 2) (List.mem_of_getElem? (i := 51) rfl)
theorem dX8_manyOf_97 : decode cX8_manyOf 97 = .ok (.invokestatic 102, 3) := DX8_manyOf (97, .invokestatic 102, 3) (List.mem_of_getElem? (i := 52) rfl)
theorem dX8_manyOf_100 : decode cX8_manyOf 100 = .ok (.ifCond .eq 7, 3) := DX8_manyOf (100, .ifCond .eq 7, 3) (List.mem_of_getElem? (i := 53) rfl)
theorem dX8_manyOf_103 : decode cX8_manyOf 103 = .ok (.iconst 1, 1) := DX8_manyOf (103, .iconst 1, 1) (List.mem_of_getElem? (i := 54) rfl)
theorem dX8_manyOf_104 : decode cX8_manyOf 104 = .ok (.goto 4, 3) := DX8_manyOf (104, .goto 4, 3) (List.mem_of_getElem? (i := 55) rfl)
theorem dX8_manyOf_107 : decode cX8_manyOf 107 = .ok (.iconst 0, 1) := DX8_manyOf (107, .iconst 0, 1) (List.mem_of_getElem? (i := 56) rfl)
theorem dX8_manyOf_108 : decode cX8_manyOf 108 = .ok (.istore 6, 2) := DX8_manyOf (108, .istore 6, 2) (List.mem_of_getElem? (i := 57) rfl)
theorem dX8_manyOf_110 : decode cX8_manyOf 110 = .ok (.iload_n 3, 1) := DX8_manyOf (110, .iload_n 3, 1) (List.mem_of_getElem? (i := 58) rfl)
theorem dX8_manyOf_111 : decode cX8_manyOf 111 = .ok (.iload 5, 2) := DX8_manyOf (111, .iload 5, 2) (List.mem_of_getElem? (i := 59) rfl)
theorem dX8_manyOf_113 : decode cX8_manyOf 113 = .ok (.ifCond .eq 16, 3) := DX8_manyOf (113, .ifCond .eq 16, 3) (List.mem_of_getElem? (i := 60) rfl)
theorem dX8_manyOf_116 : decode cX8_manyOf 116 = .ok (.iload_n 2, 1) := DX8_manyOf (116, .iload_n 2, 1) (List.mem_of_getElem? (i := 61) rfl)
theorem dX8_manyOf_117 : decode cX8_manyOf 117 = .ok (.ifCond .eq 8, 3) := DX8_manyOf (117, .ifCond .eq 8, 3) (List.mem_of_getElem? (i := 62) rfl)
theorem dX8_manyOf_120 : decode cX8_manyOf 120 = .ok (.iload 6, 2) := DX8_manyOf (120, .iload 6, 2) (List.mem_of_getElem? (i := 63) rfl)
theorem dX8_manyOf_122 : decode cX8_manyOf 122 = .ok (.ifCond .eq 7, 3) := DX8_manyOf (122, .ifCond .eq 7, 3) (List.mem_of_getElem? (i := 64) rfl)
theorem dX8_manyOf_125 : decode cX8_manyOf 125 = .ok (.iconst 1, 1) := DX8_manyOf (125, .iconst 1, 1) (List.mem_of_getElem? (i := 65) rfl)
theorem dX8_manyOf_126 : decode cX8_manyOf 126 = .ok (.goto 4, 3) := DX8_manyOf (126, .goto 4, 3) (List.mem_of_getElem? (i := 66) rfl)
theorem dX8_manyOf_129 : decode cX8_manyOf 129 = .ok (.iconst 0, 1) := DX8_manyOf (129, .iconst 0, 1) (List.mem_of_getElem? (i := 67) rfl)
theorem dX8_manyOf_130 : decode cX8_manyOf 130 = .ok (.iadd, 1) := DX8_manyOf (130, .iadd, 1) (List.mem_of_getElem? (i := 68) rfl)
theorem dX8_manyOf_131 : decode cX8_manyOf 131 = .ok (.istore_n 3, 1) := DX8_manyOf (131, .istore_n 3, 1) (List.mem_of_getElem? (i := 69) rfl)
theorem dX8_manyOf_132 : decode cX8_manyOf 132 = .ok (.iinc 4 1, 3) := DX8_manyOf (132, .iinc 4 1, 3) (List.mem_of_getElem? (i := 70) rfl)
theorem dX8_manyOf_135 : decode cX8_manyOf 135 = .ok (.goto (-130), 3) := DX8_manyOf (135, .goto (-130), 3) (List.mem_of_getElem? (i := 71) rfl)
theorem dX8_manyOf_138 : decode cX8_manyOf 138 = .ok (.iload_n 3, 1) := DX8_manyOf (138, .iload_n 3, 1) (List.mem_of_getElem? (i := 72) rfl)
theorem dX8_manyOf_139 : decode cX8_manyOf 139 = .ok (.ireturn, 1) := DX8_manyOf (139, .ireturn, 1) (List.mem_of_getElem? (i := 73) rfl)
noncomputable def fX8_manyOf_L130 (l1 : Int32) (l2 : Int32) (l4 : Int32) (s0 : Int32) (s1 : Int32) (σ : Mem) : Option ((Int32 × Int32 × Mem) ⊕ (Int32 × Mem)) :=
  some (.inl (s0 + s1, l4 + 1, σ))
set_option maxHeartbeats 4000000 in
set_option maxRecDepth 100000 in
theorem tX8_manyOf_L130 {E : Gx} {cI : ClassId} {ad : Nat → Nat} (C : Cx E rmX8_manyOf cI layM ad 7 RX8 cX8_manyOf) {out : Int32 × Mem} (K0 : KI E rmX8_manyOf cI layM ad 7 cX8_manyOf .int out) {l1 : Int32} {l2 : Int32} {l4 : Int32} {s0 : Int32} {s1 : Int32} {σ : Mem} {res : (Int32 × Int32 × Mem) ⊕ (Int32 × Mem)} (h : fX8_manyOf_L130 l1 l2 l4 s0 s1 σ = some res) (K : Sum.elim (fun a => G E rmX8_manyOf cI layM ad 7 5 [(0, .ref (ad 0)), (1, .int l1), (2, .int l2), (3, .int a.1), (4, .int a.2.1)] [] a.2.2) (fun b => G E rmX8_manyOf cI layM ad 7 138 [(3, .int b.1)] [] b.2) res) : G E rmX8_manyOf cI layM ad 7 130 [(0, .ref (ad 0)), (1, .int l1), (2, .int l2), (4, .int l4)] [.int s1, .int s0] σ := by
  unfold fX8_manyOf_L130 at h
  refine g_iadd 131 C dX8_manyOf_130 rfl ?_
  refine g_istore_n 132 [(3, .int (s0 + s1)), (0, .ref (ad 0)), (1, .int l1), (2, .int l2), (4, .int l4)] C dX8_manyOf_131 rfl (by decide) rfl rfl ?_
  refine g_iinc 135 [(4, .int (l4 + 1)), (3, .int (s0 + s1)), (0, .ref (ad 0)), (1, .int l1), (2, .int l2)] C dX8_manyOf_132 (j := 4) rfl (by rfl) (by decide) rfl rfl ?_
  refine g_goto 5 C dX8_manyOf_135 (by decide) ?_
  have hh := end_inl h K
  exact g_sub [2, 3, 4, 1, 0] (hh) rfl
noncomputable def fX8_manyOf_L129 (l1 : Int32) (l2 : Int32) (l4 : Int32) (s0 : Int32) (σ : Mem) : Option ((Int32 × Int32 × Mem) ⊕ (Int32 × Mem)) :=
  fX8_manyOf_L130 l1 l2 l4 s0 0 σ
set_option maxHeartbeats 4000000 in
set_option maxRecDepth 100000 in
theorem tX8_manyOf_L129 {E : Gx} {cI : ClassId} {ad : Nat → Nat} (C : Cx E rmX8_manyOf cI layM ad 7 RX8 cX8_manyOf) {out : Int32 × Mem} (K0 : KI E rmX8_manyOf cI layM ad 7 cX8_manyOf .int out) {l1 : Int32} {l2 : Int32} {l4 : Int32} {s0 : Int32} {σ : Mem} {res : (Int32 × Int32 × Mem) ⊕ (Int32 × Mem)} (h : fX8_manyOf_L129 l1 l2 l4 s0 σ = some res) (K : Sum.elim (fun a => G E rmX8_manyOf cI layM ad 7 5 [(0, .ref (ad 0)), (1, .int l1), (2, .int l2), (3, .int a.1), (4, .int a.2.1)] [] a.2.2) (fun b => G E rmX8_manyOf cI layM ad 7 138 [(3, .int b.1)] [] b.2) res) : G E rmX8_manyOf cI layM ad 7 129 [(0, .ref (ad 0)), (1, .int l1), (2, .int l2), (4, .int l4)] [.int s0] σ := by
  unfold fX8_manyOf_L129 at h
  refine g_iconst 130 (v := 0) C dX8_manyOf_129 (by decide) rfl ?_
  exact tX8_manyOf_L130 (l1 := l1) (l2 := l2) (l4 := l4) (s0 := s0) (s1 := 0) (σ := σ) C K0 h K
noncomputable def fX8_manyOf_L125 (l1 : Int32) (l2 : Int32) (l4 : Int32) (s0 : Int32) (σ : Mem) : Option ((Int32 × Int32 × Mem) ⊕ (Int32 × Mem)) :=
  fX8_manyOf_L130 l1 l2 l4 s0 1 σ
set_option maxHeartbeats 4000000 in
set_option maxRecDepth 100000 in
theorem tX8_manyOf_L125 {E : Gx} {cI : ClassId} {ad : Nat → Nat} (C : Cx E rmX8_manyOf cI layM ad 7 RX8 cX8_manyOf) {out : Int32 × Mem} (K0 : KI E rmX8_manyOf cI layM ad 7 cX8_manyOf .int out) {l1 : Int32} {l2 : Int32} {l4 : Int32} {s0 : Int32} {σ : Mem} {res : (Int32 × Int32 × Mem) ⊕ (Int32 × Mem)} (h : fX8_manyOf_L125 l1 l2 l4 s0 σ = some res) (K : Sum.elim (fun a => G E rmX8_manyOf cI layM ad 7 5 [(0, .ref (ad 0)), (1, .int l1), (2, .int l2), (3, .int a.1), (4, .int a.2.1)] [] a.2.2) (fun b => G E rmX8_manyOf cI layM ad 7 138 [(3, .int b.1)] [] b.2) res) : G E rmX8_manyOf cI layM ad 7 125 [(0, .ref (ad 0)), (1, .int l1), (2, .int l2), (4, .int l4)] [.int s0] σ := by
  unfold fX8_manyOf_L125 at h
  refine g_iconst 126 (v := 1) C dX8_manyOf_125 (by decide) rfl ?_
  refine g_goto 130 C dX8_manyOf_126 (by decide) ?_
  exact tX8_manyOf_L130 (l1 := l1) (l2 := l2) (l4 := l4) (s0 := s0) (s1 := 1) (σ := σ) C K0 h K
noncomputable def fX8_manyOf_L108 (l1 : Int32) (l2 : Int32) (l3 : Int32) (l4 : Int32) (l5 : Int32) (s0 : Int32) (σ : Mem) : Option ((Int32 × Int32 × Mem) ⊕ (Int32 × Mem)) :=
  if l5 = 0 then
    fX8_manyOf_L129 l1 l2 l4 l3 σ
  else
    if l2 = 0 then
      fX8_manyOf_L125 l1 l2 l4 l3 σ
    else
      if s0 = 0 then
        fX8_manyOf_L129 l1 l2 l4 l3 σ
      else
        fX8_manyOf_L125 l1 l2 l4 l3 σ
set_option maxHeartbeats 4000000 in
set_option maxRecDepth 100000 in
theorem tX8_manyOf_L108 {E : Gx} {cI : ClassId} {ad : Nat → Nat} (C : Cx E rmX8_manyOf cI layM ad 7 RX8 cX8_manyOf) {out : Int32 × Mem} (K0 : KI E rmX8_manyOf cI layM ad 7 cX8_manyOf .int out) {l1 : Int32} {l2 : Int32} {l3 : Int32} {l4 : Int32} {l5 : Int32} {s0 : Int32} {σ : Mem} {res : (Int32 × Int32 × Mem) ⊕ (Int32 × Mem)} (h : fX8_manyOf_L108 l1 l2 l3 l4 l5 s0 σ = some res) (K : Sum.elim (fun a => G E rmX8_manyOf cI layM ad 7 5 [(0, .ref (ad 0)), (1, .int l1), (2, .int l2), (3, .int a.1), (4, .int a.2.1)] [] a.2.2) (fun b => G E rmX8_manyOf cI layM ad 7 138 [(3, .int b.1)] [] b.2) res) : G E rmX8_manyOf cI layM ad 7 108 [(0, .ref (ad 0)), (1, .int l1), (2, .int l2), (3, .int l3), (4, .int l4), (5, .int l5)] [.int s0] σ := by
  unfold fX8_manyOf_L108 at h
  refine g_istore 110 [(6, .int s0), (0, .ref (ad 0)), (1, .int l1), (2, .int l2), (3, .int l3), (4, .int l4), (5, .int l5)] C dX8_manyOf_108 (by decide) rfl rfl ?_
  refine g_iload_n 111 C dX8_manyOf_110 rfl (j := 4) rfl rfl ?_
  refine g_iload 113 C dX8_manyOf_111 (j := 6) rfl rfl ?_
  refine g_if_eq 129 116 C dX8_manyOf_113 (by decide) rfl h (fun h => ?_) (fun h => ?_)
  · exact g_sub [1, 2, 3, 5] (tX8_manyOf_L129 (l1 := l1) (l2 := l2) (l4 := l4) (s0 := l3) (σ := σ) C K0 h K) rfl
  · refine g_iload_n 117 C dX8_manyOf_116 rfl (j := 3) rfl rfl ?_
    refine g_if_eq 125 120 C dX8_manyOf_117 (by decide) rfl h (fun h => ?_) (fun h => ?_)
    · exact g_sub [1, 2, 3, 5] (tX8_manyOf_L125 (l1 := l1) (l2 := l2) (l4 := l4) (s0 := l3) (σ := σ) C K0 h K) rfl
    · refine g_iload 122 C dX8_manyOf_120 (j := 0) rfl rfl ?_
      refine g_if_eq 129 125 C dX8_manyOf_122 (by decide) rfl h (fun h => ?_) (fun h => ?_)
      · exact g_sub [1, 2, 3, 5] (tX8_manyOf_L129 (l1 := l1) (l2 := l2) (l4 := l4) (s0 := l3) (σ := σ) C K0 h K) rfl
      · exact g_sub [1, 2, 3, 5] (tX8_manyOf_L125 (l1 := l1) (l2 := l2) (l4 := l4) (s0 := l3) (σ := σ) C K0 h K) rfl
noncomputable def fX8_manyOf_L107 (l1 : Int32) (l2 : Int32) (l3 : Int32) (l4 : Int32) (l5 : Int32) (σ : Mem) : Option ((Int32 × Int32 × Mem) ⊕ (Int32 × Mem)) :=
  fX8_manyOf_L108 l1 l2 l3 l4 l5 0 σ
set_option maxHeartbeats 4000000 in
set_option maxRecDepth 100000 in
theorem tX8_manyOf_L107 {E : Gx} {cI : ClassId} {ad : Nat → Nat} (C : Cx E rmX8_manyOf cI layM ad 7 RX8 cX8_manyOf) {out : Int32 × Mem} (K0 : KI E rmX8_manyOf cI layM ad 7 cX8_manyOf .int out) {l1 : Int32} {l2 : Int32} {l3 : Int32} {l4 : Int32} {l5 : Int32} {σ : Mem} {res : (Int32 × Int32 × Mem) ⊕ (Int32 × Mem)} (h : fX8_manyOf_L107 l1 l2 l3 l4 l5 σ = some res) (K : Sum.elim (fun a => G E rmX8_manyOf cI layM ad 7 5 [(0, .ref (ad 0)), (1, .int l1), (2, .int l2), (3, .int a.1), (4, .int a.2.1)] [] a.2.2) (fun b => G E rmX8_manyOf cI layM ad 7 138 [(3, .int b.1)] [] b.2) res) : G E rmX8_manyOf cI layM ad 7 107 [(0, .ref (ad 0)), (1, .int l1), (2, .int l2), (3, .int l3), (4, .int l4), (5, .int l5)] [] σ := by
  unfold fX8_manyOf_L107 at h
  refine g_iconst 108 (v := 0) C dX8_manyOf_107 (by decide) rfl ?_
  exact tX8_manyOf_L108 (l1 := l1) (l2 := l2) (l3 := l3) (l4 := l4) (l5 := l5) (s0 := 0) (σ := σ) C K0 h K
noncomputable def fX8_manyOf_L91 (l1 : Int32) (l2 : Int32) (l3 : Int32) (l4 : Int32) (l5 : Int32) (σ : Mem) : Option ((Int32 × Int32 × Mem) ⊕ (Int32 × Mem)) :=
  (fX8_has (σ 0 20) l4 σ).bind fun o1 =>
  if o1.1 = 0 then
    fX8_manyOf_L107 l1 l2 l3 l4 l5 o1.2
  else
    fX8_manyOf_L108 l1 l2 l3 l4 l5 1 o1.2
set_option maxHeartbeats 4000000 in
set_option maxRecDepth 100000 in
theorem tX8_manyOf_L91 {E : Gx} {cI : ClassId} {ad : Nat → Nat} (C : Cx E rmX8_manyOf cI layM ad 7 RX8 cX8_manyOf) {out : Int32 × Mem} (K0 : KI E rmX8_manyOf cI layM ad 7 cX8_manyOf .int out) {l1 : Int32} {l2 : Int32} {l3 : Int32} {l4 : Int32} {l5 : Int32} {σ : Mem} {res : (Int32 × Int32 × Mem) ⊕ (Int32 × Mem)} (h : fX8_manyOf_L91 l1 l2 l3 l4 l5 σ = some res) (K : Sum.elim (fun a => G E rmX8_manyOf cI layM ad 7 5 [(0, .ref (ad 0)), (1, .int l1), (2, .int l2), (3, .int a.1), (4, .int a.2.1)] [] a.2.2) (fun b => G E rmX8_manyOf cI layM ad 7 138 [(3, .int b.1)] [] b.2) res) : G E rmX8_manyOf cI layM ad 7 91 [(0, .ref (ad 0)), (1, .int l1), (2, .int l2), (3, .int l3), (4, .int l4), (5, .int l5)] [] σ := by
  unfold fX8_manyOf_L91 at h
  refine g_aload_n 92 C dX8_manyOf_91 rfl (j := 0) rfl rfl ?_
  refine g_geti 95 (j := 20) C rfl rfl wu_X8 (by decide) wf_X8_237 rfl dX8_manyOf_92 rfl ?_
  refine g_iload 97 C dX8_manyOf_95 (j := 4) rfl rfl ?_
  refine g_csi 100 C (As := [.int (σ 0 20), .int l4]) (fun _ h => mX8_has (a1 := σ 0 20) (a2 := l4) (σ := σ) h) wl_X8_102 ws_X8_has wc_X8_has wn_X8 qX8_has rfl rfl ⟨Nat.le_of_ble_eq_true rfl, Nat.le_of_ble_eq_true rfl⟩ rfl rfl (Nat.le_of_ble_eq_true rfl) dX8_manyOf_97 rfl h (fun o1 h => ?_)
  refine g_if_eq 107 103 C dX8_manyOf_100 (by decide) rfl h (fun h => ?_) (fun h => ?_)
  · exact tX8_manyOf_L107 (l1 := l1) (l2 := l2) (l3 := l3) (l4 := l4) (l5 := l5) (σ := o1.2) C K0 h K
  · refine g_iconst 104 (v := 1) C dX8_manyOf_103 (by decide) rfl ?_
    refine g_goto 108 C dX8_manyOf_104 (by decide) ?_
    exact tX8_manyOf_L108 (l1 := l1) (l2 := l2) (l3 := l3) (l4 := l4) (l5 := l5) (s0 := 1) (σ := o1.2) C K0 h K
noncomputable def fX8_manyOf_L64 (l1 : Int32) (l2 : Int32) (l3 : Int32) (l4 : Int32) (s0 : Int32) (σ : Mem) : Option ((Int32 × Int32 × Mem) ⊕ (Int32 × Mem)) :=
  chk (inb l4 30) <|
  if (σ 7 l4.toNatClampNeg) = 0 then
    fX8_manyOf_L107 l1 l2 l3 l4 s0 σ
  else
    if l1 = 0 then
      fX8_manyOf_L91 l1 l2 l3 l4 s0 σ
    else
      chk (inb l4 30) <|
      if (σ 7 l4.toNatClampNeg) = 1 then
        fX8_manyOf_L107 l1 l2 l3 l4 s0 σ
      else
        fX8_manyOf_L91 l1 l2 l3 l4 s0 σ
set_option maxHeartbeats 4000000 in
set_option maxRecDepth 100000 in
theorem tX8_manyOf_L64 {E : Gx} {cI : ClassId} {ad : Nat → Nat} (C : Cx E rmX8_manyOf cI layM ad 7 RX8 cX8_manyOf) {out : Int32 × Mem} (K0 : KI E rmX8_manyOf cI layM ad 7 cX8_manyOf .int out) {l1 : Int32} {l2 : Int32} {l3 : Int32} {l4 : Int32} {s0 : Int32} {σ : Mem} {res : (Int32 × Int32 × Mem) ⊕ (Int32 × Mem)} (h : fX8_manyOf_L64 l1 l2 l3 l4 s0 σ = some res) (K : Sum.elim (fun a => G E rmX8_manyOf cI layM ad 7 5 [(0, .ref (ad 0)), (1, .int l1), (2, .int l2), (3, .int a.1), (4, .int a.2.1)] [] a.2.2) (fun b => G E rmX8_manyOf cI layM ad 7 138 [(3, .int b.1)] [] b.2) res) : G E rmX8_manyOf cI layM ad 7 64 [(0, .ref (ad 0)), (1, .int l1), (2, .int l2), (3, .int l3), (4, .int l4)] [.int s0] σ := by
  unfold fX8_manyOf_L64 at h
  refine g_istore 66 [(5, .int s0), (0, .ref (ad 0)), (1, .int l1), (2, .int l2), (3, .int l3), (4, .int l4)] C dX8_manyOf_64 (by decide) rfl rfl ?_
  refine g_aload_n 67 C dX8_manyOf_66 rfl (j := 1) rfl rfl ?_
  refine g_getr 70 (j := 14) C rfl rfl wu_X8 (by decide) wf_X8_39 rfl dX8_manyOf_67 rfl ?_
  refine g_iload 72 C dX8_manyOf_70 (j := 5) rfl rfl ?_
  refine g_iald 73 C rfl dX8_manyOf_72 rfl h (fun h => ?_)
  refine g_if_eq 107 76 C dX8_manyOf_73 (by decide) rfl h (fun h => ?_) (fun h => ?_)
  · exact g_sub [1, 2, 3, 4, 5, 0] (tX8_manyOf_L107 (l1 := l1) (l2 := l2) (l3 := l3) (l4 := l4) (l5 := s0) (σ := σ) C K0 h K) rfl
  · refine g_iload_n 77 C dX8_manyOf_76 rfl (j := 2) rfl rfl ?_
    refine g_if_eq 91 80 C dX8_manyOf_77 (by decide) rfl h (fun h => ?_) (fun h => ?_)
    · exact g_sub [1, 2, 3, 4, 5, 0] (tX8_manyOf_L91 (l1 := l1) (l2 := l2) (l3 := l3) (l4 := l4) (l5 := s0) (σ := σ) C K0 h K) rfl
    · refine g_aload_n 81 C dX8_manyOf_80 rfl (j := 1) rfl rfl ?_
      refine g_getr 84 (j := 14) C rfl rfl wu_X8 (by decide) wf_X8_39 rfl dX8_manyOf_81 rfl ?_
      refine g_iload 86 C dX8_manyOf_84 (j := 5) rfl rfl ?_
      refine g_iald 87 C rfl dX8_manyOf_86 rfl h (fun h => ?_)
      refine g_iconst 88 (v := 1) C dX8_manyOf_87 (by decide) rfl ?_
      refine g_icmp_eq 107 91 C dX8_manyOf_88 (by decide) rfl h (fun h => ?_) (fun h => ?_)
      · exact g_sub [1, 2, 3, 4, 5, 0] (tX8_manyOf_L107 (l1 := l1) (l2 := l2) (l3 := l3) (l4 := l4) (l5 := s0) (σ := σ) C K0 h K) rfl
      · exact g_sub [1, 2, 3, 4, 5, 0] (tX8_manyOf_L91 (l1 := l1) (l2 := l2) (l3 := l3) (l4 := l4) (l5 := s0) (σ := σ) C K0 h K) rfl
noncomputable def fX8_manyOf_L59 (l1 : Int32) (l2 : Int32) (l3 : Int32) (l4 : Int32) (σ : Mem) : Option ((Int32 × Int32 × Mem) ⊕ (Int32 × Mem)) :=
  fX8_manyOf_L64 l1 l2 l3 l4 1 σ
set_option maxHeartbeats 4000000 in
set_option maxRecDepth 100000 in
theorem tX8_manyOf_L59 {E : Gx} {cI : ClassId} {ad : Nat → Nat} (C : Cx E rmX8_manyOf cI layM ad 7 RX8 cX8_manyOf) {out : Int32 × Mem} (K0 : KI E rmX8_manyOf cI layM ad 7 cX8_manyOf .int out) {l1 : Int32} {l2 : Int32} {l3 : Int32} {l4 : Int32} {σ : Mem} {res : (Int32 × Int32 × Mem) ⊕ (Int32 × Mem)} (h : fX8_manyOf_L59 l1 l2 l3 l4 σ = some res) (K : Sum.elim (fun a => G E rmX8_manyOf cI layM ad 7 5 [(0, .ref (ad 0)), (1, .int l1), (2, .int l2), (3, .int a.1), (4, .int a.2.1)] [] a.2.2) (fun b => G E rmX8_manyOf cI layM ad 7 138 [(3, .int b.1)] [] b.2) res) : G E rmX8_manyOf cI layM ad 7 59 [(0, .ref (ad 0)), (1, .int l1), (2, .int l2), (3, .int l3), (4, .int l4)] [] σ := by
  unfold fX8_manyOf_L59 at h
  refine g_iconst 60 (v := 1) C dX8_manyOf_59 (by decide) rfl ?_
  refine g_goto 64 C dX8_manyOf_60 (by decide) ?_
  exact tX8_manyOf_L64 (l1 := l1) (l2 := l2) (l3 := l3) (l4 := l4) (s0 := 1) (σ := σ) C K0 h K
noncomputable def fX8_manyOf_B5 (l1 : Int32) (l2 : Int32) (l3 : Int32) (l4 : Int32) (σ : Mem) : Option ((Int32 × Int32 × Mem) ⊕ (Int32 × Mem)) :=
  if (σ 0 6) ≤ l4 then
    some (.inr (l3, σ))
  else
    if l1 = 0 then
      chk (inb l4 30) <|
      if (σ 2 l4.toNatClampNeg) = 2 then
        fX8_manyOf_L59 l1 l2 l3 l4 σ
      else
        chk (inb l4 30) <|
        if (σ 2 l4.toNatClampNeg) = 3 then
          fX8_manyOf_L59 l1 l2 l3 l4 σ
        else
          fX8_manyOf_L64 l1 l2 l3 l4 0 σ
    else
      chk (inb l4 30) <|
      if (σ 2 l4.toNatClampNeg) = 4 then
        fX8_manyOf_L64 l1 l2 l3 l4 1 σ
      else
        fX8_manyOf_L64 l1 l2 l3 l4 0 σ
set_option maxHeartbeats 4000000 in
set_option maxRecDepth 100000 in
theorem tX8_manyOf_B5 {E : Gx} {cI : ClassId} {ad : Nat → Nat} (C : Cx E rmX8_manyOf cI layM ad 7 RX8 cX8_manyOf) {out : Int32 × Mem} (K0 : KI E rmX8_manyOf cI layM ad 7 cX8_manyOf .int out) {l1 : Int32} {l2 : Int32} {l3 : Int32} {l4 : Int32} {σ : Mem} {res : (Int32 × Int32 × Mem) ⊕ (Int32 × Mem)} (h : fX8_manyOf_B5 l1 l2 l3 l4 σ = some res) (K : Sum.elim (fun a => G E rmX8_manyOf cI layM ad 7 5 [(0, .ref (ad 0)), (1, .int l1), (2, .int l2), (3, .int a.1), (4, .int a.2.1)] [] a.2.2) (fun b => G E rmX8_manyOf cI layM ad 7 138 [(3, .int b.1)] [] b.2) res) : G E rmX8_manyOf cI layM ad 7 5 [(0, .ref (ad 0)), (1, .int l1), (2, .int l2), (3, .int l3), (4, .int l4)] [] σ := by
  unfold fX8_manyOf_B5 at h
  refine g_iload 7 C dX8_manyOf_5 (j := 4) rfl rfl ?_
  refine g_aload_n 8 C dX8_manyOf_7 rfl (j := 0) rfl rfl ?_
  refine g_geti 11 (j := 6) C rfl rfl wu_X8 (by decide) wf_X8_72 rfl dX8_manyOf_8 rfl ?_
  refine g_icmp_ge 138 14 C dX8_manyOf_11 (by decide) rfl h (fun h => ?_) (fun h => ?_)
  · have hh := end_inr h K
    exact g_sub [3] (hh) rfl
  · refine g_iload_n 15 C dX8_manyOf_14 rfl (j := 1) rfl rfl ?_
    refine g_if_eq 37 18 C dX8_manyOf_15 (by decide) rfl h (fun h => ?_) (fun h => ?_)
    · refine g_aload_n 38 C dX8_manyOf_37 rfl (j := 0) rfl rfl ?_
      refine g_getr 41 (j := 3) C rfl rfl wu_X8 (by decide) wf_X8_14 rfl dX8_manyOf_38 rfl ?_
      refine g_iload 43 C dX8_manyOf_41 (j := 4) rfl rfl ?_
      refine g_iald 44 C rfl dX8_manyOf_43 rfl h (fun h => ?_)
      refine g_iconst 45 (v := 2) C dX8_manyOf_44 (by decide) rfl ?_
      refine g_icmp_eq 59 48 C dX8_manyOf_45 (by decide) rfl h (fun h => ?_) (fun h => ?_)
      · exact tX8_manyOf_L59 (l1 := l1) (l2 := l2) (l3 := l3) (l4 := l4) (σ := σ) C K0 h K
      · refine g_aload_n 49 C dX8_manyOf_48 rfl (j := 0) rfl rfl ?_
        refine g_getr 52 (j := 3) C rfl rfl wu_X8 (by decide) wf_X8_14 rfl dX8_manyOf_49 rfl ?_
        refine g_iload 54 C dX8_manyOf_52 (j := 4) rfl rfl ?_
        refine g_iald 55 C rfl dX8_manyOf_54 rfl h (fun h => ?_)
        refine g_iconst 56 (v := 3) C dX8_manyOf_55 (by decide) rfl ?_
        refine g_icmp_ne 63 59 C dX8_manyOf_56 (by decide) rfl h (fun h => ?_) (fun h => ?_)
        · exact tX8_manyOf_L59 (l1 := l1) (l2 := l2) (l3 := l3) (l4 := l4) (σ := σ) C K0 h K
        · refine g_iconst 64 (v := 0) C dX8_manyOf_63 (by decide) rfl ?_
          exact tX8_manyOf_L64 (l1 := l1) (l2 := l2) (l3 := l3) (l4 := l4) (s0 := 0) (σ := σ) C K0 h K
    · refine g_aload_n 19 C dX8_manyOf_18 rfl (j := 0) rfl rfl ?_
      refine g_getr 22 (j := 3) C rfl rfl wu_X8 (by decide) wf_X8_14 rfl dX8_manyOf_19 rfl ?_
      refine g_iload 24 C dX8_manyOf_22 (j := 4) rfl rfl ?_
      refine g_iald 25 C rfl dX8_manyOf_24 rfl h (fun h => ?_)
      refine g_iconst 26 (v := 4) C dX8_manyOf_25 (by decide) rfl ?_
      refine g_icmp_ne 33 29 C dX8_manyOf_26 (by decide) rfl h (fun h => ?_) (fun h => ?_)
      · refine g_iconst 30 (v := 1) C dX8_manyOf_29 (by decide) rfl ?_
        refine g_goto 64 C dX8_manyOf_30 (by decide) ?_
        exact tX8_manyOf_L64 (l1 := l1) (l2 := l2) (l3 := l3) (l4 := l4) (s0 := 1) (σ := σ) C K0 h K
      · refine g_iconst 34 (v := 0) C dX8_manyOf_33 (by decide) rfl ?_
        refine g_goto 64 C dX8_manyOf_34 (by decide) ?_
        exact tX8_manyOf_L64 (l1 := l1) (l2 := l2) (l3 := l3) (l4 := l4) (s0 := 0) (σ := σ) C K0 h K
noncomputable def fX8_manyOf_L138 (l3 : Int32) (σ : Mem) : Option (Int32 × Mem) :=
  some (l3, σ)
set_option maxHeartbeats 4000000 in
set_option maxRecDepth 100000 in
theorem tX8_manyOf_L138 {E : Gx} {cI : ClassId} {ad : Nat → Nat} (C : Cx E rmX8_manyOf cI layM ad 7 RX8 cX8_manyOf) {out : Int32 × Mem} (K0 : KI E rmX8_manyOf cI layM ad 7 cX8_manyOf .int out) {l3 : Int32} {σ : Mem} (h : fX8_manyOf_L138 l3 σ = some out) : G E rmX8_manyOf cI layM ad 7 138 [(3, .int l3)] [] σ := by
  unfold fX8_manyOf_L138 at h
  refine g_iload_n 139 C dX8_manyOf_138 rfl (j := 0) rfl rfl ?_
  cases h
  exact K0 _ _ dX8_manyOf_139 rfl
noncomputable def fX8_manyOf (a1 : Int32) (a2 : Int32) (σ : Mem) : Option (Int32 × Mem) :=
  (loop (fun a => fX8_manyOf_B5 a1 a2 a.1 a.2.1 a.2.2) (0, 0, σ)).bind fun b2 =>
  fX8_manyOf_L138 b2.1 b2.2
set_option maxHeartbeats 4000000 in
set_option maxRecDepth 100000 in
theorem mX8_manyOf {l : Launch} {D : va_G} {cI : ClassId} {ad : Nat → Nat} {a1 : Int32} {a2 : Int32} {σ : Mem} {out : Int32 × Mem} (h : fX8_manyOf a1 a2 σ = some out) : MI l D cI layM ad yX8_manyOf cX8_manyOf 7 .int rmX8_manyOf [.ref (ad 0), .int a1, .int a2] σ out := by
  refine met_i (by decide) (Nat.le_of_ble_eq_true rfl) (fun E C K0 => ?_)
  show G E rmX8_manyOf cI layM ad 7 0 [(0, .ref (ad 0)), (1, .int a1), (2, .int a2)] [] σ
  unfold fX8_manyOf at h
  refine g_iconst 1 (v := 0) C dX8_manyOf_0 (by decide) rfl ?_
  refine g_istore_n 2 [(3, .int 0), (0, .ref (ad 0)), (1, .int a1), (2, .int a2)] C dX8_manyOf_1 rfl (by decide) rfl rfl ?_
  refine g_iconst 3 (v := 0) C dX8_manyOf_2 (by decide) rfl ?_
  refine g_istore 5 [(4, .int 0), (3, .int 0), (0, .ref (ad 0)), (1, .int a1), (2, .int a2)] C dX8_manyOf_3 (by decide) rfl rfl ?_
  obtain ⟨b2, hb, h⟩ := bind_some h
  refine g_sub [2, 3, 4, 1, 0] (g_loop (a := (0, 0, σ)) (fun a => G E rmX8_manyOf cI layM ad 7 5 [(0, .ref (ad 0)), (1, .int a1), (2, .int a2), (3, .int a.1), (4, .int a.2.1)] [] a.2.2) (fun b => G E rmX8_manyOf cI layM ad 7 138 [(3, .int b.1)] [] b.2) hb (fun a res h K => tX8_manyOf_B5 (l1 := a1) (l2 := a2) (l3 := a.1) (l4 := a.2.1) (σ := a.2.2) (res := res) C K0 h K) ?_) rfl
  show G E rmX8_manyOf cI layM ad 7 138 [(3, .int b2.1)] [] b2.2
  exact tX8_manyOf_L138 (l3 := b2.1) (σ := b2.2) C K0 h

/-! LoopReducerModel.worked(I)I -/
abbrev rmX8_worked : Room := { frames := 1, cells := 0, slots := 0, locals := 22 }
theorem qX8_worked : yX8_worked.cls ≠ "java/lang/invoke/MethodHandle" ∧ yX8_worked.cls ≠ "java/lang/invoke/VarHandle" ∧ (parseMethodDescriptor yX8_worked.desc).map (fun d => d.parameters.length) = some 1 := by decide +kernel
theorem DX8_worked : ∀ q ∈ ([(0, .aload_n 0, 1), (1, .getfield 54, 3), (4, .aload_n 0, 1), (5, .getfield 17, 3), (8, .iload_n 1, 1), (9, .iaload, 1), (10, .iaload, 1), (11, .istore_n 2, 1), (12, .aload_n 0, 1), (13, .getfield 54, 3), (16, .aload_n 0, 1), (17, .getfield 20, 3), (20, .iload_n 1, 1), (21, .iaload, 1), (22, .iaload, 1), (23, .istore_n 3, 1), (24, .aload_n 0, 1), (25, .getfield 14, 3), (28, .iload_n 1, 1), (29, .iaload, 1), (30, .iconst 2, 1), (31, .if_icmp .ne 14, 3), (34, .aload_n 0, 1), (35, .iload_n 2, 1), (36, .iload_n 3, 1), (37, .iadd, 1), (38, .i2l, 1), (39, .invokevirtual 83, 3), (42, .goto 33, 3), (45, .aload_n 0, 1), (46, .getfield 14, 3), (49, .iload_n 1, 1), (50, .iaload, 1), (51, .iconst 3, 1), (52, .if_icmp .ne 14, 3), (55, .aload_n 0, 1), (56, .iload_n 2, 1), (57, .iload_n 3, 1), (58, .isub, 1), (59, .i2l, 1), (60, .invokevirtual 83, 3), (63, .goto 12, 3), (66, .aload_n 0, 1), (67, .iload_n 2, 1), (68, .i2l, 1), (69, .iload_n 3, 1), (70, .i2l, 1), (71, .lmul, 1), (72, .invokevirtual 83, 3), (75, .ireturn, 1)] : List (Nat × Instr × Nat)), decode cX8_worked q.1 = .ok q.2 := by decide +kernel
theorem dX8_worked_0 : decode cX8_worked 0 = .ok (.aload_n 0, 1) := DX8_worked (0, .aload_n 0, 1) (List.mem_of_getElem? (i := 0) rfl)
theorem dX8_worked_1 : decode cX8_worked 1 = .ok (.getfield 54, 3) := DX8_worked (1, .getfield 54, 3) (List.mem_of_getElem? (i := 1) rfl)
theorem dX8_worked_4 : decode cX8_worked 4 = .ok (.aload_n 0, 1) := DX8_worked (4, .aload_n 0, 1) (List.mem_of_getElem? (i := 2) rfl)
theorem dX8_worked_5 : decode cX8_worked 5 = .ok (.getfield 17, 3) := DX8_worked (5, .getfield 17, 3) (List.mem_of_getElem? (i := 3) rfl)
theorem dX8_worked_8 : decode cX8_worked 8 = .ok (.iload_n 1, 1) := DX8_worked (8, .iload_n 1, 1) (List.mem_of_getElem? (i := 4) rfl)
theorem dX8_worked_9 : decode cX8_worked 9 = .ok (.iaload, 1) := DX8_worked (9, .iaload, 1) (List.mem_of_getElem? (i := 5) rfl)
theorem dX8_worked_10 : decode cX8_worked 10 = .ok (.iaload, 1) := DX8_worked (10, .iaload, 1) (List.mem_of_getElem? (i := 6) rfl)
theorem dX8_worked_11 : decode cX8_worked 11 = .ok (.istore_n 2, 1) := DX8_worked (11, .istore_n 2, 1) (List.mem_of_getElem? (i := 7) rfl)
theorem dX8_worked_12 : decode cX8_worked 12 = .ok (.aload_n 0, 1) := DX8_worked (12, .aload_n 0, 1) (List.mem_of_getElem? (i := 8) rfl)
theorem dX8_worked_13 : decode cX8_worked 13 = .ok (.getfield 54, 3) := DX8_worked (13, .getfield 54, 3) (List.mem_of_getElem? (i := 9) rfl)
theorem dX8_worked_16 : decode cX8_worked 16 = .ok (.aload_n 0, 1) := DX8_worked (16, .aload_n 0, 1) (List.mem_of_getElem? (i := 10) rfl)
theorem dX8_worked_17 : decode cX8_worked 17 = .ok (.getfield 20, 3) := DX8_worked (17, .getfield 20, 3) (List.mem_of_getElem? (i := 11) rfl)
theorem dX8_worked_20 : decode cX8_worked 20 = .ok (.iload_n 1, 1) := DX8_worked (20, .iload_n 1, 1) (List.mem_of_getElem? (i := 12) rfl)
theorem dX8_worked_21 : decode cX8_worked 21 = .ok (.iaload, 1) := DX8_worked (21, .iaload, 1) (List.mem_of_getElem? (i := 13) rfl)
theorem dX8_worked_22 : decode cX8_worked 22 = .ok (.iaload, 1) := DX8_worked (22, .iaload, 1) (List.mem_of_getElem? (i := 14) rfl)
theorem dX8_worked_23 : decode cX8_worked 23 = .ok (.istore_n 3, 1) := DX8_worked (23, .istore_n 3, 1) (List.mem_of_getElem? (i := 15) rfl)
theorem dX8_worked_24 : decode cX8_worked 24 = .ok (.aload_n 0, 1) := DX8_worked (24, .aload_n 0, 1) (List.mem_of_getElem? (i := 16) rfl)
theorem dX8_worked_25 : decode cX8_worked 25 = .ok (.getfield 14, 3) := DX8_worked (25, .getfield 14, 3) (List.mem_of_getElem? (i := 17) rfl)
theorem dX8_worked_28 : decode cX8_worked 28 = .ok (.iload_n 1, 1) := DX8_worked (28, .iload_n 1, 1) (List.mem_of_getElem? (i := 18) rfl)
theorem dX8_worked_29 : decode cX8_worked 29 = .ok (.iaload, 1) := DX8_worked (29, .iaload, 1) (List.mem_of_getElem? (i := 19) rfl)
theorem dX8_worked_30 : decode cX8_worked 30 = .ok (.iconst 2, 1) := DX8_worked (30, .iconst 2, 1) (List.mem_of_getElem? (i := 20) rfl)
theorem dX8_worked_31 : decode cX8_worked 31 = .ok (.if_icmp .ne 14, 3) := DX8_worked (31, .if_icmp .ne 14, 3) (List.mem_of_getElem? (i := 21) rfl)
theorem dX8_worked_34 : decode cX8_worked 34 = .ok (.aload_n 0, 1) := DX8_worked (34, .aload_n 0, 1) (List.mem_of_getElem? (i := 22) rfl)
theorem dX8_worked_35 : decode cX8_worked 35 = .ok (.iload_n 2, 1) := DX8_worked (35, .iload_n 2, 1) (List.mem_of_getElem? (i := 23) rfl)
theorem dX8_worked_36 : decode cX8_worked 36 = .ok (.iload_n 3, 1) := DX8_worked (36, .iload_n 3, 1) (List.mem_of_getElem? (i := 24) rfl)
theorem dX8_worked_37 : decode cX8_worked 37 = .ok (.iadd, 1) := DX8_worked (37, .iadd, 1) (List.mem_of_getElem? (i := 25) rfl)
theorem dX8_worked_38 : decode cX8_worked 38 = .ok (.i2l, 1) := DX8_worked (38, .i2l, 1) (List.mem_of_getElem? (i := 26) rfl)
theorem dX8_worked_39 : decode cX8_worked 39 = .ok (.invokevirtual 83, 3) := DX8_worked (39, .invokevirtual 83, 3) (List.mem_of_getElem? (i := 27) rfl)
theorem dX8_worked_42 : decode cX8_worked 42 = .ok (.goto 33, 3) := DX8_worked (42, .goto 33, 3) (List.mem_of_getElem? (i := 28) rfl)
theorem dX8_worked_45 : decode cX8_worked 45 = .ok (.aload_n 0, 1) := DX8_worked (45, .aload_n 0, 1) (List.mem_of_getElem? (i := 29) rfl)
theorem dX8_worked_46 : decode cX8_worked 46 = .ok (.getfield 14, 3) := DX8_worked (46, .getfield 14, 3) (List.mem_of_getElem? (i := 30) rfl)
theorem dX8_worked_49 : decode cX8_worked 49 = .ok (.iload_n 1, 1) := DX8_worked (49, .iload_n 1, 1) (List.mem_of_getElem? (i := 31) rfl)
theorem dX8_worked_50 : decode cX8_worked 50 = .ok (.iaload, 1) := DX8_worked (50, .iaload, 1) (List.mem_of_getElem? (i := 32) rfl)
theorem dX8_worked_51 : decode cX8_worked 51 = .ok (.iconst 3, 1) := DX8_worked (51, .iconst 3, 1) (List.mem_of_getElem? (i := 33) rfl)
theorem dX8_worked_52 : decode cX8_worked 52 = .ok (.if_icmp .ne 14, 3) := DX8_worked (52, .if_icmp .ne 14, 3) (List.mem_of_getElem? (i := 34) rfl)
theorem dX8_worked_55 : decode cX8_worked 55 = .ok (.aload_n 0, 1) := DX8_worked (55, .aload_n 0, 1) (List.mem_of_getElem? (i := 35) rfl)
theorem dX8_worked_56 : decode cX8_worked 56 = .ok (.iload_n 2, 1) := DX8_worked (56, .iload_n 2, 1) (List.mem_of_getElem? (i := 36) rfl)
theorem dX8_worked_57 : decode cX8_worked 57 = .ok (.iload_n 3, 1) := DX8_worked (57, .iload_n 3, 1) (List.mem_of_getElem? (i := 37) rfl)
theorem dX8_worked_58 : decode cX8_worked 58 = .ok (.isub, 1) := DX8_worked (58, .isub, 1) (List.mem_of_getElem? (i := 38) rfl)
theorem dX8_worked_59 : decode cX8_worked 59 = .ok (.i2l, 1) := DX8_worked (59, .i2l, 1) (List.mem_of_getElem? (i := 39) rfl)
theorem dX8_worked_60 : decode cX8_worked 60 = .ok (.invokevirtual 83, 3) := DX8_worked (60, .invokevirtual 83, 3) (List.mem_of_getElem? (i := 40) rfl)
theorem dX8_worked_63 : decode cX8_worked 63 = .ok (.goto 12, 3) := DX8_worked (63, .goto 12, 3) (List.mem_of_getElem? (i := 41) rfl)
theorem dX8_worked_66 : decode cX8_worked 66 = .ok (.aload_n 0, 1) := DX8_worked (66, .aload_n 0, 1) (List.mem_of_getElem? (i := 42) rfl)
theorem dX8_worked_67 : decode cX8_worked 67 = .ok (.iload_n 2, 1) := DX8_worked (67, .iload_n 2, 1) (List.mem_of_getElem? (i := 43) rfl)
theorem dX8_worked_68 : decode cX8_worked 68 = .ok (.i2l, 1) := DX8_worked (68, .i2l, 1) (List.mem_of_getElem? (i := 44) rfl)
theorem dX8_worked_69 : decode cX8_worked 69 = .ok (.iload_n 3, 1) := DX8_worked (69, .iload_n 3, 1) (List.mem_of_getElem? (i := 45) rfl)
theorem dX8_worked_70 : decode cX8_worked 70 = .ok (.i2l, 1) := DX8_worked (70, .i2l, 1) (List.mem_of_getElem? (i := 46) rfl)
theorem dX8_worked_71 : decode cX8_worked 71 = .ok (.lmul, 1) := DX8_worked (71, .lmul, 1) (List.mem_of_getElem? (i := 47) rfl)
theorem dX8_worked_72 : decode cX8_worked 72 = .ok (.invokevirtual 83, 3) := DX8_worked (72, .invokevirtual 83, 3) (List.mem_of_getElem? (i := 48) rfl)
theorem dX8_worked_75 : decode cX8_worked 75 = .ok (.ireturn, 1) := DX8_worked (75, .ireturn, 1) (List.mem_of_getElem? (i := 49) rfl)
noncomputable def fX8_worked_L75 (s0 : Int32) (σ : Mem) : Option (Int32 × Mem) :=
  some (s0, σ)
set_option maxHeartbeats 4000000 in
set_option maxRecDepth 100000 in
theorem tX8_worked_L75 {E : Gx} {cI : ClassId} {ad : Nat → Nat} (C : Cx E rmX8_worked cI layM ad 4 RX8 cX8_worked) {out : Int32 × Mem} (K0 : KI E rmX8_worked cI layM ad 4 cX8_worked .int out) {s0 : Int32} {σ : Mem} (h : fX8_worked_L75 s0 σ = some out) : G E rmX8_worked cI layM ad 4 75 [] [.int s0] σ := by
  unfold fX8_worked_L75 at h
  cases h
  exact K0 _ _ dX8_worked_75 rfl
noncomputable def fX8_worked (a1 : Int32) (σ : Mem) : Option (Int32 × Mem) :=
  chk (inb a1 30) <|
  chk (inb (σ 3 a1.toNatClampNeg) 30) <|
  chk (inb a1 30) <|
  chk (inb (σ 4 a1.toNatClampNeg) 30) <|
  chk (inb a1 30) <|
  if (σ 2 a1.toNatClampNeg) = 2 then
    (fX8_cut (((σ 12 (σ 3 a1.toNatClampNeg).toNatClampNeg) + (σ 12 (σ 4 a1.toNatClampNeg).toNatClampNeg)).toInt64) σ).bind fun o3 =>
    fX8_worked_L75 o3.1 o3.2
  else
    chk (inb a1 30) <|
    if (σ 2 a1.toNatClampNeg) = 3 then
      (fX8_cut (((σ 12 (σ 3 a1.toNatClampNeg).toNatClampNeg) - (σ 12 (σ 4 a1.toNatClampNeg).toNatClampNeg)).toInt64) σ).bind fun o2 =>
      fX8_worked_L75 o2.1 o2.2
    else
      (fX8_cut (((σ 12 (σ 3 a1.toNatClampNeg).toNatClampNeg).toInt64) * ((σ 12 (σ 4 a1.toNatClampNeg).toNatClampNeg).toInt64)) σ).bind fun o1 =>
      fX8_worked_L75 o1.1 o1.2
set_option maxHeartbeats 4000000 in
set_option maxRecDepth 100000 in
theorem mX8_worked {l : Launch} {D : va_G} {cI : ClassId} {ad : Nat → Nat} {a1 : Int32} {σ : Mem} {out : Int32 × Mem} (h : fX8_worked a1 σ = some out) : MI l D cI layM ad yX8_worked cX8_worked 4 .int rmX8_worked [.ref (ad 0), .int a1] σ out := by
  refine met_i (by decide) (Nat.le_of_ble_eq_true rfl) (fun E C K0 => ?_)
  show G E rmX8_worked cI layM ad 4 0 [(0, .ref (ad 0)), (1, .int a1)] [] σ
  unfold fX8_worked at h
  refine g_aload_n 1 C dX8_worked_0 rfl (j := 0) rfl rfl ?_
  refine g_getr 4 (j := 21) C rfl rfl wu_X8 (by decide) wf_X8_54 rfl dX8_worked_1 rfl ?_
  refine g_aload_n 5 C dX8_worked_4 rfl (j := 0) rfl rfl ?_
  refine g_getr 8 (j := 4) C rfl rfl wu_X8 (by decide) wf_X8_17 rfl dX8_worked_5 rfl ?_
  refine g_iload_n 9 C dX8_worked_8 rfl (j := 1) rfl rfl ?_
  refine g_iald 10 C rfl dX8_worked_9 rfl h (fun h => ?_)
  refine g_iald 11 C rfl dX8_worked_10 rfl h (fun h => ?_)
  refine g_istore_n 12 [(2, .int (σ 12 (σ 3 a1.toNatClampNeg).toNatClampNeg)), (0, .ref (ad 0)), (1, .int a1)] C dX8_worked_11 rfl (by decide) rfl rfl ?_
  refine g_aload_n 13 C dX8_worked_12 rfl (j := 1) rfl rfl ?_
  refine g_getr 16 (j := 21) C rfl rfl wu_X8 (by decide) wf_X8_54 rfl dX8_worked_13 rfl ?_
  refine g_aload_n 17 C dX8_worked_16 rfl (j := 1) rfl rfl ?_
  refine g_getr 20 (j := 5) C rfl rfl wu_X8 (by decide) wf_X8_20 rfl dX8_worked_17 rfl ?_
  refine g_iload_n 21 C dX8_worked_20 rfl (j := 2) rfl rfl ?_
  refine g_iald 22 C rfl dX8_worked_21 rfl h (fun h => ?_)
  refine g_iald 23 C rfl dX8_worked_22 rfl h (fun h => ?_)
  refine g_istore_n 24 [(3, .int (σ 12 (σ 4 a1.toNatClampNeg).toNatClampNeg)), (2, .int (σ 12 (σ 3 a1.toNatClampNeg).toNatClampNeg)), (0, .ref (ad 0)), (1, .int a1)] C dX8_worked_23 rfl (by decide) rfl rfl ?_
  refine g_aload_n 25 C dX8_worked_24 rfl (j := 2) rfl rfl ?_
  refine g_getr 28 (j := 3) C rfl rfl wu_X8 (by decide) wf_X8_14 rfl dX8_worked_25 rfl ?_
  refine g_iload_n 29 C dX8_worked_28 rfl (j := 3) rfl rfl ?_
  refine g_iald 30 C rfl dX8_worked_29 rfl h (fun h => ?_)
  refine g_iconst 31 (v := 2) C dX8_worked_30 (by decide) rfl ?_
  refine g_icmp_ne 45 34 C dX8_worked_31 (by decide) rfl h (fun h => ?_) (fun h => ?_)
  · refine g_aload_n 35 C dX8_worked_34 rfl (j := 2) rfl rfl ?_
    refine g_iload_n 36 C dX8_worked_35 rfl (j := 1) rfl rfl ?_
    refine g_iload_n 37 C dX8_worked_36 rfl (j := 0) rfl rfl ?_
    refine g_iadd 38 C dX8_worked_37 rfl ?_
    refine g_i2l 39 C dX8_worked_38 rfl ?_
    refine g_cvi 42 C (As := [.long (((σ 12 (σ 3 a1.toNatClampNeg).toNatClampNeg) + (σ 12 (σ 4 a1.toNatClampNeg).toNatClampNeg)).toInt64)]) (fun _ h => mX8_cut (a1 := ((σ 12 (σ 3 a1.toNatClampNeg).toNatClampNeg) + (σ 12 (σ 4 a1.toNatClampNeg).toNatClampNeg)).toInt64) (σ := σ) h) wl_X8_83 wi_X8_cut wz_X8_cut wc_X8_cut wn_X8 qX8_cut rfl rfl ⟨Nat.le_of_ble_eq_true rfl, Nat.le_of_ble_eq_true rfl⟩ rfl rfl rfl rfl (Nat.le_of_ble_eq_true rfl) dX8_worked_39 rfl h (fun o3 h => ?_)
    refine g_goto 75 C dX8_worked_42 (by decide) ?_
    exact g_sub [] (tX8_worked_L75 (s0 := o3.1) (σ := o3.2) C K0 h) rfl
  · refine g_aload_n 46 C dX8_worked_45 rfl (j := 2) rfl rfl ?_
    refine g_getr 49 (j := 3) C rfl rfl wu_X8 (by decide) wf_X8_14 rfl dX8_worked_46 rfl ?_
    refine g_iload_n 50 C dX8_worked_49 rfl (j := 3) rfl rfl ?_
    refine g_iald 51 C rfl dX8_worked_50 rfl h (fun h => ?_)
    refine g_iconst 52 (v := 3) C dX8_worked_51 (by decide) rfl ?_
    refine g_icmp_ne 66 55 C dX8_worked_52 (by decide) rfl h (fun h => ?_) (fun h => ?_)
    · refine g_aload_n 56 C dX8_worked_55 rfl (j := 2) rfl rfl ?_
      refine g_iload_n 57 C dX8_worked_56 rfl (j := 1) rfl rfl ?_
      refine g_iload_n 58 C dX8_worked_57 rfl (j := 0) rfl rfl ?_
      refine g_isub 59 C dX8_worked_58 rfl ?_
      refine g_i2l 60 C dX8_worked_59 rfl ?_
      refine g_cvi 63 C (As := [.long (((σ 12 (σ 3 a1.toNatClampNeg).toNatClampNeg) - (σ 12 (σ 4 a1.toNatClampNeg).toNatClampNeg)).toInt64)]) (fun _ h => mX8_cut (a1 := ((σ 12 (σ 3 a1.toNatClampNeg).toNatClampNeg) - (σ 12 (σ 4 a1.toNatClampNeg).toNatClampNeg)).toInt64) (σ := σ) h) wl_X8_83 wi_X8_cut wz_X8_cut wc_X8_cut wn_X8 qX8_cut rfl rfl ⟨Nat.le_of_ble_eq_true rfl, Nat.le_of_ble_eq_true rfl⟩ rfl rfl rfl rfl (Nat.le_of_ble_eq_true rfl) dX8_worked_60 rfl h (fun o2 h => ?_)
      refine g_goto 75 C dX8_worked_63 (by decide) ?_
      exact g_sub [] (tX8_worked_L75 (s0 := o2.1) (σ := o2.2) C K0 h) rfl
    · refine g_aload_n 67 C dX8_worked_66 rfl (j := 2) rfl rfl ?_
      refine g_iload_n 68 C dX8_worked_67 rfl (j := 1) rfl rfl ?_
      refine g_i2l 69 C dX8_worked_68 rfl ?_
      refine g_iload_n 70 C dX8_worked_69 rfl (j := 0) rfl rfl ?_
      refine g_i2l 71 C dX8_worked_70 rfl ?_
      refine g_lmul 72 C dX8_worked_71 rfl ?_
      refine g_cvi 75 C (As := [.long (((σ 12 (σ 3 a1.toNatClampNeg).toNatClampNeg).toInt64) * ((σ 12 (σ 4 a1.toNatClampNeg).toNatClampNeg).toInt64))]) (fun _ h => mX8_cut (a1 := ((σ 12 (σ 3 a1.toNatClampNeg).toNatClampNeg).toInt64) * ((σ 12 (σ 4 a1.toNatClampNeg).toNatClampNeg).toInt64)) (σ := σ) h) wl_X8_83 wi_X8_cut wz_X8_cut wc_X8_cut wn_X8 qX8_cut rfl rfl ⟨Nat.le_of_ble_eq_true rfl, Nat.le_of_ble_eq_true rfl⟩ rfl rfl rfl rfl (Nat.le_of_ble_eq_true rfl) dX8_worked_72 rfl h (fun o1 h => ?_)
      exact g_sub [] (tX8_worked_L75 (s0 := o1.1) (σ := o1.2) C K0 h) rfl

/-! LoopReducerModel.reckons(Z)V -/
abbrev rmX8_reckons : Room := { frames := 2, cells := 0, slots := 0, locals := 45 }
theorem qX8_reckons : yX8_reckons.cls ≠ "java/lang/invoke/MethodHandle" ∧ yX8_reckons.cls ≠ "java/lang/invoke/VarHandle" ∧ (parseMethodDescriptor yX8_reckons.desc).map (fun d => d.parameters.length) = some 1 := by decide +kernel
theorem DX8_reckons : ∀ q ∈ ([(0, .iconst 0, 1), (1, .istore_n 2, 1), (2, .iload_n 2, 1), (3, .aload_n 0, 1), (4, .getfield 72, 3), (7, .if_icmp .ge 21, 3), (10, .aload_n 0, 1), (11, .getfield 57, 3), (14, .iload_n 2, 1), (15, .aload_n 0, 1), (16, .getfield 54, 3), (19, .iload_n 2, 1), (20, .iaload, 1), (21, .iastore, 1), (22, .iinc 2 1, 3), (25, .goto (-23), 3), (28, .iconst 0, 1), (29, .istore_n 2, 1), (30, .iload_n 2, 1), (31, .aload_n 0, 1), (32, .getfield 72, 3), (35, .if_icmp .ge 129, 3), (38, .aload_n 0, 1), (39, .getfield 14, 3), (42, .iload_n 2, 1), (43, .iaload, 1), (44, .lookupswitch 103 #[(0, 36), (1, 51), (5, 71)], 36), (80, .aload_n 0, 1), (81, .getfield 54, 3), (84, .iload_n 2, 1), (85, .aload_n 0, 1), (86, .getfield 17, 3), (89, .iload_n 2, 1), (90, .iaload, 1), (91, .iastore, 1), (92, .goto 66, 3), (95, .aload_n 0, 1), (96, .getfield 54, 3), (99, .iload_n 2, 1), (100, .aload_n 0, 1), (101, .getfield 45, 3), (104, .aload_n 0, 1), (105, .getfield 17, 3), (108, .iload_n 2, 1), (109, .iaload, 1), (110, .iaload, 1), (111, .iastore, 1), (112, .goto 46, 3), (115, .aload_n 0, 1), (116, .getfield 54, 3), (119, .iload_n 2, 1), (120, .iload_n 1, 1), (121, .ifCond .eq 11, 3), (124, .aload_n 0, 1), (125, .iload_n 2, 1), (126, .invokevirtual 216, 3), (129, .goto 14, 3), (132, .aload_n 0, 1), (133, .getfield 57, 3), (136, .aload_n 0, 1), (137, .getfield 20, 3), (140, .iload_n 2, 1), (141, .iaload, 1), (142, .iaload, 1), (143, .iastore, 1), (144, .goto 14, 3), (147, .aload_n 0, 1), (148, .getfield 54, 3), (151, .iload_n 2, 1), (152, .aload_n 0, 1), (153, .iload_n 2, 1), (154, .invokevirtual 250, 3), (157, .iastore, 1), (158, .iinc 2 1, 3), (161, .goto (-131), 3), (164, .return_, 1)] : List (Nat × Instr × Nat)), decode cX8_reckons q.1 = .ok q.2 := by decide +kernel
theorem dX8_reckons_0 : decode cX8_reckons 0 = .ok (.iconst 0, 1) := DX8_reckons (0, .iconst 0, 1) (List.mem_of_getElem? (i := 0) rfl)
theorem dX8_reckons_1 : decode cX8_reckons 1 = .ok (.istore_n 2, 1) := DX8_reckons (1, .istore_n 2, 1) (List.mem_of_getElem? (i := 1) rfl)
theorem dX8_reckons_2 : decode cX8_reckons 2 = .ok (.iload_n 2, 1) := DX8_reckons (2, .iload_n 2, 1) (List.mem_of_getElem? (i := 2) rfl)
theorem dX8_reckons_3 : decode cX8_reckons 3 = .ok (.aload_n 0, 1) := DX8_reckons (3, .aload_n 0, 1) (List.mem_of_getElem? (i := 3) rfl)
theorem dX8_reckons_4 : decode cX8_reckons 4 = .ok (.getfield 72, 3) := DX8_reckons (4, .getfield 72, 3) (List.mem_of_getElem? (i := 4) rfl)
theorem dX8_reckons_7 : decode cX8_reckons 7 = .ok (.if_icmp .ge 21, 3) := DX8_reckons (7, .if_icmp .ge 21, 3) (List.mem_of_getElem? (i := 5) rfl)
theorem dX8_reckons_10 : decode cX8_reckons 10 = .ok (.aload_n 0, 1) := DX8_reckons (10, .aload_n 0, 1) (List.mem_of_getElem? (i := 6) rfl)
theorem dX8_reckons_11 : decode cX8_reckons 11 = .ok (.getfield 57, 3) := DX8_reckons (11, .getfield 57, 3) (List.mem_of_getElem? (i := 7) rfl)
theorem dX8_reckons_14 : decode cX8_reckons 14 = .ok (.iload_n 2, 1) := DX8_reckons (14, .iload_n 2, 1) (List.mem_of_getElem? (i := 8) rfl)
theorem dX8_reckons_15 : decode cX8_reckons 15 = .ok (.aload_n 0, 1) := DX8_reckons (15, .aload_n 0, 1) (List.mem_of_getElem? (i := 9) rfl)
theorem dX8_reckons_16 : decode cX8_reckons 16 = .ok (.getfield 54, 3) := DX8_reckons (16, .getfield 54, 3) (List.mem_of_getElem? (i := 10) rfl)
theorem dX8_reckons_19 : decode cX8_reckons 19 = .ok (.iload_n 2, 1) := DX8_reckons (19, .iload_n 2, 1) (List.mem_of_getElem? (i := 11) rfl)
theorem dX8_reckons_20 : decode cX8_reckons 20 = .ok (.iaload, 1) := DX8_reckons (20, .iaload, 1) (List.mem_of_getElem? (i := 12) rfl)
theorem dX8_reckons_21 : decode cX8_reckons 21 = .ok (.iastore, 1) := DX8_reckons (21, .iastore, 1) (List.mem_of_getElem? (i := 13) rfl)
theorem dX8_reckons_22 : decode cX8_reckons 22 = .ok (.iinc 2 1, 3) := DX8_reckons (22, .iinc 2 1, 3) (List.mem_of_getElem? (i := 14) rfl)
theorem dX8_reckons_25 : decode cX8_reckons 25 = .ok (.goto (-23), 3) := DX8_reckons (25, .goto (-23), 3) (List.mem_of_getElem? (i := 15) rfl)
theorem dX8_reckons_28 : decode cX8_reckons 28 = .ok (.iconst 0, 1) := DX8_reckons (28, .iconst 0, 1) (List.mem_of_getElem? (i := 16) rfl)
theorem dX8_reckons_29 : decode cX8_reckons 29 = .ok (.istore_n 2, 1) := DX8_reckons (29, .istore_n 2, 1) (List.mem_of_getElem? (i := 17) rfl)
theorem dX8_reckons_30 : decode cX8_reckons 30 = .ok (.iload_n 2, 1) := DX8_reckons (30, .iload_n 2, 1) (List.mem_of_getElem? (i := 18) rfl)
theorem dX8_reckons_31 : decode cX8_reckons 31 = .ok (.aload_n 0, 1) := DX8_reckons (31, .aload_n 0, 1) (List.mem_of_getElem? (i := 19) rfl)
theorem dX8_reckons_32 : decode cX8_reckons 32 = .ok (.getfield 72, 3) := DX8_reckons (32, .getfield 72, 3) (List.mem_of_getElem? (i := 20) rfl)
theorem dX8_reckons_35 : decode cX8_reckons 35 = .ok (.if_icmp .ge 129, 3) := DX8_reckons (35, .if_icmp .ge 129, 3) (List.mem_of_getElem? (i := 21) rfl)
theorem dX8_reckons_38 : decode cX8_reckons 38 = .ok (.aload_n 0, 1) := DX8_reckons (38, .aload_n 0, 1) (List.mem_of_getElem? (i := 22) rfl)
theorem dX8_reckons_39 : decode cX8_reckons 39 = .ok (.getfield 14, 3) := DX8_reckons (39, .getfield 14, 3) (List.mem_of_getElem? (i := 23) rfl)
theorem dX8_reckons_42 : decode cX8_reckons 42 = .ok (.iload_n 2, 1) := DX8_reckons (42, .iload_n 2, 1) (List.mem_of_getElem? (i := 24) rfl)
theorem dX8_reckons_43 : decode cX8_reckons 43 = .ok (.iaload, 1) := DX8_reckons (43, .iaload, 1) (List.mem_of_getElem? (i := 25) rfl)
theorem dX8_reckons_44 : decode cX8_reckons 44 = .ok (.lookupswitch 103 #[(0, 36), (1, 51), (5, 71)], 36) := DX8_reckons (44, .lookupswitch 103 #[(0, 36), (1, 51), (5, 71)], 36) (List.mem_of_getElem? (i := 26) rfl)
theorem dX8_reckons_80 : decode cX8_reckons 80 = .ok (.aload_n 0, 1) := DX8_reckons (80, .aload_n 0, 1) (List.mem_of_getElem? (i := 27) rfl)
theorem dX8_reckons_81 : decode cX8_reckons 81 = .ok (.getfield 54, 3) := DX8_reckons (81, .getfield 54, 3) (List.mem_of_getElem? (i := 28) rfl)
theorem dX8_reckons_84 : decode cX8_reckons 84 = .ok (.iload_n 2, 1) := DX8_reckons (84, .iload_n 2, 1) (List.mem_of_getElem? (i := 29) rfl)
theorem dX8_reckons_85 : decode cX8_reckons 85 = .ok (.aload_n 0, 1) := DX8_reckons (85, .aload_n 0, 1) (List.mem_of_getElem? (i := 30) rfl)
theorem dX8_reckons_86 : decode cX8_reckons 86 = .ok (.getfield 17, 3) := DX8_reckons (86, .getfield 17, 3) (List.mem_of_getElem? (i := 31) rfl)
theorem dX8_reckons_89 : decode cX8_reckons 89 = .ok (.iload_n 2, 1) := DX8_reckons (89, .iload_n 2, 1) (List.mem_of_getElem? (i := 32) rfl)
theorem dX8_reckons_90 : decode cX8_reckons 90 = .ok (.iaload, 1) := DX8_reckons (90, .iaload, 1) (List.mem_of_getElem? (i := 33) rfl)
theorem dX8_reckons_91 : decode cX8_reckons 91 = .ok (.iastore, 1) := DX8_reckons (91, .iastore, 1) (List.mem_of_getElem? (i := 34) rfl)
theorem dX8_reckons_92 : decode cX8_reckons 92 = .ok (.goto 66, 3) := DX8_reckons (92, .goto 66, 3) (List.mem_of_getElem? (i := 35) rfl)
theorem dX8_reckons_95 : decode cX8_reckons 95 = .ok (.aload_n 0, 1) := DX8_reckons (95, .aload_n 0, 1) (List.mem_of_getElem? (i := 36) rfl)
theorem dX8_reckons_96 : decode cX8_reckons 96 = .ok (.getfield 54, 3) := DX8_reckons (96, .getfield 54, 3) (List.mem_of_getElem? (i := 37) rfl)
theorem dX8_reckons_99 : decode cX8_reckons 99 = .ok (.iload_n 2, 1) := DX8_reckons (99, .iload_n 2, 1) (List.mem_of_getElem? (i := 38) rfl)
theorem dX8_reckons_100 : decode cX8_reckons 100 = .ok (.aload_n 0, 1) := DX8_reckons (100, .aload_n 0, 1) (List.mem_of_getElem? (i := 39) rfl)
theorem dX8_reckons_101 : decode cX8_reckons 101 = .ok (.getfield 45, 3) := DX8_reckons (101, .getfield 45, 3) (List.mem_of_getElem? (i := 40) rfl)
theorem dX8_reckons_104 : decode cX8_reckons 104 = .ok (.aload_n 0, 1) := DX8_reckons (104, .aload_n 0, 1) (List.mem_of_getElem? (i := 41) rfl)
theorem dX8_reckons_105 : decode cX8_reckons 105 = .ok (.getfield 17, 3) := DX8_reckons (105, .getfield 17, 3) (List.mem_of_getElem? (i := 42) rfl)
theorem dX8_reckons_108 : decode cX8_reckons 108 = .ok (.iload_n 2, 1) := DX8_reckons (108, .iload_n 2, 1) (List.mem_of_getElem? (i := 43) rfl)
theorem dX8_reckons_109 : decode cX8_reckons 109 = .ok (.iaload, 1) := DX8_reckons (109, .iaload, 1) (List.mem_of_getElem? (i := 44) rfl)
theorem dX8_reckons_110 : decode cX8_reckons 110 = .ok (.iaload, 1) := DX8_reckons (110, .iaload, 1) (List.mem_of_getElem? (i := 45) rfl)
theorem dX8_reckons_111 : decode cX8_reckons 111 = .ok (.iastore, 1) := DX8_reckons (111, .iastore, 1) (List.mem_of_getElem? (i := 46) rfl)
theorem dX8_reckons_112 : decode cX8_reckons 112 = .ok (.goto 46, 3) := DX8_reckons (112, .goto 46, 3) (List.mem_of_getElem? (i := 47) rfl)
theorem dX8_reckons_115 : decode cX8_reckons 115 = .ok (.aload_n 0, 1) := DX8_reckons (115, .aload_n 0, 1) (List.mem_of_getElem? (i := 48) rfl)
theorem dX8_reckons_116 : decode cX8_reckons 116 = .ok (.getfield 54, 3) := DX8_reckons (116, .getfield 54, 3) (List.mem_of_getElem? (i := 49) rfl)
theorem dX8_reckons_119 : decode cX8_reckons 119 = .ok (.iload_n 2, 1) := DX8_reckons (119, .iload_n 2, 1) (List.mem_of_getElem? (i := 50) rfl)
theorem dX8_reckons_120 : decode cX8_reckons 120 = .ok (.iload_n 1, 1) := DX8_reckons (120, .iload_n 1, 1) (List.mem_of_getElem? (i := 51) rfl)
theorem dX8_reckons_121 : decode cX8_reckons 121 = .ok (.ifCond .eq 11, 3) := DX8_reckons (121, .ifCond .eq 11, 3) (List.mem_of_getElem? (i := 52) rfl)
theorem dX8_reckons_124 : decode cX8_reckons 124 = .ok (.aload_n 0, 1) := DX8_reckons (124, .aload_n 0, 1) (List.mem_of_getElem? (i := 53) rfl)
theorem dX8_reckons_125 : decode cX8_reckons 125 = .ok (.iload_n 2, 1) := DX8_reckons (125, .iload_n 2, 1) (List.mem_of_getElem? (i := 54) rfl)
theorem dX8_reckons_126 : decode cX8_reckons 126 = .ok (.invokevirtual 216, 3) := DX8_reckons (126, .invokevirtual 216, 3) (List.mem_of_getElem? (i := 55) rfl)
theorem dX8_reckons_129 : decode cX8_reckons 129 = .ok (.goto 14, 3) := DX8_reckons (129, .goto 14, 3) (List.mem_of_getElem? (i := 56) rfl)
theorem dX8_reckons_132 : decode cX8_reckons 132 = .ok (.aload_n 0, 1) := DX8_reckons (132, .aload_n 0, 1) (List.mem_of_getElem? (i := 57) rfl)
theorem dX8_reckons_133 : decode cX8_reckons 133 = .ok (.getfield 57, 3) := DX8_reckons (133, .getfield 57, 3) (List.mem_of_getElem? (i := 58) rfl)
theorem dX8_reckons_136 : decode cX8_reckons 136 = .ok (.aload_n 0, 1) := DX8_reckons (136, .aload_n 0, 1) (List.mem_of_getElem? (i := 59) rfl)
theorem dX8_reckons_137 : decode cX8_reckons 137 = .ok (.getfield 20, 3) := DX8_reckons (137, .getfield 20, 3) (List.mem_of_getElem? (i := 60) rfl)
theorem dX8_reckons_140 : decode cX8_reckons 140 = .ok (.iload_n 2, 1) := DX8_reckons (140, .iload_n 2, 1) (List.mem_of_getElem? (i := 61) rfl)
theorem dX8_reckons_141 : decode cX8_reckons 141 = .ok (.iaload, 1) := DX8_reckons (141, .iaload, 1) (List.mem_of_getElem? (i := 62) rfl)
theorem dX8_reckons_142 : decode cX8_reckons 142 = .ok (.iaload, 1) := DX8_reckons (142, .iaload, 1) (List.mem_of_getElem? (i := 63) rfl)
theorem dX8_reckons_143 : decode cX8_reckons 143 = .ok (.iastore, 1) := DX8_reckons (143, .iastore, 1) (List.mem_of_getElem? (i := 64) rfl)
theorem dX8_reckons_144 : decode cX8_reckons 144 = .ok (.goto 14, 3) := DX8_reckons (144, .goto 14, 3) (List.mem_of_getElem? (i := 65) rfl)
theorem dX8_reckons_147 : decode cX8_reckons 147 = .ok (.aload_n 0, 1) := DX8_reckons (147, .aload_n 0, 1) (List.mem_of_getElem? (i := 66) rfl)
theorem dX8_reckons_148 : decode cX8_reckons 148 = .ok (.getfield 54, 3) := DX8_reckons (148, .getfield 54, 3) (List.mem_of_getElem? (i := 67) rfl)
theorem dX8_reckons_151 : decode cX8_reckons 151 = .ok (.iload_n 2, 1) := DX8_reckons (151, .iload_n 2, 1) (List.mem_of_getElem? (i := 68) rfl)
theorem dX8_reckons_152 : decode cX8_reckons 152 = .ok (.aload_n 0, 1) := DX8_reckons (152, .aload_n 0, 1) (List.mem_of_getElem? (i := 69) rfl)
theorem dX8_reckons_153 : decode cX8_reckons 153 = .ok (.iload_n 2, 1) := DX8_reckons (153, .iload_n 2, 1) (List.mem_of_getElem? (i := 70) rfl)
theorem dX8_reckons_154 : decode cX8_reckons 154 = .ok (.invokevirtual 250, 3) := DX8_reckons (154, .invokevirtual 250, 3) (List.mem_of_getElem? (i := 71) rfl)
theorem dX8_reckons_157 : decode cX8_reckons 157 = .ok (.iastore, 1) := DX8_reckons (157, .iastore, 1) (List.mem_of_getElem? (i := 72) rfl)
theorem dX8_reckons_158 : decode cX8_reckons 158 = .ok (.iinc 2 1, 3) := DX8_reckons (158, .iinc 2 1, 3) (List.mem_of_getElem? (i := 73) rfl)
theorem dX8_reckons_161 : decode cX8_reckons 161 = .ok (.goto (-131), 3) := DX8_reckons (161, .goto (-131), 3) (List.mem_of_getElem? (i := 74) rfl)
theorem dX8_reckons_164 : decode cX8_reckons 164 = .ok (.return_, 1) := DX8_reckons (164, .return_, 1) (List.mem_of_getElem? (i := 75) rfl)
noncomputable def fX8_reckons_B2 (l1 : Int32) (l2 : Int32) (σ : Mem) : Option ((Int32 × Mem) ⊕ (Mem)) :=
  if (σ 0 6) ≤ l2 then
    some (.inr σ)
  else
    chk (inb l2 30) <|
    chk (inb l2 30) <|
    some (.inl (l2 + 1, up2 σ 13 l2.toNatClampNeg (σ 12 l2.toNatClampNeg)))
set_option maxHeartbeats 4000000 in
set_option maxRecDepth 100000 in
theorem tX8_reckons_B2 {E : Gx} {cI : ClassId} {ad : Nat → Nat} (C : Cx E rmX8_reckons cI layM ad 3 RX8 cX8_reckons) {out : Mem} (K0 : KV E rmX8_reckons cI layM ad 3 cX8_reckons out) {l1 : Int32} {l2 : Int32} {σ : Mem} {res : (Int32 × Mem) ⊕ (Mem)} (h : fX8_reckons_B2 l1 l2 σ = some res) (K : Sum.elim (fun a => G E rmX8_reckons cI layM ad 3 2 [(0, .ref (ad 0)), (1, .int l1), (2, .int a.1)] [] a.2) (fun b => G E rmX8_reckons cI layM ad 3 28 [(0, .ref (ad 0)), (1, .int l1)] [] b) res) : G E rmX8_reckons cI layM ad 3 2 [(0, .ref (ad 0)), (1, .int l1), (2, .int l2)] [] σ := by
  unfold fX8_reckons_B2 at h
  refine g_iload_n 3 C dX8_reckons_2 rfl (j := 2) rfl rfl ?_
  refine g_aload_n 4 C dX8_reckons_3 rfl (j := 0) rfl rfl ?_
  refine g_geti 7 (j := 6) C rfl rfl wu_X8 (by decide) wf_X8_72 rfl dX8_reckons_4 rfl ?_
  refine g_icmp_ge 28 10 C dX8_reckons_7 (by decide) rfl h (fun h => ?_) (fun h => ?_)
  · have hh := end_inr h K
    exact g_sub [0, 1] (hh) rfl
  · refine g_aload_n 11 C dX8_reckons_10 rfl (j := 0) rfl rfl ?_
    refine g_getr 14 (j := 22) C rfl rfl wu_X8 (by decide) wf_X8_57 rfl dX8_reckons_11 rfl ?_
    refine g_iload_n 15 C dX8_reckons_14 rfl (j := 2) rfl rfl ?_
    refine g_aload_n 16 C dX8_reckons_15 rfl (j := 0) rfl rfl ?_
    refine g_getr 19 (j := 21) C rfl rfl wu_X8 (by decide) wf_X8_54 rfl dX8_reckons_16 rfl ?_
    refine g_iload_n 20 C dX8_reckons_19 rfl (j := 2) rfl rfl ?_
    refine g_iald 21 C rfl dX8_reckons_20 rfl h (fun h => ?_)
    refine g_iast 22 C rfl dX8_reckons_21 rfl h (fun h => ?_)
    refine g_iinc 25 [(2, .int (l2 + 1)), (0, .ref (ad 0)), (1, .int l1)] C dX8_reckons_22 (j := 2) rfl (by rfl) (by decide) rfl rfl ?_
    refine g_goto 2 C dX8_reckons_25 (by decide) ?_
    have hh := end_inl h K
    exact g_sub [1, 2, 0] (hh) rfl
noncomputable def fX8_reckons_L158 (l1 : Int32) (l2 : Int32) (σ : Mem) : Option ((Int32 × Mem) ⊕ (Mem)) :=
  some (.inl (l2 + 1, σ))
set_option maxHeartbeats 4000000 in
set_option maxRecDepth 100000 in
theorem tX8_reckons_L158 {E : Gx} {cI : ClassId} {ad : Nat → Nat} (C : Cx E rmX8_reckons cI layM ad 3 RX8 cX8_reckons) {out : Mem} (K0 : KV E rmX8_reckons cI layM ad 3 cX8_reckons out) {l1 : Int32} {l2 : Int32} {σ : Mem} {res : (Int32 × Mem) ⊕ (Mem)} (h : fX8_reckons_L158 l1 l2 σ = some res) (K : Sum.elim (fun a => G E rmX8_reckons cI layM ad 3 30 [(0, .ref (ad 0)), (1, .int l1), (2, .int a.1)] [] a.2) (fun b => G E rmX8_reckons cI layM ad 3 164 [] [] b) res) : G E rmX8_reckons cI layM ad 3 158 [(0, .ref (ad 0)), (1, .int l1), (2, .int l2)] [] σ := by
  unfold fX8_reckons_L158 at h
  refine g_iinc 161 [(2, .int (l2 + 1)), (0, .ref (ad 0)), (1, .int l1)] C dX8_reckons_158 (j := 2) rfl (by rfl) (by decide) rfl rfl ?_
  refine g_goto 30 C dX8_reckons_161 (by decide) ?_
  have hh := end_inl h K
  exact g_sub [1, 2, 0] (hh) rfl
noncomputable def fX8_reckons_L143 (l1 : Int32) (l2 : Int32) (s1 : Int32) (s2 : Int32) (σ : Mem) : Option ((Int32 × Mem) ⊕ (Mem)) :=
  chk (inb s1 30) <|
  fX8_reckons_L158 l1 l2 (up2 σ 12 s1.toNatClampNeg s2)
set_option maxHeartbeats 4000000 in
set_option maxRecDepth 100000 in
theorem tX8_reckons_L143 {E : Gx} {cI : ClassId} {ad : Nat → Nat} (C : Cx E rmX8_reckons cI layM ad 3 RX8 cX8_reckons) {out : Mem} (K0 : KV E rmX8_reckons cI layM ad 3 cX8_reckons out) {l1 : Int32} {l2 : Int32} {s1 : Int32} {s2 : Int32} {σ : Mem} {res : (Int32 × Mem) ⊕ (Mem)} (h : fX8_reckons_L143 l1 l2 s1 s2 σ = some res) (K : Sum.elim (fun a => G E rmX8_reckons cI layM ad 3 30 [(0, .ref (ad 0)), (1, .int l1), (2, .int a.1)] [] a.2) (fun b => G E rmX8_reckons cI layM ad 3 164 [] [] b) res) : G E rmX8_reckons cI layM ad 3 143 [(0, .ref (ad 0)), (1, .int l1), (2, .int l2)] [.int s2, .int s1, .ref (ad 12)] σ := by
  unfold fX8_reckons_L143 at h
  refine g_iast 144 C rfl dX8_reckons_143 rfl h (fun h => ?_)
  refine g_goto 158 C dX8_reckons_144 (by decide) ?_
  exact tX8_reckons_L158 (l1 := l1) (l2 := l2) (σ := up2 σ 12 s1.toNatClampNeg s2) C K0 h K
noncomputable def fX8_reckons_B30 (l1 : Int32) (l2 : Int32) (σ : Mem) : Option ((Int32 × Mem) ⊕ (Mem)) :=
  if (σ 0 6) ≤ l2 then
    some (.inr σ)
  else
    chk (inb l2 30) <|
    if (σ 2 l2.toNatClampNeg) = 0 then
      chk (inb l2 30) <|
      chk (inb l2 30) <|
      fX8_reckons_L158 l1 l2 (up2 σ 12 l2.toNatClampNeg (σ 3 l2.toNatClampNeg))
    else if (σ 2 l2.toNatClampNeg) = 1 then
      chk (inb l2 30) <|
      chk (inb (σ 3 l2.toNatClampNeg) 3) <|
      chk (inb l2 30) <|
      fX8_reckons_L158 l1 l2 (up2 σ 12 l2.toNatClampNeg (σ 9 (σ 3 l2.toNatClampNeg).toNatClampNeg))
    else if (σ 2 l2.toNatClampNeg) = 5 then
      if l1 = 0 then
        chk (inb l2 30) <|
        chk (inb (σ 4 l2.toNatClampNeg) 30) <|
        fX8_reckons_L143 l1 l2 l2 (σ 13 (σ 4 l2.toNatClampNeg).toNatClampNeg) σ
      else
        (fX8_startOf l2 σ).bind fun o2 =>
        fX8_reckons_L143 l1 l2 l2 o2.1 o2.2
    else (fX8_worked l2 σ).bind fun o3 =>
    chk (inb l2 30) <|
    fX8_reckons_L158 l1 l2 (up2 o3.2 12 l2.toNatClampNeg o3.1)
set_option maxHeartbeats 4000000 in
set_option maxRecDepth 100000 in
theorem tX8_reckons_B30 {E : Gx} {cI : ClassId} {ad : Nat → Nat} (C : Cx E rmX8_reckons cI layM ad 3 RX8 cX8_reckons) {out : Mem} (K0 : KV E rmX8_reckons cI layM ad 3 cX8_reckons out) {l1 : Int32} {l2 : Int32} {σ : Mem} {res : (Int32 × Mem) ⊕ (Mem)} (h : fX8_reckons_B30 l1 l2 σ = some res) (K : Sum.elim (fun a => G E rmX8_reckons cI layM ad 3 30 [(0, .ref (ad 0)), (1, .int l1), (2, .int a.1)] [] a.2) (fun b => G E rmX8_reckons cI layM ad 3 164 [] [] b) res) : G E rmX8_reckons cI layM ad 3 30 [(0, .ref (ad 0)), (1, .int l1), (2, .int l2)] [] σ := by
  unfold fX8_reckons_B30 at h
  refine g_iload_n 31 C dX8_reckons_30 rfl (j := 2) rfl rfl ?_
  refine g_aload_n 32 C dX8_reckons_31 rfl (j := 0) rfl rfl ?_
  refine g_geti 35 (j := 6) C rfl rfl wu_X8 (by decide) wf_X8_72 rfl dX8_reckons_32 rfl ?_
  refine g_icmp_ge 164 38 C dX8_reckons_35 (by decide) rfl h (fun h => ?_) (fun h => ?_)
  · have hh := end_inr h K
    exact g_sub [] (hh) rfl
  · refine g_aload_n 39 C dX8_reckons_38 rfl (j := 0) rfl rfl ?_
    refine g_getr 42 (j := 3) C rfl rfl wu_X8 (by decide) wf_X8_14 rfl dX8_reckons_39 rfl ?_
    refine g_iload_n 43 C dX8_reckons_42 rfl (j := 2) rfl rfl ?_
    refine g_iald 44 C rfl dX8_reckons_43 rfl h (fun h => ?_)
    by_cases c0 : (σ 2 l2.toNatClampNeg) = 0
    · rw [if_pos c0] at h
      refine g_lswC 80 (off := 36) C dX8_reckons_44 c0 (by decide) (by decide) (by decide) ?_
      refine g_aload_n 81 C dX8_reckons_80 rfl (j := 0) rfl rfl ?_
      refine g_getr 84 (j := 21) C rfl rfl wu_X8 (by decide) wf_X8_54 rfl dX8_reckons_81 rfl ?_
      refine g_iload_n 85 C dX8_reckons_84 rfl (j := 2) rfl rfl ?_
      refine g_aload_n 86 C dX8_reckons_85 rfl (j := 0) rfl rfl ?_
      refine g_getr 89 (j := 4) C rfl rfl wu_X8 (by decide) wf_X8_17 rfl dX8_reckons_86 rfl ?_
      refine g_iload_n 90 C dX8_reckons_89 rfl (j := 2) rfl rfl ?_
      refine g_iald 91 C rfl dX8_reckons_90 rfl h (fun h => ?_)
      refine g_iast 92 C rfl dX8_reckons_91 rfl h (fun h => ?_)
      refine g_goto 158 C dX8_reckons_92 (by decide) ?_
      exact tX8_reckons_L158 (l1 := l1) (l2 := l2) (σ := up2 σ 12 l2.toNatClampNeg (σ 3 l2.toNatClampNeg)) C K0 h K
    rw [if_neg c0] at h
    by_cases c1 : (σ 2 l2.toNatClampNeg) = 1
    · rw [if_pos c1] at h
      refine g_lswC 95 (off := 51) C dX8_reckons_44 c1 (by decide) (by decide) (by decide) ?_
      refine g_aload_n 96 C dX8_reckons_95 rfl (j := 0) rfl rfl ?_
      refine g_getr 99 (j := 21) C rfl rfl wu_X8 (by decide) wf_X8_54 rfl dX8_reckons_96 rfl ?_
      refine g_iload_n 100 C dX8_reckons_99 rfl (j := 2) rfl rfl ?_
      refine g_aload_n 101 C dX8_reckons_100 rfl (j := 0) rfl rfl ?_
      refine g_getr 104 (j := 16) C rfl rfl wu_X8 (by decide) wf_X8_45 rfl dX8_reckons_101 rfl ?_
      refine g_aload_n 105 C dX8_reckons_104 rfl (j := 0) rfl rfl ?_
      refine g_getr 108 (j := 4) C rfl rfl wu_X8 (by decide) wf_X8_17 rfl dX8_reckons_105 rfl ?_
      refine g_iload_n 109 C dX8_reckons_108 rfl (j := 2) rfl rfl ?_
      refine g_iald 110 C rfl dX8_reckons_109 rfl h (fun h => ?_)
      refine g_iald 111 C rfl dX8_reckons_110 rfl h (fun h => ?_)
      refine g_iast 112 C rfl dX8_reckons_111 rfl h (fun h => ?_)
      refine g_goto 158 C dX8_reckons_112 (by decide) ?_
      exact tX8_reckons_L158 (l1 := l1) (l2 := l2) (σ := up2 σ 12 l2.toNatClampNeg (σ 9 (σ 3 l2.toNatClampNeg).toNatClampNeg)) C K0 h K
    rw [if_neg c1] at h
    by_cases c5 : (σ 2 l2.toNatClampNeg) = 5
    · rw [if_pos c5] at h
      refine g_lswC 115 (off := 71) C dX8_reckons_44 c5 (by decide) (by decide) (by decide) ?_
      refine g_aload_n 116 C dX8_reckons_115 rfl (j := 0) rfl rfl ?_
      refine g_getr 119 (j := 21) C rfl rfl wu_X8 (by decide) wf_X8_54 rfl dX8_reckons_116 rfl ?_
      refine g_iload_n 120 C dX8_reckons_119 rfl (j := 2) rfl rfl ?_
      refine g_iload_n 121 C dX8_reckons_120 rfl (j := 1) rfl rfl ?_
      refine g_if_eq 132 124 C dX8_reckons_121 (by decide) rfl h (fun h => ?_) (fun h => ?_)
      · refine g_aload_n 133 C dX8_reckons_132 rfl (j := 0) rfl rfl ?_
        refine g_getr 136 (j := 22) C rfl rfl wu_X8 (by decide) wf_X8_57 rfl dX8_reckons_133 rfl ?_
        refine g_aload_n 137 C dX8_reckons_136 rfl (j := 0) rfl rfl ?_
        refine g_getr 140 (j := 5) C rfl rfl wu_X8 (by decide) wf_X8_20 rfl dX8_reckons_137 rfl ?_
        refine g_iload_n 141 C dX8_reckons_140 rfl (j := 2) rfl rfl ?_
        refine g_iald 142 C rfl dX8_reckons_141 rfl h (fun h => ?_)
        refine g_iald 143 C rfl dX8_reckons_142 rfl h (fun h => ?_)
        exact tX8_reckons_L143 (l1 := l1) (l2 := l2) (s1 := l2) (s2 := (σ 13 (σ 4 l2.toNatClampNeg).toNatClampNeg)) (σ := σ) C K0 h K
      · refine g_aload_n 125 C dX8_reckons_124 rfl (j := 0) rfl rfl ?_
        refine g_iload_n 126 C dX8_reckons_125 rfl (j := 2) rfl rfl ?_
        refine g_cvi 129 C (As := [.int l2]) (fun _ h => mX8_startOf (a1 := l2) (σ := σ) h) wl_X8_216 wi_X8_startOf wz_X8_startOf wc_X8_startOf wn_X8 qX8_startOf rfl rfl ⟨Nat.le_of_ble_eq_true rfl, Nat.le_of_ble_eq_true rfl⟩ rfl rfl rfl rfl (Nat.le_of_ble_eq_true rfl) dX8_reckons_126 rfl h (fun o2 h => ?_)
        refine g_goto 143 C dX8_reckons_129 (by decide) ?_
        exact tX8_reckons_L143 (l1 := l1) (l2 := l2) (s1 := l2) (s2 := o2.1) (σ := o2.2) C K0 h K
    rw [if_neg c5] at h
    have n0 : ¬ (0 : Int) = (σ 2 l2.toNatClampNeg).toInt := fun e => ne_toInt c0 (e.symm.trans (by decide))
    have n1 : ¬ (1 : Int) = (σ 2 l2.toNatClampNeg).toInt := fun e => ne_toInt c1 (e.symm.trans (by decide))
    have n5 : ¬ (5 : Int) = (σ 2 l2.toNatClampNeg).toInt := fun e => ne_toInt c5 (e.symm.trans (by decide))
    refine g_lswD 147 C dX8_reckons_44 (by decide) (by simp only [Op.lookupswitch.offset]; rw [if_neg n0, if_neg n1, if_neg n5]) (by decide) ?_
    refine g_aload_n 148 C dX8_reckons_147 rfl (j := 0) rfl rfl ?_
    refine g_getr 151 (j := 21) C rfl rfl wu_X8 (by decide) wf_X8_54 rfl dX8_reckons_148 rfl ?_
    refine g_iload_n 152 C dX8_reckons_151 rfl (j := 2) rfl rfl ?_
    refine g_aload_n 153 C dX8_reckons_152 rfl (j := 0) rfl rfl ?_
    refine g_iload_n 154 C dX8_reckons_153 rfl (j := 2) rfl rfl ?_
    refine g_cvi 157 C (As := [.int l2]) (fun _ h => mX8_worked (a1 := l2) (σ := σ) h) wl_X8_250 wi_X8_worked wz_X8_worked wc_X8_worked wn_X8 qX8_worked rfl rfl ⟨Nat.le_of_ble_eq_true rfl, Nat.le_of_ble_eq_true rfl⟩ rfl rfl rfl rfl (Nat.le_of_ble_eq_true rfl) dX8_reckons_154 rfl h (fun o3 h => ?_)
    refine g_iast 158 C rfl dX8_reckons_157 rfl h (fun h => ?_)
    exact tX8_reckons_L158 (l1 := l1) (l2 := l2) (σ := up2 o3.2 12 l2.toNatClampNeg o3.1) C K0 h K
noncomputable def fX8_reckons_L164 (σ : Mem) : Option (Mem) :=
  some σ
set_option maxHeartbeats 4000000 in
set_option maxRecDepth 100000 in
theorem tX8_reckons_L164 {E : Gx} {cI : ClassId} {ad : Nat → Nat} (C : Cx E rmX8_reckons cI layM ad 3 RX8 cX8_reckons) {out : Mem} (K0 : KV E rmX8_reckons cI layM ad 3 cX8_reckons out) {σ : Mem} (h : fX8_reckons_L164 σ = some out) : G E rmX8_reckons cI layM ad 3 164 [] [] σ := by
  unfold fX8_reckons_L164 at h
  cases h
  exact K0 _ _ dX8_reckons_164
noncomputable def fX8_reckons_L28 (l1 : Int32) (σ : Mem) : Option (Mem) :=
  (loop (fun a => fX8_reckons_B30 l1 a.1 a.2) (0, σ)).bind fun b4 =>
  fX8_reckons_L164 b4
set_option maxHeartbeats 4000000 in
set_option maxRecDepth 100000 in
theorem tX8_reckons_L28 {E : Gx} {cI : ClassId} {ad : Nat → Nat} (C : Cx E rmX8_reckons cI layM ad 3 RX8 cX8_reckons) {out : Mem} (K0 : KV E rmX8_reckons cI layM ad 3 cX8_reckons out) {l1 : Int32} {σ : Mem} (h : fX8_reckons_L28 l1 σ = some out) : G E rmX8_reckons cI layM ad 3 28 [(0, .ref (ad 0)), (1, .int l1)] [] σ := by
  unfold fX8_reckons_L28 at h
  refine g_iconst 29 (v := 0) C dX8_reckons_28 (by decide) rfl ?_
  refine g_istore_n 30 [(2, .int 0), (0, .ref (ad 0)), (1, .int l1)] C dX8_reckons_29 rfl (by decide) rfl rfl ?_
  obtain ⟨b4, hb, h⟩ := bind_some h
  refine g_sub [1, 2, 0] (g_loop (a := (0, σ)) (fun a => G E rmX8_reckons cI layM ad 3 30 [(0, .ref (ad 0)), (1, .int l1), (2, .int a.1)] [] a.2) (fun b => G E rmX8_reckons cI layM ad 3 164 [] [] b) hb (fun a res h K => tX8_reckons_B30 (l1 := l1) (l2 := a.1) (σ := a.2) (res := res) C K0 h K) ?_) rfl
  show G E rmX8_reckons cI layM ad 3 164 [] [] b4
  exact tX8_reckons_L164 (σ := b4) C K0 h
noncomputable def fX8_reckons (a1 : Int32) (σ : Mem) : Option (Mem) :=
  (loop (fun a => fX8_reckons_B2 a1 a.1 a.2) (0, σ)).bind fun b1 =>
  fX8_reckons_L28 a1 b1
set_option maxHeartbeats 4000000 in
set_option maxRecDepth 100000 in
theorem mX8_reckons {l : Launch} {D : va_G} {cI : ClassId} {ad : Nat → Nat} {a1 : Int32} {σ : Mem} {out : Mem} (h : fX8_reckons a1 σ = some out) : MV l D cI layM ad yX8_reckons cX8_reckons 3 rmX8_reckons [.ref (ad 0), .int a1] σ out := by
  refine met_v (by decide) (Nat.le_of_ble_eq_true rfl) (fun E C K0 => ?_)
  show G E rmX8_reckons cI layM ad 3 0 [(0, .ref (ad 0)), (1, .int a1)] [] σ
  unfold fX8_reckons at h
  refine g_iconst 1 (v := 0) C dX8_reckons_0 (by decide) rfl ?_
  refine g_istore_n 2 [(2, .int 0), (0, .ref (ad 0)), (1, .int a1)] C dX8_reckons_1 rfl (by decide) rfl rfl ?_
  obtain ⟨b1, hb, h⟩ := bind_some h
  refine g_sub [1, 2, 0] (g_loop (a := (0, σ)) (fun a => G E rmX8_reckons cI layM ad 3 2 [(0, .ref (ad 0)), (1, .int a1), (2, .int a.1)] [] a.2) (fun b => G E rmX8_reckons cI layM ad 3 28 [(0, .ref (ad 0)), (1, .int a1)] [] b) hb (fun a res h K => tX8_reckons_B2 (l1 := a1) (l2 := a.1) (σ := a.2) (res := res) C K0 h K) ?_) rfl
  show G E rmX8_reckons cI layM ad 3 28 [(0, .ref (ad 0)), (1, .int a1)] [] b1
  exact tX8_reckons_L28 (l1 := a1) (σ := b1) C K0 h

/-! LoopReducerModel.cellFor(I)I -/
abbrev rmX8_cellFor : Room := { frames := 1, cells := 0, slots := 0, locals := 23 }
theorem qX8_cellFor : yX8_cellFor.cls ≠ "java/lang/invoke/MethodHandle" ∧ yX8_cellFor.cls ≠ "java/lang/invoke/VarHandle" ∧ (parseMethodDescriptor yX8_cellFor.desc).map (fun d => d.parameters.length) = some 1 := by decide +kernel
theorem DX8_cellFor : ∀ q ∈ ([(0, .iconst 0, 1), (1, .istore_n 2, 1), (2, .aload_n 0, 1), (3, .bipush 34, 2), (5, .iload_n 2, 1), (6, .iadd, 1), (7, .iload_n 1, 1), (8, .invokevirtual 196, 3), (11, .ifCond .ne 9, 3), (14, .iinc 2 1, 3), (17, .goto (-15), 3), (20, .iload_n 2, 1), (21, .ireturn, 1)] : List (Nat × Instr × Nat)), decode cX8_cellFor q.1 = .ok q.2 := by decide +kernel
theorem dX8_cellFor_0 : decode cX8_cellFor 0 = .ok (.iconst 0, 1) := DX8_cellFor (0, .iconst 0, 1) (List.mem_of_getElem? (i := 0) rfl)
theorem dX8_cellFor_1 : decode cX8_cellFor 1 = .ok (.istore_n 2, 1) := DX8_cellFor (1, .istore_n 2, 1) (List.mem_of_getElem? (i := 1) rfl)
theorem dX8_cellFor_2 : decode cX8_cellFor 2 = .ok (.aload_n 0, 1) := DX8_cellFor (2, .aload_n 0, 1) (List.mem_of_getElem? (i := 2) rfl)
theorem dX8_cellFor_3 : decode cX8_cellFor 3 = .ok (.bipush 34, 2) := DX8_cellFor (3, .bipush 34, 2) (List.mem_of_getElem? (i := 3) rfl)
theorem dX8_cellFor_5 : decode cX8_cellFor 5 = .ok (.iload_n 2, 1) := DX8_cellFor (5, .iload_n 2, 1) (List.mem_of_getElem? (i := 4) rfl)
theorem dX8_cellFor_6 : decode cX8_cellFor 6 = .ok (.iadd, 1) := DX8_cellFor (6, .iadd, 1) (List.mem_of_getElem? (i := 5) rfl)
theorem dX8_cellFor_7 : decode cX8_cellFor 7 = .ok (.iload_n 1, 1) := DX8_cellFor (7, .iload_n 1, 1) (List.mem_of_getElem? (i := 6) rfl)
theorem dX8_cellFor_8 : decode cX8_cellFor 8 = .ok (.invokevirtual 196, 3) := DX8_cellFor (8, .invokevirtual 196, 3) (List.mem_of_getElem? (i := 7) rfl)
theorem dX8_cellFor_11 : decode cX8_cellFor 11 = .ok (.ifCond .ne 9, 3) := DX8_cellFor (11, .ifCond .ne 9, 3) (List.mem_of_getElem? (i := 8) rfl)
theorem dX8_cellFor_14 : decode cX8_cellFor 14 = .ok (.iinc 2 1, 3) := DX8_cellFor (14, .iinc 2 1, 3) (List.mem_of_getElem? (i := 9) rfl)
theorem dX8_cellFor_17 : decode cX8_cellFor 17 = .ok (.goto (-15), 3) := DX8_cellFor (17, .goto (-15), 3) (List.mem_of_getElem? (i := 10) rfl)
theorem dX8_cellFor_20 : decode cX8_cellFor 20 = .ok (.iload_n 2, 1) := DX8_cellFor (20, .iload_n 2, 1) (List.mem_of_getElem? (i := 11) rfl)
theorem dX8_cellFor_21 : decode cX8_cellFor 21 = .ok (.ireturn, 1) := DX8_cellFor (21, .ireturn, 1) (List.mem_of_getElem? (i := 12) rfl)
noncomputable def fX8_cellFor_B2 (l1 : Int32) (l2 : Int32) (σ : Mem) : Option ((Int32 × Mem) ⊕ (Int32 × Mem)) :=
  (fX8_areAlike (34 + l2) l1 σ).bind fun o1 =>
  if o1.1 = 0 then
    some (.inl (l2 + 1, o1.2))
  else
    some (.inr (l2, o1.2))
set_option maxHeartbeats 4000000 in
set_option maxRecDepth 100000 in
theorem tX8_cellFor_B2 {E : Gx} {cI : ClassId} {ad : Nat → Nat} (C : Cx E rmX8_cellFor cI layM ad 3 RX8 cX8_cellFor) {out : Int32 × Mem} (K0 : KI E rmX8_cellFor cI layM ad 3 cX8_cellFor .int out) {l1 : Int32} {l2 : Int32} {σ : Mem} {res : (Int32 × Mem) ⊕ (Int32 × Mem)} (h : fX8_cellFor_B2 l1 l2 σ = some res) (K : Sum.elim (fun a => G E rmX8_cellFor cI layM ad 3 2 [(0, .ref (ad 0)), (1, .int l1), (2, .int a.1)] [] a.2) (fun b => G E rmX8_cellFor cI layM ad 3 20 [(2, .int b.1)] [] b.2) res) : G E rmX8_cellFor cI layM ad 3 2 [(0, .ref (ad 0)), (1, .int l1), (2, .int l2)] [] σ := by
  unfold fX8_cellFor_B2 at h
  refine g_aload_n 3 C dX8_cellFor_2 rfl (j := 0) rfl rfl ?_
  refine g_bipush 5 (v := 34) C dX8_cellFor_3 (by decide) rfl ?_
  refine g_iload_n 6 C dX8_cellFor_5 rfl (j := 2) rfl rfl ?_
  refine g_iadd 7 C dX8_cellFor_6 rfl ?_
  refine g_iload_n 8 C dX8_cellFor_7 rfl (j := 1) rfl rfl ?_
  refine g_cvi 11 C (As := [.int (34 + l2), .int l1]) (fun _ h => mX8_areAlike (a1 := 34 + l2) (a2 := l1) (σ := σ) h) wl_X8_196 wi_X8_areAlike wz_X8_areAlike wc_X8_areAlike wn_X8 qX8_areAlike rfl rfl ⟨Nat.le_of_ble_eq_true rfl, Nat.le_of_ble_eq_true rfl⟩ rfl rfl rfl rfl (Nat.le_of_ble_eq_true rfl) dX8_cellFor_8 rfl h (fun o1 h => ?_)
  refine g_if_ne 20 14 C dX8_cellFor_11 (by decide) rfl h (fun h => ?_) (fun h => ?_)
  · refine g_iinc 17 [(2, .int (l2 + 1)), (0, .ref (ad 0)), (1, .int l1)] C dX8_cellFor_14 (j := 2) rfl (by rfl) (by decide) rfl rfl ?_
    refine g_goto 2 C dX8_cellFor_17 (by decide) ?_
    have hh := end_inl h K
    exact g_sub [1, 2, 0] (hh) rfl
  · have hh := end_inr h K
    exact g_sub [2] (hh) rfl
noncomputable def fX8_cellFor_L20 (l2 : Int32) (σ : Mem) : Option (Int32 × Mem) :=
  some (l2, σ)
set_option maxHeartbeats 4000000 in
set_option maxRecDepth 100000 in
theorem tX8_cellFor_L20 {E : Gx} {cI : ClassId} {ad : Nat → Nat} (C : Cx E rmX8_cellFor cI layM ad 3 RX8 cX8_cellFor) {out : Int32 × Mem} (K0 : KI E rmX8_cellFor cI layM ad 3 cX8_cellFor .int out) {l2 : Int32} {σ : Mem} (h : fX8_cellFor_L20 l2 σ = some out) : G E rmX8_cellFor cI layM ad 3 20 [(2, .int l2)] [] σ := by
  unfold fX8_cellFor_L20 at h
  refine g_iload_n 21 C dX8_cellFor_20 rfl (j := 0) rfl rfl ?_
  cases h
  exact K0 _ _ dX8_cellFor_21 rfl
noncomputable def fX8_cellFor (a1 : Int32) (σ : Mem) : Option (Int32 × Mem) :=
  (loop (fun a => fX8_cellFor_B2 a1 a.1 a.2) (0, σ)).bind fun b2 =>
  fX8_cellFor_L20 b2.1 b2.2
set_option maxHeartbeats 4000000 in
set_option maxRecDepth 100000 in
theorem mX8_cellFor {l : Launch} {D : va_G} {cI : ClassId} {ad : Nat → Nat} {a1 : Int32} {σ : Mem} {out : Int32 × Mem} (h : fX8_cellFor a1 σ = some out) : MI l D cI layM ad yX8_cellFor cX8_cellFor 3 .int rmX8_cellFor [.ref (ad 0), .int a1] σ out := by
  refine met_i (by decide) (Nat.le_of_ble_eq_true rfl) (fun E C K0 => ?_)
  show G E rmX8_cellFor cI layM ad 3 0 [(0, .ref (ad 0)), (1, .int a1)] [] σ
  unfold fX8_cellFor at h
  refine g_iconst 1 (v := 0) C dX8_cellFor_0 (by decide) rfl ?_
  refine g_istore_n 2 [(2, .int 0), (0, .ref (ad 0)), (1, .int a1)] C dX8_cellFor_1 rfl (by decide) rfl rfl ?_
  obtain ⟨b2, hb, h⟩ := bind_some h
  refine g_sub [1, 2, 0] (g_loop (a := (0, σ)) (fun a => G E rmX8_cellFor cI layM ad 3 2 [(0, .ref (ad 0)), (1, .int a1), (2, .int a.1)] [] a.2) (fun b => G E rmX8_cellFor cI layM ad 3 20 [(2, .int b.1)] [] b.2) hb (fun a res h K => tX8_cellFor_B2 (l1 := a1) (l2 := a.1) (σ := a.2) (res := res) C K0 h K) ?_) rfl
  show G E rmX8_cellFor cI layM ad 3 20 [(2, .int b2.1)] [] b2.2
  exact tX8_cellFor_L20 (l2 := b2.1) (σ := b2.2) C K0 h

/-! LoopReducerModel.addsCells()V -/
abbrev rmX8_addsCells : Room := { frames := 3, cells := 0, slots := 0, locals := 80 }
theorem qX8_addsCells : yX8_addsCells.cls ≠ "java/lang/invoke/MethodHandle" ∧ yX8_addsCells.cls ≠ "java/lang/invoke/VarHandle" ∧ (parseMethodDescriptor yX8_addsCells.desc).map (fun d => d.parameters.length) = some 0 := by decide +kernel
theorem DX8_addsCells : ∀ q ∈ ([(0, .iconst 3, 1), (1, .istore_n 1, 1), (2, .iload_n 1, 1), (3, .ifCond .le 89, 3), (6, .iconst 0, 1), (7, .istore_n 2, 1), (8, .iload_n 2, 1), (9, .aload_n 0, 1), (10, .getfield 223, 3), (13, .if_icmp .ge 73, 3), (16, .aload_n 0, 1), (17, .bipush 34, 2), (19, .iload_n 2, 1), (20, .iadd, 1), (21, .invokevirtual 124, 3), (24, .iload_n 1, 1), (25, .if_icmp .ne 55, 3), (28, .aload_n 0, 1), (29, .getfield 60, 3), (32, .iload_n 2, 1), (33, .aload_n 0, 1), (34, .aload_n 0, 1), (35, .getfield 60, 3), (38, .iload_n 2, 1), (39, .iaload, 1), (40, .aload_n 0, 1), (41, .getfield 51, 3), (44, .iload_n 2, 1), (45, .iaload, 1), (46, .bipush (-2), 2), (48, .if_icmp .ne 15, 3), (51, .aload_n 0, 1), (52, .bipush 34, 2), (54, .iload_n 2, 1), (55, .iadd, 1), (56, .iconst 1, 1), (57, .invokevirtual 208, 3), (60, .goto 14, 3), (63, .aload_n 0, 1), (64, .getfield 60, 3), (67, .aload_n 0, 1), (68, .getfield 51, 3), (71, .iload_n 2, 1), (72, .iaload, 1), (73, .iaload, 1), (74, .iadd, 1), (75, .i2l, 1), (76, .invokevirtual 83, 3), (79, .iastore, 1), (80, .iinc 2 1, 3), (83, .goto (-75), 3), (86, .iinc 1 (-1), 3), (89, .goto (-87), 3), (92, .return_, 1)] : List (Nat × Instr × Nat)), decode cX8_addsCells q.1 = .ok q.2 := by decide +kernel
theorem dX8_addsCells_0 : decode cX8_addsCells 0 = .ok (.iconst 3, 1) := DX8_addsCells (0, .iconst 3, 1) (List.mem_of_getElem? (i := 0) rfl)
theorem dX8_addsCells_1 : decode cX8_addsCells 1 = .ok (.istore_n 1, 1) := DX8_addsCells (1, .istore_n 1, 1) (List.mem_of_getElem? (i := 1) rfl)
theorem dX8_addsCells_2 : decode cX8_addsCells 2 = .ok (.iload_n 1, 1) := DX8_addsCells (2, .iload_n 1, 1) (List.mem_of_getElem? (i := 2) rfl)
theorem dX8_addsCells_3 : decode cX8_addsCells 3 = .ok (.ifCond .le 89, 3) := DX8_addsCells (3, .ifCond .le 89, 3) (List.mem_of_getElem? (i := 3) rfl)
theorem dX8_addsCells_6 : decode cX8_addsCells 6 = .ok (.iconst 0, 1) := DX8_addsCells (6, .iconst 0, 1) (List.mem_of_getElem? (i := 4) rfl)
theorem dX8_addsCells_7 : decode cX8_addsCells 7 = .ok (.istore_n 2, 1) := DX8_addsCells (7, .istore_n 2, 1) (List.mem_of_getElem? (i := 5) rfl)
theorem dX8_addsCells_8 : decode cX8_addsCells 8 = .ok (.iload_n 2, 1) := DX8_addsCells (8, .iload_n 2, 1) (List.mem_of_getElem? (i := 6) rfl)
theorem dX8_addsCells_9 : decode cX8_addsCells 9 = .ok (.aload_n 0, 1) := DX8_addsCells (9, .aload_n 0, 1) (List.mem_of_getElem? (i := 7) rfl)
theorem dX8_addsCells_10 : decode cX8_addsCells 10 = .ok (.getfield 223, 3) := DX8_addsCells (10, .getfield 223, 3) (List.mem_of_getElem? (i := 8) rfl)
theorem dX8_addsCells_13 : decode cX8_addsCells 13 = .ok (.if_icmp .ge 73, 3) := DX8_addsCells (13, .if_icmp .ge 73, 3) (List.mem_of_getElem? (i := 9) rfl)
theorem dX8_addsCells_16 : decode cX8_addsCells 16 = .ok (.aload_n 0, 1) := DX8_addsCells (16, .aload_n 0, 1) (List.mem_of_getElem? (i := 10) rfl)
theorem dX8_addsCells_17 : decode cX8_addsCells 17 = .ok (.bipush 34, 2) := DX8_addsCells (17, .bipush 34, 2) (List.mem_of_getElem? (i := 11) rfl)
theorem dX8_addsCells_19 : decode cX8_addsCells 19 = .ok (.iload_n 2, 1) := DX8_addsCells (19, .iload_n 2, 1) (List.mem_of_getElem? (i := 12) rfl)
theorem dX8_addsCells_20 : decode cX8_addsCells 20 = .ok (.iadd, 1) := DX8_addsCells (20, .iadd, 1) (List.mem_of_getElem? (i := 13) rfl)
theorem dX8_addsCells_21 : decode cX8_addsCells 21 = .ok (.invokevirtual 124, 3) := DX8_addsCells (21, .invokevirtual 124, 3) (List.mem_of_getElem? (i := 14) rfl)
theorem dX8_addsCells_24 : decode cX8_addsCells 24 = .ok (.iload_n 1, 1) := DX8_addsCells (24, .iload_n 1, 1) (List.mem_of_getElem? (i := 15) rfl)
theorem dX8_addsCells_25 : decode cX8_addsCells 25 = .ok (.if_icmp .ne 55, 3) := DX8_addsCells (25, .if_icmp .ne 55, 3) (List.mem_of_getElem? (i := 16) rfl)
theorem dX8_addsCells_28 : decode cX8_addsCells 28 = .ok (.aload_n 0, 1) := DX8_addsCells (28, .aload_n 0, 1) (List.mem_of_getElem? (i := 17) rfl)
theorem dX8_addsCells_29 : decode cX8_addsCells 29 = .ok (.getfield 60, 3) := DX8_addsCells (29, .getfield 60, 3) (List.mem_of_getElem? (i := 18) rfl)
theorem dX8_addsCells_32 : decode cX8_addsCells 32 = .ok (.iload_n 2, 1) := DX8_addsCells (32, .iload_n 2, 1) (List.mem_of_getElem? (i := 19) rfl)
theorem dX8_addsCells_33 : decode cX8_addsCells 33 = .ok (.aload_n 0, 1) := DX8_addsCells (33, .aload_n 0, 1) (List.mem_of_getElem? (i := 20) rfl)
theorem dX8_addsCells_34 : decode cX8_addsCells 34 = .ok (.aload_n 0, 1) := DX8_addsCells (34, .aload_n 0, 1) (List.mem_of_getElem? (i := 21) rfl)
theorem dX8_addsCells_35 : decode cX8_addsCells 35 = .ok (.getfield 60, 3) := DX8_addsCells (35, .getfield 60, 3) (List.mem_of_getElem? (i := 22) rfl)
theorem dX8_addsCells_38 : decode cX8_addsCells 38 = .ok (.iload_n 2, 1) := DX8_addsCells (38, .iload_n 2, 1) (List.mem_of_getElem? (i := 23) rfl)
theorem dX8_addsCells_39 : decode cX8_addsCells 39 = .ok (.iaload, 1) := DX8_addsCells (39, .iaload, 1) (List.mem_of_getElem? (i := 24) rfl)
theorem dX8_addsCells_40 : decode cX8_addsCells 40 = .ok (.aload_n 0, 1) := DX8_addsCells (40, .aload_n 0, 1) (List.mem_of_getElem? (i := 25) rfl)
theorem dX8_addsCells_41 : decode cX8_addsCells 41 = .ok (.getfield 51, 3) := DX8_addsCells (41, .getfield 51, 3) (List.mem_of_getElem? (i := 26) rfl)
theorem dX8_addsCells_44 : decode cX8_addsCells 44 = .ok (.iload_n 2, 1) := DX8_addsCells (44, .iload_n 2, 1) (List.mem_of_getElem? (i := 27) rfl)
theorem dX8_addsCells_45 : decode cX8_addsCells 45 = .ok (.iaload, 1) := DX8_addsCells (45, .iaload, 1) (List.mem_of_getElem? (i := 28) rfl)
theorem dX8_addsCells_46 : decode cX8_addsCells 46 = .ok (.bipush (-2), 2) := DX8_addsCells (46, .bipush (-2), 2) (List.mem_of_getElem? (i := 29) rfl)
theorem dX8_addsCells_48 : decode cX8_addsCells 48 = .ok (.if_icmp .ne 15, 3) := DX8_addsCells (48, .if_icmp .ne 15, 3) (List.mem_of_getElem? (i := 30) rfl)
theorem dX8_addsCells_51 : decode cX8_addsCells 51 = .ok (.aload_n 0, 1) := DX8_addsCells (51, .aload_n 0, 1) (List.mem_of_getElem? (i := 31) rfl)
theorem dX8_addsCells_52 : decode cX8_addsCells 52 = .ok (.bipush 34, 2) := DX8_addsCells (52, .bipush 34, 2) (List.mem_of_getElem? (i := 32) rfl)
theorem dX8_addsCells_54 : decode cX8_addsCells 54 = .ok (.iload_n 2, 1) := DX8_addsCells (54, .iload_n 2, 1) (List.mem_of_getElem? (i := 33) rfl)
theorem dX8_addsCells_55 : decode cX8_addsCells 55 = .ok (.iadd, 1) := DX8_addsCells (55, .iadd, 1) (List.mem_of_getElem? (i := 34) rfl)
theorem dX8_addsCells_56 : decode cX8_addsCells 56 = .ok (.iconst 1, 1) := DX8_addsCells (56, .iconst 1, 1) (List.mem_of_getElem? (i := 35) rfl)
theorem dX8_addsCells_57 : decode cX8_addsCells 57 = .ok (.invokevirtual 208, 3) := DX8_addsCells (57, .invokevirtual 208, 3) (List.mem_of_getElem? (i := 36) rfl)
theorem dX8_addsCells_60 : decode cX8_addsCells 60 = .ok (.goto 14, 3) := DX8_addsCells (60, .goto 14, 3) (List.mem_of_getElem? (i := 37) rfl)
theorem dX8_addsCells_63 : decode cX8_addsCells 63 = .ok (.aload_n 0, 1) := DX8_addsCells (63, .aload_n 0, 1) (List.mem_of_getElem? (i := 38) rfl)
theorem dX8_addsCells_64 : decode cX8_addsCells 64 = .ok (.getfield 60, 3) := DX8_addsCells (64, .getfield 60, 3) (List.mem_of_getElem? (i := 39) rfl)
theorem dX8_addsCells_67 : decode cX8_addsCells 67 = .ok (.aload_n 0, 1) := DX8_addsCells (67, .aload_n 0, 1) (List.mem_of_getElem? (i := 40) rfl)
theorem dX8_addsCells_68 : decode cX8_addsCells 68 = .ok (.getfield 51, 3) := DX8_addsCells (68, .getfield 51, 3) (List.mem_of_getElem? (i := 41) rfl)
theorem dX8_addsCells_71 : decode cX8_addsCells 71 = .ok (.iload_n 2, 1) := DX8_addsCells (71, .iload_n 2, 1) (List.mem_of_getElem? (i := 42) rfl)
theorem dX8_addsCells_72 : decode cX8_addsCells 72 = .ok (.iaload, 1) := DX8_addsCells (72, .iaload, 1) (List.mem_of_getElem? (i := 43) rfl)
theorem dX8_addsCells_73 : decode cX8_addsCells 73 = .ok (.iaload, 1) := DX8_addsCells (73, .iaload, 1) (List.mem_of_getElem? (i := 44) rfl)
theorem dX8_addsCells_74 : decode cX8_addsCells 74 = .ok (.iadd, 1) := DX8_addsCells (74, .iadd, 1) (List.mem_of_getElem? (i := 45) rfl)
theorem dX8_addsCells_75 : decode cX8_addsCells 75 = .ok (.i2l, 1) := DX8_addsCells (75, .i2l, 1) (List.mem_of_getElem? (i := 46) rfl)
theorem dX8_addsCells_76 : decode cX8_addsCells 76 = .ok (.invokevirtual 83, 3) := DX8_addsCells (76, .invokevirtual 83, 3) (List.mem_of_getElem? (i := 47) rfl)
theorem dX8_addsCells_79 : decode cX8_addsCells 79 = .ok (.iastore, 1) := DX8_addsCells (79, .iastore, 1) (List.mem_of_getElem? (i := 48) rfl)
theorem dX8_addsCells_80 : decode cX8_addsCells 80 = .ok (.iinc 2 1, 3) := DX8_addsCells (80, .iinc 2 1, 3) (List.mem_of_getElem? (i := 49) rfl)
theorem dX8_addsCells_83 : decode cX8_addsCells 83 = .ok (.goto (-75), 3) := DX8_addsCells (83, .goto (-75), 3) (List.mem_of_getElem? (i := 50) rfl)
theorem dX8_addsCells_86 : decode cX8_addsCells 86 = .ok (.iinc 1 (-1), 3) := DX8_addsCells (86, .iinc 1 (-1), 3) (List.mem_of_getElem? (i := 51) rfl)
theorem dX8_addsCells_89 : decode cX8_addsCells 89 = .ok (.goto (-87), 3) := DX8_addsCells (89, .goto (-87), 3) (List.mem_of_getElem? (i := 52) rfl)
theorem dX8_addsCells_92 : decode cX8_addsCells 92 = .ok (.return_, 1) := DX8_addsCells (92, .return_, 1) (List.mem_of_getElem? (i := 53) rfl)
noncomputable def fX8_addsCells_L80 (l1 : Int32) (l2 : Int32) (σ : Mem) : Option ((Int32 × Mem) ⊕ (Mem)) :=
  some (.inl (l2 + 1, σ))
set_option maxHeartbeats 4000000 in
set_option maxRecDepth 100000 in
theorem tX8_addsCells_L80 {E : Gx} {cI : ClassId} {ad : Nat → Nat} (C : Cx E rmX8_addsCells cI layM ad 3 RX8 cX8_addsCells) {out : Mem} (K0 : KV E rmX8_addsCells cI layM ad 3 cX8_addsCells out) {l1 : Int32} {l2 : Int32} {σ : Mem} {res : (Int32 × Mem) ⊕ (Mem)} (h : fX8_addsCells_L80 l1 l2 σ = some res) (K : Sum.elim (fun a => G E rmX8_addsCells cI layM ad 3 8 [(0, .ref (ad 0)), (1, .int l1), (2, .int a.1)] [] a.2) (fun b => G E rmX8_addsCells cI layM ad 3 86 [(0, .ref (ad 0)), (1, .int l1)] [] b) res) : G E rmX8_addsCells cI layM ad 3 80 [(0, .ref (ad 0)), (1, .int l1), (2, .int l2)] [] σ := by
  unfold fX8_addsCells_L80 at h
  refine g_iinc 83 [(2, .int (l2 + 1)), (0, .ref (ad 0)), (1, .int l1)] C dX8_addsCells_80 (j := 2) rfl (by rfl) (by decide) rfl rfl ?_
  refine g_goto 8 C dX8_addsCells_83 (by decide) ?_
  have hh := end_inl h K
  exact g_sub [1, 2, 0] (hh) rfl
noncomputable def fX8_addsCells_L74 (l1 : Int32) (l2 : Int32) (s1 : Int32) (s3 : Int32) (s4 : Int32) (σ : Mem) : Option ((Int32 × Mem) ⊕ (Mem)) :=
  (fX8_cut ((s3 + s4).toInt64) σ).bind fun o2 =>
  chk (inb s1 90) <|
  fX8_addsCells_L80 l1 l2 (up2 o2.2 14 s1.toNatClampNeg o2.1)
set_option maxHeartbeats 4000000 in
set_option maxRecDepth 100000 in
theorem tX8_addsCells_L74 {E : Gx} {cI : ClassId} {ad : Nat → Nat} (C : Cx E rmX8_addsCells cI layM ad 3 RX8 cX8_addsCells) {out : Mem} (K0 : KV E rmX8_addsCells cI layM ad 3 cX8_addsCells out) {l1 : Int32} {l2 : Int32} {s1 : Int32} {s3 : Int32} {s4 : Int32} {σ : Mem} {res : (Int32 × Mem) ⊕ (Mem)} (h : fX8_addsCells_L74 l1 l2 s1 s3 s4 σ = some res) (K : Sum.elim (fun a => G E rmX8_addsCells cI layM ad 3 8 [(0, .ref (ad 0)), (1, .int l1), (2, .int a.1)] [] a.2) (fun b => G E rmX8_addsCells cI layM ad 3 86 [(0, .ref (ad 0)), (1, .int l1)] [] b) res) : G E rmX8_addsCells cI layM ad 3 74 [(0, .ref (ad 0)), (1, .int l1), (2, .int l2)] [.int s4, .int s3, .ref (ad 0), .int s1, .ref (ad 14)] σ := by
  unfold fX8_addsCells_L74 at h
  refine g_iadd 75 C dX8_addsCells_74 rfl ?_
  refine g_i2l 76 C dX8_addsCells_75 rfl ?_
  refine g_cvi 79 C (As := [.long ((s3 + s4).toInt64)]) (fun _ h => mX8_cut (a1 := (s3 + s4).toInt64) (σ := σ) h) wl_X8_83 wi_X8_cut wz_X8_cut wc_X8_cut wn_X8 qX8_cut rfl rfl ⟨Nat.le_of_ble_eq_true rfl, Nat.le_of_ble_eq_true rfl⟩ rfl rfl rfl rfl (Nat.le_of_ble_eq_true rfl) dX8_addsCells_76 rfl h (fun o2 h => ?_)
  refine g_iast 80 C rfl dX8_addsCells_79 rfl h (fun h => ?_)
  exact tX8_addsCells_L80 (l1 := l1) (l2 := l2) (σ := up2 o2.2 14 s1.toNatClampNeg o2.1) C K0 h K
noncomputable def fX8_addsCells_B8 (l1 : Int32) (l2 : Int32) (σ : Mem) : Option ((Int32 × Mem) ⊕ (Mem)) :=
  if (σ 0 17) ≤ l2 then
    some (.inr σ)
  else
    (fX8_degreeOf (34 + l2) σ).bind fun o1 =>
    if o1.1 = l1 then
      chk (inb l2 90) <|
      chk (inb l2 90) <|
      if (o1.2 11 l2.toNatClampNeg) = (-2) then
        (fX8_valueOf (34 + l2) 1 o1.2).bind fun o3 =>
        fX8_addsCells_L74 l1 l2 l2 (o1.2 14 l2.toNatClampNeg) o3.1 o3.2
      else
        chk (inb l2 90) <|
        chk (inb (o1.2 11 l2.toNatClampNeg) 90) <|
        fX8_addsCells_L74 l1 l2 l2 (o1.2 14 l2.toNatClampNeg) (o1.2 14 (o1.2 11 l2.toNatClampNeg).toNatClampNeg) o1.2
    else
      fX8_addsCells_L80 l1 l2 o1.2
set_option maxHeartbeats 4000000 in
set_option maxRecDepth 100000 in
theorem tX8_addsCells_B8 {E : Gx} {cI : ClassId} {ad : Nat → Nat} (C : Cx E rmX8_addsCells cI layM ad 3 RX8 cX8_addsCells) {out : Mem} (K0 : KV E rmX8_addsCells cI layM ad 3 cX8_addsCells out) {l1 : Int32} {l2 : Int32} {σ : Mem} {res : (Int32 × Mem) ⊕ (Mem)} (h : fX8_addsCells_B8 l1 l2 σ = some res) (K : Sum.elim (fun a => G E rmX8_addsCells cI layM ad 3 8 [(0, .ref (ad 0)), (1, .int l1), (2, .int a.1)] [] a.2) (fun b => G E rmX8_addsCells cI layM ad 3 86 [(0, .ref (ad 0)), (1, .int l1)] [] b) res) : G E rmX8_addsCells cI layM ad 3 8 [(0, .ref (ad 0)), (1, .int l1), (2, .int l2)] [] σ := by
  unfold fX8_addsCells_B8 at h
  refine g_iload_n 9 C dX8_addsCells_8 rfl (j := 2) rfl rfl ?_
  refine g_aload_n 10 C dX8_addsCells_9 rfl (j := 0) rfl rfl ?_
  refine g_geti 13 (j := 17) C rfl rfl wu_X8 (by decide) wf_X8_223 rfl dX8_addsCells_10 rfl ?_
  refine g_icmp_ge 86 16 C dX8_addsCells_13 (by decide) rfl h (fun h => ?_) (fun h => ?_)
  · have hh := end_inr h K
    exact g_sub [0, 1] (hh) rfl
  · refine g_aload_n 17 C dX8_addsCells_16 rfl (j := 0) rfl rfl ?_
    refine g_bipush 19 (v := 34) C dX8_addsCells_17 (by decide) rfl ?_
    refine g_iload_n 20 C dX8_addsCells_19 rfl (j := 2) rfl rfl ?_
    refine g_iadd 21 C dX8_addsCells_20 rfl ?_
    refine g_cvi 24 C (As := [.int (34 + l2)]) (fun _ h => mX8_degreeOf (a1 := 34 + l2) (σ := σ) h) wl_X8_124 wi_X8_degreeOf wz_X8_degreeOf wc_X8_degreeOf wn_X8 qX8_degreeOf rfl rfl ⟨Nat.le_of_ble_eq_true rfl, Nat.le_of_ble_eq_true rfl⟩ rfl rfl rfl rfl (Nat.le_of_ble_eq_true rfl) dX8_addsCells_21 rfl h (fun o1 h => ?_)
    refine g_iload_n 25 C dX8_addsCells_24 rfl (j := 1) rfl rfl ?_
    refine g_icmp_ne 80 28 C dX8_addsCells_25 (by decide) rfl h (fun h => ?_) (fun h => ?_)
    · refine g_aload_n 29 C dX8_addsCells_28 rfl (j := 0) rfl rfl ?_
      refine g_getr 32 (j := 23) C rfl rfl wu_X8 (by decide) wf_X8_60 rfl dX8_addsCells_29 rfl ?_
      refine g_iload_n 33 C dX8_addsCells_32 rfl (j := 2) rfl rfl ?_
      refine g_aload_n 34 C dX8_addsCells_33 rfl (j := 0) rfl rfl ?_
      refine g_aload_n 35 C dX8_addsCells_34 rfl (j := 0) rfl rfl ?_
      refine g_getr 38 (j := 23) C rfl rfl wu_X8 (by decide) wf_X8_60 rfl dX8_addsCells_35 rfl ?_
      refine g_iload_n 39 C dX8_addsCells_38 rfl (j := 2) rfl rfl ?_
      refine g_iald 40 C rfl dX8_addsCells_39 rfl h (fun h => ?_)
      refine g_aload_n 41 C dX8_addsCells_40 rfl (j := 0) rfl rfl ?_
      refine g_getr 44 (j := 19) C rfl rfl wu_X8 (by decide) wf_X8_51 rfl dX8_addsCells_41 rfl ?_
      refine g_iload_n 45 C dX8_addsCells_44 rfl (j := 2) rfl rfl ?_
      refine g_iald 46 C rfl dX8_addsCells_45 rfl h (fun h => ?_)
      refine g_bipush 48 (v := (-2)) C dX8_addsCells_46 (by decide) rfl ?_
      refine g_icmp_ne 63 51 C dX8_addsCells_48 (by decide) rfl h (fun h => ?_) (fun h => ?_)
      · refine g_aload_n 52 C dX8_addsCells_51 rfl (j := 0) rfl rfl ?_
        refine g_bipush 54 (v := 34) C dX8_addsCells_52 (by decide) rfl ?_
        refine g_iload_n 55 C dX8_addsCells_54 rfl (j := 2) rfl rfl ?_
        refine g_iadd 56 C dX8_addsCells_55 rfl ?_
        refine g_iconst 57 (v := 1) C dX8_addsCells_56 (by decide) rfl ?_
        refine g_cvi 60 C (As := [.int (34 + l2), .int 1]) (fun _ h => mX8_valueOf (a1 := 34 + l2) (a2 := 1) (σ := o1.2) h) wl_X8_208 wi_X8_valueOf wz_X8_valueOf wc_X8_valueOf wn_X8 qX8_valueOf rfl rfl ⟨Nat.le_of_ble_eq_true rfl, Nat.le_of_ble_eq_true rfl⟩ rfl rfl rfl rfl (Nat.le_of_ble_eq_true rfl) dX8_addsCells_57 rfl h (fun o3 h => ?_)
        refine g_goto 74 C dX8_addsCells_60 (by decide) ?_
        exact tX8_addsCells_L74 (l1 := l1) (l2 := l2) (s1 := l2) (s3 := (o1.2 14 l2.toNatClampNeg)) (s4 := o3.1) (σ := o3.2) C K0 h K
      · refine g_aload_n 64 C dX8_addsCells_63 rfl (j := 0) rfl rfl ?_
        refine g_getr 67 (j := 23) C rfl rfl wu_X8 (by decide) wf_X8_60 rfl dX8_addsCells_64 rfl ?_
        refine g_aload_n 68 C dX8_addsCells_67 rfl (j := 0) rfl rfl ?_
        refine g_getr 71 (j := 19) C rfl rfl wu_X8 (by decide) wf_X8_51 rfl dX8_addsCells_68 rfl ?_
        refine g_iload_n 72 C dX8_addsCells_71 rfl (j := 2) rfl rfl ?_
        refine g_iald 73 C rfl dX8_addsCells_72 rfl h (fun h => ?_)
        refine g_iald 74 C rfl dX8_addsCells_73 rfl h (fun h => ?_)
        exact tX8_addsCells_L74 (l1 := l1) (l2 := l2) (s1 := l2) (s3 := (o1.2 14 l2.toNatClampNeg)) (s4 := (o1.2 14 (o1.2 11 l2.toNatClampNeg).toNatClampNeg)) (σ := o1.2) C K0 h K
    · exact tX8_addsCells_L80 (l1 := l1) (l2 := l2) (σ := o1.2) C K0 h K
noncomputable def fX8_addsCells_L86 (l1 : Int32) (σ : Mem) : Option ((Int32 × Mem) ⊕ (Mem)) :=
  some (.inl (l1 + (-1), σ))
set_option maxHeartbeats 4000000 in
set_option maxRecDepth 100000 in
theorem tX8_addsCells_L86 {E : Gx} {cI : ClassId} {ad : Nat → Nat} (C : Cx E rmX8_addsCells cI layM ad 3 RX8 cX8_addsCells) {out : Mem} (K0 : KV E rmX8_addsCells cI layM ad 3 cX8_addsCells out) {l1 : Int32} {σ : Mem} {res : (Int32 × Mem) ⊕ (Mem)} (h : fX8_addsCells_L86 l1 σ = some res) (K : Sum.elim (fun a => G E rmX8_addsCells cI layM ad 3 2 [(0, .ref (ad 0)), (1, .int a.1)] [] a.2) (fun b => G E rmX8_addsCells cI layM ad 3 92 [] [] b) res) : G E rmX8_addsCells cI layM ad 3 86 [(0, .ref (ad 0)), (1, .int l1)] [] σ := by
  unfold fX8_addsCells_L86 at h
  refine g_iinc 89 [(1, .int (l1 + (-1))), (0, .ref (ad 0))] C dX8_addsCells_86 (j := 1) rfl (by rfl) (by decide) rfl rfl ?_
  refine g_goto 2 C dX8_addsCells_89 (by decide) ?_
  have hh := end_inl h K
  exact g_sub [1, 0] (hh) rfl
noncomputable def fX8_addsCells_B2 (l1 : Int32) (σ : Mem) : Option ((Int32 × Mem) ⊕ (Mem)) :=
  if l1 ≤ 0 then
    some (.inr σ)
  else
    (loop (fun a => fX8_addsCells_B8 l1 a.1 a.2) (0, σ)).bind fun b4 =>
    fX8_addsCells_L86 l1 b4
set_option maxHeartbeats 4000000 in
set_option maxRecDepth 100000 in
theorem tX8_addsCells_B2 {E : Gx} {cI : ClassId} {ad : Nat → Nat} (C : Cx E rmX8_addsCells cI layM ad 3 RX8 cX8_addsCells) {out : Mem} (K0 : KV E rmX8_addsCells cI layM ad 3 cX8_addsCells out) {l1 : Int32} {σ : Mem} {res : (Int32 × Mem) ⊕ (Mem)} (h : fX8_addsCells_B2 l1 σ = some res) (K : Sum.elim (fun a => G E rmX8_addsCells cI layM ad 3 2 [(0, .ref (ad 0)), (1, .int a.1)] [] a.2) (fun b => G E rmX8_addsCells cI layM ad 3 92 [] [] b) res) : G E rmX8_addsCells cI layM ad 3 2 [(0, .ref (ad 0)), (1, .int l1)] [] σ := by
  unfold fX8_addsCells_B2 at h
  refine g_iload_n 3 C dX8_addsCells_2 rfl (j := 1) rfl rfl ?_
  refine g_if_le 92 6 C dX8_addsCells_3 (by decide) rfl h (fun h => ?_) (fun h => ?_)
  · have hh := end_inr h K
    exact g_sub [] (hh) rfl
  · refine g_iconst 7 (v := 0) C dX8_addsCells_6 (by decide) rfl ?_
    refine g_istore_n 8 [(2, .int 0), (0, .ref (ad 0)), (1, .int l1)] C dX8_addsCells_7 rfl (by decide) rfl rfl ?_
    obtain ⟨b4, hb, h⟩ := bind_some h
    refine g_sub [1, 2, 0] (g_loop (a := (0, σ)) (fun a => G E rmX8_addsCells cI layM ad 3 8 [(0, .ref (ad 0)), (1, .int l1), (2, .int a.1)] [] a.2) (fun b => G E rmX8_addsCells cI layM ad 3 86 [(0, .ref (ad 0)), (1, .int l1)] [] b) hb (fun a res h K => tX8_addsCells_B8 (l1 := l1) (l2 := a.1) (σ := a.2) (res := res) C K0 h K) ?_) rfl
    show G E rmX8_addsCells cI layM ad 3 86 [(0, .ref (ad 0)), (1, .int l1)] [] b4
    exact tX8_addsCells_L86 (l1 := l1) (σ := b4) C K0 h K
noncomputable def fX8_addsCells_L92 (σ : Mem) : Option (Mem) :=
  some σ
set_option maxHeartbeats 4000000 in
set_option maxRecDepth 100000 in
theorem tX8_addsCells_L92 {E : Gx} {cI : ClassId} {ad : Nat → Nat} (C : Cx E rmX8_addsCells cI layM ad 3 RX8 cX8_addsCells) {out : Mem} (K0 : KV E rmX8_addsCells cI layM ad 3 cX8_addsCells out) {σ : Mem} (h : fX8_addsCells_L92 σ = some out) : G E rmX8_addsCells cI layM ad 3 92 [] [] σ := by
  unfold fX8_addsCells_L92 at h
  cases h
  exact K0 _ _ dX8_addsCells_92
noncomputable def fX8_addsCells (σ : Mem) : Option (Mem) :=
  (loop (fun a => fX8_addsCells_B2 a.1 a.2) (3, σ)).bind fun b5 =>
  fX8_addsCells_L92 b5
set_option maxHeartbeats 4000000 in
set_option maxRecDepth 100000 in
theorem mX8_addsCells {l : Launch} {D : va_G} {cI : ClassId} {ad : Nat → Nat} {σ : Mem} {out : Mem} (h : fX8_addsCells σ = some out) : MV l D cI layM ad yX8_addsCells cX8_addsCells 3 rmX8_addsCells [.ref (ad 0)] σ out := by
  refine met_v (by decide) (Nat.le_of_ble_eq_true rfl) (fun E C K0 => ?_)
  show G E rmX8_addsCells cI layM ad 3 0 [(0, .ref (ad 0))] [] σ
  unfold fX8_addsCells at h
  refine g_iconst 1 (v := 3) C dX8_addsCells_0 (by decide) rfl ?_
  refine g_istore_n 2 [(1, .int 3), (0, .ref (ad 0))] C dX8_addsCells_1 rfl (by decide) rfl rfl ?_
  obtain ⟨b5, hb, h⟩ := bind_some h
  refine g_sub [1, 0] (g_loop (a := (3, σ)) (fun a => G E rmX8_addsCells cI layM ad 3 2 [(0, .ref (ad 0)), (1, .int a.1)] [] a.2) (fun b => G E rmX8_addsCells cI layM ad 3 92 [] [] b) hb (fun a res h K => tX8_addsCells_B2 (l1 := a.1) (σ := a.2) (res := res) C K0 h K) ?_) rfl
  show G E rmX8_addsCells cI layM ad 3 92 [] [] b5
  exact tX8_addsCells_L92 (σ := b5) C K0 h

/-! LoopReducerModel.holds()Z -/
abbrev rmX8_holds : Room := { frames := 0, cells := 0, slots := 0, locals := 0 }
theorem qX8_holds : yX8_holds.cls ≠ "java/lang/invoke/MethodHandle" ∧ yX8_holds.cls ≠ "java/lang/invoke/VarHandle" ∧ (parseMethodDescriptor yX8_holds.desc).map (fun d => d.parameters.length) = some 0 := by decide +kernel
theorem DX8_holds : ∀ q ∈ ([(0, .aload_n 0, 1), (1, .getfield 23, 3), (4, .ifCond .ne 32, 3), (7, .aload_n 0, 1), (8, .getfield 54, 3), (11, .aload_n 0, 1), (12, .getfield 27, 3), (15, .iaload, 1), (16, .aload_n 0, 1), (17, .getfield 54, 3), (20, .aload_n 0, 1), (21, .getfield 30, 3), (24, .iaload, 1), (25, .if_icmp .eq 7, 3), (28, .iconst 1, 1), (29, .goto 33, 3), (32, .iconst 0, 1), (33, .goto 29, 3), (36, .aload_n 0, 1), (37, .getfield 54, 3), (40, .aload_n 0, 1), (41, .getfield 27, 3), (44, .iaload, 1), (45, .aload_n 0, 1), (46, .getfield 54, 3), (49, .aload_n 0, 1), (50, .getfield 30, 3), (53, .iaload, 1), (54, .if_icmp .ge 7, 3), (57, .iconst 1, 1), (58, .goto 4, 3), (61, .iconst 0, 1), (62, .ireturn, 1)] : List (Nat × Instr × Nat)), decode cX8_holds q.1 = .ok q.2 := by decide +kernel
theorem dX8_holds_0 : decode cX8_holds 0 = .ok (.aload_n 0, 1) := DX8_holds (0, .aload_n 0, 1) (List.mem_of_getElem? (i := 0) rfl)
theorem dX8_holds_1 : decode cX8_holds 1 = .ok (.getfield 23, 3) := DX8_holds (1, .getfield 23, 3) (List.mem_of_getElem? (i := 1) rfl)
theorem dX8_holds_4 : decode cX8_holds 4 = .ok (.ifCond .ne 32, 3) := DX8_holds (4, .ifCond .ne 32, 3) (List.mem_of_getElem? (i := 2) rfl)
theorem dX8_holds_7 : decode cX8_holds 7 = .ok (.aload_n 0, 1) := DX8_holds (7, .aload_n 0, 1) (List.mem_of_getElem? (i := 3) rfl)
theorem dX8_holds_8 : decode cX8_holds 8 = .ok (.getfield 54, 3) := DX8_holds (8, .getfield 54, 3) (List.mem_of_getElem? (i := 4) rfl)
theorem dX8_holds_11 : decode cX8_holds 11 = .ok (.aload_n 0, 1) := DX8_holds (11, .aload_n 0, 1) (List.mem_of_getElem? (i := 5) rfl)
theorem dX8_holds_12 : decode cX8_holds 12 = .ok (.getfield 27, 3) := DX8_holds (12, .getfield 27, 3) (List.mem_of_getElem? (i := 6) rfl)
theorem dX8_holds_15 : decode cX8_holds 15 = .ok (.iaload, 1) := DX8_holds (15, .iaload, 1) (List.mem_of_getElem? (i := 7) rfl)
theorem dX8_holds_16 : decode cX8_holds 16 = .ok (.aload_n 0, 1) := DX8_holds (16, .aload_n 0, 1) (List.mem_of_getElem? (i := 8) rfl)
theorem dX8_holds_17 : decode cX8_holds 17 = .ok (.getfield 54, 3) := DX8_holds (17, .getfield 54, 3) (List.mem_of_getElem? (i := 9) rfl)
theorem dX8_holds_20 : decode cX8_holds 20 = .ok (.aload_n 0, 1) := DX8_holds (20, .aload_n 0, 1) (List.mem_of_getElem? (i := 10) rfl)
theorem dX8_holds_21 : decode cX8_holds 21 = .ok (.getfield 30, 3) := DX8_holds (21, .getfield 30, 3) (List.mem_of_getElem? (i := 11) rfl)
theorem dX8_holds_24 : decode cX8_holds 24 = .ok (.iaload, 1) := DX8_holds (24, .iaload, 1) (List.mem_of_getElem? (i := 12) rfl)
theorem dX8_holds_25 : decode cX8_holds 25 = .ok (.if_icmp .eq 7, 3) := DX8_holds (25, .if_icmp .eq 7, 3) (List.mem_of_getElem? (i := 13) rfl)
theorem dX8_holds_28 : decode cX8_holds 28 = .ok (.iconst 1, 1) := DX8_holds (28, .iconst 1, 1) (List.mem_of_getElem? (i := 14) rfl)
theorem dX8_holds_29 : decode cX8_holds 29 = .ok (.goto 33, 3) := DX8_holds (29, .goto 33, 3) (List.mem_of_getElem? (i := 15) rfl)
theorem dX8_holds_32 : decode cX8_holds 32 = .ok (.iconst 0, 1) := DX8_holds (32, .iconst 0, 1) (List.mem_of_getElem? (i := 16) rfl)
theorem dX8_holds_33 : decode cX8_holds 33 = .ok (.goto 29, 3) := DX8_holds (33, .goto 29, 3) (List.mem_of_getElem? (i := 17) rfl)
theorem dX8_holds_36 : decode cX8_holds 36 = .ok (.aload_n 0, 1) := DX8_holds (36, .aload_n 0, 1) (List.mem_of_getElem? (i := 18) rfl)
theorem dX8_holds_37 : decode cX8_holds 37 = .ok (.getfield 54, 3) := DX8_holds (37, .getfield 54, 3) (List.mem_of_getElem? (i := 19) rfl)
theorem dX8_holds_40 : decode cX8_holds 40 = .ok (.aload_n 0, 1) := DX8_holds (40, .aload_n 0, 1) (List.mem_of_getElem? (i := 20) rfl)
theorem dX8_holds_41 : decode cX8_holds 41 = .ok (.getfield 27, 3) := DX8_holds (41, .getfield 27, 3) (List.mem_of_getElem? (i := 21) rfl)
theorem dX8_holds_44 : decode cX8_holds 44 = .ok (.iaload, 1) := DX8_holds (44, .iaload, 1) (List.mem_of_getElem? (i := 22) rfl)
theorem dX8_holds_45 : decode cX8_holds 45 = .ok (.aload_n 0, 1) := DX8_holds (45, .aload_n 0, 1) (List.mem_of_getElem? (i := 23) rfl)
theorem dX8_holds_46 : decode cX8_holds 46 = .ok (.getfield 54, 3) := DX8_holds (46, .getfield 54, 3) (List.mem_of_getElem? (i := 24) rfl)
theorem dX8_holds_49 : decode cX8_holds 49 = .ok (.aload_n 0, 1) := DX8_holds (49, .aload_n 0, 1) (List.mem_of_getElem? (i := 25) rfl)
theorem dX8_holds_50 : decode cX8_holds 50 = .ok (.getfield 30, 3) := DX8_holds (50, .getfield 30, 3) (List.mem_of_getElem? (i := 26) rfl)
theorem dX8_holds_53 : decode cX8_holds 53 = .ok (.iaload, 1) := DX8_holds (53, .iaload, 1) (List.mem_of_getElem? (i := 27) rfl)
theorem dX8_holds_54 : decode cX8_holds 54 = .ok (.if_icmp .ge 7, 3) := DX8_holds (54, .if_icmp .ge 7, 3) (List.mem_of_getElem? (i := 28) rfl)
theorem dX8_holds_57 : decode cX8_holds 57 = .ok (.iconst 1, 1) := DX8_holds (57, .iconst 1, 1) (List.mem_of_getElem? (i := 29) rfl)
theorem dX8_holds_58 : decode cX8_holds 58 = .ok (.goto 4, 3) := DX8_holds (58, .goto 4, 3) (List.mem_of_getElem? (i := 30) rfl)
theorem dX8_holds_61 : decode cX8_holds 61 = .ok (.iconst 0, 1) := DX8_holds (61, .iconst 0, 1) (List.mem_of_getElem? (i := 31) rfl)
theorem dX8_holds_62 : decode cX8_holds 62 = .ok (.ireturn, 1) := DX8_holds (62, .ireturn, 1) (List.mem_of_getElem? (i := 32) rfl)
noncomputable def fX8_holds_L62 (s0 : Int32) (σ : Mem) : Option (Int32 × Mem) :=
  chk (s0 == 0 || s0 == 1) <|
  some (s0, σ)
set_option maxHeartbeats 4000000 in
set_option maxRecDepth 100000 in
theorem tX8_holds_L62 {E : Gx} {cI : ClassId} {ad : Nat → Nat} (C : Cx E rmX8_holds cI layM ad 1 RX8 cX8_holds) {out : Int32 × Mem} (K0 : KI E rmX8_holds cI layM ad 1 cX8_holds .boolean out) {s0 : Int32} {σ : Mem} (h : fX8_holds_L62 s0 σ = some out) : G E rmX8_holds cI layM ad 1 62 [] [.int s0] σ := by
  unfold fX8_holds_L62 at h
  obtain ⟨hz, h⟩ := chk_some h
  cases h
  exact K0 _ _ dX8_holds_62 (zb_nar hz)
noncomputable def fX8_holds (σ : Mem) : Option (Int32 × Mem) :=
  if (σ 0 8) = 0 then
    chk (inb (σ 0 9) 30) <|
    chk (inb (σ 0 10) 30) <|
    if (σ 12 (σ 0 9).toNatClampNeg) = (σ 12 (σ 0 10).toNatClampNeg) then
      fX8_holds_L62 0 σ
    else
      fX8_holds_L62 1 σ
  else
    chk (inb (σ 0 9) 30) <|
    chk (inb (σ 0 10) 30) <|
    if (σ 12 (σ 0 10).toNatClampNeg) ≤ (σ 12 (σ 0 9).toNatClampNeg) then
      fX8_holds_L62 0 σ
    else
      fX8_holds_L62 1 σ
set_option maxHeartbeats 4000000 in
set_option maxRecDepth 100000 in
theorem mX8_holds {l : Launch} {D : va_G} {cI : ClassId} {ad : Nat → Nat} {σ : Mem} {out : Int32 × Mem} (h : fX8_holds σ = some out) : MI l D cI layM ad yX8_holds cX8_holds 1 .boolean rmX8_holds [.ref (ad 0)] σ out := by
  refine met_i (by decide) (Nat.le_of_ble_eq_true rfl) (fun E C K0 => ?_)
  show G E rmX8_holds cI layM ad 1 0 [(0, .ref (ad 0))] [] σ
  unfold fX8_holds at h
  refine g_aload_n 1 C dX8_holds_0 rfl (j := 0) rfl rfl ?_
  refine g_geti 4 (j := 8) C rfl rfl wu_X8 (by decide) wf_X8_23 rfl dX8_holds_1 rfl ?_
  refine g_if_ne 36 7 C dX8_holds_4 (by decide) rfl h (fun h => ?_) (fun h => ?_)
  · refine g_aload_n 8 C dX8_holds_7 rfl (j := 0) rfl rfl ?_
    refine g_getr 11 (j := 21) C rfl rfl wu_X8 (by decide) wf_X8_54 rfl dX8_holds_8 rfl ?_
    refine g_aload_n 12 C dX8_holds_11 rfl (j := 0) rfl rfl ?_
    refine g_geti 15 (j := 9) C rfl rfl wu_X8 (by decide) wf_X8_27 rfl dX8_holds_12 rfl ?_
    refine g_iald 16 C rfl dX8_holds_15 rfl h (fun h => ?_)
    refine g_aload_n 17 C dX8_holds_16 rfl (j := 0) rfl rfl ?_
    refine g_getr 20 (j := 21) C rfl rfl wu_X8 (by decide) wf_X8_54 rfl dX8_holds_17 rfl ?_
    refine g_aload_n 21 C dX8_holds_20 rfl (j := 0) rfl rfl ?_
    refine g_geti 24 (j := 10) C rfl rfl wu_X8 (by decide) wf_X8_30 rfl dX8_holds_21 rfl ?_
    refine g_iald 25 C rfl dX8_holds_24 rfl h (fun h => ?_)
    refine g_icmp_eq 32 28 C dX8_holds_25 (by decide) rfl h (fun h => ?_) (fun h => ?_)
    · refine g_iconst 33 (v := 0) C dX8_holds_32 (by decide) rfl ?_
      refine g_goto 62 C dX8_holds_33 (by decide) ?_
      exact g_sub [] (tX8_holds_L62 (s0 := 0) (σ := σ) C K0 h) rfl
    · refine g_iconst 29 (v := 1) C dX8_holds_28 (by decide) rfl ?_
      refine g_goto 62 C dX8_holds_29 (by decide) ?_
      exact g_sub [] (tX8_holds_L62 (s0 := 1) (σ := σ) C K0 h) rfl
  · refine g_aload_n 37 C dX8_holds_36 rfl (j := 0) rfl rfl ?_
    refine g_getr 40 (j := 21) C rfl rfl wu_X8 (by decide) wf_X8_54 rfl dX8_holds_37 rfl ?_
    refine g_aload_n 41 C dX8_holds_40 rfl (j := 0) rfl rfl ?_
    refine g_geti 44 (j := 9) C rfl rfl wu_X8 (by decide) wf_X8_27 rfl dX8_holds_41 rfl ?_
    refine g_iald 45 C rfl dX8_holds_44 rfl h (fun h => ?_)
    refine g_aload_n 46 C dX8_holds_45 rfl (j := 0) rfl rfl ?_
    refine g_getr 49 (j := 21) C rfl rfl wu_X8 (by decide) wf_X8_54 rfl dX8_holds_46 rfl ?_
    refine g_aload_n 50 C dX8_holds_49 rfl (j := 0) rfl rfl ?_
    refine g_geti 53 (j := 10) C rfl rfl wu_X8 (by decide) wf_X8_30 rfl dX8_holds_50 rfl ?_
    refine g_iald 54 C rfl dX8_holds_53 rfl h (fun h => ?_)
    refine g_icmp_ge 61 57 C dX8_holds_54 (by decide) rfl h (fun h => ?_) (fun h => ?_)
    · refine g_iconst 62 (v := 0) C dX8_holds_61 (by decide) rfl ?_
      exact g_sub [] (tX8_holds_L62 (s0 := 0) (σ := σ) C K0 h) rfl
    · refine g_iconst 58 (v := 1) C dX8_holds_57 (by decide) rfl ?_
      refine g_goto 62 C dX8_holds_58 (by decide) ?_
      exact g_sub [] (tX8_holds_L62 (s0 := 1) (σ := σ) C K0 h) rfl

/-! LoopReducerModel.seen(I)I -/
abbrev rmX8_seen : Room := { frames := 1, cells := 0, slots := 0, locals := 22 }
theorem qX8_seen : yX8_seen.cls ≠ "java/lang/invoke/MethodHandle" ∧ yX8_seen.cls ≠ "java/lang/invoke/VarHandle" ∧ (parseMethodDescriptor yX8_seen.desc).map (fun d => d.parameters.length) = some 1 := by decide +kernel
theorem DX8_seen : ∀ q ∈ ([(0, .aload_n 0, 1), (1, .iconst 0, 1), (2, .putfield 69, 3), (5, .iload_n 1, 1), (6, .iconst (-1), 1), (7, .if_icmp .ne 10, 3), (10, .aload_n 0, 1), (11, .getfield 256, 3), (14, .goto 27, 3), (17, .iload_n 1, 1), (18, .iconst 0, 1), (19, .aload_n 0, 1), (20, .getfield 256, 3), (23, .iconst 1, 1), (24, .isub, 1), (25, .invokestatic 75, 3), (28, .ifCond .eq 12, 3), (31, .aload_n 0, 1), (32, .getfield 63, 3), (35, .iload_n 1, 1), (36, .iaload, 1), (37, .goto 4, 3), (40, .iconst (-1), 1), (41, .ireturn, 1)] : List (Nat × Instr × Nat)), decode cX8_seen q.1 = .ok q.2 := by decide +kernel
theorem dX8_seen_0 : decode cX8_seen 0 = .ok (.aload_n 0, 1) := DX8_seen (0, .aload_n 0, 1) (List.mem_of_getElem? (i := 0) rfl)
theorem dX8_seen_1 : decode cX8_seen 1 = .ok (.iconst 0, 1) := DX8_seen (1, .iconst 0, 1) (List.mem_of_getElem? (i := 1) rfl)
theorem dX8_seen_2 : decode cX8_seen 2 = .ok (.putfield 69, 3) := DX8_seen (2, .putfield 69, 3) (List.mem_of_getElem? (i := 2) rfl)
theorem dX8_seen_5 : decode cX8_seen 5 = .ok (.iload_n 1, 1) := DX8_seen (5, .iload_n 1, 1) (List.mem_of_getElem? (i := 3) rfl)
theorem dX8_seen_6 : decode cX8_seen 6 = .ok (.iconst (-1), 1) := DX8_seen (6, .iconst (-1), 1) (List.mem_of_getElem? (i := 4) rfl)
theorem dX8_seen_7 : decode cX8_seen 7 = .ok (.if_icmp .ne 10, 3) := DX8_seen (7, .if_icmp .ne 10, 3) (List.mem_of_getElem? (i := 5) rfl)
theorem dX8_seen_10 : decode cX8_seen 10 = .ok (.aload_n 0, 1) := DX8_seen (10, .aload_n 0, 1) (List.mem_of_getElem? (i := 6) rfl)
theorem dX8_seen_11 : decode cX8_seen 11 = .ok (.getfield 256, 3) := DX8_seen (11, .getfield 256, 3) (List.mem_of_getElem? (i := 7) rfl)
theorem dX8_seen_14 : decode cX8_seen 14 = .ok (.goto 27, 3) := DX8_seen (14, .goto 27, 3) (List.mem_of_getElem? (i := 8) rfl)
theorem dX8_seen_17 : decode cX8_seen 17 = .ok (.iload_n 1, 1) := DX8_seen (17, .iload_n 1, 1) (List.mem_of_getElem? (i := 9) rfl)
theorem dX8_seen_18 : decode cX8_seen 18 = .ok (.iconst 0, 1) := DX8_seen (18, .iconst 0, 1) (List.mem_of_getElem? (i := 10) rfl)
theorem dX8_seen_19 : decode cX8_seen 19 = .ok (.aload_n 0, 1) := DX8_seen (19, .aload_n 0, 1) (List.mem_of_getElem? (i := 11) rfl)
theorem dX8_seen_20 : decode cX8_seen 20 = .ok (.getfield 256, 3) := DX8_seen (20, .getfield 256, 3) (List.mem_of_getElem? (i := 12) rfl)
theorem dX8_seen_23 : decode cX8_seen 23 = .ok (.iconst 1, 1) := DX8_seen (23, .iconst 1, 1) (List.mem_of_getElem? (i := 13) rfl)
theorem dX8_seen_24 : decode cX8_seen 24 = .ok (.isub, 1) := DX8_seen (24, .isub, 1) (List.mem_of_getElem? (i := 14) rfl)
theorem dX8_seen_25 : decode cX8_seen 25 = .ok (.invokestatic 75, 3) := DX8_seen (25, .invokestatic 75, 3) (List.mem_of_getElem? (i := 15) rfl)
theorem dX8_seen_28 : decode cX8_seen 28 = .ok (.ifCond .eq 12, 3) := DX8_seen (28, .ifCond .eq 12, 3) (List.mem_of_getElem? (i := 16) rfl)
theorem dX8_seen_31 : decode cX8_seen 31 = .ok (.aload_n 0, 1) := DX8_seen (31, .aload_n 0, 1) (List.mem_of_getElem? (i := 17) rfl)
theorem dX8_seen_32 : decode cX8_seen 32 = .ok (.getfield 63, 3) := DX8_seen (32, .getfield 63, 3) (List.mem_of_getElem? (i := 18) rfl)
theorem dX8_seen_35 : decode cX8_seen 35 = .ok (.iload_n 1, 1) := DX8_seen (35, .iload_n 1, 1) (List.mem_of_getElem? (i := 19) rfl)
theorem dX8_seen_36 : decode cX8_seen 36 = .ok (.iaload, 1) := DX8_seen (36, .iaload, 1) (List.mem_of_getElem? (i := 20) rfl)
theorem dX8_seen_37 : decode cX8_seen 37 = .ok (.goto 4, 3) := DX8_seen (37, .goto 4, 3) (List.mem_of_getElem? (i := 21) rfl)
theorem dX8_seen_40 : decode cX8_seen 40 = .ok (.iconst (-1), 1) := DX8_seen (40, .iconst (-1), 1) (List.mem_of_getElem? (i := 22) rfl)
theorem dX8_seen_41 : decode cX8_seen 41 = .ok (.ireturn, 1) := DX8_seen (41, .ireturn, 1) (List.mem_of_getElem? (i := 23) rfl)
noncomputable def fX8_seen_L41 (s0 : Int32) (σ : Mem) : Option (Int32 × Mem) :=
  some (s0, σ)
set_option maxHeartbeats 4000000 in
set_option maxRecDepth 100000 in
theorem tX8_seen_L41 {E : Gx} {cI : ClassId} {ad : Nat → Nat} (C : Cx E rmX8_seen cI layM ad 2 RX8 cX8_seen) {out : Int32 × Mem} (K0 : KI E rmX8_seen cI layM ad 2 cX8_seen .int out) {s0 : Int32} {σ : Mem} (h : fX8_seen_L41 s0 σ = some out) : G E rmX8_seen cI layM ad 2 41 [] [.int s0] σ := by
  unfold fX8_seen_L41 at h
  cases h
  exact K0 _ _ dX8_seen_41 rfl
noncomputable def fX8_seen (a1 : Int32) (σ : Mem) : Option (Int32 × Mem) :=
  if a1 = (-1) then
    fX8_seen_L41 ((up2 σ 0 2 0) 0 25) (up2 σ 0 2 0)
  else
    (fX8_isIn a1 0 (((up2 σ 0 2 0) 0 25) - 1) (up2 σ 0 2 0)).bind fun o1 =>
    if o1.1 = 0 then
      fX8_seen_L41 (-1) o1.2
    else
      chk (inb a1 400) <|
      fX8_seen_L41 (o1.2 15 a1.toNatClampNeg) o1.2
set_option maxHeartbeats 4000000 in
set_option maxRecDepth 100000 in
theorem mX8_seen {l : Launch} {D : va_G} {cI : ClassId} {ad : Nat → Nat} {a1 : Int32} {σ : Mem} {out : Int32 × Mem} (h : fX8_seen a1 σ = some out) : MI l D cI layM ad yX8_seen cX8_seen 2 .int rmX8_seen [.ref (ad 0), .int a1] σ out := by
  refine met_i (by decide) (Nat.le_of_ble_eq_true rfl) (fun E C K0 => ?_)
  show G E rmX8_seen cI layM ad 2 0 [(0, .ref (ad 0)), (1, .int a1)] [] σ
  unfold fX8_seen at h
  refine g_aload_n 1 C dX8_seen_0 rfl (j := 0) rfl rfl ?_
  refine g_iconst 2 (v := 0) C dX8_seen_1 (by decide) rfl ?_
  refine g_puti 5 (j := 2) C rfl rfl wu_X8 (by decide) wf_X8_69 tyX8 tyX8_ok nmX8 rfl rfl rfl rfl dX8_seen_2 rfl ?_
  refine g_iload_n 6 C dX8_seen_5 rfl (j := 1) rfl rfl ?_
  refine g_iconst 7 (v := (-1)) C dX8_seen_6 (by decide) rfl ?_
  refine g_icmp_ne 17 10 C dX8_seen_7 (by decide) rfl h (fun h => ?_) (fun h => ?_)
  · refine g_aload_n 11 C dX8_seen_10 rfl (j := 0) rfl rfl ?_
    refine g_geti 14 (j := 25) C rfl rfl wu_X8 (by decide) wf_X8_256 rfl dX8_seen_11 rfl ?_
    refine g_goto 41 C dX8_seen_14 (by decide) ?_
    exact g_sub [] (tX8_seen_L41 (s0 := ((up2 σ 0 2 0) 0 25)) (σ := up2 σ 0 2 0) C K0 h) rfl
  · refine g_iload_n 18 C dX8_seen_17 rfl (j := 1) rfl rfl ?_
    refine g_iconst 19 (v := 0) C dX8_seen_18 (by decide) rfl ?_
    refine g_aload_n 20 C dX8_seen_19 rfl (j := 0) rfl rfl ?_
    refine g_geti 23 (j := 25) C rfl rfl wu_X8 (by decide) wf_X8_256 rfl dX8_seen_20 rfl ?_
    refine g_iconst 24 (v := 1) C dX8_seen_23 (by decide) rfl ?_
    refine g_isub 25 C dX8_seen_24 rfl ?_
    refine g_csi 28 C (As := [.int a1, .int 0, .int (((up2 σ 0 2 0) 0 25) - 1)]) (fun _ h => mX8_isIn (a1 := a1) (a2 := 0) (a3 := ((up2 σ 0 2 0) 0 25) - 1) (σ := up2 σ 0 2 0) h) wl_X8_75 ws_X8_isIn wc_X8_isIn wn_X8 qX8_isIn rfl rfl ⟨Nat.le_of_ble_eq_true rfl, Nat.le_of_ble_eq_true rfl⟩ rfl rfl (Nat.le_of_ble_eq_true rfl) dX8_seen_25 rfl h (fun o1 h => ?_)
    refine g_if_eq 40 31 C dX8_seen_28 (by decide) rfl h (fun h => ?_) (fun h => ?_)
    · refine g_iconst 41 (v := (-1)) C dX8_seen_40 (by decide) rfl ?_
      exact g_sub [] (tX8_seen_L41 (s0 := (-1)) (σ := o1.2) C K0 h) rfl
    · refine g_aload_n 32 C dX8_seen_31 rfl (j := 0) rfl rfl ?_
      refine g_getr 35 (j := 24) C rfl rfl wu_X8 (by decide) wf_X8_63 rfl dX8_seen_32 rfl ?_
      refine g_iload_n 36 C dX8_seen_35 rfl (j := 1) rfl rfl ?_
      refine g_iald 37 C rfl dX8_seen_36 rfl h (fun h => ?_)
      refine g_goto 41 C dX8_seen_37 (by decide) ?_
      exact g_sub [] (tX8_seen_L41 (s0 := (o1.2 15 a1.toNatClampNeg)) (σ := o1.2) C K0 h) rfl

/-! LoopReducerModel.firstNought(II)I -/
abbrev rmX8_firstNought : Room := { frames := 1, cells := 0, slots := 0, locals := 22 }
theorem qX8_firstNought : yX8_firstNought.cls ≠ "java/lang/invoke/MethodHandle" ∧ yX8_firstNought.cls ≠ "java/lang/invoke/VarHandle" ∧ (parseMethodDescriptor yX8_firstNought.desc).map (fun d => d.parameters.length) = some 2 := by decide +kernel
theorem DX8_firstNought : ∀ q ∈ ([(0, .iconst 0, 1), (1, .istore_n 3, 1), (2, .iload_n 3, 1), (3, .aload_n 0, 1), (4, .getfield 66, 3), (7, .if_icmp .ge 26, 3), (10, .aload_n 0, 1), (11, .iload_n 1, 1), (12, .i2l, 1), (13, .iload_n 3, 1), (14, .i2l, 1), (15, .iload_n 2, 1), (16, .i2l, 1), (17, .lmul, 1), (18, .ladd, 1), (19, .invokevirtual 83, 3), (22, .ifCond .ne 5, 3), (25, .iload_n 3, 1), (26, .ireturn, 1), (27, .iinc 3 1, 3), (30, .goto (-28), 3), (33, .iconst (-1), 1), (34, .ireturn, 1)] : List (Nat × Instr × Nat)), decode cX8_firstNought q.1 = .ok q.2 := by decide +kernel
theorem dX8_firstNought_0 : decode cX8_firstNought 0 = .ok (.iconst 0, 1) := DX8_firstNought (0, .iconst 0, 1) (List.mem_of_getElem? (i := 0) rfl)
theorem dX8_firstNought_1 : decode cX8_firstNought 1 = .ok (.istore_n 3, 1) := DX8_firstNought (1, .istore_n 3, 1) (List.mem_of_getElem? (i := 1) rfl)
theorem dX8_firstNought_2 : decode cX8_firstNought 2 = .ok (.iload_n 3, 1) := DX8_firstNought (2, .iload_n 3, 1) (List.mem_of_getElem? (i := 2) rfl)
theorem dX8_firstNought_3 : decode cX8_firstNought 3 = .ok (.aload_n 0, 1) := DX8_firstNought (3, .aload_n 0, 1) (List.mem_of_getElem? (i := 3) rfl)
theorem dX8_firstNought_4 : decode cX8_firstNought 4 = .ok (.getfield 66, 3) := DX8_firstNought (4, .getfield 66, 3) (List.mem_of_getElem? (i := 4) rfl)
theorem dX8_firstNought_7 : decode cX8_firstNought 7 = .ok (.if_icmp .ge 26, 3) := DX8_firstNought (7, .if_icmp .ge 26, 3) (List.mem_of_getElem? (i := 5) rfl)
theorem dX8_firstNought_10 : decode cX8_firstNought 10 = .ok (.aload_n 0, 1) := DX8_firstNought (10, .aload_n 0, 1) (List.mem_of_getElem? (i := 6) rfl)
theorem dX8_firstNought_11 : decode cX8_firstNought 11 = .ok (.iload_n 1, 1) := DX8_firstNought (11, .iload_n 1, 1) (List.mem_of_getElem? (i := 7) rfl)
theorem dX8_firstNought_12 : decode cX8_firstNought 12 = .ok (.i2l, 1) := DX8_firstNought (12, .i2l, 1) (List.mem_of_getElem? (i := 8) rfl)
theorem dX8_firstNought_13 : decode cX8_firstNought 13 = .ok (.iload_n 3, 1) := DX8_firstNought (13, .iload_n 3, 1) (List.mem_of_getElem? (i := 9) rfl)
theorem dX8_firstNought_14 : decode cX8_firstNought 14 = .ok (.i2l, 1) := DX8_firstNought (14, .i2l, 1) (List.mem_of_getElem? (i := 10) rfl)
theorem dX8_firstNought_15 : decode cX8_firstNought 15 = .ok (.iload_n 2, 1) := DX8_firstNought (15, .iload_n 2, 1) (List.mem_of_getElem? (i := 11) rfl)
theorem dX8_firstNought_16 : decode cX8_firstNought 16 = .ok (.i2l, 1) := DX8_firstNought (16, .i2l, 1) (List.mem_of_getElem? (i := 12) rfl)
theorem dX8_firstNought_17 : decode cX8_firstNought 17 = .ok (.lmul, 1) := DX8_firstNought (17, .lmul, 1) (List.mem_of_getElem? (i := 13) rfl)
theorem dX8_firstNought_18 : decode cX8_firstNought 18 = .ok (.ladd, 1) := DX8_firstNought (18, .ladd, 1) (List.mem_of_getElem? (i := 14) rfl)
theorem dX8_firstNought_19 : decode cX8_firstNought 19 = .ok (.invokevirtual 83, 3) := DX8_firstNought (19, .invokevirtual 83, 3) (List.mem_of_getElem? (i := 15) rfl)
theorem dX8_firstNought_22 : decode cX8_firstNought 22 = .ok (.ifCond .ne 5, 3) := DX8_firstNought (22, .ifCond .ne 5, 3) (List.mem_of_getElem? (i := 16) rfl)
theorem dX8_firstNought_25 : decode cX8_firstNought 25 = .ok (.iload_n 3, 1) := DX8_firstNought (25, .iload_n 3, 1) (List.mem_of_getElem? (i := 17) rfl)
theorem dX8_firstNought_26 : decode cX8_firstNought 26 = .ok (.ireturn, 1) := DX8_firstNought (26, .ireturn, 1) (List.mem_of_getElem? (i := 18) rfl)
theorem dX8_firstNought_27 : decode cX8_firstNought 27 = .ok (.iinc 3 1, 3) := DX8_firstNought (27, .iinc 3 1, 3) (List.mem_of_getElem? (i := 19) rfl)
theorem dX8_firstNought_30 : decode cX8_firstNought 30 = .ok (.goto (-28), 3) := DX8_firstNought (30, .goto (-28), 3) (List.mem_of_getElem? (i := 20) rfl)
theorem dX8_firstNought_33 : decode cX8_firstNought 33 = .ok (.iconst (-1), 1) := DX8_firstNought (33, .iconst (-1), 1) (List.mem_of_getElem? (i := 21) rfl)
theorem dX8_firstNought_34 : decode cX8_firstNought 34 = .ok (.ireturn, 1) := DX8_firstNought (34, .ireturn, 1) (List.mem_of_getElem? (i := 22) rfl)
noncomputable def fX8_firstNought_B2 (l1 : Int32) (l2 : Int32) (l3 : Int32) (σ : Mem) : Option ((Int32 × Mem) ⊕ ((Mem) ⊕ (Int32 × Mem))) :=
  if (σ 0 1) ≤ l3 then
    some (.inr (.inl σ))
  else
    (fX8_cut (l1.toInt64 + (l3.toInt64 * l2.toInt64)) σ).bind fun o1 =>
    if o1.1 = 0 then
      some (.inr (.inr (l3, o1.2)))
    else
      some (.inl (l3 + 1, o1.2))
set_option maxHeartbeats 4000000 in
set_option maxRecDepth 100000 in
theorem tX8_firstNought_B2 {E : Gx} {cI : ClassId} {ad : Nat → Nat} (C : Cx E rmX8_firstNought cI layM ad 4 RX8 cX8_firstNought) {out : Int32 × Mem} (K0 : KI E rmX8_firstNought cI layM ad 4 cX8_firstNought .int out) {l1 : Int32} {l2 : Int32} {l3 : Int32} {σ : Mem} {res : (Int32 × Mem) ⊕ ((Mem) ⊕ (Int32 × Mem))} (h : fX8_firstNought_B2 l1 l2 l3 σ = some res) (K : Sum.elim (fun a => G E rmX8_firstNought cI layM ad 4 2 [(0, .ref (ad 0)), (1, .int l1), (2, .int l2), (3, .int a.1)] [] a.2) (Sum.elim (fun b => G E rmX8_firstNought cI layM ad 4 33 [] [] b) (fun b => b = out)) res) : G E rmX8_firstNought cI layM ad 4 2 [(0, .ref (ad 0)), (1, .int l1), (2, .int l2), (3, .int l3)] [] σ := by
  unfold fX8_firstNought_B2 at h
  refine g_iload_n 3 C dX8_firstNought_2 rfl (j := 3) rfl rfl ?_
  refine g_aload_n 4 C dX8_firstNought_3 rfl (j := 0) rfl rfl ?_
  refine g_geti 7 (j := 1) C rfl rfl wu_X8 (by decide) wf_X8_66 rfl dX8_firstNought_4 rfl ?_
  refine g_icmp_ge 33 10 C dX8_firstNought_7 (by decide) rfl h (fun h => ?_) (fun h => ?_)
  · have hh := end_alt0_2 h K
    exact g_sub [] (hh) rfl
  · refine g_aload_n 11 C dX8_firstNought_10 rfl (j := 0) rfl rfl ?_
    refine g_iload_n 12 C dX8_firstNought_11 rfl (j := 1) rfl rfl ?_
    refine g_i2l 13 C dX8_firstNought_12 rfl ?_
    refine g_iload_n 14 C dX8_firstNought_13 rfl (j := 3) rfl rfl ?_
    refine g_i2l 15 C dX8_firstNought_14 rfl ?_
    refine g_iload_n 16 C dX8_firstNought_15 rfl (j := 2) rfl rfl ?_
    refine g_i2l 17 C dX8_firstNought_16 rfl ?_
    refine g_lmul 18 C dX8_firstNought_17 rfl ?_
    refine g_ladd 19 C dX8_firstNought_18 rfl ?_
    refine g_cvi 22 C (As := [.long (l1.toInt64 + (l3.toInt64 * l2.toInt64))]) (fun _ h => mX8_cut (a1 := l1.toInt64 + (l3.toInt64 * l2.toInt64)) (σ := σ) h) wl_X8_83 wi_X8_cut wz_X8_cut wc_X8_cut wn_X8 qX8_cut rfl rfl ⟨Nat.le_of_ble_eq_true rfl, Nat.le_of_ble_eq_true rfl⟩ rfl rfl rfl rfl (Nat.le_of_ble_eq_true rfl) dX8_firstNought_19 rfl h (fun o1 h => ?_)
    refine g_if_ne 27 25 C dX8_firstNought_22 (by decide) rfl h (fun h => ?_) (fun h => ?_)
    · refine g_iload_n 26 C dX8_firstNought_25 rfl (j := 3) rfl rfl ?_
      have ho := end_alt1_2 h K
      replace ho : (l3, o1.2) = out := ho
      subst ho
      exact K0 _ _ dX8_firstNought_26 rfl
    · refine g_iinc 30 [(3, .int (l3 + 1)), (0, .ref (ad 0)), (1, .int l1), (2, .int l2)] C dX8_firstNought_27 (j := 3) rfl (by rfl) (by decide) rfl rfl ?_
      refine g_goto 2 C dX8_firstNought_30 (by decide) ?_
      have hh := end_inl h K
      exact g_sub [1, 2, 3, 0] (hh) rfl
noncomputable def fX8_firstNought_L33 (σ : Mem) : Option (Int32 × Mem) :=
  some ((-1), σ)
set_option maxHeartbeats 4000000 in
set_option maxRecDepth 100000 in
theorem tX8_firstNought_L33 {E : Gx} {cI : ClassId} {ad : Nat → Nat} (C : Cx E rmX8_firstNought cI layM ad 4 RX8 cX8_firstNought) {out : Int32 × Mem} (K0 : KI E rmX8_firstNought cI layM ad 4 cX8_firstNought .int out) {σ : Mem} (h : fX8_firstNought_L33 σ = some out) : G E rmX8_firstNought cI layM ad 4 33 [] [] σ := by
  unfold fX8_firstNought_L33 at h
  refine g_iconst 34 (v := (-1)) C dX8_firstNought_33 (by decide) rfl ?_
  cases h
  exact K0 _ _ dX8_firstNought_34 rfl
noncomputable def fX8_firstNought (a1 : Int32) (a2 : Int32) (σ : Mem) : Option (Int32 × Mem) :=
  (loop (fun a => fX8_firstNought_B2 a1 a2 a.1 a.2) (0, σ)).bind (Sum.elim (fun b2x0 => fX8_firstNought_L33 b2x0) (fun b2r => some b2r))
set_option maxHeartbeats 4000000 in
set_option maxRecDepth 100000 in
theorem mX8_firstNought {l : Launch} {D : va_G} {cI : ClassId} {ad : Nat → Nat} {a1 : Int32} {a2 : Int32} {σ : Mem} {out : Int32 × Mem} (h : fX8_firstNought a1 a2 σ = some out) : MI l D cI layM ad yX8_firstNought cX8_firstNought 4 .int rmX8_firstNought [.ref (ad 0), .int a1, .int a2] σ out := by
  refine met_i (by decide) (Nat.le_of_ble_eq_true rfl) (fun E C K0 => ?_)
  show G E rmX8_firstNought cI layM ad 4 0 [(0, .ref (ad 0)), (1, .int a1), (2, .int a2)] [] σ
  unfold fX8_firstNought at h
  refine g_iconst 1 (v := 0) C dX8_firstNought_0 (by decide) rfl ?_
  refine g_istore_n 2 [(3, .int 0), (0, .ref (ad 0)), (1, .int a1), (2, .int a2)] C dX8_firstNought_1 rfl (by decide) rfl rfl ?_
  obtain ⟨b2, hb, h⟩ := bind_some h
  refine g_sub [1, 2, 3, 0] (g_loop (a := (0, σ)) (fun a => G E rmX8_firstNought cI layM ad 4 2 [(0, .ref (ad 0)), (1, .int a1), (2, .int a2), (3, .int a.1)] [] a.2) (Sum.elim (fun b => G E rmX8_firstNought cI layM ad 4 33 [] [] b) (fun b => b = out)) hb (fun a res h K => tX8_firstNought_B2 (l1 := a1) (l2 := a2) (l3 := a.1) (σ := a.2) (res := res) C K0 h K) ?_) rfl
  rcases b2 with b2x0 | b2r
  · show G E rmX8_firstNought cI layM ad 4 33 [] [] b2x0
    exact tX8_firstNought_L33 (σ := b2x0) C K0 h
  · exact end_top h

/-! LoopReducerModel.multiplies(III)Z -/
abbrev rmX8_multiplies : Room := { frames := 3, cells := 0, slots := 0, locals := 73 }
theorem qX8_multiplies : yX8_multiplies.cls ≠ "java/lang/invoke/MethodHandle" ∧ yX8_multiplies.cls ≠ "java/lang/invoke/VarHandle" ∧ (parseMethodDescriptor yX8_multiplies.desc).map (fun d => d.parameters.length) = some 3 := by decide +kernel
theorem DX8_multiplies : ∀ q ∈ ([(0, .aload_n 0, 1), (1, .iload_n 2, 1), (2, .invokevirtual 124, 3), (5, .aload_n 0, 1), (6, .iload_n 3, 1), (7, .invokevirtual 124, 3), (10, .iadd, 1), (11, .iconst 3, 1), (12, .if_icmp .le 5, 3), (15, .iconst 0, 1), (16, .ireturn, 1), (17, .aload_n 0, 1), (18, .iload_n 1, 1), (19, .invokevirtual 127, 3), (22, .iconst 0, 1), (23, .istore 4, 2), (25, .iload 4, 2), (27, .iconst 4, 1), (28, .if_icmp .ge 40, 3), (31, .iconst 0, 1), (32, .istore 5, 2), (34, .iload 5, 2), (36, .iconst 4, 1), (37, .if_icmp .ge 25, 3), (40, .aload_n 0, 1), (41, .iload_n 1, 1), (42, .iload_n 2, 1), (43, .iload 4, 2), (45, .iload_n 3, 1), (46, .iload 5, 2), (48, .invokevirtual 131, 3), (51, .ifCond .ne 5, 3), (54, .iconst 0, 1), (55, .ireturn, 1), (56, .iinc 5 1, 3), (59, .goto (-25), 3), (62, .iinc 4 1, 3), (65, .goto (-40), 3), (68, .iconst 1, 1), (69, .ireturn, 1)] : List (Nat × Instr × Nat)), decode cX8_multiplies q.1 = .ok q.2 := by decide +kernel
theorem dX8_multiplies_0 : decode cX8_multiplies 0 = .ok (.aload_n 0, 1) := DX8_multiplies (0, .aload_n 0, 1) (List.mem_of_getElem? (i := 0) rfl)
theorem dX8_multiplies_1 : decode cX8_multiplies 1 = .ok (.iload_n 2, 1) := DX8_multiplies (1, .iload_n 2, 1) (List.mem_of_getElem? (i := 1) rfl)
theorem dX8_multiplies_2 : decode cX8_multiplies 2 = .ok (.invokevirtual 124, 3) := DX8_multiplies (2, .invokevirtual 124, 3) (List.mem_of_getElem? (i := 2) rfl)
theorem dX8_multiplies_5 : decode cX8_multiplies 5 = .ok (.aload_n 0, 1) := DX8_multiplies (5, .aload_n 0, 1) (List.mem_of_getElem? (i := 3) rfl)
theorem dX8_multiplies_6 : decode cX8_multiplies 6 = .ok (.iload_n 3, 1) := DX8_multiplies (6, .iload_n 3, 1) (List.mem_of_getElem? (i := 4) rfl)
theorem dX8_multiplies_7 : decode cX8_multiplies 7 = .ok (.invokevirtual 124, 3) := DX8_multiplies (7, .invokevirtual 124, 3) (List.mem_of_getElem? (i := 5) rfl)
theorem dX8_multiplies_10 : decode cX8_multiplies 10 = .ok (.iadd, 1) := DX8_multiplies (10, .iadd, 1) (List.mem_of_getElem? (i := 6) rfl)
theorem dX8_multiplies_11 : decode cX8_multiplies 11 = .ok (.iconst 3, 1) := DX8_multiplies (11, .iconst 3, 1) (List.mem_of_getElem? (i := 7) rfl)
theorem dX8_multiplies_12 : decode cX8_multiplies 12 = .ok (.if_icmp .le 5, 3) := DX8_multiplies (12, .if_icmp .le 5, 3) (List.mem_of_getElem? (i := 8) rfl)
theorem dX8_multiplies_15 : decode cX8_multiplies 15 = .ok (.iconst 0, 1) := DX8_multiplies (15, .iconst 0, 1) (List.mem_of_getElem? (i := 9) rfl)
theorem dX8_multiplies_16 : decode cX8_multiplies 16 = .ok (.ireturn, 1) := DX8_multiplies (16, .ireturn, 1) (List.mem_of_getElem? (i := 10) rfl)
theorem dX8_multiplies_17 : decode cX8_multiplies 17 = .ok (.aload_n 0, 1) := DX8_multiplies (17, .aload_n 0, 1) (List.mem_of_getElem? (i := 11) rfl)
theorem dX8_multiplies_18 : decode cX8_multiplies 18 = .ok (.iload_n 1, 1) := DX8_multiplies (18, .iload_n 1, 1) (List.mem_of_getElem? (i := 12) rfl)
theorem dX8_multiplies_19 : decode cX8_multiplies 19 = .ok (.invokevirtual 127, 3) := DX8_multiplies (19, .invokevirtual 127, 3) (List.mem_of_getElem? (i := 13) rfl)
theorem dX8_multiplies_22 : decode cX8_multiplies 22 = .ok (.iconst 0, 1) := DX8_multiplies (22, .iconst 0, 1) (List.mem_of_getElem? (i := 14) rfl)
theorem dX8_multiplies_23 : decode cX8_multiplies 23 = .ok (.istore 4, 2) := DX8_multiplies (23, .istore 4, 2) (List.mem_of_getElem? (i := 15) rfl)
theorem dX8_multiplies_25 : decode cX8_multiplies 25 = .ok (.iload 4, 2) := DX8_multiplies (25, .iload 4, 2) (List.mem_of_getElem? (i := 16) rfl)
theorem dX8_multiplies_27 : decode cX8_multiplies 27 = .ok (.iconst 4, 1) := DX8_multiplies (27, .iconst 4, 1) (List.mem_of_getElem? (i := 17) rfl)
theorem dX8_multiplies_28 : decode cX8_multiplies 28 = .ok (.if_icmp .ge 40, 3) := DX8_multiplies (28, .if_icmp .ge 40, 3) (List.mem_of_getElem? (i := 18) rfl)
theorem dX8_multiplies_31 : decode cX8_multiplies 31 = .ok (.iconst 0, 1) := DX8_multiplies (31, .iconst 0, 1) (List.mem_of_getElem? (i := 19) rfl)
theorem dX8_multiplies_32 : decode cX8_multiplies 32 = .ok (.istore 5, 2) := DX8_multiplies (32, .istore 5, 2) (List.mem_of_getElem? (i := 20) rfl)
theorem dX8_multiplies_34 : decode cX8_multiplies 34 = .ok (.iload 5, 2) := DX8_multiplies (34, .iload 5, 2) (List.mem_of_getElem? (i := 21) rfl)
theorem dX8_multiplies_36 : decode cX8_multiplies 36 = .ok (.iconst 4, 1) := DX8_multiplies (36, .iconst 4, 1) (List.mem_of_getElem? (i := 22) rfl)
theorem dX8_multiplies_37 : decode cX8_multiplies 37 = .ok (.if_icmp .ge 25, 3) := DX8_multiplies (37, .if_icmp .ge 25, 3) (List.mem_of_getElem? (i := 23) rfl)
theorem dX8_multiplies_40 : decode cX8_multiplies 40 = .ok (.aload_n 0, 1) := DX8_multiplies (40, .aload_n 0, 1) (List.mem_of_getElem? (i := 24) rfl)
theorem dX8_multiplies_41 : decode cX8_multiplies 41 = .ok (.iload_n 1, 1) := DX8_multiplies (41, .iload_n 1, 1) (List.mem_of_getElem? (i := 25) rfl)
theorem dX8_multiplies_42 : decode cX8_multiplies 42 = .ok (.iload_n 2, 1) := DX8_multiplies (42, .iload_n 2, 1) (List.mem_of_getElem? (i := 26) rfl)
theorem dX8_multiplies_43 : decode cX8_multiplies 43 = .ok (.iload 4, 2) := DX8_multiplies (43, .iload 4, 2) (List.mem_of_getElem? (i := 27) rfl)
theorem dX8_multiplies_45 : decode cX8_multiplies 45 = .ok (.iload_n 3, 1) := DX8_multiplies (45, .iload_n 3, 1) (List.mem_of_getElem? (i := 28) rfl)
theorem dX8_multiplies_46 : decode cX8_multiplies 46 = .ok (.iload 5, 2) := DX8_multiplies (46, .iload 5, 2) (List.mem_of_getElem? (i := 29) rfl)
theorem dX8_multiplies_48 : decode cX8_multiplies 48 = .ok (.invokevirtual 131, 3) := DX8_multiplies (48, .invokevirtual 131, 3) (List.mem_of_getElem? (i := 30) rfl)
theorem dX8_multiplies_51 : decode cX8_multiplies 51 = .ok (.ifCond .ne 5, 3) := DX8_multiplies (51, .ifCond .ne 5, 3) (List.mem_of_getElem? (i := 31) rfl)
theorem dX8_multiplies_54 : decode cX8_multiplies 54 = .ok (.iconst 0, 1) := DX8_multiplies (54, .iconst 0, 1) (List.mem_of_getElem? (i := 32) rfl)
theorem dX8_multiplies_55 : decode cX8_multiplies 55 = .ok (.ireturn, 1) := DX8_multiplies (55, .ireturn, 1) (List.mem_of_getElem? (i := 33) rfl)
theorem dX8_multiplies_56 : decode cX8_multiplies 56 = .ok (.iinc 5 1, 3) := DX8_multiplies (56, .iinc 5 1, 3) (List.mem_of_getElem? (i := 34) rfl)
theorem dX8_multiplies_59 : decode cX8_multiplies 59 = .ok (.goto (-25), 3) := DX8_multiplies (59, .goto (-25), 3) (List.mem_of_getElem? (i := 35) rfl)
theorem dX8_multiplies_62 : decode cX8_multiplies 62 = .ok (.iinc 4 1, 3) := DX8_multiplies (62, .iinc 4 1, 3) (List.mem_of_getElem? (i := 36) rfl)
theorem dX8_multiplies_65 : decode cX8_multiplies 65 = .ok (.goto (-40), 3) := DX8_multiplies (65, .goto (-40), 3) (List.mem_of_getElem? (i := 37) rfl)
theorem dX8_multiplies_68 : decode cX8_multiplies 68 = .ok (.iconst 1, 1) := DX8_multiplies (68, .iconst 1, 1) (List.mem_of_getElem? (i := 38) rfl)
theorem dX8_multiplies_69 : decode cX8_multiplies 69 = .ok (.ireturn, 1) := DX8_multiplies (69, .ireturn, 1) (List.mem_of_getElem? (i := 39) rfl)
noncomputable def fX8_multiplies_B34 (l1 : Int32) (l2 : Int32) (l3 : Int32) (l4 : Int32) (l5 : Int32) (σ : Mem) : Option ((Int32 × Mem) ⊕ ((Mem) ⊕ (Int32 × Mem))) :=
  if 4 ≤ l5 then
    some (.inr (.inl σ))
  else
    (fX8_multiplies_ l1 l2 l4 l3 l5 σ).bind fun o4 =>
    if o4.1 = 0 then
      some (.inr (.inr (0, o4.2)))
    else
      some (.inl (l5 + 1, o4.2))
set_option maxHeartbeats 4000000 in
set_option maxRecDepth 100000 in
theorem tX8_multiplies_B34 {E : Gx} {cI : ClassId} {ad : Nat → Nat} (C : Cx E rmX8_multiplies cI layM ad 6 RX8 cX8_multiplies) {out : Int32 × Mem} (K0 : KI E rmX8_multiplies cI layM ad 6 cX8_multiplies .boolean out) {l1 : Int32} {l2 : Int32} {l3 : Int32} {l4 : Int32} {l5 : Int32} {σ : Mem} {res : (Int32 × Mem) ⊕ ((Mem) ⊕ (Int32 × Mem))} (h : fX8_multiplies_B34 l1 l2 l3 l4 l5 σ = some res) (K : Sum.elim (fun a => G E rmX8_multiplies cI layM ad 6 34 [(0, .ref (ad 0)), (1, .int l1), (2, .int l2), (3, .int l3), (4, .int l4), (5, .int a.1)] [] a.2) (Sum.elim (fun b => G E rmX8_multiplies cI layM ad 6 62 [(0, .ref (ad 0)), (1, .int l1), (2, .int l2), (3, .int l3), (4, .int l4)] [] b) (fun b => b = out)) res) : G E rmX8_multiplies cI layM ad 6 34 [(0, .ref (ad 0)), (1, .int l1), (2, .int l2), (3, .int l3), (4, .int l4), (5, .int l5)] [] σ := by
  unfold fX8_multiplies_B34 at h
  refine g_iload 36 C dX8_multiplies_34 (j := 5) rfl rfl ?_
  refine g_iconst 37 (v := 4) C dX8_multiplies_36 (by decide) rfl ?_
  refine g_icmp_ge 62 40 C dX8_multiplies_37 (by decide) rfl h (fun h => ?_) (fun h => ?_)
  · have hh := end_alt0_2 h K
    exact g_sub [0, 1, 2, 3, 4] (hh) rfl
  · refine g_aload_n 41 C dX8_multiplies_40 rfl (j := 0) rfl rfl ?_
    refine g_iload_n 42 C dX8_multiplies_41 rfl (j := 1) rfl rfl ?_
    refine g_iload_n 43 C dX8_multiplies_42 rfl (j := 2) rfl rfl ?_
    refine g_iload 45 C dX8_multiplies_43 (j := 4) rfl rfl ?_
    refine g_iload_n 46 C dX8_multiplies_45 rfl (j := 3) rfl rfl ?_
    refine g_iload 48 C dX8_multiplies_46 (j := 5) rfl rfl ?_
    refine g_cvi 51 C (As := [.int l1, .int l2, .int l4, .int l3, .int l5]) (fun _ h => mX8_multiplies_ (a1 := l1) (a2 := l2) (a3 := l4) (a4 := l3) (a5 := l5) (σ := σ) h) wl_X8_131 wi_X8_multiplies_ wz_X8_multiplies_ wc_X8_multiplies_ wn_X8 qX8_multiplies_ rfl rfl ⟨Nat.le_of_ble_eq_true rfl, Nat.le_of_ble_eq_true rfl⟩ rfl rfl rfl rfl (Nat.le_of_ble_eq_true rfl) dX8_multiplies_48 rfl h (fun o4 h => ?_)
    refine g_if_ne 56 54 C dX8_multiplies_51 (by decide) rfl h (fun h => ?_) (fun h => ?_)
    · refine g_iconst 55 (v := 0) C dX8_multiplies_54 (by decide) rfl ?_
      have ho := end_alt1_2 h K
      replace ho : (0, o4.2) = out := ho
      subst ho
      exact K0 _ _ dX8_multiplies_55 (zb_nar (x := 0) (by decide))
    · refine g_iinc 59 [(5, .int (l5 + 1)), (0, .ref (ad 0)), (1, .int l1), (2, .int l2), (3, .int l3), (4, .int l4)] C dX8_multiplies_56 (j := 5) rfl (by rfl) (by decide) rfl rfl ?_
      refine g_goto 34 C dX8_multiplies_59 (by decide) ?_
      have hh := end_inl h K
      exact g_sub [1, 2, 3, 4, 5, 0] (hh) rfl
noncomputable def fX8_multiplies_L62 (l1 : Int32) (l2 : Int32) (l3 : Int32) (l4 : Int32) (σ : Mem) : Option ((Int32 × Mem) ⊕ ((Mem) ⊕ (Int32 × Mem))) :=
  some (.inl (l4 + 1, σ))
set_option maxHeartbeats 4000000 in
set_option maxRecDepth 100000 in
theorem tX8_multiplies_L62 {E : Gx} {cI : ClassId} {ad : Nat → Nat} (C : Cx E rmX8_multiplies cI layM ad 6 RX8 cX8_multiplies) {out : Int32 × Mem} (K0 : KI E rmX8_multiplies cI layM ad 6 cX8_multiplies .boolean out) {l1 : Int32} {l2 : Int32} {l3 : Int32} {l4 : Int32} {σ : Mem} {res : (Int32 × Mem) ⊕ ((Mem) ⊕ (Int32 × Mem))} (h : fX8_multiplies_L62 l1 l2 l3 l4 σ = some res) (K : Sum.elim (fun a => G E rmX8_multiplies cI layM ad 6 25 [(0, .ref (ad 0)), (1, .int l1), (2, .int l2), (3, .int l3), (4, .int a.1)] [] a.2) (Sum.elim (fun b => G E rmX8_multiplies cI layM ad 6 68 [] [] b) (fun b => b = out)) res) : G E rmX8_multiplies cI layM ad 6 62 [(0, .ref (ad 0)), (1, .int l1), (2, .int l2), (3, .int l3), (4, .int l4)] [] σ := by
  unfold fX8_multiplies_L62 at h
  refine g_iinc 65 [(4, .int (l4 + 1)), (0, .ref (ad 0)), (1, .int l1), (2, .int l2), (3, .int l3)] C dX8_multiplies_62 (j := 4) rfl (by rfl) (by decide) rfl rfl ?_
  refine g_goto 25 C dX8_multiplies_65 (by decide) ?_
  have hh := end_inl h K
  exact g_sub [1, 2, 3, 4, 0] (hh) rfl
noncomputable def fX8_multiplies_B25 (l1 : Int32) (l2 : Int32) (l3 : Int32) (l4 : Int32) (σ : Mem) : Option ((Int32 × Mem) ⊕ ((Mem) ⊕ (Int32 × Mem))) :=
  if 4 ≤ l4 then
    some (.inr (.inl σ))
  else
    (loop (fun a => fX8_multiplies_B34 l1 l2 l3 l4 a.1 a.2) (0, σ)).bind (Sum.elim (fun b5x0 => fX8_multiplies_L62 l1 l2 l3 l4 b5x0) (fun b5r => some (.inr (.inr b5r))))
set_option maxHeartbeats 4000000 in
set_option maxRecDepth 100000 in
theorem tX8_multiplies_B25 {E : Gx} {cI : ClassId} {ad : Nat → Nat} (C : Cx E rmX8_multiplies cI layM ad 6 RX8 cX8_multiplies) {out : Int32 × Mem} (K0 : KI E rmX8_multiplies cI layM ad 6 cX8_multiplies .boolean out) {l1 : Int32} {l2 : Int32} {l3 : Int32} {l4 : Int32} {σ : Mem} {res : (Int32 × Mem) ⊕ ((Mem) ⊕ (Int32 × Mem))} (h : fX8_multiplies_B25 l1 l2 l3 l4 σ = some res) (K : Sum.elim (fun a => G E rmX8_multiplies cI layM ad 6 25 [(0, .ref (ad 0)), (1, .int l1), (2, .int l2), (3, .int l3), (4, .int a.1)] [] a.2) (Sum.elim (fun b => G E rmX8_multiplies cI layM ad 6 68 [] [] b) (fun b => b = out)) res) : G E rmX8_multiplies cI layM ad 6 25 [(0, .ref (ad 0)), (1, .int l1), (2, .int l2), (3, .int l3), (4, .int l4)] [] σ := by
  unfold fX8_multiplies_B25 at h
  refine g_iload 27 C dX8_multiplies_25 (j := 4) rfl rfl ?_
  refine g_iconst 28 (v := 4) C dX8_multiplies_27 (by decide) rfl ?_
  refine g_icmp_ge 68 31 C dX8_multiplies_28 (by decide) rfl h (fun h => ?_) (fun h => ?_)
  · have hh := end_alt0_2 h K
    exact g_sub [] (hh) rfl
  · refine g_iconst 32 (v := 0) C dX8_multiplies_31 (by decide) rfl ?_
    refine g_istore 34 [(5, .int 0), (0, .ref (ad 0)), (1, .int l1), (2, .int l2), (3, .int l3), (4, .int l4)] C dX8_multiplies_32 (by decide) rfl rfl ?_
    obtain ⟨b5, hb, h⟩ := bind_some h
    refine g_sub [1, 2, 3, 4, 5, 0] (g_loop (a := (0, σ)) (fun a => G E rmX8_multiplies cI layM ad 6 34 [(0, .ref (ad 0)), (1, .int l1), (2, .int l2), (3, .int l3), (4, .int l4), (5, .int a.1)] [] a.2) (Sum.elim (fun b => G E rmX8_multiplies cI layM ad 6 62 [(0, .ref (ad 0)), (1, .int l1), (2, .int l2), (3, .int l3), (4, .int l4)] [] b) (fun b => b = out)) hb (fun a res h K => tX8_multiplies_B34 (l1 := l1) (l2 := l2) (l3 := l3) (l4 := l4) (l5 := a.1) (σ := a.2) (res := res) C K0 h K) ?_) rfl
    rcases b5 with b5x0 | b5r
    · show G E rmX8_multiplies cI layM ad 6 62 [(0, .ref (ad 0)), (1, .int l1), (2, .int l2), (3, .int l3), (4, .int l4)] [] b5x0
      exact tX8_multiplies_L62 (l1 := l1) (l2 := l2) (l3 := l3) (l4 := l4) (σ := b5x0) C K0 h K
    · replace h : some (Sum.inr (Sum.inr b5r)) = some res := h
      have ho := end_alt1_2 h K
      exact ho
noncomputable def fX8_multiplies_L68 (σ : Mem) : Option (Int32 × Mem) :=
  some (1, σ)
set_option maxHeartbeats 4000000 in
set_option maxRecDepth 100000 in
theorem tX8_multiplies_L68 {E : Gx} {cI : ClassId} {ad : Nat → Nat} (C : Cx E rmX8_multiplies cI layM ad 6 RX8 cX8_multiplies) {out : Int32 × Mem} (K0 : KI E rmX8_multiplies cI layM ad 6 cX8_multiplies .boolean out) {σ : Mem} (h : fX8_multiplies_L68 σ = some out) : G E rmX8_multiplies cI layM ad 6 68 [] [] σ := by
  unfold fX8_multiplies_L68 at h
  refine g_iconst 69 (v := 1) C dX8_multiplies_68 (by decide) rfl ?_
  cases h
  exact K0 _ _ dX8_multiplies_69 (zb_nar (x := 1) (by decide))
noncomputable def fX8_multiplies (a1 : Int32) (a2 : Int32) (a3 : Int32) (σ : Mem) : Option (Int32 × Mem) :=
  (fX8_degreeOf a2 σ).bind fun o1 =>
  (fX8_degreeOf a3 o1.2).bind fun o2 =>
  if (o1.1 + o2.1) ≤ 3 then
    (fX8_empties a1 o2.2).bind fun o3 =>
    (loop (fun a => fX8_multiplies_B25 a1 a2 a3 a.1 a.2) (0, o3)).bind (Sum.elim (fun b6x0 => fX8_multiplies_L68 b6x0) (fun b6r => some b6r))
  else
    some (0, o2.2)
set_option maxHeartbeats 4000000 in
set_option maxRecDepth 100000 in
theorem mX8_multiplies {l : Launch} {D : va_G} {cI : ClassId} {ad : Nat → Nat} {a1 : Int32} {a2 : Int32} {a3 : Int32} {σ : Mem} {out : Int32 × Mem} (h : fX8_multiplies a1 a2 a3 σ = some out) : MI l D cI layM ad yX8_multiplies cX8_multiplies 6 .boolean rmX8_multiplies [.ref (ad 0), .int a1, .int a2, .int a3] σ out := by
  refine met_i (by decide) (Nat.le_of_ble_eq_true rfl) (fun E C K0 => ?_)
  show G E rmX8_multiplies cI layM ad 6 0 [(0, .ref (ad 0)), (1, .int a1), (2, .int a2), (3, .int a3)] [] σ
  unfold fX8_multiplies at h
  refine g_aload_n 1 C dX8_multiplies_0 rfl (j := 0) rfl rfl ?_
  refine g_iload_n 2 C dX8_multiplies_1 rfl (j := 2) rfl rfl ?_
  refine g_cvi 5 C (As := [.int a2]) (fun _ h => mX8_degreeOf (a1 := a2) (σ := σ) h) wl_X8_124 wi_X8_degreeOf wz_X8_degreeOf wc_X8_degreeOf wn_X8 qX8_degreeOf rfl rfl ⟨Nat.le_of_ble_eq_true rfl, Nat.le_of_ble_eq_true rfl⟩ rfl rfl rfl rfl (Nat.le_of_ble_eq_true rfl) dX8_multiplies_2 rfl h (fun o1 h => ?_)
  refine g_aload_n 6 C dX8_multiplies_5 rfl (j := 0) rfl rfl ?_
  refine g_iload_n 7 C dX8_multiplies_6 rfl (j := 3) rfl rfl ?_
  refine g_cvi 10 C (As := [.int a3]) (fun _ h => mX8_degreeOf (a1 := a3) (σ := o1.2) h) wl_X8_124 wi_X8_degreeOf wz_X8_degreeOf wc_X8_degreeOf wn_X8 qX8_degreeOf rfl rfl ⟨Nat.le_of_ble_eq_true rfl, Nat.le_of_ble_eq_true rfl⟩ rfl rfl rfl rfl (Nat.le_of_ble_eq_true rfl) dX8_multiplies_7 rfl h (fun o2 h => ?_)
  refine g_iadd 11 C dX8_multiplies_10 rfl ?_
  refine g_iconst 12 (v := 3) C dX8_multiplies_11 (by decide) rfl ?_
  refine g_icmp_le 17 15 C dX8_multiplies_12 (by decide) rfl h (fun h => ?_) (fun h => ?_)
  · refine g_aload_n 18 C dX8_multiplies_17 rfl (j := 0) rfl rfl ?_
    refine g_iload_n 19 C dX8_multiplies_18 rfl (j := 1) rfl rfl ?_
    refine g_cvv 22 C (As := [.int a1]) (fun _ h => mX8_empties (a1 := a1) (σ := o2.2) h) wl_X8_127 wi_X8_empties wz_X8_empties wc_X8_empties wn_X8 qX8_empties rfl rfl ⟨Nat.le_of_ble_eq_true rfl, Nat.le_of_ble_eq_true rfl⟩ rfl rfl rfl rfl (Nat.le_of_ble_eq_true rfl) dX8_multiplies_19 rfl h (fun o3 h => ?_)
    refine g_iconst 23 (v := 0) C dX8_multiplies_22 (by decide) rfl ?_
    refine g_istore 25 [(4, .int 0), (0, .ref (ad 0)), (1, .int a1), (2, .int a2), (3, .int a3)] C dX8_multiplies_23 (by decide) rfl rfl ?_
    obtain ⟨b6, hb, h⟩ := bind_some h
    refine g_sub [1, 2, 3, 4, 0] (g_loop (a := (0, o3)) (fun a => G E rmX8_multiplies cI layM ad 6 25 [(0, .ref (ad 0)), (1, .int a1), (2, .int a2), (3, .int a3), (4, .int a.1)] [] a.2) (Sum.elim (fun b => G E rmX8_multiplies cI layM ad 6 68 [] [] b) (fun b => b = out)) hb (fun a res h K => tX8_multiplies_B25 (l1 := a1) (l2 := a2) (l3 := a3) (l4 := a.1) (σ := a.2) (res := res) C K0 h K) ?_) rfl
    rcases b6 with b6x0 | b6r
    · show G E rmX8_multiplies cI layM ad 6 68 [] [] b6x0
      exact tX8_multiplies_L68 (σ := b6x0) C K0 h
    · exact end_top h
  · refine g_iconst 16 (v := 0) C dX8_multiplies_15 (by decide) rfl ?_
    cases h
    exact K0 _ _ dX8_multiplies_16 (zb_nar (x := 0) (by decide))

/-! LoopReducerModel.laysOp(I)V -/
abbrev rmX8_laysOp : Room := { frames := 4, cells := 0, slots := 0, locals := 98 }
theorem qX8_laysOp : yX8_laysOp.cls ≠ "java/lang/invoke/MethodHandle" ∧ yX8_laysOp.cls ≠ "java/lang/invoke/VarHandle" ∧ (parseMethodDescriptor yX8_laysOp.desc).map (fun d => d.parameters.length) = some 1 := by decide +kernel
theorem DX8_laysOp : ∀ q ∈ ([(0, .aload_n 0, 1), (1, .getfield 17, 3), (4, .iload_n 1, 1), (5, .iaload, 1), (6, .istore_n 2, 1), (7, .aload_n 0, 1), (8, .getfield 20, 3), (11, .iload_n 1, 1), (12, .iaload, 1), (13, .istore_n 3, 1), (14, .aload_n 0, 1), (15, .getfield 36, 3), (18, .iload_n 1, 1), (19, .aload_n 0, 1), (20, .iload_n 2, 1), (21, .invokevirtual 159, 3), (24, .ifCond .eq 29, 3), (27, .aload_n 0, 1), (28, .iload_n 3, 1), (29, .invokevirtual 159, 3), (32, .ifCond .eq 21, 3), (35, .aload_n 0, 1), (36, .getfield 36, 3), (39, .iload_n 2, 1), (40, .iaload, 1), (41, .aload_n 0, 1), (42, .getfield 36, 3), (45, .iload_n 3, 1), (46, .iaload, 1), (47, .invokestatic 138, 3), (50, .goto 5, 3), (53, .bipush 9, 2), (55, .iastore, 1), (56, .aload_n 0, 1), (57, .iload_n 1, 1), (58, .invokevirtual 159, 3), (61, .ifCond .ne 4, 3), (64, .return_, 1), (65, .aload_n 0, 1), (66, .getfield 14, 3), (69, .iload_n 1, 1), (70, .iaload, 1), (71, .iconst 4, 1), (72, .if_icmp .eq 29, 3), (75, .aload_n 0, 1), (76, .iload_n 1, 1), (77, .iload_n 2, 1), (78, .iconst 1, 1), (79, .iload_n 3, 1), (80, .aload_n 0, 1), (81, .getfield 14, 3), (84, .iload_n 1, 1), (85, .iaload, 1), (86, .iconst 2, 1), (87, .if_icmp .ne 7, 3), (90, .iconst 1, 1), (91, .goto 4, 3), (94, .iconst (-1), 1), (95, .invokevirtual 162, 3), (98, .goto 21, 3), (101, .aload_n 0, 1), (102, .iload_n 1, 1), (103, .iload_n 2, 1), (104, .iload_n 3, 1), (105, .invokevirtual 166, 3), (108, .ifCond .ne 11, 3), (111, .aload_n 0, 1), (112, .getfield 36, 3), (115, .iload_n 1, 1), (116, .bipush 9, 2), (118, .iastore, 1), (119, .return_, 1)] : List (Nat × Instr × Nat)), decode cX8_laysOp q.1 = .ok q.2 := by decide +kernel
theorem dX8_laysOp_0 : decode cX8_laysOp 0 = .ok (.aload_n 0, 1) := DX8_laysOp (0, .aload_n 0, 1) (List.mem_of_getElem? (i := 0) rfl)
theorem dX8_laysOp_1 : decode cX8_laysOp 1 = .ok (.getfield 17, 3) := DX8_laysOp (1, .getfield 17, 3) (List.mem_of_getElem? (i := 1) rfl)
theorem dX8_laysOp_4 : decode cX8_laysOp 4 = .ok (.iload_n 1, 1) := DX8_laysOp (4, .iload_n 1, 1) (List.mem_of_getElem? (i := 2) rfl)
theorem dX8_laysOp_5 : decode cX8_laysOp 5 = .ok (.iaload, 1) := DX8_laysOp (5, .iaload, 1) (List.mem_of_getElem? (i := 3) rfl)
theorem dX8_laysOp_6 : decode cX8_laysOp 6 = .ok (.istore_n 2, 1) := DX8_laysOp (6, .istore_n 2, 1) (List.mem_of_getElem? (i := 4) rfl)
theorem dX8_laysOp_7 : decode cX8_laysOp 7 = .ok (.aload_n 0, 1) := DX8_laysOp (7, .aload_n 0, 1) (List.mem_of_getElem? (i := 5) rfl)
theorem dX8_laysOp_8 : decode cX8_laysOp 8 = .ok (.getfield 20, 3) := DX8_laysOp (8, .getfield 20, 3) (List.mem_of_getElem? (i := 6) rfl)
theorem dX8_laysOp_11 : decode cX8_laysOp 11 = .ok (.iload_n 1, 1) := DX8_laysOp (11, .iload_n 1, 1) (List.mem_of_getElem? (i := 7) rfl)
theorem dX8_laysOp_12 : decode cX8_laysOp 12 = .ok (.iaload, 1) := DX8_laysOp (12, .iaload, 1) (List.mem_of_getElem? (i := 8) rfl)
theorem dX8_laysOp_13 : decode cX8_laysOp 13 = .ok (.istore_n 3, 1) := DX8_laysOp (13, .istore_n 3, 1) (List.mem_of_getElem? (i := 9) rfl)
theorem dX8_laysOp_14 : decode cX8_laysOp 14 = .ok (.aload_n 0, 1) := DX8_laysOp (14, .aload_n 0, 1) (List.mem_of_getElem? (i := 10) rfl)
theorem dX8_laysOp_15 : decode cX8_laysOp 15 = .ok (.getfield 36, 3) := DX8_laysOp (15, .getfield 36, 3) (List.mem_of_getElem? (i := 11) rfl)
theorem dX8_laysOp_18 : decode cX8_laysOp 18 = .ok (.iload_n 1, 1) := DX8_laysOp (18, .iload_n 1, 1) (List.mem_of_getElem? (i := 12) rfl)
theorem dX8_laysOp_19 : decode cX8_laysOp 19 = .ok (.aload_n 0, 1) := DX8_laysOp (19, .aload_n 0, 1) (List.mem_of_getElem? (i := 13) rfl)
theorem dX8_laysOp_20 : decode cX8_laysOp 20 = .ok (.iload_n 2, 1) := DX8_laysOp (20, .iload_n 2, 1) (List.mem_of_getElem? (i := 14) rfl)
theorem dX8_laysOp_21 : decode cX8_laysOp 21 = .ok (.invokevirtual 159, 3) := DX8_laysOp (21, .invokevirtual 159, 3) (List.mem_of_getElem? (i := 15) rfl)
theorem dX8_laysOp_24 : decode cX8_laysOp 24 = .ok (.ifCond .eq 29, 3) := DX8_laysOp (24, .ifCond .eq 29, 3) (List.mem_of_getElem? (i := 16) rfl)
theorem dX8_laysOp_27 : decode cX8_laysOp 27 = .ok (.aload_n 0, 1) := DX8_laysOp (27, .aload_n 0, 1) (List.mem_of_getElem? (i := 17) rfl)
theorem dX8_laysOp_28 : decode cX8_laysOp 28 = .ok (.iload_n 3, 1) := DX8_laysOp (28, .iload_n 3, 1) (List.mem_of_getElem? (i := 18) rfl)
theorem dX8_laysOp_29 : decode cX8_laysOp 29 = .ok (.invokevirtual 159, 3) := DX8_laysOp (29, .invokevirtual 159, 3) (List.mem_of_getElem? (i := 19) rfl)
theorem dX8_laysOp_32 : decode cX8_laysOp 32 = .ok (.ifCond .eq 21, 3) := DX8_laysOp (32, .ifCond .eq 21, 3) (List.mem_of_getElem? (i := 20) rfl)
theorem dX8_laysOp_35 : decode cX8_laysOp 35 = .ok (.aload_n 0, 1) := DX8_laysOp (35, .aload_n 0, 1) (List.mem_of_getElem? (i := 21) rfl)
theorem dX8_laysOp_36 : decode cX8_laysOp 36 = .ok (.getfield 36, 3) := DX8_laysOp (36, .getfield 36, 3) (List.mem_of_getElem? (i := 22) rfl)
theorem dX8_laysOp_39 : decode cX8_laysOp 39 = .ok (.iload_n 2, 1) := DX8_laysOp (39, .iload_n 2, 1) (List.mem_of_getElem? (i := 23) rfl)
theorem dX8_laysOp_40 : decode cX8_laysOp 40 = .ok (.iaload, 1) := DX8_laysOp (40, .iaload, 1) (List.mem_of_getElem? (i := 24) rfl)
theorem dX8_laysOp_41 : decode cX8_laysOp 41 = .ok (.aload_n 0, 1) := DX8_laysOp (41, .aload_n 0, 1) (List.mem_of_getElem? (i := 25) rfl)
theorem dX8_laysOp_42 : decode cX8_laysOp 42 = .ok (.getfield 36, 3) := DX8_laysOp (42, .getfield 36, 3) (List.mem_of_getElem? (i := 26) rfl)
theorem dX8_laysOp_45 : decode cX8_laysOp 45 = .ok (.iload_n 3, 1) := DX8_laysOp (45, .iload_n 3, 1) (List.mem_of_getElem? (i := 27) rfl)
theorem dX8_laysOp_46 : decode cX8_laysOp 46 = .ok (.iaload, 1) := DX8_laysOp (46, .iaload, 1) (List.mem_of_getElem? (i := 28) rfl)
theorem dX8_laysOp_47 : decode cX8_laysOp 47 = .ok (.invokestatic 138, 3) := DX8_laysOp (47, .invokestatic 138, 3) (List.mem_of_getElem? (i := 29) rfl)
theorem dX8_laysOp_50 : decode cX8_laysOp 50 = .ok (.goto 5, 3) := DX8_laysOp (50, .goto 5, 3) (List.mem_of_getElem? (i := 30) rfl)
theorem dX8_laysOp_53 : decode cX8_laysOp 53 = .ok (.bipush 9, 2) := DX8_laysOp (53, .bipush 9, 2) (List.mem_of_getElem? (i := 31) rfl)
theorem dX8_laysOp_55 : decode cX8_laysOp 55 = .ok (.iastore, 1) := DX8_laysOp (55, .iastore, 1) (List.mem_of_getElem? (i := 32) rfl)
theorem dX8_laysOp_56 : decode cX8_laysOp 56 = .ok (.aload_n 0, 1) := DX8_laysOp (56, .aload_n 0, 1) (List.mem_of_getElem? (i := 33) rfl)
theorem dX8_laysOp_57 : decode cX8_laysOp 57 = .ok (.iload_n 1, 1) := DX8_laysOp (57, .iload_n 1, 1) (List.mem_of_getElem? (i := 34) rfl)
theorem dX8_laysOp_58 : decode cX8_laysOp 58 = .ok (.invokevirtual 159, 3) := DX8_laysOp (58, .invokevirtual 159, 3) (List.mem_of_getElem? (i := 35) rfl)
theorem dX8_laysOp_61 : decode cX8_laysOp 61 = .ok (.ifCond .ne 4, 3) := DX8_laysOp (61, .ifCond .ne 4, 3) (List.mem_of_getElem? (i := 36) rfl)
theorem dX8_laysOp_64 : decode cX8_laysOp 64 = .ok (.return_, 1) := DX8_laysOp (64, .return_, 1) (List.mem_of_getElem? (i := 37) rfl)
theorem dX8_laysOp_65 : decode cX8_laysOp 65 = .ok (.aload_n 0, 1) := DX8_laysOp (65, .aload_n 0, 1) (List.mem_of_getElem? (i := 38) rfl)
theorem dX8_laysOp_66 : decode cX8_laysOp 66 = .ok (.getfield 14, 3) := DX8_laysOp (66, .getfield 14, 3) (List.mem_of_getElem? (i := 39) rfl)
theorem dX8_laysOp_69 : decode cX8_laysOp 69 = .ok (.iload_n 1, 1) := DX8_laysOp (69, .iload_n 1, 1) (List.mem_of_getElem? (i := 40) rfl)
theorem dX8_laysOp_70 : decode cX8_laysOp 70 = .ok (.iaload, 1) := DX8_laysOp (70, .iaload, 1) (List.mem_of_getElem? (i := 41) rfl)
theorem dX8_laysOp_71 : decode cX8_laysOp 71 = .ok (.iconst 4, 1) := DX8_laysOp (71, .iconst 4, 1) (List.mem_of_getElem? (i := 42) rfl)
theorem dX8_laysOp_72 : decode cX8_laysOp 72 = .ok (.if_icmp .eq 29, 3) := DX8_laysOp (72, .if_icmp .eq 29, 3) (List.mem_of_getElem? (i := 43) rfl)
theorem dX8_laysOp_75 : decode cX8_laysOp 75 = .ok (.aload_n 0, 1) := DX8_laysOp (75, .aload_n 0, 1) (List.mem_of_getElem? (i := 44) rfl)
theorem dX8_laysOp_76 : decode cX8_laysOp 76 = .ok (.iload_n 1, 1) := DX8_laysOp (76, .iload_n 1, 1) (List.mem_of_getElem? (i := 45) rfl)
theorem dX8_laysOp_77 : decode cX8_laysOp 77 = .ok (.iload_n 2, 1) := DX8_laysOp (77, .iload_n 2, 1) (List.mem_of_getElem? (i := 46) rfl)
theorem dX8_laysOp_78 : decode cX8_laysOp 78 = .ok (.iconst 1, 1) := DX8_laysOp (78, .iconst 1, 1) (List.mem_of_getElem? (i := 47) rfl)
theorem dX8_laysOp_79 : decode cX8_laysOp 79 = .ok (.iload_n 3, 1) := DX8_laysOp (79, .iload_n 3, 1) (List.mem_of_getElem? (i := 48) rfl)
theorem dX8_laysOp_80 : decode cX8_laysOp 80 = .ok (.aload_n 0, 1) := DX8_laysOp (80, .aload_n 0, 1) (List.mem_of_getElem? (i := 49) rfl)
theorem dX8_laysOp_81 : decode cX8_laysOp 81 = .ok (.getfield 14, 3) := DX8_laysOp (81, .getfield 14, 3) (List.mem_of_getElem? (i := 50) rfl)
theorem dX8_laysOp_84 : decode cX8_laysOp 84 = .ok (.iload_n 1, 1) := DX8_laysOp (84, .iload_n 1, 1) (List.mem_of_getElem? (i := 51) rfl)
theorem dX8_laysOp_85 : decode cX8_laysOp 85 = .ok (.iaload, 1) := DX8_laysOp (85, .iaload, 1) (List.mem_of_getElem? (i := 52) rfl)
theorem dX8_laysOp_86 : decode cX8_laysOp 86 = .ok (.iconst 2, 1) := DX8_laysOp (86, .iconst 2, 1) (List.mem_of_getElem? (i := 53) rfl)
theorem dX8_laysOp_87 : decode cX8_laysOp 87 = .ok (.if_icmp .ne 7, 3) := DX8_laysOp (87, .if_icmp .ne 7, 3) (List.mem_of_getElem? (i := 54) rfl)
theorem dX8_laysOp_90 : decode cX8_laysOp 90 = .ok (.iconst 1, 1) := DX8_laysOp (90, .iconst 1, 1) (List.mem_of_getElem? (i := 55) rfl)
theorem dX8_laysOp_91 : decode cX8_laysOp 91 = .ok (.goto 4, 3) := DX8_laysOp (91, .goto 4, 3) (List.mem_of_getElem? (i := 56) rfl)
theorem dX8_laysOp_94 : decode cX8_laysOp 94 = .ok (.iconst (-1), 1) := DX8_laysOp (94, .iconst (-1), 1) (List.mem_of_getElem? (i := 57) rfl)
theorem dX8_laysOp_95 : decode cX8_laysOp 95 = .ok (.invokevirtual 162, 3) := DX8_laysOp (95, .invokevirtual 162, 3) (List.mem_of_getElem? (i := 58) rfl)
theorem dX8_laysOp_98 : decode cX8_laysOp 98 = .ok (.goto 21, 3) := DX8_laysOp (98, .goto 21, 3) (List.mem_of_getElem? (i := 59) rfl)
theorem dX8_laysOp_101 : decode cX8_laysOp 101 = .ok (.aload_n 0, 1) := DX8_laysOp (101, .aload_n 0, 1) (List.mem_of_getElem? (i := 60) rfl)
theorem dX8_laysOp_102 : decode cX8_laysOp 102 = .ok (.iload_n 1, 1) := DX8_laysOp (102, .iload_n 1, 1) (List.mem_of_getElem? (i := 61) rfl)
theorem dX8_laysOp_103 : decode cX8_laysOp 103 = .ok (.iload_n 2, 1) := DX8_laysOp (103, .iload_n 2, 1) (List.mem_of_getElem? (i := 62) rfl)
theorem dX8_laysOp_104 : decode cX8_laysOp 104 = .ok (.iload_n 3, 1) := DX8_laysOp (104, .iload_n 3, 1) (List.mem_of_getElem? (i := 63) rfl)
theorem dX8_laysOp_105 : decode cX8_laysOp 105 = .ok (.invokevirtual 166, 3) := DX8_laysOp (105, .invokevirtual 166, 3) (List.mem_of_getElem? (i := 64) rfl)
theorem dX8_laysOp_108 : decode cX8_laysOp 108 = .ok (.ifCond .ne 11, 3) := DX8_laysOp (108, .ifCond .ne 11, 3) (List.mem_of_getElem? (i := 65) rfl)
theorem dX8_laysOp_111 : decode cX8_laysOp 111 = .ok (.aload_n 0, 1) := DX8_laysOp (111, .aload_n 0, 1) (List.mem_of_getElem? (i := 66) rfl)
theorem dX8_laysOp_112 : decode cX8_laysOp 112 = .ok (.getfield 36, 3) := DX8_laysOp (112, .getfield 36, 3) (List.mem_of_getElem? (i := 67) rfl)
theorem dX8_laysOp_115 : decode cX8_laysOp 115 = .ok (.iload_n 1, 1) := DX8_laysOp (115, .iload_n 1, 1) (List.mem_of_getElem? (i := 68) rfl)
theorem dX8_laysOp_116 : decode cX8_laysOp 116 = .ok (.bipush 9, 2) := DX8_laysOp (116, .bipush 9, 2) (List.mem_of_getElem? (i := 69) rfl)
theorem dX8_laysOp_118 : decode cX8_laysOp 118 = .ok (.iastore, 1) := DX8_laysOp (118, .iastore, 1) (List.mem_of_getElem? (i := 70) rfl)
theorem dX8_laysOp_119 : decode cX8_laysOp 119 = .ok (.return_, 1) := DX8_laysOp (119, .return_, 1) (List.mem_of_getElem? (i := 71) rfl)
noncomputable def fX8_laysOp_L119 (σ : Mem) : Option (Mem) :=
  some σ
set_option maxHeartbeats 4000000 in
set_option maxRecDepth 100000 in
theorem tX8_laysOp_L119 {E : Gx} {cI : ClassId} {ad : Nat → Nat} (C : Cx E rmX8_laysOp cI layM ad 4 RX8 cX8_laysOp) {out : Mem} (K0 : KV E rmX8_laysOp cI layM ad 4 cX8_laysOp out) {σ : Mem} (h : fX8_laysOp_L119 σ = some out) : G E rmX8_laysOp cI layM ad 4 119 [] [] σ := by
  unfold fX8_laysOp_L119 at h
  cases h
  exact K0 _ _ dX8_laysOp_119
noncomputable def fX8_laysOp_L95 (s1 : Int32) (s2 : Int32) (s3 : Int32) (s4 : Int32) (s5 : Int32) (σ : Mem) : Option (Mem) :=
  (fX8_joins s1 s2 s3 s4 s5 σ).bind fun o4 =>
  fX8_laysOp_L119 o4
set_option maxHeartbeats 4000000 in
set_option maxRecDepth 100000 in
theorem tX8_laysOp_L95 {E : Gx} {cI : ClassId} {ad : Nat → Nat} (C : Cx E rmX8_laysOp cI layM ad 4 RX8 cX8_laysOp) {out : Mem} (K0 : KV E rmX8_laysOp cI layM ad 4 cX8_laysOp out) {s1 : Int32} {s2 : Int32} {s3 : Int32} {s4 : Int32} {s5 : Int32} {σ : Mem} (h : fX8_laysOp_L95 s1 s2 s3 s4 s5 σ = some out) : G E rmX8_laysOp cI layM ad 4 95 [] [.int s5, .int s4, .int s3, .int s2, .int s1, .ref (ad 0)] σ := by
  unfold fX8_laysOp_L95 at h
  refine g_cvv 98 C (As := [.int s1, .int s2, .int s3, .int s4, .int s5]) (fun _ h => mX8_joins (a1 := s1) (a2 := s2) (a3 := s3) (a4 := s4) (a5 := s5) (σ := σ) h) wl_X8_162 wi_X8_joins wz_X8_joins wc_X8_joins wn_X8 qX8_joins rfl rfl ⟨Nat.le_of_ble_eq_true rfl, Nat.le_of_ble_eq_true rfl⟩ rfl rfl rfl rfl (Nat.le_of_ble_eq_true rfl) dX8_laysOp_95 rfl h (fun o4 h => ?_)
  refine g_goto 119 C dX8_laysOp_98 (by decide) ?_
  exact tX8_laysOp_L119 (σ := o4) C K0 h
noncomputable def fX8_laysOp_L55 (l1 : Int32) (l2 : Int32) (l3 : Int32) (s1 : Int32) (s2 : Int32) (σ : Mem) : Option (Mem) :=
  chk (inb s1 30) <|
  (fX8_hasForm l1 (up2 σ 6 s1.toNatClampNeg s2)).bind fun o2 =>
  if o2.1 = 0 then
    some o2.2
  else
    chk (inb l1 30) <|
    if (o2.2 2 l1.toNatClampNeg) = 4 then
      (fX8_multiplies l1 l2 l3 o2.2).bind fun o3 =>
      if o3.1 = 0 then
        chk (inb l1 30) <|
        fX8_laysOp_L119 (up2 o3.2 6 l1.toNatClampNeg 9)
      else
        fX8_laysOp_L119 o3.2
    else
      chk (inb l1 30) <|
      if (o2.2 2 l1.toNatClampNeg) = 2 then
        fX8_laysOp_L95 l1 l2 1 l3 1 o2.2
      else
        fX8_laysOp_L95 l1 l2 1 l3 (-1) o2.2
set_option maxHeartbeats 4000000 in
set_option maxRecDepth 100000 in
theorem tX8_laysOp_L55 {E : Gx} {cI : ClassId} {ad : Nat → Nat} (C : Cx E rmX8_laysOp cI layM ad 4 RX8 cX8_laysOp) {out : Mem} (K0 : KV E rmX8_laysOp cI layM ad 4 cX8_laysOp out) {l1 : Int32} {l2 : Int32} {l3 : Int32} {s1 : Int32} {s2 : Int32} {σ : Mem} (h : fX8_laysOp_L55 l1 l2 l3 s1 s2 σ = some out) : G E rmX8_laysOp cI layM ad 4 55 [(0, .ref (ad 0)), (1, .int l1), (2, .int l2), (3, .int l3)] [.int s2, .int s1, .ref (ad 6)] σ := by
  unfold fX8_laysOp_L55 at h
  refine g_iast 56 C rfl dX8_laysOp_55 rfl h (fun h => ?_)
  refine g_aload_n 57 C dX8_laysOp_56 rfl (j := 0) rfl rfl ?_
  refine g_iload_n 58 C dX8_laysOp_57 rfl (j := 1) rfl rfl ?_
  refine g_cvi 61 C (As := [.int l1]) (fun _ h => mX8_hasForm (a1 := l1) (σ := up2 σ 6 s1.toNatClampNeg s2) h) wl_X8_159 wi_X8_hasForm wz_X8_hasForm wc_X8_hasForm wn_X8 qX8_hasForm rfl rfl ⟨Nat.le_of_ble_eq_true rfl, Nat.le_of_ble_eq_true rfl⟩ rfl rfl rfl rfl (Nat.le_of_ble_eq_true rfl) dX8_laysOp_58 rfl h (fun o2 h => ?_)
  refine g_if_ne 65 64 C dX8_laysOp_61 (by decide) rfl h (fun h => ?_) (fun h => ?_)
  · cases h
    exact K0 _ _ dX8_laysOp_64
  · refine g_aload_n 66 C dX8_laysOp_65 rfl (j := 0) rfl rfl ?_
    refine g_getr 69 (j := 3) C rfl rfl wu_X8 (by decide) wf_X8_14 rfl dX8_laysOp_66 rfl ?_
    refine g_iload_n 70 C dX8_laysOp_69 rfl (j := 1) rfl rfl ?_
    refine g_iald 71 C rfl dX8_laysOp_70 rfl h (fun h => ?_)
    refine g_iconst 72 (v := 4) C dX8_laysOp_71 (by decide) rfl ?_
    refine g_icmp_eq 101 75 C dX8_laysOp_72 (by decide) rfl h (fun h => ?_) (fun h => ?_)
    · refine g_aload_n 102 C dX8_laysOp_101 rfl (j := 0) rfl rfl ?_
      refine g_iload_n 103 C dX8_laysOp_102 rfl (j := 1) rfl rfl ?_
      refine g_iload_n 104 C dX8_laysOp_103 rfl (j := 2) rfl rfl ?_
      refine g_iload_n 105 C dX8_laysOp_104 rfl (j := 3) rfl rfl ?_
      refine g_cvi 108 C (As := [.int l1, .int l2, .int l3]) (fun _ h => mX8_multiplies (a1 := l1) (a2 := l2) (a3 := l3) (σ := o2.2) h) wl_X8_166 wi_X8_multiplies wz_X8_multiplies wc_X8_multiplies wn_X8 qX8_multiplies rfl rfl ⟨Nat.le_of_ble_eq_true rfl, Nat.le_of_ble_eq_true rfl⟩ rfl rfl rfl rfl (Nat.le_of_ble_eq_true rfl) dX8_laysOp_105 rfl h (fun o3 h => ?_)
      refine g_if_ne 119 111 C dX8_laysOp_108 (by decide) rfl h (fun h => ?_) (fun h => ?_)
      · refine g_aload_n 112 C dX8_laysOp_111 rfl (j := 0) rfl rfl ?_
        refine g_getr 115 (j := 13) C rfl rfl wu_X8 (by decide) wf_X8_36 rfl dX8_laysOp_112 rfl ?_
        refine g_iload_n 116 C dX8_laysOp_115 rfl (j := 1) rfl rfl ?_
        refine g_bipush 118 (v := 9) C dX8_laysOp_116 (by decide) rfl ?_
        refine g_iast 119 C rfl dX8_laysOp_118 rfl h (fun h => ?_)
        exact g_sub [] (tX8_laysOp_L119 (σ := up2 o3.2 6 l1.toNatClampNeg 9) C K0 h) rfl
      · exact g_sub [] (tX8_laysOp_L119 (σ := o3.2) C K0 h) rfl
    · refine g_aload_n 76 C dX8_laysOp_75 rfl (j := 0) rfl rfl ?_
      refine g_iload_n 77 C dX8_laysOp_76 rfl (j := 1) rfl rfl ?_
      refine g_iload_n 78 C dX8_laysOp_77 rfl (j := 2) rfl rfl ?_
      refine g_iconst 79 (v := 1) C dX8_laysOp_78 (by decide) rfl ?_
      refine g_iload_n 80 C dX8_laysOp_79 rfl (j := 3) rfl rfl ?_
      refine g_aload_n 81 C dX8_laysOp_80 rfl (j := 0) rfl rfl ?_
      refine g_getr 84 (j := 3) C rfl rfl wu_X8 (by decide) wf_X8_14 rfl dX8_laysOp_81 rfl ?_
      refine g_iload_n 85 C dX8_laysOp_84 rfl (j := 1) rfl rfl ?_
      refine g_iald 86 C rfl dX8_laysOp_85 rfl h (fun h => ?_)
      refine g_iconst 87 (v := 2) C dX8_laysOp_86 (by decide) rfl ?_
      refine g_icmp_ne 94 90 C dX8_laysOp_87 (by decide) rfl h (fun h => ?_) (fun h => ?_)
      · refine g_iconst 91 (v := 1) C dX8_laysOp_90 (by decide) rfl ?_
        refine g_goto 95 C dX8_laysOp_91 (by decide) ?_
        exact g_sub [] (tX8_laysOp_L95 (s1 := l1) (s2 := l2) (s3 := 1) (s4 := l3) (s5 := 1) (σ := o2.2) C K0 h) rfl
      · refine g_iconst 95 (v := (-1)) C dX8_laysOp_94 (by decide) rfl ?_
        exact g_sub [] (tX8_laysOp_L95 (s1 := l1) (s2 := l2) (s3 := 1) (s4 := l3) (s5 := (-1)) (σ := o2.2) C K0 h) rfl
noncomputable def fX8_laysOp_L53 (l1 : Int32) (l2 : Int32) (l3 : Int32) (s1 : Int32) (σ : Mem) : Option (Mem) :=
  fX8_laysOp_L55 l1 l2 l3 s1 9 σ
set_option maxHeartbeats 4000000 in
set_option maxRecDepth 100000 in
theorem tX8_laysOp_L53 {E : Gx} {cI : ClassId} {ad : Nat → Nat} (C : Cx E rmX8_laysOp cI layM ad 4 RX8 cX8_laysOp) {out : Mem} (K0 : KV E rmX8_laysOp cI layM ad 4 cX8_laysOp out) {l1 : Int32} {l2 : Int32} {l3 : Int32} {s1 : Int32} {σ : Mem} (h : fX8_laysOp_L53 l1 l2 l3 s1 σ = some out) : G E rmX8_laysOp cI layM ad 4 53 [(0, .ref (ad 0)), (1, .int l1), (2, .int l2), (3, .int l3)] [.int s1, .ref (ad 6)] σ := by
  unfold fX8_laysOp_L53 at h
  refine g_bipush 55 (v := 9) C dX8_laysOp_53 (by decide) rfl ?_
  exact tX8_laysOp_L55 (l1 := l1) (l2 := l2) (l3 := l3) (s1 := s1) (s2 := 9) (σ := σ) C K0 h
noncomputable def fX8_laysOp (a1 : Int32) (σ : Mem) : Option (Mem) :=
  chk (inb a1 30) <|
  chk (inb a1 30) <|
  (fX8_hasForm (σ 3 a1.toNatClampNeg) σ).bind fun o1 =>
  if o1.1 = 0 then
    fX8_laysOp_L53 a1 (σ 3 a1.toNatClampNeg) (σ 4 a1.toNatClampNeg) a1 o1.2
  else
    (fX8_hasForm (σ 4 a1.toNatClampNeg) o1.2).bind fun o5 =>
    if o5.1 = 0 then
      fX8_laysOp_L53 a1 (σ 3 a1.toNatClampNeg) (σ 4 a1.toNatClampNeg) a1 o5.2
    else
      chk (inb (σ 3 a1.toNatClampNeg) 30) <|
      chk (inb (σ 4 a1.toNatClampNeg) 30) <|
      fX8_laysOp_L55 a1 (σ 3 a1.toNatClampNeg) (σ 4 a1.toNatClampNeg) a1 (if (o5.2 6 (σ 3 a1.toNatClampNeg).toNatClampNeg) < (o5.2 6 (σ 4 a1.toNatClampNeg).toNatClampNeg) then (o5.2 6 (σ 4 a1.toNatClampNeg).toNatClampNeg) else (o5.2 6 (σ 3 a1.toNatClampNeg).toNatClampNeg)) o5.2
set_option maxHeartbeats 4000000 in
set_option maxRecDepth 100000 in
theorem mX8_laysOp {l : Launch} {D : va_G} {cI : ClassId} {ad : Nat → Nat} {a1 : Int32} {σ : Mem} {out : Mem} (h : fX8_laysOp a1 σ = some out) : MV l D cI layM ad yX8_laysOp cX8_laysOp 4 rmX8_laysOp [.ref (ad 0), .int a1] σ out := by
  refine met_v (by decide) (Nat.le_of_ble_eq_true rfl) (fun E C K0 => ?_)
  show G E rmX8_laysOp cI layM ad 4 0 [(0, .ref (ad 0)), (1, .int a1)] [] σ
  unfold fX8_laysOp at h
  refine g_aload_n 1 C dX8_laysOp_0 rfl (j := 0) rfl rfl ?_
  refine g_getr 4 (j := 4) C rfl rfl wu_X8 (by decide) wf_X8_17 rfl dX8_laysOp_1 rfl ?_
  refine g_iload_n 5 C dX8_laysOp_4 rfl (j := 1) rfl rfl ?_
  refine g_iald 6 C rfl dX8_laysOp_5 rfl h (fun h => ?_)
  refine g_istore_n 7 [(2, .int (σ 3 a1.toNatClampNeg)), (0, .ref (ad 0)), (1, .int a1)] C dX8_laysOp_6 rfl (by decide) rfl rfl ?_
  refine g_aload_n 8 C dX8_laysOp_7 rfl (j := 1) rfl rfl ?_
  refine g_getr 11 (j := 5) C rfl rfl wu_X8 (by decide) wf_X8_20 rfl dX8_laysOp_8 rfl ?_
  refine g_iload_n 12 C dX8_laysOp_11 rfl (j := 2) rfl rfl ?_
  refine g_iald 13 C rfl dX8_laysOp_12 rfl h (fun h => ?_)
  refine g_istore_n 14 [(3, .int (σ 4 a1.toNatClampNeg)), (2, .int (σ 3 a1.toNatClampNeg)), (0, .ref (ad 0)), (1, .int a1)] C dX8_laysOp_13 rfl (by decide) rfl rfl ?_
  refine g_aload_n 15 C dX8_laysOp_14 rfl (j := 2) rfl rfl ?_
  refine g_getr 18 (j := 13) C rfl rfl wu_X8 (by decide) wf_X8_36 rfl dX8_laysOp_15 rfl ?_
  refine g_iload_n 19 C dX8_laysOp_18 rfl (j := 3) rfl rfl ?_
  refine g_aload_n 20 C dX8_laysOp_19 rfl (j := 2) rfl rfl ?_
  refine g_iload_n 21 C dX8_laysOp_20 rfl (j := 1) rfl rfl ?_
  refine g_cvi 24 C (As := [.int (σ 3 a1.toNatClampNeg)]) (fun _ h => mX8_hasForm (a1 := σ 3 a1.toNatClampNeg) (σ := σ) h) wl_X8_159 wi_X8_hasForm wz_X8_hasForm wc_X8_hasForm wn_X8 qX8_hasForm rfl rfl ⟨Nat.le_of_ble_eq_true rfl, Nat.le_of_ble_eq_true rfl⟩ rfl rfl rfl rfl (Nat.le_of_ble_eq_true rfl) dX8_laysOp_21 rfl h (fun o1 h => ?_)
  refine g_if_eq 53 27 C dX8_laysOp_24 (by decide) rfl h (fun h => ?_) (fun h => ?_)
  · exact g_sub [2, 3, 1, 0] (tX8_laysOp_L53 (l1 := a1) (l2 := (σ 3 a1.toNatClampNeg)) (l3 := (σ 4 a1.toNatClampNeg)) (s1 := a1) (σ := o1.2) C K0 h) rfl
  · refine g_aload_n 28 C dX8_laysOp_27 rfl (j := 2) rfl rfl ?_
    refine g_iload_n 29 C dX8_laysOp_28 rfl (j := 0) rfl rfl ?_
    refine g_cvi 32 C (As := [.int (σ 4 a1.toNatClampNeg)]) (fun _ h => mX8_hasForm (a1 := σ 4 a1.toNatClampNeg) (σ := o1.2) h) wl_X8_159 wi_X8_hasForm wz_X8_hasForm wc_X8_hasForm wn_X8 qX8_hasForm rfl rfl ⟨Nat.le_of_ble_eq_true rfl, Nat.le_of_ble_eq_true rfl⟩ rfl rfl rfl rfl (Nat.le_of_ble_eq_true rfl) dX8_laysOp_29 rfl h (fun o5 h => ?_)
    refine g_if_eq 53 35 C dX8_laysOp_32 (by decide) rfl h (fun h => ?_) (fun h => ?_)
    · exact g_sub [2, 3, 1, 0] (tX8_laysOp_L53 (l1 := a1) (l2 := (σ 3 a1.toNatClampNeg)) (l3 := (σ 4 a1.toNatClampNeg)) (s1 := a1) (σ := o5.2) C K0 h) rfl
    · refine g_aload_n 36 C dX8_laysOp_35 rfl (j := 2) rfl rfl ?_
      refine g_getr 39 (j := 13) C rfl rfl wu_X8 (by decide) wf_X8_36 rfl dX8_laysOp_36 rfl ?_
      refine g_iload_n 40 C dX8_laysOp_39 rfl (j := 1) rfl rfl ?_
      refine g_iald 41 C rfl dX8_laysOp_40 rfl h (fun h => ?_)
      refine g_aload_n 42 C dX8_laysOp_41 rfl (j := 2) rfl rfl ?_
      refine g_getr 45 (j := 13) C rfl rfl wu_X8 (by decide) wf_X8_36 rfl dX8_laysOp_42 rfl ?_
      refine g_iload_n 46 C dX8_laysOp_45 rfl (j := 0) rfl rfl ?_
      refine g_iald 47 C rfl dX8_laysOp_46 rfl h (fun h => ?_)
      refine g_mmax 50 C wl_X8_138 wM_st wM_in wM_cmax (by decide) (Nat.le_of_ble_eq_true rfl) dX8_laysOp_47 rfl ?_
      refine g_goto 55 C dX8_laysOp_50 (by decide) ?_
      exact g_sub [2, 3, 1, 0] (tX8_laysOp_L55 (l1 := a1) (l2 := (σ 3 a1.toNatClampNeg)) (l3 := (σ 4 a1.toNatClampNeg)) (s1 := a1) (s2 := (if (o5.2 6 (σ 3 a1.toNatClampNeg).toNatClampNeg) < (o5.2 6 (σ 4 a1.toNatClampNeg).toNatClampNeg) then (o5.2 6 (σ 4 a1.toNatClampNeg).toNatClampNeg) else (o5.2 6 (σ 3 a1.toNatClampNeg).toNatClampNeg))) (σ := o5.2) C K0 h) rfl

/-! LoopReducerModel.laysCycle(I)V -/
abbrev rmX8_laysCycle : Room := { frames := 5, cells := 0, slots := 0, locals := 121 }
theorem qX8_laysCycle : yX8_laysCycle.cls ≠ "java/lang/invoke/MethodHandle" ∧ yX8_laysCycle.cls ≠ "java/lang/invoke/VarHandle" ∧ (parseMethodDescriptor yX8_laysCycle.desc).map (fun d => d.parameters.length) = some 1 := by decide +kernel
theorem DX8_laysCycle : ∀ q ∈ ([(0, .iconst (-1), 1), (1, .istore_n 2, 1), (2, .iconst 0, 1), (3, .istore_n 3, 1), (4, .iconst 0, 1), (5, .istore 4, 2), (7, .iconst 0, 1), (8, .istore 5, 2), (10, .iload 5, 2), (12, .aload_n 0, 1), (13, .getfield 72, 3), (16, .if_icmp .ge 66, 3), (19, .iload_n 1, 1), (20, .iload 5, 2), (22, .invokestatic 102, 3), (25, .ifCond .ne 6, 3), (28, .goto 48, 3), (31, .iinc 4 1, 3), (34, .iload_n 3, 1), (35, .aload_n 0, 1), (36, .getfield 14, 3), (39, .iload 5, 2), (41, .iaload, 1), (42, .iconst 5, 1), (43, .if_icmp .ne 7, 3), (46, .iconst 1, 1), (47, .goto 4, 3), (50, .iconst 0, 1), (51, .iadd, 1), (52, .istore_n 3, 1), (53, .aload_n 0, 1), (54, .getfield 14, 3), (57, .iload 5, 2), (59, .iaload, 1), (60, .iconst 5, 1), (61, .if_icmp .eq 8, 3), (64, .iload_n 2, 1), (65, .iconst (-1), 1), (66, .if_icmp .ne 8, 3), (69, .iload 5, 2), (71, .goto 4, 3), (74, .iload_n 2, 1), (75, .istore_n 2, 1), (76, .iinc 5 1, 3), (79, .goto (-69), 3), (82, .iload_n 3, 1), (83, .iconst 1, 1), (84, .if_icmp .le 20, 3), (87, .aload_n 0, 1), (88, .iload_n 1, 1), (89, .iload_n 3, 1), (90, .iload 4, 2), (92, .if_icmp .ne 7, 3), (95, .iconst 3, 1), (96, .goto 4, 3), (99, .iconst 4, 1), (100, .invokevirtual 178, 3), (103, .return_, 1), (104, .aload_n 0, 1), (105, .getfield 14, 3), (108, .iload_n 2, 1), (109, .iaload, 1), (110, .iconst 1, 1), (111, .if_icmp .gt 19, 3), (114, .aload_n 0, 1), (115, .iload_n 2, 1), (116, .iload_n 2, 1), (117, .invokevirtual 151, 3), (120, .aload_n 0, 1), (121, .getfield 36, 3), (124, .iload_n 2, 1), (125, .iconst 0, 1), (126, .iastore, 1), (127, .goto 74, 3), (130, .aload_n 0, 1), (131, .getfield 14, 3), (134, .iload_n 2, 1), (135, .iaload, 1), (136, .iconst 5, 1), (137, .if_icmp .eq 11, 3), (140, .aload_n 0, 1), (141, .iload_n 2, 1), (142, .invokevirtual 181, 3), (145, .goto 56, 3), (148, .aload_n 0, 1), (149, .getfield 33, 3), (152, .iload_n 2, 1), (153, .iaload, 1), (154, .iload_n 2, 1), (155, .invokestatic 102, 3), (158, .ifCond .ne 28, 3), (161, .aload_n 0, 1), (162, .iload_n 2, 1), (163, .aload_n 0, 1), (164, .getfield 20, 3), (167, .iload_n 2, 1), (168, .iaload, 1), (169, .aload_n 0, 1), (170, .getfield 36, 3), (173, .aload_n 0, 1), (174, .getfield 20, 3), (177, .iload_n 2, 1), (178, .iaload, 1), (179, .iaload, 1), (180, .invokevirtual 174, 3), (183, .goto 18, 3), (186, .aload_n 0, 1), (187, .iload_n 1, 1), (188, .iload_n 2, 1), (189, .invokevirtual 184, 3), (192, .ifCond .ne 9, 3), (195, .aload_n 0, 1), (196, .iload_n 1, 1), (197, .iconst 4, 1), (198, .invokevirtual 178, 3), (201, .iconst 0, 1), (202, .istore 5, 2), (204, .iload 5, 2), (206, .aload_n 0, 1), (207, .getfield 72, 3), (210, .if_icmp .ge 66, 3), (213, .iload_n 1, 1), (214, .iload 5, 2), (216, .invokestatic 102, 3), (219, .ifCond .eq 51, 3), (222, .aload_n 0, 1), (223, .getfield 39, 3), (226, .iload 5, 2), (228, .aload_n 0, 1), (229, .iload 5, 2), (231, .invokevirtual 159, 3), (234, .ifCond .ne 7, 3), (237, .iconst 4, 1), (238, .goto 31, 3), (241, .aload_n 0, 1), (242, .getfield 36, 3), (245, .iload 5, 2), (247, .iaload, 1), (248, .ifCond .le 7, 3), (251, .iconst 2, 1), (252, .goto 17, 3), (255, .aload_n 0, 1), (256, .iload 5, 2), (258, .invokevirtual 124, 3), (261, .ifCond .le 7, 3), (264, .iconst 1, 1), (265, .goto 4, 3), (268, .iconst 0, 1), (269, .iastore, 1), (270, .iinc 5 1, 3), (273, .goto (-69), 3), (276, .return_, 1)] : List (Nat × Instr × Nat)), decode cX8_laysCycle q.1 = .ok q.2 := by decide +kernel
theorem dX8_laysCycle_0 : decode cX8_laysCycle 0 = .ok (.iconst (-1), 1) := DX8_laysCycle (0, .iconst (-1), 1) (List.mem_of_getElem? (i := 0) rfl)
theorem dX8_laysCycle_1 : decode cX8_laysCycle 1 = .ok (.istore_n 2, 1) := DX8_laysCycle (1, .istore_n 2, 1) (List.mem_of_getElem? (i := 1) rfl)
theorem dX8_laysCycle_2 : decode cX8_laysCycle 2 = .ok (.iconst 0, 1) := DX8_laysCycle (2, .iconst 0, 1) (List.mem_of_getElem? (i := 2) rfl)
theorem dX8_laysCycle_3 : decode cX8_laysCycle 3 = .ok (.istore_n 3, 1) := DX8_laysCycle (3, .istore_n 3, 1) (List.mem_of_getElem? (i := 3) rfl)
theorem dX8_laysCycle_4 : decode cX8_laysCycle 4 = .ok (.iconst 0, 1) := DX8_laysCycle (4, .iconst 0, 1) (List.mem_of_getElem? (i := 4) rfl)
theorem dX8_laysCycle_5 : decode cX8_laysCycle 5 = .ok (.istore 4, 2) := DX8_laysCycle (5, .istore 4, 2) (List.mem_of_getElem? (i := 5) rfl)
theorem dX8_laysCycle_7 : decode cX8_laysCycle 7 = .ok (.iconst 0, 1) := DX8_laysCycle (7, .iconst 0, 1) (List.mem_of_getElem? (i := 6) rfl)
theorem dX8_laysCycle_8 : decode cX8_laysCycle 8 = .ok (.istore 5, 2) := DX8_laysCycle (8, .istore 5, 2) (List.mem_of_getElem? (i := 7) rfl)
theorem dX8_laysCycle_10 : decode cX8_laysCycle 10 = .ok (.iload 5, 2) := DX8_laysCycle (10, .iload 5, 2) (List.mem_of_getElem? (i := 8) rfl)
theorem dX8_laysCycle_12 : decode cX8_laysCycle 12 = .ok (.aload_n 0, 1) := DX8_laysCycle (12, .aload_n 0, 1) (List.mem_of_getElem? (i := 9) rfl)
theorem dX8_laysCycle_13 : decode cX8_laysCycle 13 = .ok (.getfield 72, 3) := DX8_laysCycle (13, .getfield 72, 3) (List.mem_of_getElem? (i := 10) rfl)
theorem dX8_laysCycle_16 : decode cX8_laysCycle 16 = .ok (.if_icmp .ge 66, 3) := DX8_laysCycle (16, .if_icmp .ge 66, 3) (List.mem_of_getElem? (i := 11) rfl)
theorem dX8_laysCycle_19 : decode cX8_laysCycle 19 = .ok (.iload_n 1, 1) := DX8_laysCycle (19, .iload_n 1, 1) (List.mem_of_getElem? (i := 12) rfl)
theorem dX8_laysCycle_20 : decode cX8_laysCycle 20 = .ok (.iload 5, 2) := DX8_laysCycle (20, .iload 5, 2) (List.mem_of_getElem? (i := 13) rfl)
theorem dX8_laysCycle_22 : decode cX8_laysCycle 22 = .ok (.invokestatic 102, 3) := DX8_laysCycle (22, .invokestatic 102, 3) (List.mem_of_getElem? (i := 14) rfl)
theorem dX8_laysCycle_25 : decode cX8_laysCycle 25 = .ok (.ifCond .ne 6, 3) := DX8_laysCycle (25, .ifCond .ne 6, 3) (List.mem_of_getElem? (i := 15) rfl)
theorem dX8_laysCycle_28 : decode cX8_laysCycle 28 = .ok (.goto 48, 3) := DX8_laysCycle (28, .goto 48, 3) (List.mem_of_getElem? (i := 16) rfl)
theorem dX8_laysCycle_31 : decode cX8_laysCycle 31 = .ok (.iinc 4 1, 3) := DX8_laysCycle (31, .iinc 4 1, 3) (List.mem_of_getElem? (i := 17) rfl)
theorem dX8_laysCycle_34 : decode cX8_laysCycle 34 = .ok (.iload_n 3, 1) := DX8_laysCycle (34, .iload_n 3, 1) (List.mem_of_getElem? (i := 18) rfl)
theorem dX8_laysCycle_35 : decode cX8_laysCycle 35 = .ok (.aload_n 0, 1) := DX8_laysCycle (35, .aload_n 0, 1) (List.mem_of_getElem? (i := 19) rfl)
theorem dX8_laysCycle_36 : decode cX8_laysCycle 36 = .ok (.getfield 14, 3) := DX8_laysCycle (36, .getfield 14, 3) (List.mem_of_getElem? (i := 20) rfl)
theorem dX8_laysCycle_39 : decode cX8_laysCycle 39 = .ok (.iload 5, 2) := DX8_laysCycle (39, .iload 5, 2) (List.mem_of_getElem? (i := 21) rfl)
theorem dX8_laysCycle_41 : decode cX8_laysCycle 41 = .ok (.iaload, 1) := DX8_laysCycle (41, .iaload, 1) (List.mem_of_getElem? (i := 22) rfl)
theorem dX8_laysCycle_42 : decode cX8_laysCycle 42 = .ok (.iconst 5, 1) := DX8_laysCycle (42, .iconst 5, 1) (List.mem_of_getElem? (i := 23) rfl)
theorem dX8_laysCycle_43 : decode cX8_laysCycle 43 = .ok (.if_icmp .ne 7, 3) := DX8_laysCycle (43, .if_icmp .ne 7, 3) (List.mem_of_getElem? (i := 24) rfl)
theorem dX8_laysCycle_46 : decode cX8_laysCycle 46 = .ok (.iconst 1, 1) := DX8_laysCycle (46, .iconst 1, 1) (List.mem_of_getElem? (i := 25) rfl)
theorem dX8_laysCycle_47 : decode cX8_laysCycle 47 = .ok (.goto 4, 3) := DX8_laysCycle (47, .goto 4, 3) (List.mem_of_getElem? (i := 26) rfl)
theorem dX8_laysCycle_50 : decode cX8_laysCycle 50 = .ok (.iconst 0, 1) := DX8_laysCycle (50, .iconst 0, 1) (List.mem_of_getElem? (i := 27) rfl)
theorem dX8_laysCycle_51 : decode cX8_laysCycle 51 = .ok (.iadd, 1) := DX8_laysCycle (51, .iadd, 1) (List.mem_of_getElem? (i := 28) rfl)
theorem dX8_laysCycle_52 : decode cX8_laysCycle 52 = .ok (.istore_n 3, 1) := DX8_laysCycle (52, .istore_n 3, 1) (List.mem_of_getElem? (i := 29) rfl)
theorem dX8_laysCycle_53 : decode cX8_laysCycle 53 = .ok (.aload_n 0, 1) := DX8_laysCycle (53, .aload_n 0, 1) (List.mem_of_getElem? (i := 30) rfl)
theorem dX8_laysCycle_54 : decode cX8_laysCycle 54 = .ok (.getfield 14, 3) := DX8_laysCycle (54, .getfield 14, 3) (List.mem_of_getElem? (i := 31) rfl)
theorem dX8_laysCycle_57 : decode cX8_laysCycle 57 = .ok (.iload 5, 2) := DX8_laysCycle (57, .iload 5, 2) (List.mem_of_getElem? (i := 32) rfl)
theorem dX8_laysCycle_59 : decode cX8_laysCycle 59 = .ok (.iaload, 1) := DX8_laysCycle (59, .iaload, 1) (List.mem_of_getElem? (i := 33) rfl)
theorem dX8_laysCycle_60 : decode cX8_laysCycle 60 = .ok (.iconst 5, 1) := DX8_laysCycle (60, .iconst 5, 1) (List.mem_of_getElem? (i := 34) rfl)
theorem dX8_laysCycle_61 : decode cX8_laysCycle 61 = .ok (.if_icmp .eq 8, 3) := DX8_laysCycle (61, .if_icmp .eq 8, 3) (List.mem_of_getElem? (i := 35) rfl)
theorem dX8_laysCycle_64 : decode cX8_laysCycle 64 = .ok (.iload_n 2, 1) := DX8_laysCycle (64, .iload_n 2, 1) (List.mem_of_getElem? (i := 36) rfl)
theorem dX8_laysCycle_65 : decode cX8_laysCycle 65 = .ok (.iconst (-1), 1) := DX8_laysCycle (65, .iconst (-1), 1) (List.mem_of_getElem? (i := 37) rfl)
theorem dX8_laysCycle_66 : decode cX8_laysCycle 66 = .ok (.if_icmp .ne 8, 3) := DX8_laysCycle (66, .if_icmp .ne 8, 3) (List.mem_of_getElem? (i := 38) rfl)
theorem dX8_laysCycle_69 : decode cX8_laysCycle 69 = .ok (.iload 5, 2) := DX8_laysCycle (69, .iload 5, 2) (List.mem_of_getElem? (i := 39) rfl)
theorem dX8_laysCycle_71 : decode cX8_laysCycle 71 = .ok (.goto 4, 3) := DX8_laysCycle (71, .goto 4, 3) (List.mem_of_getElem? (i := 40) rfl)
theorem dX8_laysCycle_74 : decode cX8_laysCycle 74 = .ok (.iload_n 2, 1) := DX8_laysCycle (74, .iload_n 2, 1) (List.mem_of_getElem? (i := 41) rfl)
theorem dX8_laysCycle_75 : decode cX8_laysCycle 75 = .ok (.istore_n 2, 1) := DX8_laysCycle (75, .istore_n 2, 1) (List.mem_of_getElem? (i := 42) rfl)
theorem dX8_laysCycle_76 : decode cX8_laysCycle 76 = .ok (.iinc 5 1, 3) := DX8_laysCycle (76, .iinc 5 1, 3) (List.mem_of_getElem? (i := 43) rfl)
theorem dX8_laysCycle_79 : decode cX8_laysCycle 79 = .ok (.goto (-69), 3) := DX8_laysCycle (79, .goto (-69), 3) (List.mem_of_getElem? (i := 44) rfl)
theorem dX8_laysCycle_82 : decode cX8_laysCycle 82 = .ok (.iload_n 3, 1) := DX8_laysCycle (82, .iload_n 3, 1) (List.mem_of_getElem? (i := 45) rfl)
theorem dX8_laysCycle_83 : decode cX8_laysCycle 83 = .ok (.iconst 1, 1) := DX8_laysCycle (83, .iconst 1, 1) (List.mem_of_getElem? (i := 46) rfl)
theorem dX8_laysCycle_84 : decode cX8_laysCycle 84 = .ok (.if_icmp .le 20, 3) := DX8_laysCycle (84, .if_icmp .le 20, 3) (List.mem_of_getElem? (i := 47) rfl)
theorem dX8_laysCycle_87 : decode cX8_laysCycle 87 = .ok (.aload_n 0, 1) := DX8_laysCycle (87, .aload_n 0, 1) (List.mem_of_getElem? (i := 48) rfl)
theorem dX8_laysCycle_88 : decode cX8_laysCycle 88 = .ok (.iload_n 1, 1) := DX8_laysCycle (88, .iload_n 1, 1) (List.mem_of_getElem? (i := 49) rfl)
theorem dX8_laysCycle_89 : decode cX8_laysCycle 89 = .ok (.iload_n 3, 1) := DX8_laysCycle (89, .iload_n 3, 1) (List.mem_of_getElem? (i := 50) rfl)
theorem dX8_laysCycle_90 : decode cX8_laysCycle 90 = .ok (.iload 4, 2) := DX8_laysCycle (90, .iload 4, 2) (List.mem_of_getElem? (i := 51) rfl)
theorem dX8_laysCycle_92 : decode cX8_laysCycle 92 = .ok (.if_icmp .ne 7, 3) := DX8_laysCycle (92, .if_icmp .ne 7, 3) (List.mem_of_getElem? (i := 52) rfl)
theorem dX8_laysCycle_95 : decode cX8_laysCycle 95 = .ok (.iconst 3, 1) := DX8_laysCycle (95, .iconst 3, 1) (List.mem_of_getElem? (i := 53) rfl)
theorem dX8_laysCycle_96 : decode cX8_laysCycle 96 = .ok (.goto 4, 3) := DX8_laysCycle (96, .goto 4, 3) (List.mem_of_getElem? (i := 54) rfl)
theorem dX8_laysCycle_99 : decode cX8_laysCycle 99 = .ok (.iconst 4, 1) := DX8_laysCycle (99, .iconst 4, 1) (List.mem_of_getElem? (i := 55) rfl)
theorem dX8_laysCycle_100 : decode cX8_laysCycle 100 = .ok (.invokevirtual 178, 3) := DX8_laysCycle (100, .invokevirtual 178, 3) (List.mem_of_getElem? (i := 56) rfl)
theorem dX8_laysCycle_103 : decode cX8_laysCycle 103 = .ok (.return_, 1) := DX8_laysCycle (103, .return_, 1) (List.mem_of_getElem? (i := 57) rfl)
theorem dX8_laysCycle_104 : decode cX8_laysCycle 104 = .ok (.aload_n 0, 1) := DX8_laysCycle (104, .aload_n 0, 1) (List.mem_of_getElem? (i := 58) rfl)
theorem dX8_laysCycle_105 : decode cX8_laysCycle 105 = .ok (.getfield 14, 3) := DX8_laysCycle (105, .getfield 14, 3) (List.mem_of_getElem? (i := 59) rfl)
theorem dX8_laysCycle_108 : decode cX8_laysCycle 108 = .ok (.iload_n 2, 1) := DX8_laysCycle (108, .iload_n 2, 1) (List.mem_of_getElem? (i := 60) rfl)
theorem dX8_laysCycle_109 : decode cX8_laysCycle 109 = .ok (.iaload, 1) := DX8_laysCycle (109, .iaload, 1) (List.mem_of_getElem? (i := 61) rfl)
theorem dX8_laysCycle_110 : decode cX8_laysCycle 110 = .ok (.iconst 1, 1) := DX8_laysCycle (110, .iconst 1, 1) (List.mem_of_getElem? (i := 62) rfl)
theorem dX8_laysCycle_111 : decode cX8_laysCycle 111 = .ok (.if_icmp .gt 19, 3) := DX8_laysCycle (111, .if_icmp .gt 19, 3) (List.mem_of_getElem? (i := 63) rfl)
theorem dX8_laysCycle_114 : decode cX8_laysCycle 114 = .ok (.aload_n 0, 1) := DX8_laysCycle (114, .aload_n 0, 1) (List.mem_of_getElem? (i := 64) rfl)
theorem dX8_laysCycle_115 : decode cX8_laysCycle 115 = .ok (.iload_n 2, 1) := DX8_laysCycle (115, .iload_n 2, 1) (List.mem_of_getElem? (i := 65) rfl)
theorem dX8_laysCycle_116 : decode cX8_laysCycle 116 = .ok (.iload_n 2, 1) := DX8_laysCycle (116, .iload_n 2, 1) (List.mem_of_getElem? (i := 66) rfl)
theorem dX8_laysCycle_117 : decode cX8_laysCycle 117 = .ok (.invokevirtual 151, 3) := DX8_laysCycle (117, .invokevirtual 151, 3) (List.mem_of_getElem? (i := 67) rfl)
theorem dX8_laysCycle_120 : decode cX8_laysCycle 120 = .ok (.aload_n 0, 1) := DX8_laysCycle (120, .aload_n 0, 1) (List.mem_of_getElem? (i := 68) rfl)
theorem dX8_laysCycle_121 : decode cX8_laysCycle 121 = .ok (.getfield 36, 3) := DX8_laysCycle (121, .getfield 36, 3) (List.mem_of_getElem? (i := 69) rfl)
theorem dX8_laysCycle_124 : decode cX8_laysCycle 124 = .ok (.iload_n 2, 1) := DX8_laysCycle (124, .iload_n 2, 1) (List.mem_of_getElem? (i := 70) rfl)
theorem dX8_laysCycle_125 : decode cX8_laysCycle 125 = .ok (.iconst 0, 1) := DX8_laysCycle (125, .iconst 0, 1) (List.mem_of_getElem? (i := 71) rfl)
theorem dX8_laysCycle_126 : decode cX8_laysCycle 126 = .ok (.iastore, 1) := DX8_laysCycle (126, .iastore, 1) (List.mem_of_getElem? (i := 72) rfl)
theorem dX8_laysCycle_127 : decode cX8_laysCycle 127 = .ok (.goto 74, 3) := DX8_laysCycle (127, .goto 74, 3) (List.mem_of_getElem? (i := 73) rfl)
theorem dX8_laysCycle_130 : decode cX8_laysCycle 130 = .ok (.aload_n 0, 1) := DX8_laysCycle (130, .aload_n 0, 1) (List.mem_of_getElem? (i := 74) rfl)
theorem dX8_laysCycle_131 : decode cX8_laysCycle 131 = .ok (.getfield 14, 3) := DX8_laysCycle (131, .getfield 14, 3) (List.mem_of_getElem? (i := 75) rfl)
theorem dX8_laysCycle_134 : decode cX8_laysCycle 134 = .ok (.iload_n 2, 1) := DX8_laysCycle (134, .iload_n 2, 1) (List.mem_of_getElem? (i := 76) rfl)
theorem dX8_laysCycle_135 : decode cX8_laysCycle 135 = .ok (.iaload, 1) := DX8_laysCycle (135, .iaload, 1) (List.mem_of_getElem? (i := 77) rfl)
theorem dX8_laysCycle_136 : decode cX8_laysCycle 136 = .ok (.iconst 5, 1) := DX8_laysCycle (136, .iconst 5, 1) (List.mem_of_getElem? (i := 78) rfl)
theorem dX8_laysCycle_137 : decode cX8_laysCycle 137 = .ok (.if_icmp .eq 11, 3) := DX8_laysCycle (137, .if_icmp .eq 11, 3) (List.mem_of_getElem? (i := 79) rfl)
theorem dX8_laysCycle_140 : decode cX8_laysCycle 140 = .ok (.aload_n 0, 1) := DX8_laysCycle (140, .aload_n 0, 1) (List.mem_of_getElem? (i := 80) rfl)
theorem dX8_laysCycle_141 : decode cX8_laysCycle 141 = .ok (.iload_n 2, 1) := DX8_laysCycle (141, .iload_n 2, 1) (List.mem_of_getElem? (i := 81) rfl)
theorem dX8_laysCycle_142 : decode cX8_laysCycle 142 = .ok (.invokevirtual 181, 3) := DX8_laysCycle (142, .invokevirtual 181, 3) (List.mem_of_getElem? (i := 82) rfl)
theorem dX8_laysCycle_145 : decode cX8_laysCycle 145 = .ok (.goto 56, 3) := DX8_laysCycle (145, .goto 56, 3) (List.mem_of_getElem? (i := 83) rfl)
theorem dX8_laysCycle_148 : decode cX8_laysCycle 148 = .ok (.aload_n 0, 1) := DX8_laysCycle (148, .aload_n 0, 1) (List.mem_of_getElem? (i := 84) rfl)
theorem dX8_laysCycle_149 : decode cX8_laysCycle 149 = .ok (.getfield 33, 3) := DX8_laysCycle (149, .getfield 33, 3) (List.mem_of_getElem? (i := 85) rfl)
theorem dX8_laysCycle_152 : decode cX8_laysCycle 152 = .ok (.iload_n 2, 1) := DX8_laysCycle (152, .iload_n 2, 1) (List.mem_of_getElem? (i := 86) rfl)
theorem dX8_laysCycle_153 : decode cX8_laysCycle 153 = .ok (.iaload, 1) := DX8_laysCycle (153, .iaload, 1) (List.mem_of_getElem? (i := 87) rfl)
theorem dX8_laysCycle_154 : decode cX8_laysCycle 154 = .ok (.iload_n 2, 1) := DX8_laysCycle (154, .iload_n 2, 1) (List.mem_of_getElem? (i := 88) rfl)
theorem dX8_laysCycle_155 : decode cX8_laysCycle 155 = .ok (.invokestatic 102, 3) := DX8_laysCycle (155, .invokestatic 102, 3) (List.mem_of_getElem? (i := 89) rfl)
theorem dX8_laysCycle_158 : decode cX8_laysCycle 158 = .ok (.ifCond .ne 28, 3) := DX8_laysCycle (158, .ifCond .ne 28, 3) (List.mem_of_getElem? (i := 90) rfl)
theorem dX8_laysCycle_161 : decode cX8_laysCycle 161 = .ok (.aload_n 0, 1) := DX8_laysCycle (161, .aload_n 0, 1) (List.mem_of_getElem? (i := 91) rfl)
theorem dX8_laysCycle_162 : decode cX8_laysCycle 162 = .ok (.iload_n 2, 1) := DX8_laysCycle (162, .iload_n 2, 1) (List.mem_of_getElem? (i := 92) rfl)
theorem dX8_laysCycle_163 : decode cX8_laysCycle 163 = .ok (.aload_n 0, 1) := DX8_laysCycle (163, .aload_n 0, 1) (List.mem_of_getElem? (i := 93) rfl)
theorem dX8_laysCycle_164 : decode cX8_laysCycle 164 = .ok (.getfield 20, 3) := DX8_laysCycle (164, .getfield 20, 3) (List.mem_of_getElem? (i := 94) rfl)
theorem dX8_laysCycle_167 : decode cX8_laysCycle 167 = .ok (.iload_n 2, 1) := DX8_laysCycle (167, .iload_n 2, 1) (List.mem_of_getElem? (i := 95) rfl)
theorem dX8_laysCycle_168 : decode cX8_laysCycle 168 = .ok (.iaload, 1) := DX8_laysCycle (168, .iaload, 1) (List.mem_of_getElem? (i := 96) rfl)
theorem dX8_laysCycle_169 : decode cX8_laysCycle 169 = .ok (.aload_n 0, 1) := DX8_laysCycle (169, .aload_n 0, 1) (List.mem_of_getElem? (i := 97) rfl)
theorem dX8_laysCycle_170 : decode cX8_laysCycle 170 = .ok (.getfield 36, 3) := DX8_laysCycle (170, .getfield 36, 3) (List.mem_of_getElem? (i := 98) rfl)
theorem dX8_laysCycle_173 : decode cX8_laysCycle 173 = .ok (.aload_n 0, 1) := DX8_laysCycle (173, .aload_n 0, 1) (List.mem_of_getElem? (i := 99) rfl)
theorem dX8_laysCycle_174 : decode cX8_laysCycle 174 = .ok (.getfield 20, 3) := DX8_laysCycle (174, .getfield 20, 3) (List.mem_of_getElem? (i := 100) rfl)
theorem dX8_laysCycle_177 : decode cX8_laysCycle 177 = .ok (.iload_n 2, 1) := DX8_laysCycle (177, .iload_n 2, 1) (List.mem_of_getElem? (i := 101) rfl)
theorem dX8_laysCycle_178 : decode cX8_laysCycle 178 = .ok (.iaload, 1) := DX8_laysCycle (178, .iaload, 1) (List.mem_of_getElem? (i := 102) rfl)
theorem dX8_laysCycle_179 : decode cX8_laysCycle 179 = .ok (.iaload, 1) := DX8_laysCycle (179, .iaload, 1) (List.mem_of_getElem? (i := 103) rfl)
theorem dX8_laysCycle_180 : decode cX8_laysCycle 180 = .ok (.invokevirtual 174, 3) := DX8_laysCycle (180, .invokevirtual 174, 3) (List.mem_of_getElem? (i := 104) rfl)
theorem dX8_laysCycle_183 : decode cX8_laysCycle 183 = .ok (.goto 18, 3) := DX8_laysCycle (183, .goto 18, 3) (List.mem_of_getElem? (i := 105) rfl)
theorem dX8_laysCycle_186 : decode cX8_laysCycle 186 = .ok (.aload_n 0, 1) := DX8_laysCycle (186, .aload_n 0, 1) (List.mem_of_getElem? (i := 106) rfl)
theorem dX8_laysCycle_187 : decode cX8_laysCycle 187 = .ok (.iload_n 1, 1) := DX8_laysCycle (187, .iload_n 1, 1) (List.mem_of_getElem? (i := 107) rfl)
theorem dX8_laysCycle_188 : decode cX8_laysCycle 188 = .ok (.iload_n 2, 1) := DX8_laysCycle (188, .iload_n 2, 1) (List.mem_of_getElem? (i := 108) rfl)
theorem dX8_laysCycle_189 : decode cX8_laysCycle 189 = .ok (.invokevirtual 184, 3) := DX8_laysCycle (189, .invokevirtual 184, 3) (List.mem_of_getElem? (i := 109) rfl)
theorem dX8_laysCycle_192 : decode cX8_laysCycle 192 = .ok (.ifCond .ne 9, 3) := DX8_laysCycle (192, .ifCond .ne 9, 3) (List.mem_of_getElem? (i := 110) rfl)
theorem dX8_laysCycle_195 : decode cX8_laysCycle 195 = .ok (.aload_n 0, 1) := DX8_laysCycle (195, .aload_n 0, 1) (List.mem_of_getElem? (i := 111) rfl)
theorem dX8_laysCycle_196 : decode cX8_laysCycle 196 = .ok (.iload_n 1, 1) := DX8_laysCycle (196, .iload_n 1, 1) (List.mem_of_getElem? (i := 112) rfl)
theorem dX8_laysCycle_197 : decode cX8_laysCycle 197 = .ok (.iconst 4, 1) := DX8_laysCycle (197, .iconst 4, 1) (List.mem_of_getElem? (i := 113) rfl)
theorem dX8_laysCycle_198 : decode cX8_laysCycle 198 = .ok (.invokevirtual 178, 3) := DX8_laysCycle (198, .invokevirtual 178, 3) (List.mem_of_getElem? (i := 114) rfl)
theorem dX8_laysCycle_201 : decode cX8_laysCycle 201 = .ok (.iconst 0, 1) := DX8_laysCycle (201, .iconst 0, 1) (List.mem_of_getElem? (i := 115) rfl)
theorem dX8_laysCycle_202 : decode cX8_laysCycle 202 = .ok (.istore 5, 2) := DX8_laysCycle (202, .istore 5, 2) (List.mem_of_getElem? (i := 116) rfl)
theorem dX8_laysCycle_204 : decode cX8_laysCycle 204 = .ok (.iload 5, 2) := DX8_laysCycle (204, .iload 5, 2) (List.mem_of_getElem? (i := 117) rfl)
theorem dX8_laysCycle_206 : decode cX8_laysCycle 206 = .ok (.aload_n 0, 1) := DX8_laysCycle (206, .aload_n 0, 1) (List.mem_of_getElem? (i := 118) rfl)
theorem dX8_laysCycle_207 : decode cX8_laysCycle 207 = .ok (.getfield 72, 3) := DX8_laysCycle (207, .getfield 72, 3) (List.mem_of_getElem? (i := 119) rfl)
theorem dX8_laysCycle_210 : decode cX8_laysCycle 210 = .ok (.if_icmp .ge 66, 3) := DX8_laysCycle (210, .if_icmp .ge 66, 3) (List.mem_of_getElem? (i := 120) rfl)
theorem dX8_laysCycle_213 : decode cX8_laysCycle 213 = .ok (.iload_n 1, 1) := DX8_laysCycle (213, .iload_n 1, 1) (List.mem_of_getElem? (i := 121) rfl)
theorem dX8_laysCycle_214 : decode cX8_laysCycle 214 = .ok (.iload 5, 2) := DX8_laysCycle (214, .iload 5, 2) (List.mem_of_getElem? (i := 122) rfl)
theorem dX8_laysCycle_216 : decode cX8_laysCycle 216 = .ok (.invokestatic 102, 3) := DX8_laysCycle (216, .invokestatic 102, 3) (List.mem_of_getElem? (i := 123) rfl)
theorem dX8_laysCycle_219 : decode cX8_laysCycle 219 = .ok (.ifCond .eq 51, 3) := DX8_laysCycle (219, .ifCond .eq 51, 3) (List.mem_of_getElem? (i := 124) rfl)
theorem dX8_laysCycle_222 : decode cX8_laysCycle 222 = .ok (.aload_n 0, 1) := DX8_laysCycle (222, .aload_n 0, 1) (List.mem_of_getElem? (i := 125) rfl)
theorem dX8_laysCycle_223 : decode cX8_laysCycle 223 = .ok (.getfield 39, 3) := DX8_laysCycle (223, .getfield 39, 3) (List.mem_of_getElem? (i := 126) rfl)
theorem dX8_laysCycle_226 : decode cX8_laysCycle 226 = .ok (.iload 5, 2) := DX8_laysCycle (226, .iload 5, 2) (List.mem_of_getElem? (i := 127) rfl)
theorem dX8_laysCycle_228 : decode cX8_laysCycle 228 = .ok (.aload_n 0, 1) := DX8_laysCycle (228, .aload_n 0, 1) (List.mem_of_getElem? (i := 128) rfl)
theorem dX8_laysCycle_229 : decode cX8_laysCycle 229 = .ok (.iload 5, 2) := DX8_laysCycle (229, .iload 5, 2) (List.mem_of_getElem? (i := 129) rfl)
theorem dX8_laysCycle_231 : decode cX8_laysCycle 231 = .ok (.invokevirtual 159, 3) := DX8_laysCycle (231, .invokevirtual 159, 3) (List.mem_of_getElem? (i := 130) rfl)
theorem dX8_laysCycle_234 : decode cX8_laysCycle 234 = .ok (.ifCond .ne 7, 3) := DX8_laysCycle (234, .ifCond .ne 7, 3) (List.mem_of_getElem? (i := 131) rfl)
theorem dX8_laysCycle_237 : decode cX8_laysCycle 237 = .ok (.iconst 4, 1) := DX8_laysCycle (237, .iconst 4, 1) (List.mem_of_getElem? (i := 132) rfl)
theorem dX8_laysCycle_238 : decode cX8_laysCycle 238 = .ok (.goto 31, 3) := DX8_laysCycle (238, .goto 31, 3) (List.mem_of_getElem? (i := 133) rfl)
theorem dX8_laysCycle_241 : decode cX8_laysCycle 241 = .ok (.aload_n 0, 1) := DX8_laysCycle (241, .aload_n 0, 1) (List.mem_of_getElem? (i := 134) rfl)
theorem dX8_laysCycle_242 : decode cX8_laysCycle 242 = .ok (.getfield 36, 3) := DX8_laysCycle (242, .getfield 36, 3) (List.mem_of_getElem? (i := 135) rfl)
theorem dX8_laysCycle_245 : decode cX8_laysCycle 245 = .ok (.iload 5, 2) := DX8_laysCycle (245, .iload 5, 2) (List.mem_of_getElem? (i := 136) rfl)
theorem dX8_laysCycle_247 : decode cX8_laysCycle 247 = .ok (.iaload, 1) := DX8_laysCycle (247, .iaload, 1) (List.mem_of_getElem? (i := 137) rfl)
theorem dX8_laysCycle_248 : decode cX8_laysCycle 248 = .ok (.ifCond .le 7, 3) := DX8_laysCycle (248, .ifCond .le 7, 3) (List.mem_of_getElem? (i := 138) rfl)
theorem dX8_laysCycle_251 : decode cX8_laysCycle 251 = .ok (.iconst 2, 1) := DX8_laysCycle (251, .iconst 2, 1) (List.mem_of_getElem? (i := 139) rfl)
theorem dX8_laysCycle_252 : decode cX8_laysCycle 252 = .ok (.goto 17, 3) := DX8_laysCycle (252, .goto 17, 3) (List.mem_of_getElem? (i := 140) rfl)
theorem dX8_laysCycle_255 : decode cX8_laysCycle 255 = .ok (.aload_n 0, 1) := DX8_laysCycle (255, .aload_n 0, 1) (List.mem_of_getElem? (i := 141) rfl)
theorem dX8_laysCycle_256 : decode cX8_laysCycle 256 = .ok (.iload 5, 2) := DX8_laysCycle (256, .iload 5, 2) (List.mem_of_getElem? (i := 142) rfl)
theorem dX8_laysCycle_258 : decode cX8_laysCycle 258 = .ok (.invokevirtual 124, 3) := DX8_laysCycle (258, .invokevirtual 124, 3) (List.mem_of_getElem? (i := 143) rfl)
theorem dX8_laysCycle_261 : decode cX8_laysCycle 261 = .ok (.ifCond .le 7, 3) := DX8_laysCycle (261, .ifCond .le 7, 3) (List.mem_of_getElem? (i := 144) rfl)
theorem dX8_laysCycle_264 : decode cX8_laysCycle 264 = .ok (.iconst 1, 1) := DX8_laysCycle (264, .iconst 1, 1) (List.mem_of_getElem? (i := 145) rfl)
theorem dX8_laysCycle_265 : decode cX8_laysCycle 265 = .ok (.goto 4, 3) := DX8_laysCycle (265, .goto 4, 3) (List.mem_of_getElem? (i := 146) rfl)
theorem dX8_laysCycle_268 : decode cX8_laysCycle 268 = .ok (.iconst 0, 1) := DX8_laysCycle (268, .iconst 0, 1) (List.mem_of_getElem? (i := 147) rfl)
theorem dX8_laysCycle_269 : decode cX8_laysCycle 269 = .ok (.iastore, 1) := DX8_laysCycle (269, .iastore, 1) (List.mem_of_getElem? (i := 148) rfl)
theorem dX8_laysCycle_270 : decode cX8_laysCycle 270 = .ok (.iinc 5 1, 3) := DX8_laysCycle (270, .iinc 5 1, 3) (List.mem_of_getElem? (i := 149) rfl)
theorem dX8_laysCycle_273 : decode cX8_laysCycle 273 = .ok (.goto (-69), 3) := DX8_laysCycle (273, .goto (-69), 3) (List.mem_of_getElem? (i := 150) rfl)
theorem dX8_laysCycle_276 : decode cX8_laysCycle 276 = .ok (.return_, 1) := DX8_laysCycle (276, .return_, 1) (List.mem_of_getElem? (i := 151) rfl)
noncomputable def fX8_laysCycle_L76 (l1 : Int32) (l2 : Int32) (l3 : Int32) (l4 : Int32) (l5 : Int32) (σ : Mem) : Option ((Int32 × Int32 × Int32 × Int32 × Mem) ⊕ (Int32 × Int32 × Int32 × Mem)) :=
  some (.inl (l2, l3, l4, l5 + 1, σ))
set_option maxHeartbeats 4000000 in
set_option maxRecDepth 100000 in
theorem tX8_laysCycle_L76 {E : Gx} {cI : ClassId} {ad : Nat → Nat} (C : Cx E rmX8_laysCycle cI layM ad 6 RX8 cX8_laysCycle) {out : Mem} (K0 : KV E rmX8_laysCycle cI layM ad 6 cX8_laysCycle out) {l1 : Int32} {l2 : Int32} {l3 : Int32} {l4 : Int32} {l5 : Int32} {σ : Mem} {res : (Int32 × Int32 × Int32 × Int32 × Mem) ⊕ (Int32 × Int32 × Int32 × Mem)} (h : fX8_laysCycle_L76 l1 l2 l3 l4 l5 σ = some res) (K : Sum.elim (fun a => G E rmX8_laysCycle cI layM ad 6 10 [(0, .ref (ad 0)), (1, .int l1), (2, .int a.1), (3, .int a.2.1), (4, .int a.2.2.1), (5, .int a.2.2.2.1)] [] a.2.2.2.2) (fun b => G E rmX8_laysCycle cI layM ad 6 82 [(0, .ref (ad 0)), (1, .int l1), (2, .int b.1), (3, .int b.2.1), (4, .int b.2.2.1)] [] b.2.2.2) res) : G E rmX8_laysCycle cI layM ad 6 76 [(0, .ref (ad 0)), (1, .int l1), (2, .int l2), (3, .int l3), (4, .int l4), (5, .int l5)] [] σ := by
  unfold fX8_laysCycle_L76 at h
  refine g_iinc 79 [(5, .int (l5 + 1)), (0, .ref (ad 0)), (1, .int l1), (2, .int l2), (3, .int l3), (4, .int l4)] C dX8_laysCycle_76 (j := 5) rfl (by rfl) (by decide) rfl rfl ?_
  refine g_goto 10 C dX8_laysCycle_79 (by decide) ?_
  have hh := end_inl h K
  exact g_sub [1, 2, 3, 4, 5, 0] (hh) rfl
noncomputable def fX8_laysCycle_L75 (l1 : Int32) (l3 : Int32) (l4 : Int32) (l5 : Int32) (s0 : Int32) (σ : Mem) : Option ((Int32 × Int32 × Int32 × Int32 × Mem) ⊕ (Int32 × Int32 × Int32 × Mem)) :=
  fX8_laysCycle_L76 l1 s0 l3 l4 l5 σ
set_option maxHeartbeats 4000000 in
set_option maxRecDepth 100000 in
theorem tX8_laysCycle_L75 {E : Gx} {cI : ClassId} {ad : Nat → Nat} (C : Cx E rmX8_laysCycle cI layM ad 6 RX8 cX8_laysCycle) {out : Mem} (K0 : KV E rmX8_laysCycle cI layM ad 6 cX8_laysCycle out) {l1 : Int32} {l3 : Int32} {l4 : Int32} {l5 : Int32} {s0 : Int32} {σ : Mem} {res : (Int32 × Int32 × Int32 × Int32 × Mem) ⊕ (Int32 × Int32 × Int32 × Mem)} (h : fX8_laysCycle_L75 l1 l3 l4 l5 s0 σ = some res) (K : Sum.elim (fun a => G E rmX8_laysCycle cI layM ad 6 10 [(0, .ref (ad 0)), (1, .int l1), (2, .int a.1), (3, .int a.2.1), (4, .int a.2.2.1), (5, .int a.2.2.2.1)] [] a.2.2.2.2) (fun b => G E rmX8_laysCycle cI layM ad 6 82 [(0, .ref (ad 0)), (1, .int l1), (2, .int b.1), (3, .int b.2.1), (4, .int b.2.2.1)] [] b.2.2.2) res) : G E rmX8_laysCycle cI layM ad 6 75 [(0, .ref (ad 0)), (1, .int l1), (3, .int l3), (4, .int l4), (5, .int l5)] [.int s0] σ := by
  unfold fX8_laysCycle_L75 at h
  refine g_istore_n 76 [(2, .int s0), (0, .ref (ad 0)), (1, .int l1), (3, .int l3), (4, .int l4), (5, .int l5)] C dX8_laysCycle_75 rfl (by decide) rfl rfl ?_
  exact g_sub [1, 2, 0, 3, 4, 5] (tX8_laysCycle_L76 (l1 := l1) (l2 := s0) (l3 := l3) (l4 := l4) (l5 := l5) (σ := σ) C K0 h K) rfl
noncomputable def fX8_laysCycle_L69 (l1 : Int32) (l3 : Int32) (l4 : Int32) (l5 : Int32) (σ : Mem) : Option ((Int32 × Int32 × Int32 × Int32 × Mem) ⊕ (Int32 × Int32 × Int32 × Mem)) :=
  fX8_laysCycle_L75 l1 l3 l4 l5 l5 σ
set_option maxHeartbeats 4000000 in
set_option maxRecDepth 100000 in
theorem tX8_laysCycle_L69 {E : Gx} {cI : ClassId} {ad : Nat → Nat} (C : Cx E rmX8_laysCycle cI layM ad 6 RX8 cX8_laysCycle) {out : Mem} (K0 : KV E rmX8_laysCycle cI layM ad 6 cX8_laysCycle out) {l1 : Int32} {l3 : Int32} {l4 : Int32} {l5 : Int32} {σ : Mem} {res : (Int32 × Int32 × Int32 × Int32 × Mem) ⊕ (Int32 × Int32 × Int32 × Mem)} (h : fX8_laysCycle_L69 l1 l3 l4 l5 σ = some res) (K : Sum.elim (fun a => G E rmX8_laysCycle cI layM ad 6 10 [(0, .ref (ad 0)), (1, .int l1), (2, .int a.1), (3, .int a.2.1), (4, .int a.2.2.1), (5, .int a.2.2.2.1)] [] a.2.2.2.2) (fun b => G E rmX8_laysCycle cI layM ad 6 82 [(0, .ref (ad 0)), (1, .int l1), (2, .int b.1), (3, .int b.2.1), (4, .int b.2.2.1)] [] b.2.2.2) res) : G E rmX8_laysCycle cI layM ad 6 69 [(0, .ref (ad 0)), (1, .int l1), (3, .int l3), (4, .int l4), (5, .int l5)] [] σ := by
  unfold fX8_laysCycle_L69 at h
  refine g_iload 71 C dX8_laysCycle_69 (j := 4) rfl rfl ?_
  refine g_goto 75 C dX8_laysCycle_71 (by decide) ?_
  exact tX8_laysCycle_L75 (l1 := l1) (l3 := l3) (l4 := l4) (l5 := l5) (s0 := l5) (σ := σ) C K0 h K
noncomputable def fX8_laysCycle_L51 (l1 : Int32) (l2 : Int32) (l4 : Int32) (l5 : Int32) (s0 : Int32) (s1 : Int32) (σ : Mem) : Option ((Int32 × Int32 × Int32 × Int32 × Mem) ⊕ (Int32 × Int32 × Int32 × Mem)) :=
  chk (inb l5 30) <|
  if (σ 2 l5.toNatClampNeg) = 5 then
    fX8_laysCycle_L69 l1 (s0 + s1) l4 l5 σ
  else
    if l2 = (-1) then
      fX8_laysCycle_L69 l1 (s0 + s1) l4 l5 σ
    else
      fX8_laysCycle_L75 l1 (s0 + s1) l4 l5 l2 σ
set_option maxHeartbeats 4000000 in
set_option maxRecDepth 100000 in
theorem tX8_laysCycle_L51 {E : Gx} {cI : ClassId} {ad : Nat → Nat} (C : Cx E rmX8_laysCycle cI layM ad 6 RX8 cX8_laysCycle) {out : Mem} (K0 : KV E rmX8_laysCycle cI layM ad 6 cX8_laysCycle out) {l1 : Int32} {l2 : Int32} {l4 : Int32} {l5 : Int32} {s0 : Int32} {s1 : Int32} {σ : Mem} {res : (Int32 × Int32 × Int32 × Int32 × Mem) ⊕ (Int32 × Int32 × Int32 × Mem)} (h : fX8_laysCycle_L51 l1 l2 l4 l5 s0 s1 σ = some res) (K : Sum.elim (fun a => G E rmX8_laysCycle cI layM ad 6 10 [(0, .ref (ad 0)), (1, .int l1), (2, .int a.1), (3, .int a.2.1), (4, .int a.2.2.1), (5, .int a.2.2.2.1)] [] a.2.2.2.2) (fun b => G E rmX8_laysCycle cI layM ad 6 82 [(0, .ref (ad 0)), (1, .int l1), (2, .int b.1), (3, .int b.2.1), (4, .int b.2.2.1)] [] b.2.2.2) res) : G E rmX8_laysCycle cI layM ad 6 51 [(0, .ref (ad 0)), (1, .int l1), (2, .int l2), (4, .int l4), (5, .int l5)] [.int s1, .int s0] σ := by
  unfold fX8_laysCycle_L51 at h
  refine g_iadd 52 C dX8_laysCycle_51 rfl ?_
  refine g_istore_n 53 [(3, .int (s0 + s1)), (0, .ref (ad 0)), (1, .int l1), (2, .int l2), (4, .int l4), (5, .int l5)] C dX8_laysCycle_52 rfl (by decide) rfl rfl ?_
  refine g_aload_n 54 C dX8_laysCycle_53 rfl (j := 1) rfl rfl ?_
  refine g_getr 57 (j := 3) C rfl rfl wu_X8 (by decide) wf_X8_14 rfl dX8_laysCycle_54 rfl ?_
  refine g_iload 59 C dX8_laysCycle_57 (j := 5) rfl rfl ?_
  refine g_iald 60 C rfl dX8_laysCycle_59 rfl h (fun h => ?_)
  refine g_iconst 61 (v := 5) C dX8_laysCycle_60 (by decide) rfl ?_
  refine g_icmp_eq 69 64 C dX8_laysCycle_61 (by decide) rfl h (fun h => ?_) (fun h => ?_)
  · exact g_sub [1, 2, 0, 4, 5] (tX8_laysCycle_L69 (l1 := l1) (l3 := (s0 + s1)) (l4 := l4) (l5 := l5) (σ := σ) C K0 h K) rfl
  · refine g_iload_n 65 C dX8_laysCycle_64 rfl (j := 3) rfl rfl ?_
    refine g_iconst 66 (v := (-1)) C dX8_laysCycle_65 (by decide) rfl ?_
    refine g_icmp_ne 74 69 C dX8_laysCycle_66 (by decide) rfl h (fun h => ?_) (fun h => ?_)
    · exact g_sub [1, 2, 0, 4, 5] (tX8_laysCycle_L69 (l1 := l1) (l3 := (s0 + s1)) (l4 := l4) (l5 := l5) (σ := σ) C K0 h K) rfl
    · refine g_iload_n 75 C dX8_laysCycle_74 rfl (j := 3) rfl rfl ?_
      exact g_sub [1, 2, 0, 4, 5] (tX8_laysCycle_L75 (l1 := l1) (l3 := (s0 + s1)) (l4 := l4) (l5 := l5) (s0 := l2) (σ := σ) C K0 h K) rfl
noncomputable def fX8_laysCycle_B10 (l1 : Int32) (l2 : Int32) (l3 : Int32) (l4 : Int32) (l5 : Int32) (σ : Mem) : Option ((Int32 × Int32 × Int32 × Int32 × Mem) ⊕ (Int32 × Int32 × Int32 × Mem)) :=
  if (σ 0 6) ≤ l5 then
    some (.inr (l2, l3, l4, σ))
  else
    (fX8_has l1 l5 σ).bind fun o1 =>
    if o1.1 = 0 then
      fX8_laysCycle_L76 l1 l2 l3 l4 l5 o1.2
    else
      chk (inb l5 30) <|
      if (o1.2 2 l5.toNatClampNeg) = 5 then
        fX8_laysCycle_L51 l1 l2 (l4 + 1) l5 l3 1 o1.2
      else
        fX8_laysCycle_L51 l1 l2 (l4 + 1) l5 l3 0 o1.2
set_option maxHeartbeats 4000000 in
set_option maxRecDepth 100000 in
theorem tX8_laysCycle_B10 {E : Gx} {cI : ClassId} {ad : Nat → Nat} (C : Cx E rmX8_laysCycle cI layM ad 6 RX8 cX8_laysCycle) {out : Mem} (K0 : KV E rmX8_laysCycle cI layM ad 6 cX8_laysCycle out) {l1 : Int32} {l2 : Int32} {l3 : Int32} {l4 : Int32} {l5 : Int32} {σ : Mem} {res : (Int32 × Int32 × Int32 × Int32 × Mem) ⊕ (Int32 × Int32 × Int32 × Mem)} (h : fX8_laysCycle_B10 l1 l2 l3 l4 l5 σ = some res) (K : Sum.elim (fun a => G E rmX8_laysCycle cI layM ad 6 10 [(0, .ref (ad 0)), (1, .int l1), (2, .int a.1), (3, .int a.2.1), (4, .int a.2.2.1), (5, .int a.2.2.2.1)] [] a.2.2.2.2) (fun b => G E rmX8_laysCycle cI layM ad 6 82 [(0, .ref (ad 0)), (1, .int l1), (2, .int b.1), (3, .int b.2.1), (4, .int b.2.2.1)] [] b.2.2.2) res) : G E rmX8_laysCycle cI layM ad 6 10 [(0, .ref (ad 0)), (1, .int l1), (2, .int l2), (3, .int l3), (4, .int l4), (5, .int l5)] [] σ := by
  unfold fX8_laysCycle_B10 at h
  refine g_iload 12 C dX8_laysCycle_10 (j := 5) rfl rfl ?_
  refine g_aload_n 13 C dX8_laysCycle_12 rfl (j := 0) rfl rfl ?_
  refine g_geti 16 (j := 6) C rfl rfl wu_X8 (by decide) wf_X8_72 rfl dX8_laysCycle_13 rfl ?_
  refine g_icmp_ge 82 19 C dX8_laysCycle_16 (by decide) rfl h (fun h => ?_) (fun h => ?_)
  · have hh := end_inr h K
    exact g_sub [0, 1, 2, 3, 4] (hh) rfl
  · refine g_iload_n 20 C dX8_laysCycle_19 rfl (j := 1) rfl rfl ?_
    refine g_iload 22 C dX8_laysCycle_20 (j := 5) rfl rfl ?_
    refine g_csi 25 C (As := [.int l1, .int l5]) (fun _ h => mX8_has (a1 := l1) (a2 := l5) (σ := σ) h) wl_X8_102 ws_X8_has wc_X8_has wn_X8 qX8_has rfl rfl ⟨Nat.le_of_ble_eq_true rfl, Nat.le_of_ble_eq_true rfl⟩ rfl rfl (Nat.le_of_ble_eq_true rfl) dX8_laysCycle_22 rfl h (fun o1 h => ?_)
    refine g_if_ne 31 28 C dX8_laysCycle_25 (by decide) rfl h (fun h => ?_) (fun h => ?_)
    · refine g_goto 76 C dX8_laysCycle_28 (by decide) ?_
      exact tX8_laysCycle_L76 (l1 := l1) (l2 := l2) (l3 := l3) (l4 := l4) (l5 := l5) (σ := o1.2) C K0 h K
    · refine g_iinc 34 [(4, .int (l4 + 1)), (0, .ref (ad 0)), (1, .int l1), (2, .int l2), (3, .int l3), (5, .int l5)] C dX8_laysCycle_31 (j := 4) rfl (by rfl) (by decide) rfl rfl ?_
      refine g_iload_n 35 C dX8_laysCycle_34 rfl (j := 4) rfl rfl ?_
      refine g_aload_n 36 C dX8_laysCycle_35 rfl (j := 1) rfl rfl ?_
      refine g_getr 39 (j := 3) C rfl rfl wu_X8 (by decide) wf_X8_14 rfl dX8_laysCycle_36 rfl ?_
      refine g_iload 41 C dX8_laysCycle_39 (j := 5) rfl rfl ?_
      refine g_iald 42 C rfl dX8_laysCycle_41 rfl h (fun h => ?_)
      refine g_iconst 43 (v := 5) C dX8_laysCycle_42 (by decide) rfl ?_
      refine g_icmp_ne 50 46 C dX8_laysCycle_43 (by decide) rfl h (fun h => ?_) (fun h => ?_)
      · refine g_iconst 47 (v := 1) C dX8_laysCycle_46 (by decide) rfl ?_
        refine g_goto 51 C dX8_laysCycle_47 (by decide) ?_
        exact g_sub [1, 2, 3, 0, 5] (tX8_laysCycle_L51 (l1 := l1) (l2 := l2) (l4 := (l4 + 1)) (l5 := l5) (s0 := l3) (s1 := 1) (σ := o1.2) C K0 h K) rfl
      · refine g_iconst 51 (v := 0) C dX8_laysCycle_50 (by decide) rfl ?_
        exact g_sub [1, 2, 3, 0, 5] (tX8_laysCycle_L51 (l1 := l1) (l2 := l2) (l4 := (l4 + 1)) (l5 := l5) (s0 := l3) (s1 := 0) (σ := o1.2) C K0 h K) rfl
noncomputable def fX8_laysCycle_L270 (l1 : Int32) (l5 : Int32) (σ : Mem) : Option ((Int32 × Mem) ⊕ (Mem)) :=
  some (.inl (l5 + 1, σ))
set_option maxHeartbeats 4000000 in
set_option maxRecDepth 100000 in
theorem tX8_laysCycle_L270 {E : Gx} {cI : ClassId} {ad : Nat → Nat} (C : Cx E rmX8_laysCycle cI layM ad 6 RX8 cX8_laysCycle) {out : Mem} (K0 : KV E rmX8_laysCycle cI layM ad 6 cX8_laysCycle out) {l1 : Int32} {l5 : Int32} {σ : Mem} {res : (Int32 × Mem) ⊕ (Mem)} (h : fX8_laysCycle_L270 l1 l5 σ = some res) (K : Sum.elim (fun a => G E rmX8_laysCycle cI layM ad 6 204 [(0, .ref (ad 0)), (1, .int l1), (5, .int a.1)] [] a.2) (fun b => G E rmX8_laysCycle cI layM ad 6 276 [] [] b) res) : G E rmX8_laysCycle cI layM ad 6 270 [(0, .ref (ad 0)), (1, .int l1), (5, .int l5)] [] σ := by
  unfold fX8_laysCycle_L270 at h
  refine g_iinc 273 [(5, .int (l5 + 1)), (0, .ref (ad 0)), (1, .int l1)] C dX8_laysCycle_270 (j := 2) rfl (by rfl) (by decide) rfl rfl ?_
  refine g_goto 204 C dX8_laysCycle_273 (by decide) ?_
  have hh := end_inl h K
  exact g_sub [1, 2, 0] (hh) rfl
noncomputable def fX8_laysCycle_L269 (l1 : Int32) (l5 : Int32) (s1 : Int32) (s2 : Int32) (σ : Mem) : Option ((Int32 × Mem) ⊕ (Mem)) :=
  chk (inb s1 30) <|
  fX8_laysCycle_L270 l1 l5 (up2 σ 7 s1.toNatClampNeg s2)
set_option maxHeartbeats 4000000 in
set_option maxRecDepth 100000 in
theorem tX8_laysCycle_L269 {E : Gx} {cI : ClassId} {ad : Nat → Nat} (C : Cx E rmX8_laysCycle cI layM ad 6 RX8 cX8_laysCycle) {out : Mem} (K0 : KV E rmX8_laysCycle cI layM ad 6 cX8_laysCycle out) {l1 : Int32} {l5 : Int32} {s1 : Int32} {s2 : Int32} {σ : Mem} {res : (Int32 × Mem) ⊕ (Mem)} (h : fX8_laysCycle_L269 l1 l5 s1 s2 σ = some res) (K : Sum.elim (fun a => G E rmX8_laysCycle cI layM ad 6 204 [(0, .ref (ad 0)), (1, .int l1), (5, .int a.1)] [] a.2) (fun b => G E rmX8_laysCycle cI layM ad 6 276 [] [] b) res) : G E rmX8_laysCycle cI layM ad 6 269 [(0, .ref (ad 0)), (1, .int l1), (5, .int l5)] [.int s2, .int s1, .ref (ad 7)] σ := by
  unfold fX8_laysCycle_L269 at h
  refine g_iast 270 C rfl dX8_laysCycle_269 rfl h (fun h => ?_)
  exact tX8_laysCycle_L270 (l1 := l1) (l5 := l5) (σ := up2 σ 7 s1.toNatClampNeg s2) C K0 h K
noncomputable def fX8_laysCycle_B204 (l1 : Int32) (l5 : Int32) (σ : Mem) : Option ((Int32 × Mem) ⊕ (Mem)) :=
  if (σ 0 6) ≤ l5 then
    some (.inr σ)
  else
    (fX8_has l1 l5 σ).bind fun o5 =>
    if o5.1 = 0 then
      fX8_laysCycle_L270 l1 l5 o5.2
    else
      (fX8_hasForm l5 o5.2).bind fun o6 =>
      if o6.1 = 0 then
        fX8_laysCycle_L269 l1 l5 l5 4 o6.2
      else
        chk (inb l5 30) <|
        if (o6.2 6 l5.toNatClampNeg) ≤ 0 then
          (fX8_degreeOf l5 o6.2).bind fun o7 =>
          if o7.1 ≤ 0 then
            fX8_laysCycle_L269 l1 l5 l5 0 o7.2
          else
            fX8_laysCycle_L269 l1 l5 l5 1 o7.2
        else
          fX8_laysCycle_L269 l1 l5 l5 2 o6.2
set_option maxHeartbeats 4000000 in
set_option maxRecDepth 100000 in
theorem tX8_laysCycle_B204 {E : Gx} {cI : ClassId} {ad : Nat → Nat} (C : Cx E rmX8_laysCycle cI layM ad 6 RX8 cX8_laysCycle) {out : Mem} (K0 : KV E rmX8_laysCycle cI layM ad 6 cX8_laysCycle out) {l1 : Int32} {l5 : Int32} {σ : Mem} {res : (Int32 × Mem) ⊕ (Mem)} (h : fX8_laysCycle_B204 l1 l5 σ = some res) (K : Sum.elim (fun a => G E rmX8_laysCycle cI layM ad 6 204 [(0, .ref (ad 0)), (1, .int l1), (5, .int a.1)] [] a.2) (fun b => G E rmX8_laysCycle cI layM ad 6 276 [] [] b) res) : G E rmX8_laysCycle cI layM ad 6 204 [(0, .ref (ad 0)), (1, .int l1), (5, .int l5)] [] σ := by
  unfold fX8_laysCycle_B204 at h
  refine g_iload 206 C dX8_laysCycle_204 (j := 2) rfl rfl ?_
  refine g_aload_n 207 C dX8_laysCycle_206 rfl (j := 0) rfl rfl ?_
  refine g_geti 210 (j := 6) C rfl rfl wu_X8 (by decide) wf_X8_72 rfl dX8_laysCycle_207 rfl ?_
  refine g_icmp_ge 276 213 C dX8_laysCycle_210 (by decide) rfl h (fun h => ?_) (fun h => ?_)
  · have hh := end_inr h K
    exact g_sub [] (hh) rfl
  · refine g_iload_n 214 C dX8_laysCycle_213 rfl (j := 1) rfl rfl ?_
    refine g_iload 216 C dX8_laysCycle_214 (j := 2) rfl rfl ?_
    refine g_csi 219 C (As := [.int l1, .int l5]) (fun _ h => mX8_has (a1 := l1) (a2 := l5) (σ := σ) h) wl_X8_102 ws_X8_has wc_X8_has wn_X8 qX8_has rfl rfl ⟨Nat.le_of_ble_eq_true rfl, Nat.le_of_ble_eq_true rfl⟩ rfl rfl (Nat.le_of_ble_eq_true rfl) dX8_laysCycle_216 rfl h (fun o5 h => ?_)
    refine g_if_eq 270 222 C dX8_laysCycle_219 (by decide) rfl h (fun h => ?_) (fun h => ?_)
    · exact tX8_laysCycle_L270 (l1 := l1) (l5 := l5) (σ := o5.2) C K0 h K
    · refine g_aload_n 223 C dX8_laysCycle_222 rfl (j := 0) rfl rfl ?_
      refine g_getr 226 (j := 14) C rfl rfl wu_X8 (by decide) wf_X8_39 rfl dX8_laysCycle_223 rfl ?_
      refine g_iload 228 C dX8_laysCycle_226 (j := 2) rfl rfl ?_
      refine g_aload_n 229 C dX8_laysCycle_228 rfl (j := 0) rfl rfl ?_
      refine g_iload 231 C dX8_laysCycle_229 (j := 2) rfl rfl ?_
      refine g_cvi 234 C (As := [.int l5]) (fun _ h => mX8_hasForm (a1 := l5) (σ := o5.2) h) wl_X8_159 wi_X8_hasForm wz_X8_hasForm wc_X8_hasForm wn_X8 qX8_hasForm rfl rfl ⟨Nat.le_of_ble_eq_true rfl, Nat.le_of_ble_eq_true rfl⟩ rfl rfl rfl rfl (Nat.le_of_ble_eq_true rfl) dX8_laysCycle_231 rfl h (fun o6 h => ?_)
      refine g_if_ne 241 237 C dX8_laysCycle_234 (by decide) rfl h (fun h => ?_) (fun h => ?_)
      · refine g_iconst 238 (v := 4) C dX8_laysCycle_237 (by decide) rfl ?_
        refine g_goto 269 C dX8_laysCycle_238 (by decide) ?_
        exact tX8_laysCycle_L269 (l1 := l1) (l5 := l5) (s1 := l5) (s2 := 4) (σ := o6.2) C K0 h K
      · refine g_aload_n 242 C dX8_laysCycle_241 rfl (j := 0) rfl rfl ?_
        refine g_getr 245 (j := 13) C rfl rfl wu_X8 (by decide) wf_X8_36 rfl dX8_laysCycle_242 rfl ?_
        refine g_iload 247 C dX8_laysCycle_245 (j := 2) rfl rfl ?_
        refine g_iald 248 C rfl dX8_laysCycle_247 rfl h (fun h => ?_)
        refine g_if_le 255 251 C dX8_laysCycle_248 (by decide) rfl h (fun h => ?_) (fun h => ?_)
        · refine g_aload_n 256 C dX8_laysCycle_255 rfl (j := 0) rfl rfl ?_
          refine g_iload 258 C dX8_laysCycle_256 (j := 2) rfl rfl ?_
          refine g_cvi 261 C (As := [.int l5]) (fun _ h => mX8_degreeOf (a1 := l5) (σ := o6.2) h) wl_X8_124 wi_X8_degreeOf wz_X8_degreeOf wc_X8_degreeOf wn_X8 qX8_degreeOf rfl rfl ⟨Nat.le_of_ble_eq_true rfl, Nat.le_of_ble_eq_true rfl⟩ rfl rfl rfl rfl (Nat.le_of_ble_eq_true rfl) dX8_laysCycle_258 rfl h (fun o7 h => ?_)
          refine g_if_le 268 264 C dX8_laysCycle_261 (by decide) rfl h (fun h => ?_) (fun h => ?_)
          · refine g_iconst 269 (v := 0) C dX8_laysCycle_268 (by decide) rfl ?_
            exact tX8_laysCycle_L269 (l1 := l1) (l5 := l5) (s1 := l5) (s2 := 0) (σ := o7.2) C K0 h K
          · refine g_iconst 265 (v := 1) C dX8_laysCycle_264 (by decide) rfl ?_
            refine g_goto 269 C dX8_laysCycle_265 (by decide) ?_
            exact tX8_laysCycle_L269 (l1 := l1) (l5 := l5) (s1 := l5) (s2 := 1) (σ := o7.2) C K0 h K
        · refine g_iconst 252 (v := 2) C dX8_laysCycle_251 (by decide) rfl ?_
          refine g_goto 269 C dX8_laysCycle_252 (by decide) ?_
          exact tX8_laysCycle_L269 (l1 := l1) (l5 := l5) (s1 := l5) (s2 := 2) (σ := o6.2) C K0 h K
noncomputable def fX8_laysCycle_L276 (σ : Mem) : Option (Mem) :=
  some σ
set_option maxHeartbeats 4000000 in
set_option maxRecDepth 100000 in
theorem tX8_laysCycle_L276 {E : Gx} {cI : ClassId} {ad : Nat → Nat} (C : Cx E rmX8_laysCycle cI layM ad 6 RX8 cX8_laysCycle) {out : Mem} (K0 : KV E rmX8_laysCycle cI layM ad 6 cX8_laysCycle out) {σ : Mem} (h : fX8_laysCycle_L276 σ = some out) : G E rmX8_laysCycle cI layM ad 6 276 [] [] σ := by
  unfold fX8_laysCycle_L276 at h
  cases h
  exact K0 _ _ dX8_laysCycle_276
noncomputable def fX8_laysCycle_L201 (l1 : Int32) (σ : Mem) : Option (Mem) :=
  (loop (fun a => fX8_laysCycle_B204 l1 a.1 a.2) (0, σ)).bind fun b8 =>
  fX8_laysCycle_L276 b8
set_option maxHeartbeats 4000000 in
set_option maxRecDepth 100000 in
theorem tX8_laysCycle_L201 {E : Gx} {cI : ClassId} {ad : Nat → Nat} (C : Cx E rmX8_laysCycle cI layM ad 6 RX8 cX8_laysCycle) {out : Mem} (K0 : KV E rmX8_laysCycle cI layM ad 6 cX8_laysCycle out) {l1 : Int32} {σ : Mem} (h : fX8_laysCycle_L201 l1 σ = some out) : G E rmX8_laysCycle cI layM ad 6 201 [(0, .ref (ad 0)), (1, .int l1)] [] σ := by
  unfold fX8_laysCycle_L201 at h
  refine g_iconst 202 (v := 0) C dX8_laysCycle_201 (by decide) rfl ?_
  refine g_istore 204 [(5, .int 0), (0, .ref (ad 0)), (1, .int l1)] C dX8_laysCycle_202 (by decide) rfl rfl ?_
  obtain ⟨b8, hb, h⟩ := bind_some h
  refine g_sub [1, 2, 0] (g_loop (a := (0, σ)) (fun a => G E rmX8_laysCycle cI layM ad 6 204 [(0, .ref (ad 0)), (1, .int l1), (5, .int a.1)] [] a.2) (fun b => G E rmX8_laysCycle cI layM ad 6 276 [] [] b) hb (fun a res h K => tX8_laysCycle_B204 (l1 := l1) (l5 := a.1) (σ := a.2) (res := res) C K0 h K) ?_) rfl
  show G E rmX8_laysCycle cI layM ad 6 276 [] [] b8
  exact tX8_laysCycle_L276 (σ := b8) C K0 h
noncomputable def fX8_laysCycle_L100 (s1 : Int32) (s2 : Int32) (σ : Mem) : Option (Mem) :=
  (fX8_laysNone s1 s2 σ).bind fun o13 =>
  some o13
set_option maxHeartbeats 4000000 in
set_option maxRecDepth 100000 in
theorem tX8_laysCycle_L100 {E : Gx} {cI : ClassId} {ad : Nat → Nat} (C : Cx E rmX8_laysCycle cI layM ad 6 RX8 cX8_laysCycle) {out : Mem} (K0 : KV E rmX8_laysCycle cI layM ad 6 cX8_laysCycle out) {s1 : Int32} {s2 : Int32} {σ : Mem} (h : fX8_laysCycle_L100 s1 s2 σ = some out) : G E rmX8_laysCycle cI layM ad 6 100 [] [.int s2, .int s1, .ref (ad 0)] σ := by
  unfold fX8_laysCycle_L100 at h
  refine g_cvv 103 C (As := [.int s1, .int s2]) (fun _ h => mX8_laysNone (a1 := s1) (a2 := s2) (σ := σ) h) wl_X8_178 wi_X8_laysNone wz_X8_laysNone wc_X8_laysNone wn_X8 qX8_laysNone rfl rfl ⟨Nat.le_of_ble_eq_true rfl, Nat.le_of_ble_eq_true rfl⟩ rfl rfl rfl rfl (Nat.le_of_ble_eq_true rfl) dX8_laysCycle_100 rfl h (fun o13 h => ?_)
  cases h
  exact K0 _ _ dX8_laysCycle_103
noncomputable def fX8_laysCycle_L82 (l1 : Int32) (l2 : Int32) (l3 : Int32) (l4 : Int32) (σ : Mem) : Option (Mem) :=
  if l3 ≤ 1 then
    chk (inb l2 30) <|
    if 1 < (σ 2 l2.toNatClampNeg) then
      chk (inb l2 30) <|
      if (σ 2 l2.toNatClampNeg) = 5 then
        chk (inb l2 30) <|
        (fX8_has (σ 5 l2.toNatClampNeg) l2 σ).bind fun o3 =>
        if o3.1 = 0 then
          chk (inb l2 30) <|
          chk (inb l2 30) <|
          chk (inb (o3.2 4 l2.toNatClampNeg) 30) <|
          (fX8_carries l2 (o3.2 4 l2.toNatClampNeg) (o3.2 6 (o3.2 4 l2.toNatClampNeg).toNatClampNeg) o3.2).bind fun o10 =>
          fX8_laysCycle_L201 l1 o10
        else
          (fX8_laysCarried l1 l2 o3.2).bind fun o4 =>
          if o4.1 = 0 then
            (fX8_laysNone l1 4 o4.2).bind fun o9 =>
            fX8_laysCycle_L201 l1 o9
          else
            fX8_laysCycle_L201 l1 o4.2
      else
        (fX8_laysOp l2 σ).bind fun o11 =>
        fX8_laysCycle_L201 l1 o11
    else
      (fX8_laysGiven l2 l2 σ).bind fun o12 =>
      chk (inb l2 30) <|
      fX8_laysCycle_L201 l1 (up2 o12 6 l2.toNatClampNeg 0)
  else
    if l3 = l4 then
      fX8_laysCycle_L100 l1 3 σ
    else
      fX8_laysCycle_L100 l1 4 σ
set_option maxHeartbeats 4000000 in
set_option maxRecDepth 100000 in
theorem tX8_laysCycle_L82 {E : Gx} {cI : ClassId} {ad : Nat → Nat} (C : Cx E rmX8_laysCycle cI layM ad 6 RX8 cX8_laysCycle) {out : Mem} (K0 : KV E rmX8_laysCycle cI layM ad 6 cX8_laysCycle out) {l1 : Int32} {l2 : Int32} {l3 : Int32} {l4 : Int32} {σ : Mem} (h : fX8_laysCycle_L82 l1 l2 l3 l4 σ = some out) : G E rmX8_laysCycle cI layM ad 6 82 [(0, .ref (ad 0)), (1, .int l1), (2, .int l2), (3, .int l3), (4, .int l4)] [] σ := by
  unfold fX8_laysCycle_L82 at h
  refine g_iload_n 83 C dX8_laysCycle_82 rfl (j := 3) rfl rfl ?_
  refine g_iconst 84 (v := 1) C dX8_laysCycle_83 (by decide) rfl ?_
  refine g_icmp_le 104 87 C dX8_laysCycle_84 (by decide) rfl h (fun h => ?_) (fun h => ?_)
  · refine g_aload_n 105 C dX8_laysCycle_104 rfl (j := 0) rfl rfl ?_
    refine g_getr 108 (j := 3) C rfl rfl wu_X8 (by decide) wf_X8_14 rfl dX8_laysCycle_105 rfl ?_
    refine g_iload_n 109 C dX8_laysCycle_108 rfl (j := 2) rfl rfl ?_
    refine g_iald 110 C rfl dX8_laysCycle_109 rfl h (fun h => ?_)
    refine g_iconst 111 (v := 1) C dX8_laysCycle_110 (by decide) rfl ?_
    refine g_icmp_gt 130 114 C dX8_laysCycle_111 (by decide) rfl h (fun h => ?_) (fun h => ?_)
    · refine g_aload_n 131 C dX8_laysCycle_130 rfl (j := 0) rfl rfl ?_
      refine g_getr 134 (j := 3) C rfl rfl wu_X8 (by decide) wf_X8_14 rfl dX8_laysCycle_131 rfl ?_
      refine g_iload_n 135 C dX8_laysCycle_134 rfl (j := 2) rfl rfl ?_
      refine g_iald 136 C rfl dX8_laysCycle_135 rfl h (fun h => ?_)
      refine g_iconst 137 (v := 5) C dX8_laysCycle_136 (by decide) rfl ?_
      refine g_icmp_eq 148 140 C dX8_laysCycle_137 (by decide) rfl h (fun h => ?_) (fun h => ?_)
      · refine g_aload_n 149 C dX8_laysCycle_148 rfl (j := 0) rfl rfl ?_
        refine g_getr 152 (j := 12) C rfl rfl wu_X8 (by decide) wf_X8_33 rfl dX8_laysCycle_149 rfl ?_
        refine g_iload_n 153 C dX8_laysCycle_152 rfl (j := 2) rfl rfl ?_
        refine g_iald 154 C rfl dX8_laysCycle_153 rfl h (fun h => ?_)
        refine g_iload_n 155 C dX8_laysCycle_154 rfl (j := 2) rfl rfl ?_
        refine g_csi 158 C (As := [.int (σ 5 l2.toNatClampNeg), .int l2]) (fun _ h => mX8_has (a1 := σ 5 l2.toNatClampNeg) (a2 := l2) (σ := σ) h) wl_X8_102 ws_X8_has wc_X8_has wn_X8 qX8_has rfl rfl ⟨Nat.le_of_ble_eq_true rfl, Nat.le_of_ble_eq_true rfl⟩ rfl rfl (Nat.le_of_ble_eq_true rfl) dX8_laysCycle_155 rfl h (fun o3 h => ?_)
        refine g_if_ne 186 161 C dX8_laysCycle_158 (by decide) rfl h (fun h => ?_) (fun h => ?_)
        · refine g_aload_n 162 C dX8_laysCycle_161 rfl (j := 0) rfl rfl ?_
          refine g_iload_n 163 C dX8_laysCycle_162 rfl (j := 2) rfl rfl ?_
          refine g_aload_n 164 C dX8_laysCycle_163 rfl (j := 0) rfl rfl ?_
          refine g_getr 167 (j := 5) C rfl rfl wu_X8 (by decide) wf_X8_20 rfl dX8_laysCycle_164 rfl ?_
          refine g_iload_n 168 C dX8_laysCycle_167 rfl (j := 2) rfl rfl ?_
          refine g_iald 169 C rfl dX8_laysCycle_168 rfl h (fun h => ?_)
          refine g_aload_n 170 C dX8_laysCycle_169 rfl (j := 0) rfl rfl ?_
          refine g_getr 173 (j := 13) C rfl rfl wu_X8 (by decide) wf_X8_36 rfl dX8_laysCycle_170 rfl ?_
          refine g_aload_n 174 C dX8_laysCycle_173 rfl (j := 0) rfl rfl ?_
          refine g_getr 177 (j := 5) C rfl rfl wu_X8 (by decide) wf_X8_20 rfl dX8_laysCycle_174 rfl ?_
          refine g_iload_n 178 C dX8_laysCycle_177 rfl (j := 2) rfl rfl ?_
          refine g_iald 179 C rfl dX8_laysCycle_178 rfl h (fun h => ?_)
          refine g_iald 180 C rfl dX8_laysCycle_179 rfl h (fun h => ?_)
          refine g_cvv 183 C (As := [.int l2, .int (o3.2 4 l2.toNatClampNeg), .int (o3.2 6 (o3.2 4 l2.toNatClampNeg).toNatClampNeg)]) (fun _ h => mX8_carries (a1 := l2) (a2 := o3.2 4 l2.toNatClampNeg) (a3 := o3.2 6 (o3.2 4 l2.toNatClampNeg).toNatClampNeg) (σ := o3.2) h) wl_X8_174 wi_X8_carries wz_X8_carries wc_X8_carries wn_X8 qX8_carries rfl rfl ⟨Nat.le_of_ble_eq_true rfl, Nat.le_of_ble_eq_true rfl⟩ rfl rfl rfl rfl (Nat.le_of_ble_eq_true rfl) dX8_laysCycle_180 rfl h (fun o10 h => ?_)
          refine g_goto 201 C dX8_laysCycle_183 (by decide) ?_
          exact g_sub [0, 1] (tX8_laysCycle_L201 (l1 := l1) (σ := o10) C K0 h) rfl
        · refine g_aload_n 187 C dX8_laysCycle_186 rfl (j := 0) rfl rfl ?_
          refine g_iload_n 188 C dX8_laysCycle_187 rfl (j := 1) rfl rfl ?_
          refine g_iload_n 189 C dX8_laysCycle_188 rfl (j := 2) rfl rfl ?_
          refine g_cvi 192 C (As := [.int l1, .int l2]) (fun _ h => mX8_laysCarried (a1 := l1) (a2 := l2) (σ := o3.2) h) wl_X8_184 wi_X8_laysCarried wz_X8_laysCarried wc_X8_laysCarried wn_X8 qX8_laysCarried rfl rfl ⟨Nat.le_of_ble_eq_true rfl, Nat.le_of_ble_eq_true rfl⟩ rfl rfl rfl rfl (Nat.le_of_ble_eq_true rfl) dX8_laysCycle_189 rfl h (fun o4 h => ?_)
          refine g_if_ne 201 195 C dX8_laysCycle_192 (by decide) rfl h (fun h => ?_) (fun h => ?_)
          · refine g_aload_n 196 C dX8_laysCycle_195 rfl (j := 0) rfl rfl ?_
            refine g_iload_n 197 C dX8_laysCycle_196 rfl (j := 1) rfl rfl ?_
            refine g_iconst 198 (v := 4) C dX8_laysCycle_197 (by decide) rfl ?_
            refine g_cvv 201 C (As := [.int l1, .int 4]) (fun _ h => mX8_laysNone (a1 := l1) (a2 := 4) (σ := o4.2) h) wl_X8_178 wi_X8_laysNone wz_X8_laysNone wc_X8_laysNone wn_X8 qX8_laysNone rfl rfl ⟨Nat.le_of_ble_eq_true rfl, Nat.le_of_ble_eq_true rfl⟩ rfl rfl rfl rfl (Nat.le_of_ble_eq_true rfl) dX8_laysCycle_198 rfl h (fun o9 h => ?_)
            exact g_sub [0, 1] (tX8_laysCycle_L201 (l1 := l1) (σ := o9) C K0 h) rfl
          · exact g_sub [0, 1] (tX8_laysCycle_L201 (l1 := l1) (σ := o4.2) C K0 h) rfl
      · refine g_aload_n 141 C dX8_laysCycle_140 rfl (j := 0) rfl rfl ?_
        refine g_iload_n 142 C dX8_laysCycle_141 rfl (j := 2) rfl rfl ?_
        refine g_cvv 145 C (As := [.int l2]) (fun _ h => mX8_laysOp (a1 := l2) (σ := σ) h) wl_X8_181 wi_X8_laysOp wz_X8_laysOp wc_X8_laysOp wn_X8 qX8_laysOp rfl rfl ⟨Nat.le_of_ble_eq_true rfl, Nat.le_of_ble_eq_true rfl⟩ rfl rfl rfl rfl (Nat.le_of_ble_eq_true rfl) dX8_laysCycle_142 rfl h (fun o11 h => ?_)
        refine g_goto 201 C dX8_laysCycle_145 (by decide) ?_
        exact g_sub [0, 1] (tX8_laysCycle_L201 (l1 := l1) (σ := o11) C K0 h) rfl
    · refine g_aload_n 115 C dX8_laysCycle_114 rfl (j := 0) rfl rfl ?_
      refine g_iload_n 116 C dX8_laysCycle_115 rfl (j := 2) rfl rfl ?_
      refine g_iload_n 117 C dX8_laysCycle_116 rfl (j := 2) rfl rfl ?_
      refine g_cvv 120 C (As := [.int l2, .int l2]) (fun _ h => mX8_laysGiven (a1 := l2) (a2 := l2) (σ := σ) h) wl_X8_151 wi_X8_laysGiven wz_X8_laysGiven wc_X8_laysGiven wn_X8 qX8_laysGiven rfl rfl ⟨Nat.le_of_ble_eq_true rfl, Nat.le_of_ble_eq_true rfl⟩ rfl rfl rfl rfl (Nat.le_of_ble_eq_true rfl) dX8_laysCycle_117 rfl h (fun o12 h => ?_)
      refine g_aload_n 121 C dX8_laysCycle_120 rfl (j := 0) rfl rfl ?_
      refine g_getr 124 (j := 13) C rfl rfl wu_X8 (by decide) wf_X8_36 rfl dX8_laysCycle_121 rfl ?_
      refine g_iload_n 125 C dX8_laysCycle_124 rfl (j := 2) rfl rfl ?_
      refine g_iconst 126 (v := 0) C dX8_laysCycle_125 (by decide) rfl ?_
      refine g_iast 127 C rfl dX8_laysCycle_126 rfl h (fun h => ?_)
      refine g_goto 201 C dX8_laysCycle_127 (by decide) ?_
      exact g_sub [0, 1] (tX8_laysCycle_L201 (l1 := l1) (σ := up2 o12 6 l2.toNatClampNeg 0) C K0 h) rfl
  · refine g_aload_n 88 C dX8_laysCycle_87 rfl (j := 0) rfl rfl ?_
    refine g_iload_n 89 C dX8_laysCycle_88 rfl (j := 1) rfl rfl ?_
    refine g_iload_n 90 C dX8_laysCycle_89 rfl (j := 3) rfl rfl ?_
    refine g_iload 92 C dX8_laysCycle_90 (j := 4) rfl rfl ?_
    refine g_icmp_ne 99 95 C dX8_laysCycle_92 (by decide) rfl h (fun h => ?_) (fun h => ?_)
    · refine g_iconst 96 (v := 3) C dX8_laysCycle_95 (by decide) rfl ?_
      refine g_goto 100 C dX8_laysCycle_96 (by decide) ?_
      exact g_sub [] (tX8_laysCycle_L100 (s1 := l1) (s2 := 3) (σ := σ) C K0 h) rfl
    · refine g_iconst 100 (v := 4) C dX8_laysCycle_99 (by decide) rfl ?_
      exact g_sub [] (tX8_laysCycle_L100 (s1 := l1) (s2 := 4) (σ := σ) C K0 h) rfl
noncomputable def fX8_laysCycle (a1 : Int32) (σ : Mem) : Option (Mem) :=
  (loop (fun a => fX8_laysCycle_B10 a1 a.1 a.2.1 a.2.2.1 a.2.2.2.1 a.2.2.2.2) ((-1), 0, 0, 0, σ)).bind fun b2 =>
  fX8_laysCycle_L82 a1 b2.1 b2.2.1 b2.2.2.1 b2.2.2.2
set_option maxHeartbeats 4000000 in
set_option maxRecDepth 100000 in
theorem mX8_laysCycle {l : Launch} {D : va_G} {cI : ClassId} {ad : Nat → Nat} {a1 : Int32} {σ : Mem} {out : Mem} (h : fX8_laysCycle a1 σ = some out) : MV l D cI layM ad yX8_laysCycle cX8_laysCycle 6 rmX8_laysCycle [.ref (ad 0), .int a1] σ out := by
  refine met_v (by decide) (Nat.le_of_ble_eq_true rfl) (fun E C K0 => ?_)
  show G E rmX8_laysCycle cI layM ad 6 0 [(0, .ref (ad 0)), (1, .int a1)] [] σ
  unfold fX8_laysCycle at h
  refine g_iconst 1 (v := (-1)) C dX8_laysCycle_0 (by decide) rfl ?_
  refine g_istore_n 2 [(2, .int (-1)), (0, .ref (ad 0)), (1, .int a1)] C dX8_laysCycle_1 rfl (by decide) rfl rfl ?_
  refine g_iconst 3 (v := 0) C dX8_laysCycle_2 (by decide) rfl ?_
  refine g_istore_n 4 [(3, .int 0), (2, .int (-1)), (0, .ref (ad 0)), (1, .int a1)] C dX8_laysCycle_3 rfl (by decide) rfl rfl ?_
  refine g_iconst 5 (v := 0) C dX8_laysCycle_4 (by decide) rfl ?_
  refine g_istore 7 [(4, .int 0), (3, .int 0), (2, .int (-1)), (0, .ref (ad 0)), (1, .int a1)] C dX8_laysCycle_5 (by decide) rfl rfl ?_
  refine g_iconst 8 (v := 0) C dX8_laysCycle_7 (by decide) rfl ?_
  refine g_istore 10 [(5, .int 0), (4, .int 0), (3, .int 0), (2, .int (-1)), (0, .ref (ad 0)), (1, .int a1)] C dX8_laysCycle_8 (by decide) rfl rfl ?_
  obtain ⟨b2, hb, h⟩ := bind_some h
  refine g_sub [4, 5, 3, 2, 1, 0] (g_loop (a := ((-1), 0, 0, 0, σ)) (fun a => G E rmX8_laysCycle cI layM ad 6 10 [(0, .ref (ad 0)), (1, .int a1), (2, .int a.1), (3, .int a.2.1), (4, .int a.2.2.1), (5, .int a.2.2.2.1)] [] a.2.2.2.2) (fun b => G E rmX8_laysCycle cI layM ad 6 82 [(0, .ref (ad 0)), (1, .int a1), (2, .int b.1), (3, .int b.2.1), (4, .int b.2.2.1)] [] b.2.2.2) hb (fun a res h K => tX8_laysCycle_B10 (l1 := a1) (l2 := a.1) (l3 := a.2.1) (l4 := a.2.2.1) (l5 := a.2.2.2.1) (σ := a.2.2.2.2) (res := res) C K0 h K) ?_) rfl
  show G E rmX8_laysCycle cI layM ad 6 82 [(0, .ref (ad 0)), (1, .int a1), (2, .int b2.1), (3, .int b2.2.1), (4, .int b2.2.2.1)] [] b2.2.2.2
  exact tX8_laysCycle_L82 (l1 := a1) (l2 := b2.1) (l3 := b2.2.1) (l4 := b2.2.2.1) (σ := b2.2.2.2) C K0 h

/-! LoopReducerModel.lays()V -/
abbrev rmX8_lays : Room := { frames := 6, cells := 0, slots := 0, locals := 146 }
theorem qX8_lays : yX8_lays.cls ≠ "java/lang/invoke/MethodHandle" ∧ yX8_lays.cls ≠ "java/lang/invoke/VarHandle" ∧ (parseMethodDescriptor yX8_lays.desc).map (fun d => d.parameters.length) = some 0 := by decide +kernel
theorem DX8_lays : ∀ q ∈ ([(0, .aload_n 0, 1), (1, .getfield 79, 3), (4, .ifCond .eq 4, 3), (7, .return_, 1), (8, .aload_n 0, 1), (9, .iconst 1, 1), (10, .putfield 79, 3), (13, .aload_n 0, 1), (14, .invokevirtual 112, 3), (17, .iconst 0, 1), (18, .istore_n 1, 1), (19, .iload_n 1, 1), (20, .lconst 1, 1), (21, .aload_n 0, 1), (22, .getfield 72, 3), (25, .lshl, 1), (26, .lconst 1, 1), (27, .lsub, 1), (28, .l2i, 1), (29, .if_icmp .eq 106, 3), (32, .iconst 0, 1), (33, .istore_n 2, 1), (34, .iload_n 2, 1), (35, .aload_n 0, 1), (36, .getfield 72, 3), (39, .if_icmp .ge 93, 3), (42, .aload_n 0, 1), (43, .iload_n 2, 1), (44, .invokevirtual 115, 3), (47, .istore_n 3, 1), (48, .iconst 0, 1), (49, .istore 4, 2), (51, .iconst 0, 1), (52, .istore 5, 2), (54, .iload 5, 2), (56, .aload_n 0, 1), (57, .getfield 72, 3), (60, .if_icmp .ge 37, 3), (63, .iload 4, 2), (65, .iload_n 3, 1), (66, .iload 5, 2), (68, .invokestatic 102, 3), (71, .ifCond .eq 16, 3), (74, .aload_n 0, 1), (75, .iload 5, 2), (77, .invokevirtual 109, 3), (80, .iload_n 3, 1), (81, .iconst (-1), 1), (82, .ixor, 1), (83, .iand, 1), (84, .goto 4, 3), (87, .iconst 0, 1), (88, .ior, 1), (89, .istore 4, 2), (91, .iinc 5 1, 3), (94, .goto (-40), 3), (97, .iload_n 1, 1), (98, .iload_n 2, 1), (99, .invokestatic 102, 3), (102, .ifCond .ne 24, 3), (105, .iload 4, 2), (107, .iload_n 1, 1), (108, .iconst (-1), 1), (109, .ixor, 1), (110, .iand, 1), (111, .ifCond .eq 6, 3), (114, .goto 12, 3), (117, .aload_n 0, 1), (118, .iload_n 3, 1), (119, .invokevirtual 187, 3), (122, .iload_n 1, 1), (123, .iload_n 3, 1), (124, .ior, 1), (125, .istore_n 1, 1), (126, .iinc 2 1, 3), (129, .goto (-95), 3), (132, .goto (-113), 3), (135, .return_, 1)] : List (Nat × Instr × Nat)), decode cX8_lays q.1 = .ok q.2 := by decide +kernel
theorem dX8_lays_0 : decode cX8_lays 0 = .ok (.aload_n 0, 1) := DX8_lays (0, .aload_n 0, 1) (List.mem_of_getElem? (i := 0) rfl)
theorem dX8_lays_1 : decode cX8_lays 1 = .ok (.getfield 79, 3) := DX8_lays (1, .getfield 79, 3) (List.mem_of_getElem? (i := 1) rfl)
theorem dX8_lays_4 : decode cX8_lays 4 = .ok (.ifCond .eq 4, 3) := DX8_lays (4, .ifCond .eq 4, 3) (List.mem_of_getElem? (i := 2) rfl)
theorem dX8_lays_7 : decode cX8_lays 7 = .ok (.return_, 1) := DX8_lays (7, .return_, 1) (List.mem_of_getElem? (i := 3) rfl)
theorem dX8_lays_8 : decode cX8_lays 8 = .ok (.aload_n 0, 1) := DX8_lays (8, .aload_n 0, 1) (List.mem_of_getElem? (i := 4) rfl)
theorem dX8_lays_9 : decode cX8_lays 9 = .ok (.iconst 1, 1) := DX8_lays (9, .iconst 1, 1) (List.mem_of_getElem? (i := 5) rfl)
theorem dX8_lays_10 : decode cX8_lays 10 = .ok (.putfield 79, 3) := DX8_lays (10, .putfield 79, 3) (List.mem_of_getElem? (i := 6) rfl)
theorem dX8_lays_13 : decode cX8_lays 13 = .ok (.aload_n 0, 1) := DX8_lays (13, .aload_n 0, 1) (List.mem_of_getElem? (i := 7) rfl)
theorem dX8_lays_14 : decode cX8_lays 14 = .ok (.invokevirtual 112, 3) := DX8_lays (14, .invokevirtual 112, 3) (List.mem_of_getElem? (i := 8) rfl)
theorem dX8_lays_17 : decode cX8_lays 17 = .ok (.iconst 0, 1) := DX8_lays (17, .iconst 0, 1) (List.mem_of_getElem? (i := 9) rfl)
theorem dX8_lays_18 : decode cX8_lays 18 = .ok (.istore_n 1, 1) := DX8_lays (18, .istore_n 1, 1) (List.mem_of_getElem? (i := 10) rfl)
theorem dX8_lays_19 : decode cX8_lays 19 = .ok (.iload_n 1, 1) := DX8_lays (19, .iload_n 1, 1) (List.mem_of_getElem? (i := 11) rfl)
theorem dX8_lays_20 : decode cX8_lays 20 = .ok (.lconst 1, 1) := DX8_lays (20, .lconst 1, 1) (List.mem_of_getElem? (i := 12) rfl)
theorem dX8_lays_21 : decode cX8_lays 21 = .ok (.aload_n 0, 1) := DX8_lays (21, .aload_n 0, 1) (List.mem_of_getElem? (i := 13) rfl)
theorem dX8_lays_22 : decode cX8_lays 22 = .ok (.getfield 72, 3) := DX8_lays (22, .getfield 72, 3) (List.mem_of_getElem? (i := 14) rfl)
theorem dX8_lays_25 : decode cX8_lays 25 = .ok (.lshl, 1) := DX8_lays (25, .lshl, 1) (List.mem_of_getElem? (i := 15) rfl)
theorem dX8_lays_26 : decode cX8_lays 26 = .ok (.lconst 1, 1) := DX8_lays (26, .lconst 1, 1) (List.mem_of_getElem? (i := 16) rfl)
theorem dX8_lays_27 : decode cX8_lays 27 = .ok (.lsub, 1) := DX8_lays (27, .lsub, 1) (List.mem_of_getElem? (i := 17) rfl)
theorem dX8_lays_28 : decode cX8_lays 28 = .ok (.l2i, 1) := DX8_lays (28, .l2i, 1) (List.mem_of_getElem? (i := 18) rfl)
theorem dX8_lays_29 : decode cX8_lays 29 = .ok (.if_icmp .eq 106, 3) := DX8_lays (29, .if_icmp .eq 106, 3) (List.mem_of_getElem? (i := 19) rfl)
theorem dX8_lays_32 : decode cX8_lays 32 = .ok (.iconst 0, 1) := DX8_lays (32, .iconst 0, 1) (List.mem_of_getElem? (i := 20) rfl)
theorem dX8_lays_33 : decode cX8_lays 33 = .ok (.istore_n 2, 1) := DX8_lays (33, .istore_n 2, 1) (List.mem_of_getElem? (i := 21) rfl)
theorem dX8_lays_34 : decode cX8_lays 34 = .ok (.iload_n 2, 1) := DX8_lays (34, .iload_n 2, 1) (List.mem_of_getElem? (i := 22) rfl)
theorem dX8_lays_35 : decode cX8_lays 35 = .ok (.aload_n 0, 1) := DX8_lays (35, .aload_n 0, 1) (List.mem_of_getElem? (i := 23) rfl)
theorem dX8_lays_36 : decode cX8_lays 36 = .ok (.getfield 72, 3) := DX8_lays (36, .getfield 72, 3) (List.mem_of_getElem? (i := 24) rfl)
theorem dX8_lays_39 : decode cX8_lays 39 = .ok (.if_icmp .ge 93, 3) := DX8_lays (39, .if_icmp .ge 93, 3) (List.mem_of_getElem? (i := 25) rfl)
theorem dX8_lays_42 : decode cX8_lays 42 = .ok (.aload_n 0, 1) := DX8_lays (42, .aload_n 0, 1) (List.mem_of_getElem? (i := 26) rfl)
theorem dX8_lays_43 : decode cX8_lays 43 = .ok (.iload_n 2, 1) := DX8_lays (43, .iload_n 2, 1) (List.mem_of_getElem? (i := 27) rfl)
theorem dX8_lays_44 : decode cX8_lays 44 = .ok (.invokevirtual 115, 3) := DX8_lays (44, .invokevirtual 115, 3) (List.mem_of_getElem? (i := 28) rfl)
theorem dX8_lays_47 : decode cX8_lays 47 = .ok (.istore_n 3, 1) := DX8_lays (47, .istore_n 3, 1) (List.mem_of_getElem? (i := 29) rfl)
theorem dX8_lays_48 : decode cX8_lays 48 = .ok (.iconst 0, 1) := DX8_lays (48, .iconst 0, 1) (List.mem_of_getElem? (i := 30) rfl)
theorem dX8_lays_49 : decode cX8_lays 49 = .ok (.istore 4, 2) := DX8_lays (49, .istore 4, 2) (List.mem_of_getElem? (i := 31) rfl)
theorem dX8_lays_51 : decode cX8_lays 51 = .ok (.iconst 0, 1) := DX8_lays (51, .iconst 0, 1) (List.mem_of_getElem? (i := 32) rfl)
theorem dX8_lays_52 : decode cX8_lays 52 = .ok (.istore 5, 2) := DX8_lays (52, .istore 5, 2) (List.mem_of_getElem? (i := 33) rfl)
theorem dX8_lays_54 : decode cX8_lays 54 = .ok (.iload 5, 2) := DX8_lays (54, .iload 5, 2) (List.mem_of_getElem? (i := 34) rfl)
theorem dX8_lays_56 : decode cX8_lays 56 = .ok (.aload_n 0, 1) := DX8_lays (56, .aload_n 0, 1) (List.mem_of_getElem? (i := 35) rfl)
theorem dX8_lays_57 : decode cX8_lays 57 = .ok (.getfield 72, 3) := DX8_lays (57, .getfield 72, 3) (List.mem_of_getElem? (i := 36) rfl)
theorem dX8_lays_60 : decode cX8_lays 60 = .ok (.if_icmp .ge 37, 3) := DX8_lays (60, .if_icmp .ge 37, 3) (List.mem_of_getElem? (i := 37) rfl)
theorem dX8_lays_63 : decode cX8_lays 63 = .ok (.iload 4, 2) := DX8_lays (63, .iload 4, 2) (List.mem_of_getElem? (i := 38) rfl)
theorem dX8_lays_65 : decode cX8_lays 65 = .ok (.iload_n 3, 1) := DX8_lays (65, .iload_n 3, 1) (List.mem_of_getElem? (i := 39) rfl)
theorem dX8_lays_66 : decode cX8_lays 66 = .ok (.iload 5, 2) := DX8_lays (66, .iload 5, 2) (List.mem_of_getElem? (i := 40) rfl)
theorem dX8_lays_68 : decode cX8_lays 68 = .ok (.invokestatic 102, 3) := DX8_lays (68, .invokestatic 102, 3) (List.mem_of_getElem? (i := 41) rfl)
theorem dX8_lays_71 : decode cX8_lays 71 = .ok (.ifCond .eq 16, 3) := DX8_lays (71, .ifCond .eq 16, 3) (List.mem_of_getElem? (i := 42) rfl)
theorem dX8_lays_74 : decode cX8_lays 74 = .ok (.aload_n 0, 1) := DX8_lays (74, .aload_n 0, 1) (List.mem_of_getElem? (i := 43) rfl)
theorem dX8_lays_75 : decode cX8_lays 75 = .ok (.iload 5, 2) := DX8_lays (75, .iload 5, 2) (List.mem_of_getElem? (i := 44) rfl)
theorem dX8_lays_77 : decode cX8_lays 77 = .ok (.invokevirtual 109, 3) := DX8_lays (77, .invokevirtual 109, 3) (List.mem_of_getElem? (i := 45) rfl)
theorem dX8_lays_80 : decode cX8_lays 80 = .ok (.iload_n 3, 1) := DX8_lays (80, .iload_n 3, 1) (List.mem_of_getElem? (i := 46) rfl)
theorem dX8_lays_81 : decode cX8_lays 81 = .ok (.iconst (-1), 1) := DX8_lays (81, .iconst (-1), 1) (List.mem_of_getElem? (i := 47) rfl)
theorem dX8_lays_82 : decode cX8_lays 82 = .ok (.ixor, 1) := DX8_lays (82, .ixor, 1) (List.mem_of_getElem? (i := 48) rfl)
theorem dX8_lays_83 : decode cX8_lays 83 = .ok (.iand, 1) := DX8_lays (83, .iand, 1) (List.mem_of_getElem? (i := 49) rfl)
theorem dX8_lays_84 : decode cX8_lays 84 = .ok (.goto 4, 3) := DX8_lays (84, .goto 4, 3) (List.mem_of_getElem? (i := 50) rfl)
theorem dX8_lays_87 : decode cX8_lays 87 = .ok (.iconst 0, 1) := DX8_lays (87, .iconst 0, 1) (List.mem_of_getElem? (i := 51) rfl)
theorem dX8_lays_88 : decode cX8_lays 88 = .ok (.ior, 1) := DX8_lays (88, .ior, 1) (List.mem_of_getElem? (i := 52) rfl)
theorem dX8_lays_89 : decode cX8_lays 89 = .ok (.istore 4, 2) := DX8_lays (89, .istore 4, 2) (List.mem_of_getElem? (i := 53) rfl)
theorem dX8_lays_91 : decode cX8_lays 91 = .ok (.iinc 5 1, 3) := DX8_lays (91, .iinc 5 1, 3) (List.mem_of_getElem? (i := 54) rfl)
theorem dX8_lays_94 : decode cX8_lays 94 = .ok (.goto (-40), 3) := DX8_lays (94, .goto (-40), 3) (List.mem_of_getElem? (i := 55) rfl)
theorem dX8_lays_97 : decode cX8_lays 97 = .ok (.iload_n 1, 1) := DX8_lays (97, .iload_n 1, 1) (List.mem_of_getElem? (i := 56) rfl)
theorem dX8_lays_98 : decode cX8_lays 98 = .ok (.iload_n 2, 1) := DX8_lays (98, .iload_n 2, 1) (List.mem_of_getElem? (i := 57) rfl)
theorem dX8_lays_99 : decode cX8_lays 99 = .ok (.invokestatic 102, 3) := DX8_lays (99, .invokestatic 102, 3) (List.mem_of_getElem? (i := 58) rfl)
theorem dX8_lays_102 : decode cX8_lays 102 = .ok (.ifCond .ne 24, 3) := DX8_lays (102, .ifCond .ne 24, 3) (List.mem_of_getElem? (i := 59) rfl)
theorem dX8_lays_105 : decode cX8_lays 105 = .ok (.iload 4, 2) := DX8_lays (105, .iload 4, 2) (List.mem_of_getElem? (i := 60) rfl)
theorem dX8_lays_107 : decode cX8_lays 107 = .ok (.iload_n 1, 1) := DX8_lays (107, .iload_n 1, 1) (List.mem_of_getElem? (i := 61) rfl)
theorem dX8_lays_108 : decode cX8_lays 108 = .ok (.iconst (-1), 1) := DX8_lays (108, .iconst (-1), 1) (List.mem_of_getElem? (i := 62) rfl)
theorem dX8_lays_109 : decode cX8_lays 109 = .ok (.ixor, 1) := DX8_lays (109, .ixor, 1) (List.mem_of_getElem? (i := 63) rfl)
theorem dX8_lays_110 : decode cX8_lays 110 = .ok (.iand, 1) := DX8_lays (110, .iand, 1) (List.mem_of_getElem? (i := 64) rfl)
theorem dX8_lays_111 : decode cX8_lays 111 = .ok (.ifCond .eq 6, 3) := DX8_lays (111, .ifCond .eq 6, 3) (List.mem_of_getElem? (i := 65) rfl)
theorem dX8_lays_114 : decode cX8_lays 114 = .ok (.goto 12, 3) := DX8_lays (114, .goto 12, 3) (List.mem_of_getElem? (i := 66) rfl)
theorem dX8_lays_117 : decode cX8_lays 117 = .ok (.aload_n 0, 1) := DX8_lays (117, .aload_n 0, 1) (List.mem_of_getElem? (i := 67) rfl)
theorem dX8_lays_118 : decode cX8_lays 118 = .ok (.iload_n 3, 1) := DX8_lays (118, .iload_n 3, 1) (List.mem_of_getElem? (i := 68) rfl)
theorem dX8_lays_119 : decode cX8_lays 119 = .ok (.invokevirtual 187, 3) := DX8_lays (119, .invokevirtual 187, 3) (List.mem_of_getElem? (i := 69) rfl)
theorem dX8_lays_122 : decode cX8_lays 122 = .ok (.iload_n 1, 1) := DX8_lays (122, .iload_n 1, 1) (List.mem_of_getElem? (i := 70) rfl)
theorem dX8_lays_123 : decode cX8_lays 123 = .ok (.iload_n 3, 1) := DX8_lays (123, .iload_n 3, 1) (List.mem_of_getElem? (i := 71) rfl)
theorem dX8_lays_124 : decode cX8_lays 124 = .ok (.ior, 1) := DX8_lays (124, .ior, 1) (List.mem_of_getElem? (i := 72) rfl)
theorem dX8_lays_125 : decode cX8_lays 125 = .ok (.istore_n 1, 1) := DX8_lays (125, .istore_n 1, 1) (List.mem_of_getElem? (i := 73) rfl)
theorem dX8_lays_126 : decode cX8_lays 126 = .ok (.iinc 2 1, 3) := DX8_lays (126, .iinc 2 1, 3) (List.mem_of_getElem? (i := 74) rfl)
theorem dX8_lays_129 : decode cX8_lays 129 = .ok (.goto (-95), 3) := DX8_lays (129, .goto (-95), 3) (List.mem_of_getElem? (i := 75) rfl)
theorem dX8_lays_132 : decode cX8_lays 132 = .ok (.goto (-113), 3) := DX8_lays (132, .goto (-113), 3) (List.mem_of_getElem? (i := 76) rfl)
theorem dX8_lays_135 : decode cX8_lays 135 = .ok (.return_, 1) := DX8_lays (135, .return_, 1) (List.mem_of_getElem? (i := 77) rfl)
noncomputable def fX8_lays_L88 (l1 : Int32) (l2 : Int32) (l3 : Int32) (l5 : Int32) (s0 : Int32) (s1 : Int32) (σ : Mem) : Option ((Int32 × Int32 × Mem) ⊕ (Int32 × Mem)) :=
  some (.inl (s0 ||| s1, l5 + 1, σ))
set_option maxHeartbeats 4000000 in
set_option maxRecDepth 100000 in
theorem tX8_lays_L88 {E : Gx} {cI : ClassId} {ad : Nat → Nat} (C : Cx E rmX8_lays cI layM ad 6 RX8 cX8_lays) {out : Mem} (K0 : KV E rmX8_lays cI layM ad 6 cX8_lays out) {l1 : Int32} {l2 : Int32} {l3 : Int32} {l5 : Int32} {s0 : Int32} {s1 : Int32} {σ : Mem} {res : (Int32 × Int32 × Mem) ⊕ (Int32 × Mem)} (h : fX8_lays_L88 l1 l2 l3 l5 s0 s1 σ = some res) (K : Sum.elim (fun a => G E rmX8_lays cI layM ad 6 54 [(0, .ref (ad 0)), (1, .int l1), (2, .int l2), (3, .int l3), (4, .int a.1), (5, .int a.2.1)] [] a.2.2) (fun b => G E rmX8_lays cI layM ad 6 97 [(0, .ref (ad 0)), (1, .int l1), (2, .int l2), (3, .int l3), (4, .int b.1)] [] b.2) res) : G E rmX8_lays cI layM ad 6 88 [(0, .ref (ad 0)), (1, .int l1), (2, .int l2), (3, .int l3), (5, .int l5)] [.int s1, .int s0] σ := by
  unfold fX8_lays_L88 at h
  refine g_ior 89 C dX8_lays_88 rfl ?_
  refine g_istore 91 [(4, .int (s0 ||| s1)), (0, .ref (ad 0)), (1, .int l1), (2, .int l2), (3, .int l3), (5, .int l5)] C dX8_lays_89 (by decide) rfl rfl ?_
  refine g_iinc 94 [(5, .int (l5 + 1)), (4, .int (s0 ||| s1)), (0, .ref (ad 0)), (1, .int l1), (2, .int l2), (3, .int l3)] C dX8_lays_91 (j := 5) rfl (by rfl) (by decide) rfl rfl ?_
  refine g_goto 54 C dX8_lays_94 (by decide) ?_
  have hh := end_inl h K
  exact g_sub [2, 3, 4, 5, 1, 0] (hh) rfl
noncomputable def fX8_lays_B54 (l1 : Int32) (l2 : Int32) (l3 : Int32) (l4 : Int32) (l5 : Int32) (σ : Mem) : Option ((Int32 × Int32 × Mem) ⊕ (Int32 × Mem)) :=
  if (σ 0 6) ≤ l5 then
    some (.inr (l4, σ))
  else
    (fX8_has l3 l5 σ).bind fun o3 =>
    if o3.1 = 0 then
      fX8_lays_L88 l1 l2 l3 l5 l4 0 o3.2
    else
      (fX8_direct l5 o3.2).bind fun o4 =>
      fX8_lays_L88 l1 l2 l3 l5 l4 (o4.1 &&& (l3 ^^^ (-1))) o4.2
set_option maxHeartbeats 4000000 in
set_option maxRecDepth 100000 in
theorem tX8_lays_B54 {E : Gx} {cI : ClassId} {ad : Nat → Nat} (C : Cx E rmX8_lays cI layM ad 6 RX8 cX8_lays) {out : Mem} (K0 : KV E rmX8_lays cI layM ad 6 cX8_lays out) {l1 : Int32} {l2 : Int32} {l3 : Int32} {l4 : Int32} {l5 : Int32} {σ : Mem} {res : (Int32 × Int32 × Mem) ⊕ (Int32 × Mem)} (h : fX8_lays_B54 l1 l2 l3 l4 l5 σ = some res) (K : Sum.elim (fun a => G E rmX8_lays cI layM ad 6 54 [(0, .ref (ad 0)), (1, .int l1), (2, .int l2), (3, .int l3), (4, .int a.1), (5, .int a.2.1)] [] a.2.2) (fun b => G E rmX8_lays cI layM ad 6 97 [(0, .ref (ad 0)), (1, .int l1), (2, .int l2), (3, .int l3), (4, .int b.1)] [] b.2) res) : G E rmX8_lays cI layM ad 6 54 [(0, .ref (ad 0)), (1, .int l1), (2, .int l2), (3, .int l3), (4, .int l4), (5, .int l5)] [] σ := by
  unfold fX8_lays_B54 at h
  refine g_iload 56 C dX8_lays_54 (j := 5) rfl rfl ?_
  refine g_aload_n 57 C dX8_lays_56 rfl (j := 0) rfl rfl ?_
  refine g_geti 60 (j := 6) C rfl rfl wu_X8 (by decide) wf_X8_72 rfl dX8_lays_57 rfl ?_
  refine g_icmp_ge 97 63 C dX8_lays_60 (by decide) rfl h (fun h => ?_) (fun h => ?_)
  · have hh := end_inr h K
    exact g_sub [0, 1, 2, 3, 4] (hh) rfl
  · refine g_iload 65 C dX8_lays_63 (j := 4) rfl rfl ?_
    refine g_iload_n 66 C dX8_lays_65 rfl (j := 3) rfl rfl ?_
    refine g_iload 68 C dX8_lays_66 (j := 5) rfl rfl ?_
    refine g_csi 71 C (As := [.int l3, .int l5]) (fun _ h => mX8_has (a1 := l3) (a2 := l5) (σ := σ) h) wl_X8_102 ws_X8_has wc_X8_has wn_X8 qX8_has rfl rfl ⟨Nat.le_of_ble_eq_true rfl, Nat.le_of_ble_eq_true rfl⟩ rfl rfl (Nat.le_of_ble_eq_true rfl) dX8_lays_68 rfl h (fun o3 h => ?_)
    refine g_if_eq 87 74 C dX8_lays_71 (by decide) rfl h (fun h => ?_) (fun h => ?_)
    · refine g_iconst 88 (v := 0) C dX8_lays_87 (by decide) rfl ?_
      exact g_sub [0, 1, 2, 3, 5] (tX8_lays_L88 (l1 := l1) (l2 := l2) (l3 := l3) (l5 := l5) (s0 := l4) (s1 := 0) (σ := o3.2) C K0 h K) rfl
    · refine g_aload_n 75 C dX8_lays_74 rfl (j := 0) rfl rfl ?_
      refine g_iload 77 C dX8_lays_75 (j := 5) rfl rfl ?_
      refine g_cvi 80 C (As := [.int l5]) (fun _ h => mX8_direct (a1 := l5) (σ := o3.2) h) wl_X8_109 wi_X8_direct wz_X8_direct wc_X8_direct wn_X8 qX8_direct rfl rfl ⟨Nat.le_of_ble_eq_true rfl, Nat.le_of_ble_eq_true rfl⟩ rfl rfl rfl rfl (Nat.le_of_ble_eq_true rfl) dX8_lays_77 rfl h (fun o4 h => ?_)
      refine g_iload_n 81 C dX8_lays_80 rfl (j := 3) rfl rfl ?_
      refine g_iconst 82 (v := (-1)) C dX8_lays_81 (by decide) rfl ?_
      refine g_ixor 83 C dX8_lays_82 rfl ?_
      refine g_iand 84 C dX8_lays_83 rfl ?_
      refine g_goto 88 C dX8_lays_84 (by decide) ?_
      exact g_sub [0, 1, 2, 3, 5] (tX8_lays_L88 (l1 := l1) (l2 := l2) (l3 := l3) (l5 := l5) (s0 := l4) (s1 := (o4.1 &&& (l3 ^^^ (-1)))) (σ := o4.2) C K0 h K) rfl
noncomputable def fX8_lays_L126 (l1 : Int32) (l2 : Int32) (σ : Mem) : Option ((Int32 × Int32 × Mem) ⊕ (Int32 × Mem)) :=
  some (.inl (l1, l2 + 1, σ))
set_option maxHeartbeats 4000000 in
set_option maxRecDepth 100000 in
theorem tX8_lays_L126 {E : Gx} {cI : ClassId} {ad : Nat → Nat} (C : Cx E rmX8_lays cI layM ad 6 RX8 cX8_lays) {out : Mem} (K0 : KV E rmX8_lays cI layM ad 6 cX8_lays out) {l1 : Int32} {l2 : Int32} {σ : Mem} {res : (Int32 × Int32 × Mem) ⊕ (Int32 × Mem)} (h : fX8_lays_L126 l1 l2 σ = some res) (K : Sum.elim (fun a => G E rmX8_lays cI layM ad 6 34 [(0, .ref (ad 0)), (1, .int a.1), (2, .int a.2.1)] [] a.2.2) (fun b => G E rmX8_lays cI layM ad 6 132 [(0, .ref (ad 0)), (1, .int b.1)] [] b.2) res) : G E rmX8_lays cI layM ad 6 126 [(0, .ref (ad 0)), (1, .int l1), (2, .int l2)] [] σ := by
  unfold fX8_lays_L126 at h
  refine g_iinc 129 [(2, .int (l2 + 1)), (0, .ref (ad 0)), (1, .int l1)] C dX8_lays_126 (j := 2) rfl (by rfl) (by decide) rfl rfl ?_
  refine g_goto 34 C dX8_lays_129 (by decide) ?_
  have hh := end_inl h K
  exact g_sub [1, 2, 0] (hh) rfl
noncomputable def fX8_lays_L97 (l1 : Int32) (l2 : Int32) (l3 : Int32) (l4 : Int32) (σ : Mem) : Option ((Int32 × Int32 × Mem) ⊕ (Int32 × Mem)) :=
  (fX8_has l1 l2 σ).bind fun o6 =>
  if o6.1 = 0 then
    if (l4 &&& (l1 ^^^ (-1))) = 0 then
      (fX8_laysCycle l3 o6.2).bind fun o7 =>
      fX8_lays_L126 (l1 ||| l3) l2 o7
    else
      fX8_lays_L126 l1 l2 o6.2
  else
    fX8_lays_L126 l1 l2 o6.2
set_option maxHeartbeats 4000000 in
set_option maxRecDepth 100000 in
theorem tX8_lays_L97 {E : Gx} {cI : ClassId} {ad : Nat → Nat} (C : Cx E rmX8_lays cI layM ad 6 RX8 cX8_lays) {out : Mem} (K0 : KV E rmX8_lays cI layM ad 6 cX8_lays out) {l1 : Int32} {l2 : Int32} {l3 : Int32} {l4 : Int32} {σ : Mem} {res : (Int32 × Int32 × Mem) ⊕ (Int32 × Mem)} (h : fX8_lays_L97 l1 l2 l3 l4 σ = some res) (K : Sum.elim (fun a => G E rmX8_lays cI layM ad 6 34 [(0, .ref (ad 0)), (1, .int a.1), (2, .int a.2.1)] [] a.2.2) (fun b => G E rmX8_lays cI layM ad 6 132 [(0, .ref (ad 0)), (1, .int b.1)] [] b.2) res) : G E rmX8_lays cI layM ad 6 97 [(0, .ref (ad 0)), (1, .int l1), (2, .int l2), (3, .int l3), (4, .int l4)] [] σ := by
  unfold fX8_lays_L97 at h
  refine g_iload_n 98 C dX8_lays_97 rfl (j := 1) rfl rfl ?_
  refine g_iload_n 99 C dX8_lays_98 rfl (j := 2) rfl rfl ?_
  refine g_csi 102 C (As := [.int l1, .int l2]) (fun _ h => mX8_has (a1 := l1) (a2 := l2) (σ := σ) h) wl_X8_102 ws_X8_has wc_X8_has wn_X8 qX8_has rfl rfl ⟨Nat.le_of_ble_eq_true rfl, Nat.le_of_ble_eq_true rfl⟩ rfl rfl (Nat.le_of_ble_eq_true rfl) dX8_lays_99 rfl h (fun o6 h => ?_)
  refine g_if_ne 126 105 C dX8_lays_102 (by decide) rfl h (fun h => ?_) (fun h => ?_)
  · refine g_iload 107 C dX8_lays_105 (j := 4) rfl rfl ?_
    refine g_iload_n 108 C dX8_lays_107 rfl (j := 1) rfl rfl ?_
    refine g_iconst 109 (v := (-1)) C dX8_lays_108 (by decide) rfl ?_
    refine g_ixor 110 C dX8_lays_109 rfl ?_
    refine g_iand 111 C dX8_lays_110 rfl ?_
    refine g_if_eq 117 114 C dX8_lays_111 (by decide) rfl h (fun h => ?_) (fun h => ?_)
    · refine g_aload_n 118 C dX8_lays_117 rfl (j := 0) rfl rfl ?_
      refine g_iload_n 119 C dX8_lays_118 rfl (j := 3) rfl rfl ?_
      refine g_cvv 122 C (As := [.int l3]) (fun _ h => mX8_laysCycle (a1 := l3) (σ := o6.2) h) wl_X8_187 wi_X8_laysCycle wz_X8_laysCycle wc_X8_laysCycle wn_X8 qX8_laysCycle rfl rfl ⟨Nat.le_of_ble_eq_true rfl, Nat.le_of_ble_eq_true rfl⟩ rfl rfl rfl rfl (Nat.le_of_ble_eq_true rfl) dX8_lays_119 rfl h (fun o7 h => ?_)
      refine g_iload_n 123 C dX8_lays_122 rfl (j := 1) rfl rfl ?_
      refine g_iload_n 124 C dX8_lays_123 rfl (j := 3) rfl rfl ?_
      refine g_ior 125 C dX8_lays_124 rfl ?_
      refine g_istore_n 126 [(1, .int (l1 ||| l3)), (0, .ref (ad 0)), (2, .int l2), (3, .int l3), (4, .int l4)] C dX8_lays_125 rfl (by decide) rfl rfl ?_
      exact g_sub [1, 0, 2] (tX8_lays_L126 (l1 := (l1 ||| l3)) (l2 := l2) (σ := o7) C K0 h K) rfl
    · refine g_goto 126 C dX8_lays_114 (by decide) ?_
      exact g_sub [0, 1, 2] (tX8_lays_L126 (l1 := l1) (l2 := l2) (σ := o6.2) C K0 h K) rfl
  · exact g_sub [0, 1, 2] (tX8_lays_L126 (l1 := l1) (l2 := l2) (σ := o6.2) C K0 h K) rfl
noncomputable def fX8_lays_B34 (l1 : Int32) (l2 : Int32) (σ : Mem) : Option ((Int32 × Int32 × Mem) ⊕ (Int32 × Mem)) :=
  if (σ 0 6) ≤ l2 then
    some (.inr (l1, σ))
  else
    (fX8_cycleOf l2 σ).bind fun o2 =>
    (loop (fun a => fX8_lays_B54 l1 l2 o2.1 a.1 a.2.1 a.2.2) (0, 0, o2.2)).bind fun b5 =>
    fX8_lays_L97 l1 l2 o2.1 b5.1 b5.2
set_option maxHeartbeats 4000000 in
set_option maxRecDepth 100000 in
theorem tX8_lays_B34 {E : Gx} {cI : ClassId} {ad : Nat → Nat} (C : Cx E rmX8_lays cI layM ad 6 RX8 cX8_lays) {out : Mem} (K0 : KV E rmX8_lays cI layM ad 6 cX8_lays out) {l1 : Int32} {l2 : Int32} {σ : Mem} {res : (Int32 × Int32 × Mem) ⊕ (Int32 × Mem)} (h : fX8_lays_B34 l1 l2 σ = some res) (K : Sum.elim (fun a => G E rmX8_lays cI layM ad 6 34 [(0, .ref (ad 0)), (1, .int a.1), (2, .int a.2.1)] [] a.2.2) (fun b => G E rmX8_lays cI layM ad 6 132 [(0, .ref (ad 0)), (1, .int b.1)] [] b.2) res) : G E rmX8_lays cI layM ad 6 34 [(0, .ref (ad 0)), (1, .int l1), (2, .int l2)] [] σ := by
  unfold fX8_lays_B34 at h
  refine g_iload_n 35 C dX8_lays_34 rfl (j := 2) rfl rfl ?_
  refine g_aload_n 36 C dX8_lays_35 rfl (j := 0) rfl rfl ?_
  refine g_geti 39 (j := 6) C rfl rfl wu_X8 (by decide) wf_X8_72 rfl dX8_lays_36 rfl ?_
  refine g_icmp_ge 132 42 C dX8_lays_39 (by decide) rfl h (fun h => ?_) (fun h => ?_)
  · have hh := end_inr h K
    exact g_sub [0, 1] (hh) rfl
  · refine g_aload_n 43 C dX8_lays_42 rfl (j := 0) rfl rfl ?_
    refine g_iload_n 44 C dX8_lays_43 rfl (j := 2) rfl rfl ?_
    refine g_cvi 47 C (As := [.int l2]) (fun _ h => mX8_cycleOf (a1 := l2) (σ := σ) h) wl_X8_115 wi_X8_cycleOf wz_X8_cycleOf wc_X8_cycleOf wn_X8 qX8_cycleOf rfl rfl ⟨Nat.le_of_ble_eq_true rfl, Nat.le_of_ble_eq_true rfl⟩ rfl rfl rfl rfl (Nat.le_of_ble_eq_true rfl) dX8_lays_44 rfl h (fun o2 h => ?_)
    refine g_istore_n 48 [(3, .int o2.1), (0, .ref (ad 0)), (1, .int l1), (2, .int l2)] C dX8_lays_47 rfl (by decide) rfl rfl ?_
    refine g_iconst 49 (v := 0) C dX8_lays_48 (by decide) rfl ?_
    refine g_istore 51 [(4, .int 0), (3, .int o2.1), (0, .ref (ad 0)), (1, .int l1), (2, .int l2)] C dX8_lays_49 (by decide) rfl rfl ?_
    refine g_iconst 52 (v := 0) C dX8_lays_51 (by decide) rfl ?_
    refine g_istore 54 [(5, .int 0), (4, .int 0), (3, .int o2.1), (0, .ref (ad 0)), (1, .int l1), (2, .int l2)] C dX8_lays_52 (by decide) rfl rfl ?_
    obtain ⟨b5, hb, h⟩ := bind_some h
    refine g_sub [3, 4, 5, 2, 1, 0] (g_loop (a := (0, 0, o2.2)) (fun a => G E rmX8_lays cI layM ad 6 54 [(0, .ref (ad 0)), (1, .int l1), (2, .int l2), (3, .int o2.1), (4, .int a.1), (5, .int a.2.1)] [] a.2.2) (fun b => G E rmX8_lays cI layM ad 6 97 [(0, .ref (ad 0)), (1, .int l1), (2, .int l2), (3, .int o2.1), (4, .int b.1)] [] b.2) hb (fun a res h K => tX8_lays_B54 (l1 := l1) (l2 := l2) (l3 := o2.1) (l4 := a.1) (l5 := a.2.1) (σ := a.2.2) (res := res) C K0 h K) ?_) rfl
    show G E rmX8_lays cI layM ad 6 97 [(0, .ref (ad 0)), (1, .int l1), (2, .int l2), (3, .int o2.1), (4, .int b5.1)] [] b5.2
    exact tX8_lays_L97 (l1 := l1) (l2 := l2) (l3 := o2.1) (l4 := b5.1) (σ := b5.2) C K0 h K
noncomputable def fX8_lays_L132 (l1 : Int32) (σ : Mem) : Option ((Int32 × Mem) ⊕ (Mem)) :=
  some (.inl (l1, σ))
set_option maxHeartbeats 4000000 in
set_option maxRecDepth 100000 in
theorem tX8_lays_L132 {E : Gx} {cI : ClassId} {ad : Nat → Nat} (C : Cx E rmX8_lays cI layM ad 6 RX8 cX8_lays) {out : Mem} (K0 : KV E rmX8_lays cI layM ad 6 cX8_lays out) {l1 : Int32} {σ : Mem} {res : (Int32 × Mem) ⊕ (Mem)} (h : fX8_lays_L132 l1 σ = some res) (K : Sum.elim (fun a => G E rmX8_lays cI layM ad 6 19 [(0, .ref (ad 0)), (1, .int a.1)] [] a.2) (fun b => G E rmX8_lays cI layM ad 6 135 [] [] b) res) : G E rmX8_lays cI layM ad 6 132 [(0, .ref (ad 0)), (1, .int l1)] [] σ := by
  unfold fX8_lays_L132 at h
  refine g_goto 19 C dX8_lays_132 (by decide) ?_
  have hh := end_inl h K
  exact hh
noncomputable def fX8_lays_B19 (l1 : Int32) (σ : Mem) : Option ((Int32 × Mem) ⊕ (Mem)) :=
  if l1 = (((lshlV 1 (σ 0 6)) - 1).toInt32) then
    some (.inr σ)
  else
    (loop (fun a => fX8_lays_B34 a.1 a.2.1 a.2.2) (l1, 0, σ)).bind fun b8 =>
    fX8_lays_L132 b8.1 b8.2
set_option maxHeartbeats 4000000 in
set_option maxRecDepth 100000 in
theorem tX8_lays_B19 {E : Gx} {cI : ClassId} {ad : Nat → Nat} (C : Cx E rmX8_lays cI layM ad 6 RX8 cX8_lays) {out : Mem} (K0 : KV E rmX8_lays cI layM ad 6 cX8_lays out) {l1 : Int32} {σ : Mem} {res : (Int32 × Mem) ⊕ (Mem)} (h : fX8_lays_B19 l1 σ = some res) (K : Sum.elim (fun a => G E rmX8_lays cI layM ad 6 19 [(0, .ref (ad 0)), (1, .int a.1)] [] a.2) (fun b => G E rmX8_lays cI layM ad 6 135 [] [] b) res) : G E rmX8_lays cI layM ad 6 19 [(0, .ref (ad 0)), (1, .int l1)] [] σ := by
  unfold fX8_lays_B19 at h
  refine g_iload_n 20 C dX8_lays_19 rfl (j := 1) rfl rfl ?_
  refine g_lconst 21 (v := 1) C dX8_lays_20 (by decide) rfl ?_
  refine g_aload_n 22 C dX8_lays_21 rfl (j := 0) rfl rfl ?_
  refine g_geti 25 (j := 6) C rfl rfl wu_X8 (by decide) wf_X8_72 rfl dX8_lays_22 rfl ?_
  refine g_lshl 26 C dX8_lays_25 rfl ?_
  refine g_lconst 27 (v := 1) C dX8_lays_26 (by decide) rfl ?_
  refine g_lsub 28 C dX8_lays_27 rfl ?_
  refine g_l2i 29 C dX8_lays_28 rfl ?_
  refine g_icmp_eq 135 32 C dX8_lays_29 (by decide) rfl h (fun h => ?_) (fun h => ?_)
  · have hh := end_inr h K
    exact g_sub [] (hh) rfl
  · refine g_iconst 33 (v := 0) C dX8_lays_32 (by decide) rfl ?_
    refine g_istore_n 34 [(2, .int 0), (0, .ref (ad 0)), (1, .int l1)] C dX8_lays_33 rfl (by decide) rfl rfl ?_
    obtain ⟨b8, hb, h⟩ := bind_some h
    refine g_sub [1, 2, 0] (g_loop (a := (l1, 0, σ)) (fun a => G E rmX8_lays cI layM ad 6 34 [(0, .ref (ad 0)), (1, .int a.1), (2, .int a.2.1)] [] a.2.2) (fun b => G E rmX8_lays cI layM ad 6 132 [(0, .ref (ad 0)), (1, .int b.1)] [] b.2) hb (fun a res h K => tX8_lays_B34 (l1 := a.1) (l2 := a.2.1) (σ := a.2.2) (res := res) C K0 h K) ?_) rfl
    show G E rmX8_lays cI layM ad 6 132 [(0, .ref (ad 0)), (1, .int b8.1)] [] b8.2
    exact tX8_lays_L132 (l1 := b8.1) (σ := b8.2) C K0 h K
noncomputable def fX8_lays_L135 (σ : Mem) : Option (Mem) :=
  some σ
set_option maxHeartbeats 4000000 in
set_option maxRecDepth 100000 in
theorem tX8_lays_L135 {E : Gx} {cI : ClassId} {ad : Nat → Nat} (C : Cx E rmX8_lays cI layM ad 6 RX8 cX8_lays) {out : Mem} (K0 : KV E rmX8_lays cI layM ad 6 cX8_lays out) {σ : Mem} (h : fX8_lays_L135 σ = some out) : G E rmX8_lays cI layM ad 6 135 [] [] σ := by
  unfold fX8_lays_L135 at h
  cases h
  exact K0 _ _ dX8_lays_135
noncomputable def fX8_lays (σ : Mem) : Option (Mem) :=
  if (σ 0 11) = 0 then
    (fX8_laysHangs (up2 σ 0 11 1)).bind fun o1 =>
    (loop (fun a => fX8_lays_B19 a.1 a.2) (0, o1)).bind fun b9 =>
    fX8_lays_L135 b9
  else
    some σ
set_option maxHeartbeats 4000000 in
set_option maxRecDepth 100000 in
theorem mX8_lays {l : Launch} {D : va_G} {cI : ClassId} {ad : Nat → Nat} {σ : Mem} {out : Mem} (h : fX8_lays σ = some out) : MV l D cI layM ad yX8_lays cX8_lays 6 rmX8_lays [.ref (ad 0)] σ out := by
  refine met_v (by decide) (Nat.le_of_ble_eq_true rfl) (fun E C K0 => ?_)
  show G E rmX8_lays cI layM ad 6 0 [(0, .ref (ad 0))] [] σ
  unfold fX8_lays at h
  refine g_aload_n 1 C dX8_lays_0 rfl (j := 0) rfl rfl ?_
  refine g_geti 4 (j := 11) C rfl rfl wu_X8 (by decide) wf_X8_79 rfl dX8_lays_1 rfl ?_
  refine g_if_eq 8 7 C dX8_lays_4 (by decide) rfl h (fun h => ?_) (fun h => ?_)
  · refine g_aload_n 9 C dX8_lays_8 rfl (j := 0) rfl rfl ?_
    refine g_iconst 10 (v := 1) C dX8_lays_9 (by decide) rfl ?_
    refine g_puti 13 (j := 11) C rfl rfl wu_X8 (by decide) wf_X8_79 tyX8 tyX8_ok nmX8 rfl rfl rfl rfl dX8_lays_10 rfl ?_
    refine g_aload_n 14 C dX8_lays_13 rfl (j := 0) rfl rfl ?_
    refine g_cvv 17 C (As := []) (fun _ h => mX8_laysHangs (σ := up2 σ 0 11 1) h) wl_X8_112 wi_X8_laysHangs wz_X8_laysHangs wc_X8_laysHangs wn_X8 qX8_laysHangs rfl rfl ⟨Nat.le_of_ble_eq_true rfl, Nat.le_of_ble_eq_true rfl⟩ rfl rfl rfl rfl (Nat.le_of_ble_eq_true rfl) dX8_lays_14 rfl h (fun o1 h => ?_)
    refine g_iconst 18 (v := 0) C dX8_lays_17 (by decide) rfl ?_
    refine g_istore_n 19 [(1, .int 0), (0, .ref (ad 0))] C dX8_lays_18 rfl (by decide) rfl rfl ?_
    obtain ⟨b9, hb, h⟩ := bind_some h
    refine g_sub [1, 0] (g_loop (a := (0, o1)) (fun a => G E rmX8_lays cI layM ad 6 19 [(0, .ref (ad 0)), (1, .int a.1)] [] a.2) (fun b => G E rmX8_lays cI layM ad 6 135 [] [] b) hb (fun a res h K => tX8_lays_B19 (l1 := a.1) (σ := a.2) (res := res) C K0 h K) ?_) rfl
    show G E rmX8_lays cI layM ad 6 135 [] [] b9
    exact tX8_lays_L135 (σ := b9) C K0 h
  · cases h
    exact K0 _ _ dX8_lays_7
