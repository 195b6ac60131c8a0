/-! LoopReducer$Forms.isThere(I)Z -/
abbrev rmX1_isThere : Room := { frames := 0, cells := 0, slots := 0, locals := 0 }
theorem qX1_isThere : yX1_isThere.cls ≠ "java/lang/invoke/MethodHandle" ∧ yX1_isThere.cls ≠ "java/lang/invoke/VarHandle" ∧ (parseMethodDescriptor yX1_isThere.desc).map (fun d => d.parameters.length) = some 1 := by decide +kernel
theorem DX1_isThere : ∀ q ∈ ([(0, .aload_n 0, 1), (1, .getfield 9, 3), (4, .iload_n 1, 1), (5, .iaload, 1), (6, .ifCond .lt 7, 3), (9, .iconst 1, 1), (10, .goto 4, 3), (13, .iconst 0, 1), (14, .ireturn, 1)] : List (Nat × Instr × Nat)), decode cX1_isThere q.1 = .ok q.2 := by decide +kernel
theorem dX1_isThere_0 : decode cX1_isThere 0 = .ok (.aload_n 0, 1) := DX1_isThere (0, .aload_n 0, 1) (List.mem_of_getElem? (i := 0) rfl)
theorem dX1_isThere_1 : decode cX1_isThere 1 = .ok (.getfield 9, 3) := DX1_isThere (1, .getfield 9, 3) (List.mem_of_getElem? (i := 1) rfl)
theorem dX1_isThere_4 : decode cX1_isThere 4 = .ok (.iload_n 1, 1) := DX1_isThere (4, .iload_n 1, 1) (List.mem_of_getElem? (i := 2) rfl)
theorem dX1_isThere_5 : decode cX1_isThere 5 = .ok (.iaload, 1) := DX1_isThere (5, .iaload, 1) (List.mem_of_getElem? (i := 3) rfl)
theorem dX1_isThere_6 : decode cX1_isThere 6 = .ok (.ifCond .lt 7, 3) := DX1_isThere (6, .ifCond .lt 7, 3) (List.mem_of_getElem? (i := 4) rfl)
theorem dX1_isThere_9 : decode cX1_isThere 9 = .ok (.iconst 1, 1) := DX1_isThere (9, .iconst 1, 1) (List.mem_of_getElem? (i := 5) rfl)
theorem dX1_isThere_10 : decode cX1_isThere 10 = .ok (.goto 4, 3) := DX1_isThere (10, .goto 4, 3) (List.mem_of_getElem? (i := 6) rfl)
theorem dX1_isThere_13 : decode cX1_isThere 13 = .ok (.iconst 0, 1) := DX1_isThere (13, .iconst 0, 1) (List.mem_of_getElem? (i := 7) rfl)
theorem dX1_isThere_14 : decode cX1_isThere 14 = .ok (.ireturn, 1) := DX1_isThere (14, .ireturn, 1) (List.mem_of_getElem? (i := 8) rfl)
noncomputable def fX1_isThere_L14 (s0 : Int32) (σ : Mem) : Option (Int32 × Mem) :=
  chk (s0 == 0 || s0 == 1) <|
  some (s0, σ)
set_option maxHeartbeats 4000000 in
set_option maxRecDepth 100000 in
theorem tX1_isThere_L14 {E : Gx} {cI : ClassId} {ad : Nat → Nat} (C : Cx E rmX1_isThere cI layX ad 2 RX1 cX1_isThere) {out : Int32 × Mem} (K0 : KI E rmX1_isThere cI layX ad 2 cX1_isThere .boolean out) {s0 : Int32} {σ : Mem} (h : fX1_isThere_L14 s0 σ = some out) : G E rmX1_isThere cI layX ad 2 14 [] [.int s0] σ := by
  unfold fX1_isThere_L14 at h
  obtain ⟨hz, h⟩ := chk_some h
  cases h
  exact K0 _ _ dX1_isThere_14 (zb_nar hz)
noncomputable def fX1_isThere (a1 : Int32) (σ : Mem) : Option (Int32 × Mem) :=
  chk (inb a1 31) <|
  if (σ 17 a1.toNatClampNeg) < 0 then
    fX1_isThere_L14 0 σ
  else
    fX1_isThere_L14 1 σ
set_option maxHeartbeats 4000000 in
set_option maxRecDepth 100000 in
theorem mX1_isThere {l : Launch} {D : va_G} {cI : ClassId} {ad : Nat → Nat} {a1 : Int32} {σ : Mem} {out : Int32 × Mem} (h : fX1_isThere a1 σ = some out) : MI l D cI layX ad yX1_isThere cX1_isThere 2 .boolean rmX1_isThere [.ref (ad 1), .int a1] σ out := by
  refine met_i (by decide) (Nat.le_of_ble_eq_true rfl) (fun E C K0 => ?_)
  show G E rmX1_isThere cI layX ad 2 0 [(0, .ref (ad 1)), (1, .int a1)] [] σ
  unfold fX1_isThere at h
  refine g_aload_n 1 C dX1_isThere_0 rfl (j := 0) rfl rfl ?_
  refine g_getr 4 (j := 2) C rfl rfl wu_X1 (by decide) wf_X1_9 rfl dX1_isThere_1 rfl ?_
  refine g_iload_n 5 C dX1_isThere_4 rfl (j := 1) rfl rfl ?_
  refine g_iald 6 C rfl dX1_isThere_5 rfl h (fun h => ?_)
  refine g_if_lt 13 9 C dX1_isThere_6 (by decide) rfl h (fun h => ?_) (fun h => ?_)
  · refine g_iconst 14 (v := 0) C dX1_isThere_13 (by decide) rfl ?_
    exact g_sub [] (tX1_isThere_L14 (s0 := 0) (σ := σ) C K0 h) rfl
  · refine g_iconst 10 (v := 1) C dX1_isThere_9 (by decide) rfl ?_
    refine g_goto 14 C dX1_isThere_10 (by decide) ?_
    exact g_sub [] (tX1_isThere_L14 (s0 := 1) (σ := σ) C K0 h) rfl

/-! LoopReducer$Forms.degree(I)I -/
abbrev rmX1_degree : Room := { frames := 0, cells := 0, slots := 0, locals := 0 }
theorem qX1_degree : yX1_degree.cls ≠ "java/lang/invoke/MethodHandle" ∧ yX1_degree.cls ≠ "java/lang/invoke/VarHandle" ∧ (parseMethodDescriptor yX1_degree.desc).map (fun d => d.parameters.length) = some 1 := by decide +kernel
theorem DX1_degree : ∀ q ∈ ([(0, .iconst 3, 1), (1, .istore_n 2, 1), (2, .iload_n 2, 1), (3, .ifCond .le 27, 3), (6, .aload_n 0, 1), (7, .getfield 15, 3), (10, .getfield 23, 3), (13, .iload_n 1, 1), (14, .iconst 4, 1), (15, .imul, 1), (16, .iload_n 2, 1), (17, .iadd, 1), (18, .iaload, 1), (19, .ifCond .le 5, 3), (22, .iload_n 2, 1), (23, .ireturn, 1), (24, .iinc 2 (-1), 3), (27, .goto (-25), 3), (30, .iconst 0, 1), (31, .ireturn, 1)] : List (Nat × Instr × Nat)), decode cX1_degree q.1 = .ok q.2 := by decide +kernel
theorem dX1_degree_0 : decode cX1_degree 0 = .ok (.iconst 3, 1) := DX1_degree (0, .iconst 3, 1) (List.mem_of_getElem? (i := 0) rfl)
theorem dX1_degree_1 : decode cX1_degree 1 = .ok (.istore_n 2, 1) := DX1_degree (1, .istore_n 2, 1) (List.mem_of_getElem? (i := 1) rfl)
theorem dX1_degree_2 : decode cX1_degree 2 = .ok (.iload_n 2, 1) := DX1_degree (2, .iload_n 2, 1) (List.mem_of_getElem? (i := 2) rfl)
theorem dX1_degree_3 : decode cX1_degree 3 = .ok (.ifCond .le 27, 3) := DX1_degree (3, .ifCond .le 27, 3) (List.mem_of_getElem? (i := 3) rfl)
theorem dX1_degree_6 : decode cX1_degree 6 = .ok (.aload_n 0, 1) := DX1_degree (6, .aload_n 0, 1) (List.mem_of_getElem? (i := 4) rfl)
theorem dX1_degree_7 : decode cX1_degree 7 = .ok (.getfield 15, 3) := DX1_degree (7, .getfield 15, 3) (List.mem_of_getElem? (i := 5) rfl)
theorem dX1_degree_10 : decode cX1_degree 10 = .ok (.getfield 23, 3) := DX1_degree (10, .getfield 23, 3) (List.mem_of_getElem? (i := 6) rfl)
theorem dX1_degree_13 : decode cX1_degree 13 = .ok (.iload_n 1, 1) := DX1_degree (13, .iload_n 1, 1) (List.mem_of_getElem? (i := 7) rfl)
theorem dX1_degree_14 : decode cX1_degree 14 = .ok (.iconst 4, 1) := DX1_degree (14, .iconst 4, 1) (List.mem_of_getElem? (i := 8) rfl)
theorem dX1_degree_15 : decode cX1_degree 15 = .ok (.imul, 1) := DX1_degree (15, .imul, 1) (List.mem_of_getElem? (i := 9) rfl)
theorem dX1_degree_16 : decode cX1_degree 16 = .ok (.iload_n 2, 1) := DX1_degree (16, .iload_n 2, 1) (List.mem_of_getElem? (i := 10) rfl)
theorem dX1_degree_17 : decode cX1_degree 17 = .ok (.iadd, 1) := DX1_degree (17, .iadd, 1) (List.mem_of_getElem? (i := 11) rfl)
theorem dX1_degree_18 : decode cX1_degree 18 = .ok (.iaload, 1) := DX1_degree (18, .iaload, 1) (List.mem_of_getElem? (i := 12) rfl)
theorem dX1_degree_19 : decode cX1_degree 19 = .ok (.ifCond .le 5, 3) := DX1_degree (19, .ifCond .le 5, 3) (List.mem_of_getElem? (i := 13) rfl)
theorem dX1_degree_22 : decode cX1_degree 22 = .ok (.iload_n 2, 1) := DX1_degree (22, .iload_n 2, 1) (List.mem_of_getElem? (i := 14) rfl)
theorem dX1_degree_23 : decode cX1_degree 23 = .ok (.ireturn, 1) := DX1_degree (23, .ireturn, 1) (List.mem_of_getElem? (i := 15) rfl)
theorem dX1_degree_24 : decode cX1_degree 24 = .ok (.iinc 2 (-1), 3) := DX1_degree (24, .iinc 2 (-1), 3) (List.mem_of_getElem? (i := 16) rfl)
theorem dX1_degree_27 : decode cX1_degree 27 = .ok (.goto (-25), 3) := DX1_degree (27, .goto (-25), 3) (List.mem_of_getElem? (i := 17) rfl)
theorem dX1_degree_30 : decode cX1_degree 30 = .ok (.iconst 0, 1) := DX1_degree (30, .iconst 0, 1) (List.mem_of_getElem? (i := 18) rfl)
theorem dX1_degree_31 : decode cX1_degree 31 = .ok (.ireturn, 1) := DX1_degree (31, .ireturn, 1) (List.mem_of_getElem? (i := 19) rfl)
noncomputable def fX1_degree_B2 (l1 : Int32) (l2 : Int32) (σ : Mem) : Option ((Int32 × Mem) ⊕ ((Mem) ⊕ (Int32 × Mem))) :=
  if l2 ≤ 0 then
    some (.inr (.inl σ))
  else
    chk (inb ((l1 * 4) + l2) 125) <|
    if (σ 16 ((l1 * 4) + l2).toNatClampNeg) ≤ 0 then
      some (.inl (l2 + (-1), σ))
    else
      some (.inr (.inr (l2, σ)))
set_option maxHeartbeats 4000000 in
set_option maxRecDepth 100000 in
theorem tX1_degree_B2 {E : Gx} {cI : ClassId} {ad : Nat → Nat} (C : Cx E rmX1_degree cI layX ad 3 RX1 cX1_degree) {out : Int32 × Mem} (K0 : KI E rmX1_degree cI layX ad 3 cX1_degree .int out) {l1 : Int32} {l2 : Int32} {σ : Mem} {res : (Int32 × Mem) ⊕ ((Mem) ⊕ (Int32 × Mem))} (h : fX1_degree_B2 l1 l2 σ = some res) (K : Sum.elim (fun a => G E rmX1_degree cI layX ad 3 2 [(0, .ref (ad 1)), (1, .int l1), (2, .int a.1)] [] a.2) (Sum.elim (fun b => G E rmX1_degree cI layX ad 3 30 [] [] b) (fun b => b = out)) res) : G E rmX1_degree cI layX ad 3 2 [(0, .ref (ad 1)), (1, .int l1), (2, .int l2)] [] σ := by
  unfold fX1_degree_B2 at h
  refine g_iload_n 3 C dX1_degree_2 rfl (j := 2) rfl rfl ?_
  refine g_if_le 30 6 C dX1_degree_3 (by decide) rfl h (fun h => ?_) (fun h => ?_)
  · have hh := end_alt0_2 h K
    exact g_sub [] (hh) rfl
  · refine g_aload_n 7 C dX1_degree_6 rfl (j := 0) rfl rfl ?_
    refine g_getr 10 (j := 0) C rfl rfl wu_X1 (by decide) wf_X1_15 rfl dX1_degree_7 rfl ?_
    refine g_getrN 13 (j := 3) C rfl rfl wu_X5 (by decide) (List.mem_of_getElem? (i := 33) rfl) rfl dX1_degree_10 rfl ?_
    refine g_iload_n 14 C dX1_degree_13 rfl (j := 1) rfl rfl ?_
    refine g_iconst 15 (v := 4) C dX1_degree_14 (by decide) rfl ?_
    refine g_imul 16 C dX1_degree_15 rfl ?_
    refine g_iload_n 17 C dX1_degree_16 rfl (j := 2) rfl rfl ?_
    refine g_iadd 18 C dX1_degree_17 rfl ?_
    refine g_iald 19 C rfl dX1_degree_18 rfl h (fun h => ?_)
    refine g_if_le 24 22 C dX1_degree_19 (by decide) rfl h (fun h => ?_) (fun h => ?_)
    · refine g_iinc 27 [(2, .int (l2 + (-1))), (0, .ref (ad 1)), (1, .int l1)] C dX1_degree_24 (j := 2) rfl (by rfl) (by decide) rfl rfl ?_
      refine g_goto 2 C dX1_degree_27 (by decide) ?_
      have hh := end_inl h K
      exact g_sub [1, 2, 0] (hh) rfl
    · refine g_iload_n 23 C dX1_degree_22 rfl (j := 2) rfl rfl ?_
      have ho := end_alt1_2 h K
      replace ho : (l2, σ) = out := ho
      subst ho
      exact K0 _ _ dX1_degree_23 rfl
noncomputable def fX1_degree_L30 (σ : Mem) : Option (Int32 × Mem) :=
  some (0, σ)
set_option maxHeartbeats 4000000 in
set_option maxRecDepth 100000 in
theorem tX1_degree_L30 {E : Gx} {cI : ClassId} {ad : Nat → Nat} (C : Cx E rmX1_degree cI layX ad 3 RX1 cX1_degree) {out : Int32 × Mem} (K0 : KI E rmX1_degree cI layX ad 3 cX1_degree .int out) {σ : Mem} (h : fX1_degree_L30 σ = some out) : G E rmX1_degree cI layX ad 3 30 [] [] σ := by
  unfold fX1_degree_L30 at h
  refine g_iconst 31 (v := 0) C dX1_degree_30 (by decide) rfl ?_
  cases h
  exact K0 _ _ dX1_degree_31 rfl
noncomputable def fX1_degree (a1 : Int32) (σ : Mem) : Option (Int32 × Mem) :=
  (loop (fun a => fX1_degree_B2 a1 a.1 a.2) (3, σ)).bind (Sum.elim (fun b1x0 => fX1_degree_L30 b1x0) (fun b1r => some b1r))
set_option maxHeartbeats 4000000 in
set_option maxRecDepth 100000 in
theorem mX1_degree {l : Launch} {D : va_G} {cI : ClassId} {ad : Nat → Nat} {a1 : Int32} {σ : Mem} {out : Int32 × Mem} (h : fX1_degree a1 σ = some out) : MI l D cI layX ad yX1_degree cX1_degree 3 .int rmX1_degree [.ref (ad 1), .int a1] σ out := by
  refine met_i (by decide) (Nat.le_of_ble_eq_true rfl) (fun E C K0 => ?_)
  show G E rmX1_degree cI layX ad 3 0 [(0, .ref (ad 1)), (1, .int a1)] [] σ
  unfold fX1_degree at h
  refine g_iconst 1 (v := 3) C dX1_degree_0 (by decide) rfl ?_
  refine g_istore_n 2 [(2, .int 3), (0, .ref (ad 1)), (1, .int a1)] C dX1_degree_1 rfl (by decide) rfl rfl ?_
  obtain ⟨b1, hb, h⟩ := bind_some h
  refine g_sub [1, 2, 0] (g_loop (a := (3, σ)) (fun a => G E rmX1_degree cI layX ad 3 2 [(0, .ref (ad 1)), (1, .int a1), (2, .int a.1)] [] a.2) (Sum.elim (fun b => G E rmX1_degree cI layX ad 3 30 [] [] b) (fun b => b = out)) hb (fun a res h K => tX1_degree_B2 (l1 := a1) (l2 := a.1) (σ := a.2) (res := res) C K0 h K) ?_) rfl
  rcases b1 with b1x0 | b1r
  · show G E rmX1_degree cI layX ad 3 30 [] [] b1x0
    exact tX1_degree_L30 (σ := b1x0) C K0 h
  · exact end_top h

/-! LoopReducer$Forms.polyBehind(II)I -/
abbrev rmX1_polyBehind : Room := { frames := 0, cells := 0, slots := 0, locals := 0 }
theorem qX1_polyBehind : yX1_polyBehind.cls ≠ "java/lang/invoke/MethodHandle" ∧ yX1_polyBehind.cls ≠ "java/lang/invoke/VarHandle" ∧ (parseMethodDescriptor yX1_polyBehind.desc).map (fun d => d.parameters.length) = some 2 := by decide +kernel
theorem DX1_polyBehind : ∀ q ∈ ([(0, .iload_n 2, 1), (1, .iconst 3, 1), (2, .if_icmp .gt 11, 3), (5, .iload_n 1, 1), (6, .iconst 4, 1), (7, .imul, 1), (8, .iload_n 2, 1), (9, .iadd, 1), (10, .goto 5, 3), (13, .bipush 124, 2), (15, .ireturn, 1)] : List (Nat × Instr × Nat)), decode cX1_polyBehind q.1 = .ok q.2 := by decide +kernel
theorem dX1_polyBehind_0 : decode cX1_polyBehind 0 = .ok (.iload_n 2, 1) := DX1_polyBehind (0, .iload_n 2, 1) (List.mem_of_getElem? (i := 0) rfl)
theorem dX1_polyBehind_1 : decode cX1_polyBehind 1 = .ok (.iconst 3, 1) := DX1_polyBehind (1, .iconst 3, 1) (List.mem_of_getElem? (i := 1) rfl)
theorem dX1_polyBehind_2 : decode cX1_polyBehind 2 = .ok (.if_icmp .gt 11, 3) := DX1_polyBehind (2, .if_icmp .gt 11, 3) (List.mem_of_getElem? (i := 2) rfl)
theorem dX1_polyBehind_5 : decode cX1_polyBehind 5 = .ok (.iload_n 1, 1) := DX1_polyBehind (5, .iload_n 1, 1) (List.mem_of_getElem? (i := 3) rfl)
theorem dX1_polyBehind_6 : decode cX1_polyBehind 6 = .ok (.iconst 4, 1) := DX1_polyBehind (6, .iconst 4, 1) (List.mem_of_getElem? (i := 4) rfl)
theorem dX1_polyBehind_7 : decode cX1_polyBehind 7 = .ok (.imul, 1) := DX1_polyBehind (7, .imul, 1) (List.mem_of_getElem? (i := 5) rfl)
theorem dX1_polyBehind_8 : decode cX1_polyBehind 8 = .ok (.iload_n 2, 1) := DX1_polyBehind (8, .iload_n 2, 1) (List.mem_of_getElem? (i := 6) rfl)
theorem dX1_polyBehind_9 : decode cX1_polyBehind 9 = .ok (.iadd, 1) := DX1_polyBehind (9, .iadd, 1) (List.mem_of_getElem? (i := 7) rfl)
theorem dX1_polyBehind_10 : decode cX1_polyBehind 10 = .ok (.goto 5, 3) := DX1_polyBehind (10, .goto 5, 3) (List.mem_of_getElem? (i := 8) rfl)
theorem dX1_polyBehind_13 : decode cX1_polyBehind 13 = .ok (.bipush 124, 2) := DX1_polyBehind (13, .bipush 124, 2) (List.mem_of_getElem? (i := 9) rfl)
theorem dX1_polyBehind_15 : decode cX1_polyBehind 15 = .ok (.ireturn, 1) := DX1_polyBehind (15, .ireturn, 1) (List.mem_of_getElem? (i := 10) rfl)
noncomputable def fX1_polyBehind_L15 (s0 : Int32) (σ : Mem) : Option (Int32 × Mem) :=
  some (s0, σ)
set_option maxHeartbeats 4000000 in
set_option maxRecDepth 100000 in
theorem tX1_polyBehind_L15 {E : Gx} {cI : ClassId} {ad : Nat → Nat} (C : Cx E rmX1_polyBehind cI layX ad 3 RX1 cX1_polyBehind) {out : Int32 × Mem} (K0 : KI E rmX1_polyBehind cI layX ad 3 cX1_polyBehind .int out) {s0 : Int32} {σ : Mem} (h : fX1_polyBehind_L15 s0 σ = some out) : G E rmX1_polyBehind cI layX ad 3 15 [] [.int s0] σ := by
  unfold fX1_polyBehind_L15 at h
  cases h
  exact K0 _ _ dX1_polyBehind_15 rfl
noncomputable def fX1_polyBehind (a1 : Int32) (a2 : Int32) (σ : Mem) : Option (Int32 × Mem) :=
  if 3 < a2 then
    fX1_polyBehind_L15 124 σ
  else
    fX1_polyBehind_L15 ((a1 * 4) + a2) σ
set_option maxHeartbeats 4000000 in
set_option maxRecDepth 100000 in
theorem mX1_polyBehind {l : Launch} {D : va_G} {cI : ClassId} {ad : Nat → Nat} {a1 : Int32} {a2 : Int32} {σ : Mem} {out : Int32 × Mem} (h : fX1_polyBehind a1 a2 σ = some out) : MI l D cI layX ad yX1_polyBehind cX1_polyBehind 3 .int rmX1_polyBehind [.ref (ad 1), .int a1, .int a2] σ out := by
  refine met_i (by decide) (Nat.le_of_ble_eq_true rfl) (fun E C K0 => ?_)
  show G E rmX1_polyBehind cI layX ad 3 0 [(0, .ref (ad 1)), (1, .int a1), (2, .int a2)] [] σ
  unfold fX1_polyBehind at h
  refine g_iload_n 1 C dX1_polyBehind_0 rfl (j := 2) rfl rfl ?_
  refine g_iconst 2 (v := 3) C dX1_polyBehind_1 (by decide) rfl ?_
  refine g_icmp_gt 13 5 C dX1_polyBehind_2 (by decide) rfl h (fun h => ?_) (fun h => ?_)
  · refine g_bipush 15 (v := 124) C dX1_polyBehind_13 (by decide) rfl ?_
    exact g_sub [] (tX1_polyBehind_L15 (s0 := 124) (σ := σ) C K0 h) rfl
  · refine g_iload_n 6 C dX1_polyBehind_5 rfl (j := 1) rfl rfl ?_
    refine g_iconst 7 (v := 4) C dX1_polyBehind_6 (by decide) rfl ?_
    refine g_imul 8 C dX1_polyBehind_7 rfl ?_
    refine g_iload_n 9 C dX1_polyBehind_8 rfl (j := 2) rfl rfl ?_
    refine g_iadd 10 C dX1_polyBehind_9 rfl ?_
    refine g_goto 15 C dX1_polyBehind_10 (by decide) ?_
    exact g_sub [] (tX1_polyBehind_L15 (s0 := ((a1 * 4) + a2)) (σ := σ) C K0 h) rfl

/-! LoopReducer$Forms.clear(I)V -/
abbrev rmX1_clear : Room := { frames := 1, cells := 0, slots := 0, locals := 22 }
theorem qX1_clear : yX1_clear.cls ≠ "java/lang/invoke/MethodHandle" ∧ yX1_clear.cls ≠ "java/lang/invoke/VarHandle" ∧ (parseMethodDescriptor yX1_clear.desc).map (fun d => d.parameters.length) = some 1 := by decide +kernel
theorem DX1_clear : ∀ q ∈ ([(0, .iconst 0, 1), (1, .istore_n 2, 1), (2, .iload_n 2, 1), (3, .iconst 3, 1), (4, .if_icmp .gt 21, 3), (7, .aload_n 0, 1), (8, .getfield 15, 3), (11, .iload_n 1, 1), (12, .iconst 4, 1), (13, .imul, 1), (14, .iload_n 2, 1), (15, .iadd, 1), (16, .invokevirtual 28, 3), (19, .iinc 2 1, 3), (22, .goto (-20), 3), (25, .return_, 1)] : List (Nat × Instr × Nat)), decode cX1_clear q.1 = .ok q.2 := by decide +kernel
theorem dX1_clear_0 : decode cX1_clear 0 = .ok (.iconst 0, 1) := DX1_clear (0, .iconst 0, 1) (List.mem_of_getElem? (i := 0) rfl)
theorem dX1_clear_1 : decode cX1_clear 1 = .ok (.istore_n 2, 1) := DX1_clear (1, .istore_n 2, 1) (List.mem_of_getElem? (i := 1) rfl)
theorem dX1_clear_2 : decode cX1_clear 2 = .ok (.iload_n 2, 1) := DX1_clear (2, .iload_n 2, 1) (List.mem_of_getElem? (i := 2) rfl)
theorem dX1_clear_3 : decode cX1_clear 3 = .ok (.iconst 3, 1) := DX1_clear (3, .iconst 3, 1) (List.mem_of_getElem? (i := 3) rfl)
theorem dX1_clear_4 : decode cX1_clear 4 = .ok (.if_icmp .gt 21, 3) := DX1_clear (4, .if_icmp .gt 21, 3) (List.mem_of_getElem? (i := 4) rfl)
theorem dX1_clear_7 : decode cX1_clear 7 = .ok (.aload_n 0, 1) := DX1_clear (7, .aload_n 0, 1) (List.mem_of_getElem? (i := 5) rfl)
theorem dX1_clear_8 : decode cX1_clear 8 = .ok (.getfield 15, 3) := DX1_clear (8, .getfield 15, 3) (List.mem_of_getElem? (i := 6) rfl)
theorem dX1_clear_11 : decode cX1_clear 11 = .ok (.iload_n 1, 1) := DX1_clear (11, .iload_n 1, 1) (List.mem_of_getElem? (i := 7) rfl)
theorem dX1_clear_12 : decode cX1_clear 12 = .ok (.iconst 4, 1) := DX1_clear (12, .iconst 4, 1) (List.mem_of_getElem? (i := 8) rfl)
theorem dX1_clear_13 : decode cX1_clear 13 = .ok (.imul, 1) := DX1_clear (13, .imul, 1) (List.mem_of_getElem? (i := 9) rfl)
theorem dX1_clear_14 : decode cX1_clear 14 = .ok (.iload_n 2, 1) := DX1_clear (14, .iload_n 2, 1) (List.mem_of_getElem? (i := 10) rfl)
theorem dX1_clear_15 : decode cX1_clear 15 = .ok (.iadd, 1) := DX1_clear (15, .iadd, 1) (List.mem_of_getElem? (i := 11) rfl)
theorem dX1_clear_16 : decode cX1_clear 16 = .ok (.invokevirtual 28, 3) := DX1_clear (16, .invokevirtual 28, 3) (List.mem_of_getElem? (i := 12) rfl)
theorem dX1_clear_19 : decode cX1_clear 19 = .ok (.iinc 2 1, 3) := DX1_clear (19, .iinc 2 1, 3) (List.mem_of_getElem? (i := 13) rfl)
theorem dX1_clear_22 : decode cX1_clear 22 = .ok (.goto (-20), 3) := DX1_clear (22, .goto (-20), 3) (List.mem_of_getElem? (i := 14) rfl)
theorem dX1_clear_25 : decode cX1_clear 25 = .ok (.return_, 1) := DX1_clear (25, .return_, 1) (List.mem_of_getElem? (i := 15) rfl)
noncomputable def fX1_clear_B2 (l1 : Int32) (l2 : Int32) (σ : Mem) : Option ((Int32 × Mem) ⊕ (Mem)) :=
  if 3 < l2 then
    some (.inr σ)
  else
    (fX5_clear ((l1 * 4) + l2) σ).bind fun o1 =>
    some (.inl (l2 + 1, o1))
set_option maxHeartbeats 4000000 in
set_option maxRecDepth 100000 in
theorem tX1_clear_B2 {E : Gx} {cI : ClassId} {ad : Nat → Nat} (C : Cx E rmX1_clear cI layX ad 3 RX1 cX1_clear) {out : Mem} (K0 : KV E rmX1_clear cI layX ad 3 cX1_clear out) {l1 : Int32} {l2 : Int32} {σ : Mem} {res : (Int32 × Mem) ⊕ (Mem)} (h : fX1_clear_B2 l1 l2 σ = some res) (K : Sum.elim (fun a => G E rmX1_clear cI layX ad 3 2 [(0, .ref (ad 1)), (1, .int l1), (2, .int a.1)] [] a.2) (fun b => G E rmX1_clear cI layX ad 3 25 [] [] b) res) : G E rmX1_clear cI layX ad 3 2 [(0, .ref (ad 1)), (1, .int l1), (2, .int l2)] [] σ := by
  unfold fX1_clear_B2 at h
  refine g_iload_n 3 C dX1_clear_2 rfl (j := 2) rfl rfl ?_
  refine g_iconst 4 (v := 3) C dX1_clear_3 (by decide) rfl ?_
  refine g_icmp_gt 25 7 C dX1_clear_4 (by decide) rfl h (fun h => ?_) (fun h => ?_)
  · have hh := end_inr h K
    exact g_sub [] (hh) rfl
  · refine g_aload_n 8 C dX1_clear_7 rfl (j := 0) rfl rfl ?_
    refine g_getr 11 (j := 0) C rfl rfl wu_X1 (by decide) wf_X1_15 rfl dX1_clear_8 rfl ?_
    refine g_iload_n 12 C dX1_clear_11 rfl (j := 1) rfl rfl ?_
    refine g_iconst 13 (v := 4) C dX1_clear_12 (by decide) rfl ?_
    refine g_imul 14 C dX1_clear_13 rfl ?_
    refine g_iload_n 15 C dX1_clear_14 rfl (j := 2) rfl rfl ?_
    refine g_iadd 16 C dX1_clear_15 rfl ?_
    refine g_cnv 19 C (As := [.int ((l1 * 4) + l2)]) (fun _ h => mX5_clear (a1 := (l1 * 4) + l2) (σ := σ) h) (List.mem_of_getElem? (i := 16) rfl) wi_X5_clear wz_X5_clear wc_X5_clear wn_X5 qX5_clear rfl rfl ⟨Nat.le_of_ble_eq_true rfl, Nat.le_of_ble_eq_true rfl⟩ rfl rfl rfl rfl (Nat.le_of_ble_eq_true rfl) dX1_clear_16 rfl h (fun o1 h => ?_)
    refine g_iinc 22 [(2, .int (l2 + 1)), (0, .ref (ad 1)), (1, .int l1)] C dX1_clear_19 (j := 2) rfl (by rfl) (by decide) rfl rfl ?_
    refine g_goto 2 C dX1_clear_22 (by decide) ?_
    have hh := end_inl h K
    exact g_sub [1, 2, 0] (hh) rfl
noncomputable def fX1_clear_L25 (σ : Mem) : Option (Mem) :=
  some σ
set_option maxHeartbeats 4000000 in
set_option maxRecDepth 100000 in
theorem tX1_clear_L25 {E : Gx} {cI : ClassId} {ad : Nat → Nat} (C : Cx E rmX1_clear cI layX ad 3 RX1 cX1_clear) {out : Mem} (K0 : KV E rmX1_clear cI layX ad 3 cX1_clear out) {σ : Mem} (h : fX1_clear_L25 σ = some out) : G E rmX1_clear cI layX ad 3 25 [] [] σ := by
  unfold fX1_clear_L25 at h
  cases h
  exact K0 _ _ dX1_clear_25
noncomputable def fX1_clear (a1 : Int32) (σ : Mem) : Option (Mem) :=
  (loop (fun a => fX1_clear_B2 a1 a.1 a.2) (0, σ)).bind fun b2 =>
  fX1_clear_L25 b2
set_option maxHeartbeats 4000000 in
set_option maxRecDepth 100000 in
theorem mX1_clear {l : Launch} {D : va_G} {cI : ClassId} {ad : Nat → Nat} {a1 : Int32} {σ : Mem} {out : Mem} (h : fX1_clear a1 σ = some out) : MV l D cI layX ad yX1_clear cX1_clear 3 rmX1_clear [.ref (ad 1), .int a1] σ out := by
  refine met_v (by decide) (Nat.le_of_ble_eq_true rfl) (fun E C K0 => ?_)
  show G E rmX1_clear cI layX ad 3 0 [(0, .ref (ad 1)), (1, .int a1)] [] σ
  unfold fX1_clear at h
  refine g_iconst 1 (v := 0) C dX1_clear_0 (by decide) rfl ?_
  refine g_istore_n 2 [(2, .int 0), (0, .ref (ad 1)), (1, .int a1)] C dX1_clear_1 rfl (by decide) rfl rfl ?_
  obtain ⟨b2, hb, h⟩ := bind_some h
  refine g_sub [1, 2, 0] (g_loop (a := (0, σ)) (fun a => G E rmX1_clear cI layX ad 3 2 [(0, .ref (ad 1)), (1, .int a1), (2, .int a.1)] [] a.2) (fun b => G E rmX1_clear cI layX ad 3 25 [] [] b) hb (fun a res h K => tX1_clear_B2 (l1 := a1) (l2 := a.1) (σ := a.2) (res := res) C K0 h K) ?_) rfl
  show G E rmX1_clear cI layX ad 3 25 [] [] b2
  exact tX1_clear_L25 (σ := b2) C K0 h

/-! LoopReducer$Forms.putOne(III)V -/
abbrev rmX1_putOne : Room := { frames := 2, cells := 0, slots := 0, locals := 46 }
theorem qX1_putOne : yX1_putOne.cls ≠ "java/lang/invoke/MethodHandle" ∧ yX1_putOne.cls ≠ "java/lang/invoke/VarHandle" ∧ (parseMethodDescriptor yX1_putOne.desc).map (fun d => d.parameters.length) = some 3 := by decide +kernel
theorem DX1_putOne : ∀ q ∈ ([(0, .aload_n 0, 1), (1, .iload_n 1, 1), (2, .invokevirtual 32, 3), (5, .aload_n 0, 1), (6, .getfield 15, 3), (9, .iload_n 1, 1), (10, .iconst 4, 1), (11, .imul, 1), (12, .iload_n 2, 1), (13, .iload_n 3, 1), (14, .invokevirtual 33, 3), (17, .return_, 1)] : List (Nat × Instr × Nat)), decode cX1_putOne q.1 = .ok q.2 := by decide +kernel
theorem dX1_putOne_0 : decode cX1_putOne 0 = .ok (.aload_n 0, 1) := DX1_putOne (0, .aload_n 0, 1) (List.mem_of_getElem? (i := 0) rfl)
theorem dX1_putOne_1 : decode cX1_putOne 1 = .ok (.iload_n 1, 1) := DX1_putOne (1, .iload_n 1, 1) (List.mem_of_getElem? (i := 1) rfl)
theorem dX1_putOne_2 : decode cX1_putOne 2 = .ok (.invokevirtual 32, 3) := DX1_putOne (2, .invokevirtual 32, 3) (List.mem_of_getElem? (i := 2) rfl)
theorem dX1_putOne_5 : decode cX1_putOne 5 = .ok (.aload_n 0, 1) := DX1_putOne (5, .aload_n 0, 1) (List.mem_of_getElem? (i := 3) rfl)
theorem dX1_putOne_6 : decode cX1_putOne 6 = .ok (.getfield 15, 3) := DX1_putOne (6, .getfield 15, 3) (List.mem_of_getElem? (i := 4) rfl)
theorem dX1_putOne_9 : decode cX1_putOne 9 = .ok (.iload_n 1, 1) := DX1_putOne (9, .iload_n 1, 1) (List.mem_of_getElem? (i := 5) rfl)
theorem dX1_putOne_10 : decode cX1_putOne 10 = .ok (.iconst 4, 1) := DX1_putOne (10, .iconst 4, 1) (List.mem_of_getElem? (i := 6) rfl)
theorem dX1_putOne_11 : decode cX1_putOne 11 = .ok (.imul, 1) := DX1_putOne (11, .imul, 1) (List.mem_of_getElem? (i := 7) rfl)
theorem dX1_putOne_12 : decode cX1_putOne 12 = .ok (.iload_n 2, 1) := DX1_putOne (12, .iload_n 2, 1) (List.mem_of_getElem? (i := 8) rfl)
theorem dX1_putOne_13 : decode cX1_putOne 13 = .ok (.iload_n 3, 1) := DX1_putOne (13, .iload_n 3, 1) (List.mem_of_getElem? (i := 9) rfl)
theorem dX1_putOne_14 : decode cX1_putOne 14 = .ok (.invokevirtual 33, 3) := DX1_putOne (14, .invokevirtual 33, 3) (List.mem_of_getElem? (i := 10) rfl)
theorem dX1_putOne_17 : decode cX1_putOne 17 = .ok (.return_, 1) := DX1_putOne (17, .return_, 1) (List.mem_of_getElem? (i := 11) rfl)
noncomputable def fX1_putOne (a1 : Int32) (a2 : Int32) (a3 : Int32) (σ : Mem) : Option (Mem) :=
  (fX1_clear a1 σ).bind fun o1 =>
  (fX5_putOne (a1 * 4) a2 a3 o1).bind fun o2 =>
  some o2
set_option maxHeartbeats 4000000 in
set_option maxRecDepth 100000 in
theorem mX1_putOne {l : Launch} {D : va_G} {cI : ClassId} {ad : Nat → Nat} {a1 : Int32} {a2 : Int32} {a3 : Int32} {σ : Mem} {out : Mem} (h : fX1_putOne a1 a2 a3 σ = some out) : MV l D cI layX ad yX1_putOne cX1_putOne 4 rmX1_putOne [.ref (ad 1), .int a1, .int a2, .int a3] σ out := by
  refine met_v (by decide) (Nat.le_of_ble_eq_true rfl) (fun E C K0 => ?_)
  show G E rmX1_putOne cI layX ad 4 0 [(0, .ref (ad 1)), (1, .int a1), (2, .int a2), (3, .int a3)] [] σ
  unfold fX1_putOne at h
  refine g_aload_n 1 C dX1_putOne_0 rfl (j := 0) rfl rfl ?_
  refine g_iload_n 2 C dX1_putOne_1 rfl (j := 1) rfl rfl ?_
  refine g_cvv 5 C (As := [.int a1]) (fun _ h => mX1_clear (a1 := a1) (σ := σ) h) wl_X1_32 wi_X1_clear wz_X1_clear wc_X1_clear wn_X1 qX1_clear rfl rfl ⟨Nat.le_of_ble_eq_true rfl, Nat.le_of_ble_eq_true rfl⟩ rfl rfl rfl rfl (Nat.le_of_ble_eq_true rfl) dX1_putOne_2 rfl h (fun o1 h => ?_)
  refine g_aload_n 6 C dX1_putOne_5 rfl (j := 0) rfl rfl ?_
  refine g_getr 9 (j := 0) C rfl rfl wu_X1 (by decide) wf_X1_15 rfl dX1_putOne_6 rfl ?_
  refine g_iload_n 10 C dX1_putOne_9 rfl (j := 1) rfl rfl ?_
  refine g_iconst 11 (v := 4) C dX1_putOne_10 (by decide) rfl ?_
  refine g_imul 12 C dX1_putOne_11 rfl ?_
  refine g_iload_n 13 C dX1_putOne_12 rfl (j := 2) rfl rfl ?_
  refine g_iload_n 14 C dX1_putOne_13 rfl (j := 3) rfl rfl ?_
  refine g_cnv 17 C (As := [.int (a1 * 4), .int a2, .int a3]) (fun _ h => mX5_putOne (a1 := a1 * 4) (a2 := a2) (a3 := a3) (σ := o1) h) (List.mem_of_getElem? (i := 27) rfl) wi_X5_putOne wz_X5_putOne wc_X5_putOne wn_X5 qX5_putOne rfl rfl ⟨Nat.le_of_ble_eq_true rfl, Nat.le_of_ble_eq_true rfl⟩ rfl rfl rfl rfl (Nat.le_of_ble_eq_true rfl) dX1_putOne_14 rfl h (fun o2 h => ?_)
  cases h
  exact K0 _ _ dX1_putOne_17

/-! LoopReducer$Forms.putSum(IIII)V -/
abbrev rmX1_putSum : Room := { frames := 2, cells := 0, slots := 0, locals := 50 }
theorem qX1_putSum : yX1_putSum.cls ≠ "java/lang/invoke/MethodHandle" ∧ yX1_putSum.cls ≠ "java/lang/invoke/VarHandle" ∧ (parseMethodDescriptor yX1_putSum.desc).map (fun d => d.parameters.length) = some 4 := by decide +kernel
theorem DX1_putSum : ∀ q ∈ ([(0, .iconst 0, 1), (1, .istore 5, 2), (3, .iload 5, 2), (5, .iconst 3, 1), (6, .if_icmp .gt 36, 3), (9, .aload_n 0, 1), (10, .getfield 15, 3), (13, .iload_n 1, 1), (14, .iconst 4, 1), (15, .imul, 1), (16, .iload 5, 2), (18, .iadd, 1), (19, .iload_n 2, 1), (20, .iconst 4, 1), (21, .imul, 1), (22, .iload 5, 2), (24, .iadd, 1), (25, .iload_n 3, 1), (26, .iconst 4, 1), (27, .imul, 1), (28, .iload 5, 2), (30, .iadd, 1), (31, .iload 4, 2), (33, .invokevirtual 37, 3), (36, .iinc 5 1, 3), (39, .goto (-36), 3), (42, .return_, 1)] : List (Nat × Instr × Nat)), decode cX1_putSum q.1 = .ok q.2 := by decide +kernel
theorem dX1_putSum_0 : decode cX1_putSum 0 = .ok (.iconst 0, 1) := DX1_putSum (0, .iconst 0, 1) (List.mem_of_getElem? (i := 0) rfl)
theorem dX1_putSum_1 : decode cX1_putSum 1 = .ok (.istore 5, 2) := DX1_putSum (1, .istore 5, 2) (List.mem_of_getElem? (i := 1) rfl)
theorem dX1_putSum_3 : decode cX1_putSum 3 = .ok (.iload 5, 2) := DX1_putSum (3, .iload 5, 2) (List.mem_of_getElem? (i := 2) rfl)
theorem dX1_putSum_5 : decode cX1_putSum 5 = .ok (.iconst 3, 1) := DX1_putSum (5, .iconst 3, 1) (List.mem_of_getElem? (i := 3) rfl)
theorem dX1_putSum_6 : decode cX1_putSum 6 = .ok (.if_icmp .gt 36, 3) := DX1_putSum (6, .if_icmp .gt 36, 3) (List.mem_of_getElem? (i := 4) rfl)
theorem dX1_putSum_9 : decode cX1_putSum 9 = .ok (.aload_n 0, 1) := DX1_putSum (9, .aload_n 0, 1) (List.mem_of_getElem? (i := 5) rfl)
theorem dX1_putSum_10 : decode cX1_putSum 10 = .ok (.getfield 15, 3) := DX1_putSum (10, .getfield 15, 3) (List.mem_of_getElem? (i := 6) rfl)
theorem dX1_putSum_13 : decode cX1_putSum 13 = .ok (.iload_n 1, 1) := DX1_putSum (13, .iload_n 1, 1) (List.mem_of_getElem? (i := 7) rfl)
theorem dX1_putSum_14 : decode cX1_putSum 14 = .ok (.iconst 4, 1) := DX1_putSum (14, .iconst 4, 1) (List.mem_of_getElem? (i := 8) rfl)
theorem dX1_putSum_15 : decode cX1_putSum 15 = .ok (.imul, 1) := DX1_putSum (15, .imul, 1) (List.mem_of_getElem? (i := 9) rfl)
theorem dX1_putSum_16 : decode cX1_putSum 16 = .ok (.iload 5, 2) := DX1_putSum (16, .iload 5, 2) (List.mem_of_getElem? (i := 10) rfl)
theorem dX1_putSum_18 : decode cX1_putSum 18 = .ok (.iadd, 1) := DX1_putSum (18, .iadd, 1) (List.mem_of_getElem? (i := 11) rfl)
theorem dX1_putSum_19 : decode cX1_putSum 19 = .ok (.iload_n 2, 1) := DX1_putSum (19, .iload_n 2, 1) (List.mem_of_getElem? (i := 12) rfl)
theorem dX1_putSum_20 : decode cX1_putSum 20 = .ok (.iconst 4, 1) := DX1_putSum (20, .iconst 4, 1) (List.mem_of_getElem? (i := 13) rfl)
theorem dX1_putSum_21 : decode cX1_putSum 21 = .ok (.imul, 1) := DX1_putSum (21, .imul, 1) (List.mem_of_getElem? (i := 14) rfl)
theorem dX1_putSum_22 : decode cX1_putSum 22 = .ok (.iload 5, 2) := DX1_putSum (22, .iload 5, 2) (List.mem_of_getElem? (i := 15) rfl)
theorem dX1_putSum_24 : decode cX1_putSum 24 = .ok (.iadd, 1) := DX1_putSum (24, .iadd, 1) (List.mem_of_getElem? (i := 16) rfl)
theorem dX1_putSum_25 : decode cX1_putSum 25 = .ok (.iload_n 3, 1) := DX1_putSum (25, .iload_n 3, 1) (List.mem_of_getElem? (i := 17) rfl)
theorem dX1_putSum_26 : decode cX1_putSum 26 = .ok (.iconst 4, 1) := DX1_putSum (26, .iconst 4, 1) (List.mem_of_getElem? (i := 18) rfl)
theorem dX1_putSum_27 : decode cX1_putSum 27 = .ok (.imul, 1) := DX1_putSum (27, .imul, 1) (List.mem_of_getElem? (i := 19) rfl)
theorem dX1_putSum_28 : decode cX1_putSum 28 = .ok (.iload 5, 2) := DX1_putSum (28, .iload 5, 2) (List.mem_of_getElem? (i := 20) rfl)
theorem dX1_putSum_30 : decode cX1_putSum 30 = .ok (.iadd, 1) := DX1_putSum (30, .iadd, 1) (List.mem_of_getElem? (i := 21) rfl)
theorem dX1_putSum_31 : decode cX1_putSum 31 = .ok (.iload 4, 2) := DX1_putSum (31, .iload 4, 2) (List.mem_of_getElem? (i := 22) rfl)
theorem dX1_putSum_33 : decode cX1_putSum 33 = .ok (.invokevirtual 37, 3) := DX1_putSum (33, .invokevirtual 37, 3) (List.mem_of_getElem? (i := 23) rfl)
theorem dX1_putSum_36 : decode cX1_putSum 36 = .ok (.iinc 5 1, 3) := DX1_putSum (36, .iinc 5 1, 3) (List.mem_of_getElem? (i := 24) rfl)
theorem dX1_putSum_39 : decode cX1_putSum 39 = .ok (.goto (-36), 3) := DX1_putSum (39, .goto (-36), 3) (List.mem_of_getElem? (i := 25) rfl)
theorem dX1_putSum_42 : decode cX1_putSum 42 = .ok (.return_, 1) := DX1_putSum (42, .return_, 1) (List.mem_of_getElem? (i := 26) rfl)
noncomputable def fX1_putSum_B3 (l1 : Int32) (l2 : Int32) (l3 : Int32) (l4 : Int32) (l5 : Int32) (σ : Mem) : Option ((Int32 × Mem) ⊕ (Mem)) :=
  if 3 < l5 then
    some (.inr σ)
  else
    (fX5_putSum ((l1 * 4) + l5) ((l2 * 4) + l5) ((l3 * 4) + l5) l4 σ).bind fun o1 =>
    some (.inl (l5 + 1, o1))
set_option maxHeartbeats 4000000 in
set_option maxRecDepth 100000 in
theorem tX1_putSum_B3 {E : Gx} {cI : ClassId} {ad : Nat → Nat} (C : Cx E rmX1_putSum cI layX ad 6 RX1 cX1_putSum) {out : Mem} (K0 : KV E rmX1_putSum cI layX ad 6 cX1_putSum out) {l1 : Int32} {l2 : Int32} {l3 : Int32} {l4 : Int32} {l5 : Int32} {σ : Mem} {res : (Int32 × Mem) ⊕ (Mem)} (h : fX1_putSum_B3 l1 l2 l3 l4 l5 σ = some res) (K : Sum.elim (fun a => G E rmX1_putSum cI layX ad 6 3 [(0, .ref (ad 1)), (1, .int l1), (2, .int l2), (3, .int l3), (4, .int l4), (5, .int a.1)] [] a.2) (fun b => G E rmX1_putSum cI layX ad 6 42 [] [] b) res) : G E rmX1_putSum cI layX ad 6 3 [(0, .ref (ad 1)), (1, .int l1), (2, .int l2), (3, .int l3), (4, .int l4), (5, .int l5)] [] σ := by
  unfold fX1_putSum_B3 at h
  refine g_iload 5 C dX1_putSum_3 (j := 5) rfl rfl ?_
  refine g_iconst 6 (v := 3) C dX1_putSum_5 (by decide) rfl ?_
  refine g_icmp_gt 42 9 C dX1_putSum_6 (by decide) rfl h (fun h => ?_) (fun h => ?_)
  · have hh := end_inr h K
    exact g_sub [] (hh) rfl
  · refine g_aload_n 10 C dX1_putSum_9 rfl (j := 0) rfl rfl ?_
    refine g_getr 13 (j := 0) C rfl rfl wu_X1 (by decide) wf_X1_15 rfl dX1_putSum_10 rfl ?_
    refine g_iload_n 14 C dX1_putSum_13 rfl (j := 1) rfl rfl ?_
    refine g_iconst 15 (v := 4) C dX1_putSum_14 (by decide) rfl ?_
    refine g_imul 16 C dX1_putSum_15 rfl ?_
    refine g_iload 18 C dX1_putSum_16 (j := 5) rfl rfl ?_
    refine g_iadd 19 C dX1_putSum_18 rfl ?_
    refine g_iload_n 20 C dX1_putSum_19 rfl (j := 2) rfl rfl ?_
    refine g_iconst 21 (v := 4) C dX1_putSum_20 (by decide) rfl ?_
    refine g_imul 22 C dX1_putSum_21 rfl ?_
    refine g_iload 24 C dX1_putSum_22 (j := 5) rfl rfl ?_
    refine g_iadd 25 C dX1_putSum_24 rfl ?_
    refine g_iload_n 26 C dX1_putSum_25 rfl (j := 3) rfl rfl ?_
    refine g_iconst 27 (v := 4) C dX1_putSum_26 (by decide) rfl ?_
    refine g_imul 28 C dX1_putSum_27 rfl ?_
    refine g_iload 30 C dX1_putSum_28 (j := 5) rfl rfl ?_
    refine g_iadd 31 C dX1_putSum_30 rfl ?_
    refine g_iload 33 C dX1_putSum_31 (j := 4) rfl rfl ?_
    refine g_cnv 36 C (As := [.int ((l1 * 4) + l5), .int ((l2 * 4) + l5), .int ((l3 * 4) + l5), .int l4]) (fun _ h => mX5_putSum (a1 := (l1 * 4) + l5) (a2 := (l2 * 4) + l5) (a3 := (l3 * 4) + l5) (a4 := l4) (σ := σ) h) (List.mem_of_getElem? (i := 18) rfl) wi_X5_putSum wz_X5_putSum wc_X5_putSum wn_X5 qX5_putSum rfl rfl ⟨Nat.le_of_ble_eq_true rfl, Nat.le_of_ble_eq_true rfl⟩ rfl rfl rfl rfl (Nat.le_of_ble_eq_true rfl) dX1_putSum_33 rfl h (fun o1 h => ?_)
    refine g_iinc 39 [(5, .int (l5 + 1)), (0, .ref (ad 1)), (1, .int l1), (2, .int l2), (3, .int l3), (4, .int l4)] C dX1_putSum_36 (j := 5) rfl (by rfl) (by decide) rfl rfl ?_
    refine g_goto 3 C dX1_putSum_39 (by decide) ?_
    have hh := end_inl h K
    exact g_sub [1, 2, 3, 4, 5, 0] (hh) rfl
noncomputable def fX1_putSum_L42 (σ : Mem) : Option (Mem) :=
  some σ
set_option maxHeartbeats 4000000 in
set_option maxRecDepth 100000 in
theorem tX1_putSum_L42 {E : Gx} {cI : ClassId} {ad : Nat → Nat} (C : Cx E rmX1_putSum cI layX ad 6 RX1 cX1_putSum) {out : Mem} (K0 : KV E rmX1_putSum cI layX ad 6 cX1_putSum out) {σ : Mem} (h : fX1_putSum_L42 σ = some out) : G E rmX1_putSum cI layX ad 6 42 [] [] σ := by
  unfold fX1_putSum_L42 at h
  cases h
  exact K0 _ _ dX1_putSum_42
noncomputable def fX1_putSum (a1 : Int32) (a2 : Int32) (a3 : Int32) (a4 : Int32) (σ : Mem) : Option (Mem) :=
  (loop (fun a => fX1_putSum_B3 a1 a2 a3 a4 a.1 a.2) (0, σ)).bind fun b2 =>
  fX1_putSum_L42 b2
set_option maxHeartbeats 4000000 in
set_option maxRecDepth 100000 in
theorem mX1_putSum {l : Launch} {D : va_G} {cI : ClassId} {ad : Nat → Nat} {a1 : Int32} {a2 : Int32} {a3 : Int32} {a4 : Int32} {σ : Mem} {out : Mem} (h : fX1_putSum a1 a2 a3 a4 σ = some out) : MV l D cI layX ad yX1_putSum cX1_putSum 6 rmX1_putSum [.ref (ad 1), .int a1, .int a2, .int a3, .int a4] σ out := by
  refine met_v (by decide) (Nat.le_of_ble_eq_true rfl) (fun E C K0 => ?_)
  show G E rmX1_putSum cI layX ad 6 0 [(0, .ref (ad 1)), (1, .int a1), (2, .int a2), (3, .int a3), (4, .int a4)] [] σ
  unfold fX1_putSum at h
  refine g_iconst 1 (v := 0) C dX1_putSum_0 (by decide) rfl ?_
  refine g_istore 3 [(5, .int 0), (0, .ref (ad 1)), (1, .int a1), (2, .int a2), (3, .int a3), (4, .int a4)] C dX1_putSum_1 (by decide) rfl rfl ?_
  obtain ⟨b2, hb, h⟩ := bind_some h
  refine g_sub [1, 2, 3, 4, 5, 0] (g_loop (a := (0, σ)) (fun a => G E rmX1_putSum cI layX ad 6 3 [(0, .ref (ad 1)), (1, .int a1), (2, .int a2), (3, .int a3), (4, .int a4), (5, .int a.1)] [] a.2) (fun b => G E rmX1_putSum cI layX ad 6 42 [] [] b) hb (fun a res h K => tX1_putSum_B3 (l1 := a1) (l2 := a2) (l3 := a3) (l4 := a4) (l5 := a.1) (σ := a.2) (res := res) C K0 h K) ?_) rfl
  show G E rmX1_putSum cI layX ad 6 42 [] [] b2
  exact tX1_putSum_L42 (σ := b2) C K0 h

/-! LoopReducer$Forms.putTimes(III)V -/
abbrev rmX1_putTimes : Room := { frames := 2, cells := 0, slots := 0, locals := 50 }
theorem qX1_putTimes : yX1_putTimes.cls ≠ "java/lang/invoke/MethodHandle" ∧ yX1_putTimes.cls ≠ "java/lang/invoke/VarHandle" ∧ (parseMethodDescriptor yX1_putTimes.desc).map (fun d => d.parameters.length) = some 3 := by decide +kernel
theorem DX1_putTimes : ∀ q ∈ ([(0, .iconst 0, 1), (1, .istore 4, 2), (3, .iload 4, 2), (5, .iconst 3, 1), (6, .if_icmp .gt 31, 3), (9, .aload_n 0, 1), (10, .getfield 15, 3), (13, .iload_n 1, 1), (14, .iconst 4, 1), (15, .imul, 1), (16, .iload 4, 2), (18, .iadd, 1), (19, .bipush 124, 2), (21, .iload_n 2, 1), (22, .iconst 4, 1), (23, .imul, 1), (24, .iload 4, 2), (26, .iadd, 1), (27, .iload_n 3, 1), (28, .invokevirtual 37, 3), (31, .iinc 4 1, 3), (34, .goto (-31), 3), (37, .return_, 1)] : List (Nat × Instr × Nat)), decode cX1_putTimes q.1 = .ok q.2 := by decide +kernel
theorem dX1_putTimes_0 : decode cX1_putTimes 0 = .ok (.iconst 0, 1) := DX1_putTimes (0, .iconst 0, 1) (List.mem_of_getElem? (i := 0) rfl)
theorem dX1_putTimes_1 : decode cX1_putTimes 1 = .ok (.istore 4, 2) := DX1_putTimes (1, .istore 4, 2) (List.mem_of_getElem? (i := 1) rfl)
theorem dX1_putTimes_3 : decode cX1_putTimes 3 = .ok (.iload 4, 2) := DX1_putTimes (3, .iload 4, 2) (List.mem_of_getElem? (i := 2) rfl)
theorem dX1_putTimes_5 : decode cX1_putTimes 5 = .ok (.iconst 3, 1) := DX1_putTimes (5, .iconst 3, 1) (List.mem_of_getElem? (i := 3) rfl)
theorem dX1_putTimes_6 : decode cX1_putTimes 6 = .ok (.if_icmp .gt 31, 3) := DX1_putTimes (6, .if_icmp .gt 31, 3) (List.mem_of_getElem? (i := 4) rfl)
theorem dX1_putTimes_9 : decode cX1_putTimes 9 = .ok (.aload_n 0, 1) := DX1_putTimes (9, .aload_n 0, 1) (List.mem_of_getElem? (i := 5) rfl)
theorem dX1_putTimes_10 : decode cX1_putTimes 10 = .ok (.getfield 15, 3) := DX1_putTimes (10, .getfield 15, 3) (List.mem_of_getElem? (i := 6) rfl)
theorem dX1_putTimes_13 : decode cX1_putTimes 13 = .ok (.iload_n 1, 1) := DX1_putTimes (13, .iload_n 1, 1) (List.mem_of_getElem? (i := 7) rfl)
theorem dX1_putTimes_14 : decode cX1_putTimes 14 = .ok (.iconst 4, 1) := DX1_putTimes (14, .iconst 4, 1) (List.mem_of_getElem? (i := 8) rfl)
theorem dX1_putTimes_15 : decode cX1_putTimes 15 = .ok (.imul, 1) := DX1_putTimes (15, .imul, 1) (List.mem_of_getElem? (i := 9) rfl)
theorem dX1_putTimes_16 : decode cX1_putTimes 16 = .ok (.iload 4, 2) := DX1_putTimes (16, .iload 4, 2) (List.mem_of_getElem? (i := 10) rfl)
theorem dX1_putTimes_18 : decode cX1_putTimes 18 = .ok (.iadd, 1) := DX1_putTimes (18, .iadd, 1) (List.mem_of_getElem? (i := 11) rfl)
theorem dX1_putTimes_19 : decode cX1_putTimes 19 = .ok (.bipush 124, 2) := DX1_putTimes (19, .bipush 124, 2) (List.mem_of_getElem? (i := 12) rfl)
theorem dX1_putTimes_21 : decode cX1_putTimes 21 = .ok (.iload_n 2, 1) := DX1_putTimes (21, .iload_n 2, 1) (List.mem_of_getElem? (i := 13) rfl)
theorem dX1_putTimes_22 : decode cX1_putTimes 22 = .ok (.iconst 4, 1) := DX1_putTimes (22, .iconst 4, 1) (List.mem_of_getElem? (i := 14) rfl)
theorem dX1_putTimes_23 : decode cX1_putTimes 23 = .ok (.imul, 1) := DX1_putTimes (23, .imul, 1) (List.mem_of_getElem? (i := 15) rfl)
theorem dX1_putTimes_24 : decode cX1_putTimes 24 = .ok (.iload 4, 2) := DX1_putTimes (24, .iload 4, 2) (List.mem_of_getElem? (i := 16) rfl)
theorem dX1_putTimes_26 : decode cX1_putTimes 26 = .ok (.iadd, 1) := DX1_putTimes (26, .iadd, 1) (List.mem_of_getElem? (i := 17) rfl)
theorem dX1_putTimes_27 : decode cX1_putTimes 27 = .ok (.iload_n 3, 1) := DX1_putTimes (27, .iload_n 3, 1) (List.mem_of_getElem? (i := 18) rfl)
theorem dX1_putTimes_28 : decode cX1_putTimes 28 = .ok (.invokevirtual 37, 3) := DX1_putTimes (28, .invokevirtual 37, 3) (List.mem_of_getElem? (i := 19) rfl)
theorem dX1_putTimes_31 : decode cX1_putTimes 31 = .ok (.iinc 4 1, 3) := DX1_putTimes (31, .iinc 4 1, 3) (List.mem_of_getElem? (i := 20) rfl)
theorem dX1_putTimes_34 : decode cX1_putTimes 34 = .ok (.goto (-31), 3) := DX1_putTimes (34, .goto (-31), 3) (List.mem_of_getElem? (i := 21) rfl)
theorem dX1_putTimes_37 : decode cX1_putTimes 37 = .ok (.return_, 1) := DX1_putTimes (37, .return_, 1) (List.mem_of_getElem? (i := 22) rfl)
noncomputable def fX1_putTimes_B3 (l1 : Int32) (l2 : Int32) (l3 : Int32) (l4 : Int32) (σ : Mem) : Option ((Int32 × Mem) ⊕ (Mem)) :=
  if 3 < l4 then
    some (.inr σ)
  else
    (fX5_putSum ((l1 * 4) + l4) 124 ((l2 * 4) + l4) l3 σ).bind fun o1 =>
    some (.inl (l4 + 1, o1))
set_option maxHeartbeats 4000000 in
set_option maxRecDepth 100000 in
theorem tX1_putTimes_B3 {E : Gx} {cI : ClassId} {ad : Nat → Nat} (C : Cx E rmX1_putTimes cI layX ad 5 RX1 cX1_putTimes) {out : Mem} (K0 : KV E rmX1_putTimes cI layX ad 5 cX1_putTimes out) {l1 : Int32} {l2 : Int32} {l3 : Int32} {l4 : Int32} {σ : Mem} {res : (Int32 × Mem) ⊕ (Mem)} (h : fX1_putTimes_B3 l1 l2 l3 l4 σ = some res) (K : Sum.elim (fun a => G E rmX1_putTimes cI layX ad 5 3 [(0, .ref (ad 1)), (1, .int l1), (2, .int l2), (3, .int l3), (4, .int a.1)] [] a.2) (fun b => G E rmX1_putTimes cI layX ad 5 37 [] [] b) res) : G E rmX1_putTimes cI layX ad 5 3 [(0, .ref (ad 1)), (1, .int l1), (2, .int l2), (3, .int l3), (4, .int l4)] [] σ := by
  unfold fX1_putTimes_B3 at h
  refine g_iload 5 C dX1_putTimes_3 (j := 4) rfl rfl ?_
  refine g_iconst 6 (v := 3) C dX1_putTimes_5 (by decide) rfl ?_
  refine g_icmp_gt 37 9 C dX1_putTimes_6 (by decide) rfl h (fun h => ?_) (fun h => ?_)
  · have hh := end_inr h K
    exact g_sub [] (hh) rfl
  · refine g_aload_n 10 C dX1_putTimes_9 rfl (j := 0) rfl rfl ?_
    refine g_getr 13 (j := 0) C rfl rfl wu_X1 (by decide) wf_X1_15 rfl dX1_putTimes_10 rfl ?_
    refine g_iload_n 14 C dX1_putTimes_13 rfl (j := 1) rfl rfl ?_
    refine g_iconst 15 (v := 4) C dX1_putTimes_14 (by decide) rfl ?_
    refine g_imul 16 C dX1_putTimes_15 rfl ?_
    refine g_iload 18 C dX1_putTimes_16 (j := 4) rfl rfl ?_
    refine g_iadd 19 C dX1_putTimes_18 rfl ?_
    refine g_bipush 21 (v := 124) C dX1_putTimes_19 (by decide) rfl ?_
    refine g_iload_n 22 C dX1_putTimes_21 rfl (j := 2) rfl rfl ?_
    refine g_iconst 23 (v := 4) C dX1_putTimes_22 (by decide) rfl ?_
    refine g_imul 24 C dX1_putTimes_23 rfl ?_
    refine g_iload 26 C dX1_putTimes_24 (j := 4) rfl rfl ?_
    refine g_iadd 27 C dX1_putTimes_26 rfl ?_
    refine g_iload_n 28 C dX1_putTimes_27 rfl (j := 3) rfl rfl ?_
    refine g_cnv 31 C (As := [.int ((l1 * 4) + l4), .int 124, .int ((l2 * 4) + l4), .int l3]) (fun _ h => mX5_putSum (a1 := (l1 * 4) + l4) (a2 := 124) (a3 := (l2 * 4) + l4) (a4 := l3) (σ := σ) h) (List.mem_of_getElem? (i := 18) rfl) wi_X5_putSum wz_X5_putSum wc_X5_putSum wn_X5 qX5_putSum rfl rfl ⟨Nat.le_of_ble_eq_true rfl, Nat.le_of_ble_eq_true rfl⟩ rfl rfl rfl rfl (Nat.le_of_ble_eq_true rfl) dX1_putTimes_28 rfl h (fun o1 h => ?_)
    refine g_iinc 34 [(4, .int (l4 + 1)), (0, .ref (ad 1)), (1, .int l1), (2, .int l2), (3, .int l3)] C dX1_putTimes_31 (j := 4) rfl (by rfl) (by decide) rfl rfl ?_
    refine g_goto 3 C dX1_putTimes_34 (by decide) ?_
    have hh := end_inl h K
    exact g_sub [1, 2, 3, 4, 0] (hh) rfl
noncomputable def fX1_putTimes_L37 (σ : Mem) : Option (Mem) :=
  some σ
set_option maxHeartbeats 4000000 in
set_option maxRecDepth 100000 in
theorem tX1_putTimes_L37 {E : Gx} {cI : ClassId} {ad : Nat → Nat} (C : Cx E rmX1_putTimes cI layX ad 5 RX1 cX1_putTimes) {out : Mem} (K0 : KV E rmX1_putTimes cI layX ad 5 cX1_putTimes out) {σ : Mem} (h : fX1_putTimes_L37 σ = some out) : G E rmX1_putTimes cI layX ad 5 37 [] [] σ := by
  unfold fX1_putTimes_L37 at h
  cases h
  exact K0 _ _ dX1_putTimes_37
noncomputable def fX1_putTimes (a1 : Int32) (a2 : Int32) (a3 : Int32) (σ : Mem) : Option (Mem) :=
  (loop (fun a => fX1_putTimes_B3 a1 a2 a3 a.1 a.2) (0, σ)).bind fun b2 =>
  fX1_putTimes_L37 b2
set_option maxHeartbeats 4000000 in
set_option maxRecDepth 100000 in
theorem mX1_putTimes {l : Launch} {D : va_G} {cI : ClassId} {ad : Nat → Nat} {a1 : Int32} {a2 : Int32} {a3 : Int32} {σ : Mem} {out : Mem} (h : fX1_putTimes a1 a2 a3 σ = some out) : MV l D cI layX ad yX1_putTimes cX1_putTimes 5 rmX1_putTimes [.ref (ad 1), .int a1, .int a2, .int a3] σ out := by
  refine met_v (by decide) (Nat.le_of_ble_eq_true rfl) (fun E C K0 => ?_)
  show G E rmX1_putTimes cI layX ad 5 0 [(0, .ref (ad 1)), (1, .int a1), (2, .int a2), (3, .int a3)] [] σ
  unfold fX1_putTimes at h
  refine g_iconst 1 (v := 0) C dX1_putTimes_0 (by decide) rfl ?_
  refine g_istore 3 [(4, .int 0), (0, .ref (ad 1)), (1, .int a1), (2, .int a2), (3, .int a3)] C dX1_putTimes_1 (by decide) rfl rfl ?_
  obtain ⟨b2, hb, h⟩ := bind_some h
  refine g_sub [1, 2, 3, 4, 0] (g_loop (a := (0, σ)) (fun a => G E rmX1_putTimes cI layX ad 5 3 [(0, .ref (ad 1)), (1, .int a1), (2, .int a2), (3, .int a3), (4, .int a.1)] [] a.2) (fun b => G E rmX1_putTimes cI layX ad 5 37 [] [] b) hb (fun a res h K => tX1_putTimes_B3 (l1 := a1) (l2 := a2) (l3 := a3) (l4 := a.1) (σ := a.2) (res := res) C K0 h K) ?_) rfl
  show G E rmX1_putTimes cI layX ad 5 37 [] [] b2
  exact tX1_putTimes_L37 (σ := b2) C K0 h

/-! LoopReducer$Forms.putLater(II)V -/
abbrev rmX1_putLater : Room := { frames := 2, cells := 0, slots := 0, locals := 50 }
theorem qX1_putLater : yX1_putLater.cls ≠ "java/lang/invoke/MethodHandle" ∧ yX1_putLater.cls ≠ "java/lang/invoke/VarHandle" ∧ (parseMethodDescriptor yX1_putLater.desc).map (fun d => d.parameters.length) = some 2 := by decide +kernel
theorem DX1_putLater : ∀ q ∈ ([(0, .iconst 0, 1), (1, .istore_n 3, 1), (2, .iload_n 3, 1), (3, .iconst 3, 1), (4, .if_icmp .gt 81, 3), (7, .iload_n 1, 1), (8, .iconst 4, 1), (9, .imul, 1), (10, .iload_n 3, 1), (11, .iadd, 1), (12, .istore 4, 2), (14, .aload_n 0, 1), (15, .getfield 15, 3), (18, .iload 4, 2), (20, .iload_n 2, 1), (21, .iconst 4, 1), (22, .imul, 1), (23, .iload_n 3, 1), (24, .iadd, 1), (25, .bipush 124, 2), (27, .iconst 1, 1), (28, .invokevirtual 37, 3), (31, .iload_n 3, 1), (32, .iconst 1, 1), (33, .iadd, 1), (34, .istore 5, 2), (36, .iload 5, 2), (38, .iconst 3, 1), (39, .if_icmp .gt 40, 3), (42, .aload_n 0, 1), (43, .getfield 15, 3), (46, .iload 4, 2), (48, .iload 4, 2), (50, .iload_n 2, 1), (51, .iconst 4, 1), (52, .imul, 1), (53, .iload 5, 2), (55, .iadd, 1), (56, .iload 5, 2), (58, .iload_n 3, 1), (59, .isub, 1), (60, .iconst 2, 1), (61, .irem, 1), (62, .ifCond .ne 7, 3), (65, .iconst 1, 1), (66, .goto 4, 3), (69, .iconst (-1), 1), (70, .invokevirtual 37, 3), (73, .iinc 5 1, 3), (76, .goto (-40), 3), (79, .iinc 3 1, 3), (82, .goto (-80), 3), (85, .return_, 1)] : List (Nat × Instr × Nat)), decode cX1_putLater q.1 = .ok q.2 := by decide +kernel
theorem dX1_putLater_0 : decode cX1_putLater 0 = .ok (.iconst 0, 1) := DX1_putLater (0, .iconst 0, 1) (List.mem_of_getElem? (i := 0) rfl)
theorem dX1_putLater_1 : decode cX1_putLater 1 = .ok (.istore_n 3, 1) := DX1_putLater (1, .istore_n 3, 1) (List.mem_of_getElem? (i := 1) rfl)
theorem dX1_putLater_2 : decode cX1_putLater 2 = .ok (.iload_n 3, 1) := DX1_putLater (2, .iload_n 3, 1) (List.mem_of_getElem? (i := 2) rfl)
theorem dX1_putLater_3 : decode cX1_putLater 3 = .ok (.iconst 3, 1) := DX1_putLater (3, .iconst 3, 1) (List.mem_of_getElem? (i := 3) rfl)
theorem dX1_putLater_4 : decode cX1_putLater 4 = .ok (.if_icmp .gt 81, 3) := DX1_putLater (4, .if_icmp .gt 81, 3) (List.mem_of_getElem? (i := 4) rfl)
theorem dX1_putLater_7 : decode cX1_putLater 7 = .ok (.iload_n 1, 1) := DX1_putLater (7, .iload_n 1, 1) (List.mem_of_getElem? (i := 5) rfl)
theorem dX1_putLater_8 : decode cX1_putLater 8 = .ok (.iconst 4, 1) := DX1_putLater (8, .iconst 4, 1) (List.mem_of_getElem? (i := 6) rfl)
theorem dX1_putLater_9 : decode cX1_putLater 9 = .ok (.imul, 1) := DX1_putLater (9, .imul, 1) (List.mem_of_getElem? (i := 7) rfl)
theorem dX1_putLater_10 : decode cX1_putLater 10 = .ok (.iload_n 3, 1) := DX1_putLater (10, .iload_n 3, 1) (List.mem_of_getElem? (i := 8) rfl)
theorem dX1_putLater_11 : decode cX1_putLater 11 = .ok (.iadd, 1) := DX1_putLater (11, .iadd, 1) (List.mem_of_getElem? (i := 9) rfl)
theorem dX1_putLater_12 : decode cX1_putLater 12 = .ok (.istore 4, 2) := DX1_putLater (12, .istore 4, 2) (List.mem_of_getElem? (i := 10) rfl)
theorem dX1_putLater_14 : decode cX1_putLater 14 = .ok (.aload_n 0, 1) := DX1_putLater (14, .aload_n 0, 1) (List.mem_of_getElem? (i := 11) rfl)
theorem dX1_putLater_15 : decode cX1_putLater 15 = .ok (.getfield 15, 3) := DX1_putLater (15, .getfield 15, 3) (List.mem_of_getElem? (i := 12) rfl)
theorem dX1_putLater_18 : decode cX1_putLater 18 = .ok (.iload 4, 2) := DX1_putLater (18, .iload 4, 2) (List.mem_of_getElem? (i := 13) rfl)
theorem dX1_putLater_20 : decode cX1_putLater 20 = .ok (.iload_n 2, 1) := DX1_putLater (20, .iload_n 2, 1) (List.mem_of_getElem? (i := 14) rfl)
theorem dX1_putLater_21 : decode cX1_putLater 21 = .ok (.iconst 4, 1) := DX1_putLater (21, .iconst 4, 1) (List.mem_of_getElem? (i := 15) rfl)
theorem dX1_putLater_22 : decode cX1_putLater 22 = .ok (.imul, 1) := DX1_putLater (22, .imul, 1) (List.mem_of_getElem? (i := 16) rfl)
theorem dX1_putLater_23 : decode cX1_putLater 23 = .ok (.iload_n 3, 1) := DX1_putLater (23, .iload_n 3, 1) (List.mem_of_getElem? (i := 17) rfl)
theorem dX1_putLater_24 : decode cX1_putLater 24 = .ok (.iadd, 1) := DX1_putLater (24, .iadd, 1) (List.mem_of_getElem? (i := 18) rfl)
theorem dX1_putLater_25 : decode cX1_putLater 25 = .ok (.bipush 124, 2) := DX1_putLater (25, .bipush 124, 2) (List.mem_of_getElem? (i := 19) rfl)
theorem dX1_putLater_27 : decode cX1_putLater 27 = .ok (.iconst 1, 1) := DX1_putLater (27, .iconst 1, 1) (List.mem_of_getElem? (i := 20) rfl)
theorem dX1_putLater_28 : decode cX1_putLater 28 = .ok (.invokevirtual 37, 3) := DX1_putLater (28, .invokevirtual 37, 3) (List.mem_of_getElem? (i := 21) rfl)
theorem dX1_putLater_31 : decode cX1_putLater 31 = .ok (.iload_n 3, 1) := DX1_putLater (31, .iload_n 3, 1) (List.mem_of_getElem? (i := 22) rfl)
theorem dX1_putLater_32 : decode cX1_putLater 32 = .ok (.iconst 1, 1) := DX1_putLater (32, .iconst 1, 1) (List.mem_of_getElem? (i := 23) rfl)
theorem dX1_putLater_33 : decode cX1_putLater 33 = .ok (.iadd, 1) := DX1_putLater (33, .iadd, 1) (List.mem_of_getElem? (i := 24) rfl)
theorem dX1_putLater_34 : decode cX1_putLater 34 = .ok (.istore 5, 2) := DX1_putLater (34, .istore 5, 2) (List.mem_of_getElem? (i := 25) rfl)
theorem dX1_putLater_36 : decode cX1_putLater 36 = .ok (.iload 5, 2) := DX1_putLater (36, .iload 5, 2) (List.mem_of_getElem? (i := 26) rfl)
theorem dX1_putLater_38 : decode cX1_putLater 38 = .ok (.iconst 3, 1) := DX1_putLater (38, .iconst 3, 1) (List.mem_of_getElem? (i := 27) rfl)
theorem dX1_putLater_39 : decode cX1_putLater 39 = .ok (.if_icmp .gt 40, 3) := DX1_putLater (39, .if_icmp .gt 40, 3) (List.mem_of_getElem? (i := 28) rfl)
theorem dX1_putLater_42 : decode cX1_putLater 42 = .ok (.aload_n 0, 1) := DX1_putLater (42, .aload_n 0, 1) (List.mem_of_getElem? (i := 29) rfl)
theorem dX1_putLater_43 : decode cX1_putLater 43 = .ok (.getfield 15, 3) := DX1_putLater (43, .getfield 15, 3) (List.mem_of_getElem? (i := 30) rfl)
theorem dX1_putLater_46 : decode cX1_putLater 46 = .ok (.iload 4, 2) := DX1_putLater (46, .iload 4, 2) (List.mem_of_getElem? (i := 31) rfl)
theorem dX1_putLater_48 : decode cX1_putLater 48 = .ok (.iload 4, 2) := DX1_putLater (48, .iload 4, 2) (List.mem_of_getElem? (i := 32) rfl)
theorem dX1_putLater_50 : decode cX1_putLater 50 = .ok (.iload_n 2, 1) := DX1_putLater (50, .iload_n 2, 1) (List.mem_of_getElem? (i := 33) rfl)
theorem dX1_putLater_51 : decode cX1_putLater 51 = .ok (.iconst 4, 1) := DX1_putLater (51, .iconst 4, 1) (List.mem_of_getElem? (i := 34) rfl)
theorem dX1_putLater_52 : decode cX1_putLater 52 = .ok (.imul, 1) := DX1_putLater (52, .imul, 1) (List.mem_of_getElem? (i := 35) rfl)
theorem dX1_putLater_53 : decode cX1_putLater 53 = .ok (.iload 5, 2) := DX1_putLater (53, .iload 5, 2) (List.mem_of_getElem? (i := 36) rfl)
theorem dX1_putLater_55 : decode cX1_putLater 55 = .ok (.iadd, 1) := DX1_putLater (55, .iadd, 1) (List.mem_of_getElem? (i := 37) rfl)
theorem dX1_putLater_56 : decode cX1_putLater 56 = .ok (.iload 5, 2) := DX1_putLater (56, .iload 5, 2) (List.mem_of_getElem? (i := 38) rfl)
theorem dX1_putLater_58 : decode cX1_putLater 58 = .ok (.iload_n 3, 1) := DX1_putLater (58, .iload_n 3, 1) (List.mem_of_getElem? (i := 39) rfl)
theorem dX1_putLater_59 : decode cX1_putLater 59 = .ok (.isub, 1) := DX1_putLater (59, .isub, 1) (List.mem_of_getElem? (i := 40) rfl)
theorem dX1_putLater_60 : decode cX1_putLater 60 = .ok (.iconst 2, 1) := DX1_putLater (60, .iconst 2, 1) (List.mem_of_getElem? (i := 41) rfl)
theorem dX1_putLater_61 : decode cX1_putLater 61 = .ok (.irem, 1) := DX1_putLater (61, .irem, 1) (List.mem_of_getElem? (i := 42) rfl)
theorem dX1_putLater_62 : decode cX1_putLater 62 = .ok (.ifCond .ne 7, 3) := DX1_putLater (62, .ifCond .ne 7, 3) (List.mem_of_getElem? (i := 43) rfl)
theorem dX1_putLater_65 : decode cX1_putLater 65 = .ok (.iconst 1, 1) := DX1_putLater (65, .iconst 1, 1) (List.mem_of_getElem? (i := 44) rfl)
theorem dX1_putLater_66 : decode cX1_putLater 66 = .ok (.goto 4, 3) := DX1_putLater (66, .goto 4, 3) (List.mem_of_getElem? (i := 45) rfl)
theorem dX1_putLater_69 : decode cX1_putLater 69 = .ok (.iconst (-1), 1) := DX1_putLater (69, .iconst (-1), 1) (List.mem_of_getElem? (i := 46) rfl)
theorem dX1_putLater_70 : decode cX1_putLater 70 = .ok (.invokevirtual 37, 3) := DX1_putLater (70, .invokevirtual 37, 3) (List.mem_of_getElem? (i := 47) rfl)
theorem dX1_putLater_73 : decode cX1_putLater 73 = .ok (.iinc 5 1, 3) := DX1_putLater (73, .iinc 5 1, 3) (List.mem_of_getElem? (i := 48) rfl)
theorem dX1_putLater_76 : decode cX1_putLater 76 = .ok (.goto (-40), 3) := DX1_putLater (76, .goto (-40), 3) (List.mem_of_getElem? (i := 49) rfl)
theorem dX1_putLater_79 : decode cX1_putLater 79 = .ok (.iinc 3 1, 3) := DX1_putLater (79, .iinc 3 1, 3) (List.mem_of_getElem? (i := 50) rfl)
theorem dX1_putLater_82 : decode cX1_putLater 82 = .ok (.goto (-80), 3) := DX1_putLater (82, .goto (-80), 3) (List.mem_of_getElem? (i := 51) rfl)
theorem dX1_putLater_85 : decode cX1_putLater 85 = .ok (.return_, 1) := DX1_putLater (85, .return_, 1) (List.mem_of_getElem? (i := 52) rfl)
noncomputable def fX1_putLater_L70 (l1 : Int32) (l2 : Int32) (l3 : Int32) (l4 : Int32) (l5 : Int32) (s1 : Int32) (s2 : Int32) (s3 : Int32) (s4 : Int32) (σ : Mem) : Option ((Int32 × Mem) ⊕ (Mem)) :=
  (fX5_putSum s1 s2 s3 s4 σ).bind fun o2 =>
  some (.inl (l5 + 1, o2))
set_option maxHeartbeats 4000000 in
set_option maxRecDepth 100000 in
theorem tX1_putLater_L70 {E : Gx} {cI : ClassId} {ad : Nat → Nat} (C : Cx E rmX1_putLater cI layX ad 6 RX1 cX1_putLater) {out : Mem} (K0 : KV E rmX1_putLater cI layX ad 6 cX1_putLater out) {l1 : Int32} {l2 : Int32} {l3 : Int32} {l4 : Int32} {l5 : Int32} {s1 : Int32} {s2 : Int32} {s3 : Int32} {s4 : Int32} {σ : Mem} {res : (Int32 × Mem) ⊕ (Mem)} (h : fX1_putLater_L70 l1 l2 l3 l4 l5 s1 s2 s3 s4 σ = some res) (K : Sum.elim (fun a => G E rmX1_putLater cI layX ad 6 36 [(0, .ref (ad 1)), (1, .int l1), (2, .int l2), (3, .int l3), (4, .int l4), (5, .int a.1)] [] a.2) (fun b => G E rmX1_putLater cI layX ad 6 79 [(0, .ref (ad 1)), (1, .int l1), (2, .int l2), (3, .int l3)] [] b) res) : G E rmX1_putLater cI layX ad 6 70 [(0, .ref (ad 1)), (1, .int l1), (2, .int l2), (3, .int l3), (4, .int l4), (5, .int l5)] [.int s4, .int s3, .int s2, .int s1, .ref (ad 5)] σ := by
  unfold fX1_putLater_L70 at h
  refine g_cnv 73 C (As := [.int s1, .int s2, .int s3, .int s4]) (fun _ h => mX5_putSum (a1 := s1) (a2 := s2) (a3 := s3) (a4 := s4) (σ := σ) h) (List.mem_of_getElem? (i := 18) rfl) wi_X5_putSum wz_X5_putSum wc_X5_putSum wn_X5 qX5_putSum rfl rfl ⟨Nat.le_of_ble_eq_true rfl, Nat.le_of_ble_eq_true rfl⟩ rfl rfl rfl rfl (Nat.le_of_ble_eq_true rfl) dX1_putLater_70 rfl h (fun o2 h => ?_)
  refine g_iinc 76 [(5, .int (l5 + 1)), (0, .ref (ad 1)), (1, .int l1), (2, .int l2), (3, .int l3), (4, .int l4)] C dX1_putLater_73 (j := 5) rfl (by rfl) (by decide) rfl rfl ?_
  refine g_goto 36 C dX1_putLater_76 (by decide) ?_
  have hh := end_inl h K
  exact g_sub [1, 2, 3, 4, 5, 0] (hh) rfl
noncomputable def fX1_putLater_B36 (l1 : Int32) (l2 : Int32) (l3 : Int32) (l4 : Int32) (l5 : Int32) (σ : Mem) : Option ((Int32 × Mem) ⊕ (Mem)) :=
  if 3 < l5 then
    some (.inr σ)
  else
    if ((l5 - l3) - (l5 - l3) / 2 * 2) = 0 then
      fX1_putLater_L70 l1 l2 l3 l4 l5 l4 l4 ((l2 * 4) + l5) 1 σ
    else
      fX1_putLater_L70 l1 l2 l3 l4 l5 l4 l4 ((l2 * 4) + l5) (-1) σ
set_option maxHeartbeats 4000000 in
set_option maxRecDepth 100000 in
theorem tX1_putLater_B36 {E : Gx} {cI : ClassId} {ad : Nat → Nat} (C : Cx E rmX1_putLater cI layX ad 6 RX1 cX1_putLater) {out : Mem} (K0 : KV E rmX1_putLater cI layX ad 6 cX1_putLater out) {l1 : Int32} {l2 : Int32} {l3 : Int32} {l4 : Int32} {l5 : Int32} {σ : Mem} {res : (Int32 × Mem) ⊕ (Mem)} (h : fX1_putLater_B36 l1 l2 l3 l4 l5 σ = some res) (K : Sum.elim (fun a => G E rmX1_putLater cI layX ad 6 36 [(0, .ref (ad 1)), (1, .int l1), (2, .int l2), (3, .int l3), (4, .int l4), (5, .int a.1)] [] a.2) (fun b => G E rmX1_putLater cI layX ad 6 79 [(0, .ref (ad 1)), (1, .int l1), (2, .int l2), (3, .int l3)] [] b) res) : G E rmX1_putLater cI layX ad 6 36 [(0, .ref (ad 1)), (1, .int l1), (2, .int l2), (3, .int l3), (4, .int l4), (5, .int l5)] [] σ := by
  unfold fX1_putLater_B36 at h
  refine g_iload 38 C dX1_putLater_36 (j := 5) rfl rfl ?_
  refine g_iconst 39 (v := 3) C dX1_putLater_38 (by decide) rfl ?_
  refine g_icmp_gt 79 42 C dX1_putLater_39 (by decide) rfl h (fun h => ?_) (fun h => ?_)
  · have hh := end_inr h K
    exact g_sub [0, 1, 2, 3] (hh) rfl
  · refine g_aload_n 43 C dX1_putLater_42 rfl (j := 0) rfl rfl ?_
    refine g_getr 46 (j := 0) C rfl rfl wu_X1 (by decide) wf_X1_15 rfl dX1_putLater_43 rfl ?_
    refine g_iload 48 C dX1_putLater_46 (j := 4) rfl rfl ?_
    refine g_iload 50 C dX1_putLater_48 (j := 4) rfl rfl ?_
    refine g_iload_n 51 C dX1_putLater_50 rfl (j := 2) rfl rfl ?_
    refine g_iconst 52 (v := 4) C dX1_putLater_51 (by decide) rfl ?_
    refine g_imul 53 C dX1_putLater_52 rfl ?_
    refine g_iload 55 C dX1_putLater_53 (j := 5) rfl rfl ?_
    refine g_iadd 56 C dX1_putLater_55 rfl ?_
    refine g_iload 58 C dX1_putLater_56 (j := 5) rfl rfl ?_
    refine g_iload_n 59 C dX1_putLater_58 rfl (j := 3) rfl rfl ?_
    refine g_isub 60 C dX1_putLater_59 rfl ?_
    refine g_iconst 61 (v := 2) C dX1_putLater_60 (by decide) rfl ?_
    refine g_irem 62 C dX1_putLater_61 (by decide) rfl ?_
    refine g_if_ne 69 65 C dX1_putLater_62 (by decide) rfl h (fun h => ?_) (fun h => ?_)
    · refine g_iconst 66 (v := 1) C dX1_putLater_65 (by decide) rfl ?_
      refine g_goto 70 C dX1_putLater_66 (by decide) ?_
      exact tX1_putLater_L70 (l1 := l1) (l2 := l2) (l3 := l3) (l4 := l4) (l5 := l5) (s1 := l4) (s2 := l4) (s3 := ((l2 * 4) + l5)) (s4 := 1) (σ := σ) C K0 h K
    · refine g_iconst 70 (v := (-1)) C dX1_putLater_69 (by decide) rfl ?_
      exact tX1_putLater_L70 (l1 := l1) (l2 := l2) (l3 := l3) (l4 := l4) (l5 := l5) (s1 := l4) (s2 := l4) (s3 := ((l2 * 4) + l5)) (s4 := (-1)) (σ := σ) C K0 h K
noncomputable def fX1_putLater_L79 (l1 : Int32) (l2 : Int32) (l3 : Int32) (σ : Mem) : Option ((Int32 × Mem) ⊕ (Mem)) :=
  some (.inl (l3 + 1, σ))
set_option maxHeartbeats 4000000 in
set_option maxRecDepth 100000 in
theorem tX1_putLater_L79 {E : Gx} {cI : ClassId} {ad : Nat → Nat} (C : Cx E rmX1_putLater cI layX ad 6 RX1 cX1_putLater) {out : Mem} (K0 : KV E rmX1_putLater cI layX ad 6 cX1_putLater out) {l1 : Int32} {l2 : Int32} {l3 : Int32} {σ : Mem} {res : (Int32 × Mem) ⊕ (Mem)} (h : fX1_putLater_L79 l1 l2 l3 σ = some res) (K : Sum.elim (fun a => G E rmX1_putLater cI layX ad 6 2 [(0, .ref (ad 1)), (1, .int l1), (2, .int l2), (3, .int a.1)] [] a.2) (fun b => G E rmX1_putLater cI layX ad 6 85 [] [] b) res) : G E rmX1_putLater cI layX ad 6 79 [(0, .ref (ad 1)), (1, .int l1), (2, .int l2), (3, .int l3)] [] σ := by
  unfold fX1_putLater_L79 at h
  refine g_iinc 82 [(3, .int (l3 + 1)), (0, .ref (ad 1)), (1, .int l1), (2, .int l2)] C dX1_putLater_79 (j := 3) rfl (by rfl) (by decide) rfl rfl ?_
  refine g_goto 2 C dX1_putLater_82 (by decide) ?_
  have hh := end_inl h K
  exact g_sub [1, 2, 3, 0] (hh) rfl
noncomputable def fX1_putLater_B2 (l1 : Int32) (l2 : Int32) (l3 : Int32) (σ : Mem) : Option ((Int32 × Mem) ⊕ (Mem)) :=
  if 3 < l3 then
    some (.inr σ)
  else
    (fX5_putSum ((l1 * 4) + l3) ((l2 * 4) + l3) 124 1 σ).bind fun o1 =>
    (loop (fun a => fX1_putLater_B36 l1 l2 l3 ((l1 * 4) + l3) a.1 a.2) (l3 + 1, o1)).bind fun b3 =>
    fX1_putLater_L79 l1 l2 l3 b3
set_option maxHeartbeats 4000000 in
set_option maxRecDepth 100000 in
theorem tX1_putLater_B2 {E : Gx} {cI : ClassId} {ad : Nat → Nat} (C : Cx E rmX1_putLater cI layX ad 6 RX1 cX1_putLater) {out : Mem} (K0 : KV E rmX1_putLater cI layX ad 6 cX1_putLater out) {l1 : Int32} {l2 : Int32} {l3 : Int32} {σ : Mem} {res : (Int32 × Mem) ⊕ (Mem)} (h : fX1_putLater_B2 l1 l2 l3 σ = some res) (K : Sum.elim (fun a => G E rmX1_putLater cI layX ad 6 2 [(0, .ref (ad 1)), (1, .int l1), (2, .int l2), (3, .int a.1)] [] a.2) (fun b => G E rmX1_putLater cI layX ad 6 85 [] [] b) res) : G E rmX1_putLater cI layX ad 6 2 [(0, .ref (ad 1)), (1, .int l1), (2, .int l2), (3, .int l3)] [] σ := by
  unfold fX1_putLater_B2 at h
  refine g_iload_n 3 C dX1_putLater_2 rfl (j := 3) rfl rfl ?_
  refine g_iconst 4 (v := 3) C dX1_putLater_3 (by decide) rfl ?_
  refine g_icmp_gt 85 7 C dX1_putLater_4 (by decide) rfl h (fun h => ?_) (fun h => ?_)
  · have hh := end_inr h K
    exact g_sub [] (hh) rfl
  · refine g_iload_n 8 C dX1_putLater_7 rfl (j := 1) rfl rfl ?_
    refine g_iconst 9 (v := 4) C dX1_putLater_8 (by decide) rfl ?_
    refine g_imul 10 C dX1_putLater_9 rfl ?_
    refine g_iload_n 11 C dX1_putLater_10 rfl (j := 3) rfl rfl ?_
    refine g_iadd 12 C dX1_putLater_11 rfl ?_
    refine g_istore 14 [(4, .int ((l1 * 4) + l3)), (0, .ref (ad 1)), (1, .int l1), (2, .int l2), (3, .int l3)] C dX1_putLater_12 (by decide) rfl rfl ?_
    refine g_aload_n 15 C dX1_putLater_14 rfl (j := 1) rfl rfl ?_
    refine g_getr 18 (j := 0) C rfl rfl wu_X1 (by decide) wf_X1_15 rfl dX1_putLater_15 rfl ?_
    refine g_iload 20 C dX1_putLater_18 (j := 0) rfl rfl ?_
    refine g_iload_n 21 C dX1_putLater_20 rfl (j := 3) rfl rfl ?_
    refine g_iconst 22 (v := 4) C dX1_putLater_21 (by decide) rfl ?_
    refine g_imul 23 C dX1_putLater_22 rfl ?_
    refine g_iload_n 24 C dX1_putLater_23 rfl (j := 4) rfl rfl ?_
    refine g_iadd 25 C dX1_putLater_24 rfl ?_
    refine g_bipush 27 (v := 124) C dX1_putLater_25 (by decide) rfl ?_
    refine g_iconst 28 (v := 1) C dX1_putLater_27 (by decide) rfl ?_
    refine g_cnv 31 C (As := [.int ((l1 * 4) + l3), .int ((l2 * 4) + l3), .int 124, .int 1]) (fun _ h => mX5_putSum (a1 := (l1 * 4) + l3) (a2 := (l2 * 4) + l3) (a3 := 124) (a4 := 1) (σ := σ) h) (List.mem_of_getElem? (i := 18) rfl) wi_X5_putSum wz_X5_putSum wc_X5_putSum wn_X5 qX5_putSum rfl rfl ⟨Nat.le_of_ble_eq_true rfl, Nat.le_of_ble_eq_true rfl⟩ rfl rfl rfl rfl (Nat.le_of_ble_eq_true rfl) dX1_putLater_28 rfl h (fun o1 h => ?_)
    refine g_iload_n 32 C dX1_putLater_31 rfl (j := 4) rfl rfl ?_
    refine g_iconst 33 (v := 1) C dX1_putLater_32 (by decide) rfl ?_
    refine g_iadd 34 C dX1_putLater_33 rfl ?_
    refine g_istore 36 [(5, .int (l3 + 1)), (4, .int ((l1 * 4) + l3)), (0, .ref (ad 1)), (1, .int l1), (2, .int l2), (3, .int l3)] C dX1_putLater_34 (by decide) rfl rfl ?_
    obtain ⟨b3, hb, h⟩ := bind_some h
    refine g_sub [2, 3, 4, 5, 1, 0] (g_loop (a := (l3 + 1, o1)) (fun a => G E rmX1_putLater cI layX ad 6 36 [(0, .ref (ad 1)), (1, .int l1), (2, .int l2), (3, .int l3), (4, .int ((l1 * 4) + l3)), (5, .int a.1)] [] a.2) (fun b => G E rmX1_putLater cI layX ad 6 79 [(0, .ref (ad 1)), (1, .int l1), (2, .int l2), (3, .int l3)] [] b) hb (fun a res h K => tX1_putLater_B36 (l1 := l1) (l2 := l2) (l3 := l3) (l4 := ((l1 * 4) + l3)) (l5 := a.1) (σ := a.2) (res := res) C K0 h K) ?_) rfl
    show G E rmX1_putLater cI layX ad 6 79 [(0, .ref (ad 1)), (1, .int l1), (2, .int l2), (3, .int l3)] [] b3
    exact tX1_putLater_L79 (l1 := l1) (l2 := l2) (l3 := l3) (σ := b3) C K0 h K
noncomputable def fX1_putLater_L85 (σ : Mem) : Option (Mem) :=
  some σ
set_option maxHeartbeats 4000000 in
set_option maxRecDepth 100000 in
theorem tX1_putLater_L85 {E : Gx} {cI : ClassId} {ad : Nat → Nat} (C : Cx E rmX1_putLater cI layX ad 6 RX1 cX1_putLater) {out : Mem} (K0 : KV E rmX1_putLater cI layX ad 6 cX1_putLater out) {σ : Mem} (h : fX1_putLater_L85 σ = some out) : G E rmX1_putLater cI layX ad 6 85 [] [] σ := by
  unfold fX1_putLater_L85 at h
  cases h
  exact K0 _ _ dX1_putLater_85
noncomputable def fX1_putLater (a1 : Int32) (a2 : Int32) (σ : Mem) : Option (Mem) :=
  (loop (fun a => fX1_putLater_B2 a1 a2 a.1 a.2) (0, σ)).bind fun b4 =>
  fX1_putLater_L85 b4
set_option maxHeartbeats 4000000 in
set_option maxRecDepth 100000 in
theorem mX1_putLater {l : Launch} {D : va_G} {cI : ClassId} {ad : Nat → Nat} {a1 : Int32} {a2 : Int32} {σ : Mem} {out : Mem} (h : fX1_putLater a1 a2 σ = some out) : MV l D cI layX ad yX1_putLater cX1_putLater 6 rmX1_putLater [.ref (ad 1), .int a1, .int a2] σ out := by
  refine met_v (by decide) (Nat.le_of_ble_eq_true rfl) (fun E C K0 => ?_)
  show G E rmX1_putLater cI layX ad 6 0 [(0, .ref (ad 1)), (1, .int a1), (2, .int a2)] [] σ
  unfold fX1_putLater at h
  refine g_iconst 1 (v := 0) C dX1_putLater_0 (by decide) rfl ?_
  refine g_istore_n 2 [(3, .int 0), (0, .ref (ad 1)), (1, .int a1), (2, .int a2)] C dX1_putLater_1 rfl (by decide) rfl rfl ?_
  obtain ⟨b4, hb, h⟩ := bind_some h
  refine g_sub [1, 2, 3, 0] (g_loop (a := (0, σ)) (fun a => G E rmX1_putLater cI layX ad 6 2 [(0, .ref (ad 1)), (1, .int a1), (2, .int a2), (3, .int a.1)] [] a.2) (fun b => G E rmX1_putLater cI layX ad 6 85 [] [] b) hb (fun a res h K => tX1_putLater_B2 (l1 := a1) (l2 := a2) (l3 := a.1) (σ := a.2) (res := res) C K0 h K) ?_) rfl
  show G E rmX1_putLater cI layX ad 6 85 [] [] b4
  exact tX1_putLater_L85 (σ := b4) C K0 h

/-! LoopReducer$Forms.putAddedUp(III)V -/
abbrev rmX1_putAddedUp : Room := { frames := 2, cells := 0, slots := 0, locals := 50 }
theorem qX1_putAddedUp : yX1_putAddedUp.cls ≠ "java/lang/invoke/MethodHandle" ∧ yX1_putAddedUp.cls ≠ "java/lang/invoke/VarHandle" ∧ (parseMethodDescriptor yX1_putAddedUp.desc).map (fun d => d.parameters.length) = some 3 := by decide +kernel
theorem DX1_putAddedUp : ∀ q ∈ ([(0, .iconst 3, 1), (1, .istore 4, 2), (3, .iload 4, 2), (5, .ifCond .le 33, 3), (8, .aload_n 0, 1), (9, .getfield 15, 3), (12, .iload_n 1, 1), (13, .iconst 4, 1), (14, .imul, 1), (15, .iload 4, 2), (17, .iadd, 1), (18, .iload_n 3, 1), (19, .iconst 4, 1), (20, .imul, 1), (21, .iload 4, 2), (23, .iadd, 1), (24, .iconst 1, 1), (25, .isub, 1), (26, .bipush 124, 2), (28, .iconst 1, 1), (29, .invokevirtual 37, 3), (32, .iinc 4 (-1), 3), (35, .goto (-32), 3), (38, .aload_n 0, 1), (39, .getfield 15, 3), (42, .iload_n 1, 1), (43, .iconst 4, 1), (44, .imul, 1), (45, .iload_n 2, 1), (46, .iconst 4, 1), (47, .imul, 1), (48, .bipush 124, 2), (50, .iconst 1, 1), (51, .invokevirtual 37, 3), (54, .return_, 1)] : List (Nat × Instr × Nat)), decode cX1_putAddedUp q.1 = .ok q.2 := by decide +kernel
theorem dX1_putAddedUp_0 : decode cX1_putAddedUp 0 = .ok (.iconst 3, 1) := DX1_putAddedUp (0, .iconst 3, 1) (List.mem_of_getElem? (i := 0) rfl)
theorem dX1_putAddedUp_1 : decode cX1_putAddedUp 1 = .ok (.istore 4, 2) := DX1_putAddedUp (1, .istore 4, 2) (List.mem_of_getElem? (i := 1) rfl)
theorem dX1_putAddedUp_3 : decode cX1_putAddedUp 3 = .ok (.iload 4, 2) := DX1_putAddedUp (3, .iload 4, 2) (List.mem_of_getElem? (i := 2) rfl)
theorem dX1_putAddedUp_5 : decode cX1_putAddedUp 5 = .ok (.ifCond .le 33, 3) := DX1_putAddedUp (5, .ifCond .le 33, 3) (List.mem_of_getElem? (i := 3) rfl)
theorem dX1_putAddedUp_8 : decode cX1_putAddedUp 8 = .ok (.aload_n 0, 1) := DX1_putAddedUp (8, .aload_n 0, 1) (List.mem_of_getElem? (i := 4) rfl)
theorem dX1_putAddedUp_9 : decode cX1_putAddedUp 9 = .ok (.getfield 15, 3) := DX1_putAddedUp (9, .getfield 15, 3) (List.mem_of_getElem? (i := 5) rfl)
theorem dX1_putAddedUp_12 : decode cX1_putAddedUp 12 = .ok (.iload_n 1, 1) := DX1_putAddedUp (12, .iload_n 1, 1) (List.mem_of_getElem? (i := 6) rfl)
theorem dX1_putAddedUp_13 : decode cX1_putAddedUp 13 = .ok (.iconst 4, 1) := DX1_putAddedUp (13, .iconst 4, 1) (List.mem_of_getElem? (i := 7) rfl)
theorem dX1_putAddedUp_14 : decode cX1_putAddedUp 14 = .ok (.imul, 1) := DX1_putAddedUp (14, .imul, 1) (List.mem_of_getElem? (i := 8) rfl)
theorem dX1_putAddedUp_15 : decode cX1_putAddedUp 15 = .ok (.iload 4, 2) := DX1_putAddedUp (15, .iload 4, 2) (List.mem_of_getElem? (i := 9) rfl)
theorem dX1_putAddedUp_17 : decode cX1_putAddedUp 17 = .ok (.iadd, 1) := DX1_putAddedUp (17, .iadd, 1) (List.mem_of_getElem? (i := 10) rfl)
theorem dX1_putAddedUp_18 : decode cX1_putAddedUp 18 = .ok (.iload_n 3, 1) := DX1_putAddedUp (18, .iload_n 3, 1) (List.mem_of_getElem? (i := 11) rfl)
theorem dX1_putAddedUp_19 : decode cX1_putAddedUp 19 = .ok (.iconst 4, 1) := DX1_putAddedUp (19, .iconst 4, 1) (List.mem_of_getElem? (i := 12) rfl)
theorem dX1_putAddedUp_20 : decode cX1_putAddedUp 20 = .ok (.imul, 1) := DX1_putAddedUp (20, .imul, 1) (List.mem_of_getElem? (i := 13) rfl)
theorem dX1_putAddedUp_21 : decode cX1_putAddedUp 21 = .ok (.iload 4, 2) := DX1_putAddedUp (21, .iload 4, 2) (List.mem_of_getElem? (i := 14) rfl)
theorem dX1_putAddedUp_23 : decode cX1_putAddedUp 23 = .ok (.iadd, 1) := DX1_putAddedUp (23, .iadd, 1) (List.mem_of_getElem? (i := 15) rfl)
theorem dX1_putAddedUp_24 : decode cX1_putAddedUp 24 = .ok (.iconst 1, 1) := DX1_putAddedUp (24, .iconst 1, 1) (List.mem_of_getElem? (i := 16) rfl)
theorem dX1_putAddedUp_25 : decode cX1_putAddedUp 25 = .ok (.isub, 1) := DX1_putAddedUp (25, .isub, 1) (List.mem_of_getElem? (i := 17) rfl)
theorem dX1_putAddedUp_26 : decode cX1_putAddedUp 26 = .ok (.bipush 124, 2) := DX1_putAddedUp (26, .bipush 124, 2) (List.mem_of_getElem? (i := 18) rfl)
theorem dX1_putAddedUp_28 : decode cX1_putAddedUp 28 = .ok (.iconst 1, 1) := DX1_putAddedUp (28, .iconst 1, 1) (List.mem_of_getElem? (i := 19) rfl)
theorem dX1_putAddedUp_29 : decode cX1_putAddedUp 29 = .ok (.invokevirtual 37, 3) := DX1_putAddedUp (29, .invokevirtual 37, 3) (List.mem_of_getElem? (i := 20) rfl)
theorem dX1_putAddedUp_32 : decode cX1_putAddedUp 32 = .ok (.iinc 4 (-1), 3) := DX1_putAddedUp (32, .iinc 4 (-1), 3) (List.mem_of_getElem? (i := 21) rfl)
theorem dX1_putAddedUp_35 : decode cX1_putAddedUp 35 = .ok (.goto (-32), 3) := DX1_putAddedUp (35, .goto (-32), 3) (List.mem_of_getElem? (i := 22) rfl)
theorem dX1_putAddedUp_38 : decode cX1_putAddedUp 38 = .ok (.aload_n 0, 1) := DX1_putAddedUp (38, .aload_n 0, 1) (List.mem_of_getElem? (i := 23) rfl)
theorem dX1_putAddedUp_39 : decode cX1_putAddedUp 39 = .ok (.getfield 15, 3) := DX1_putAddedUp (39, .getfield 15, 3) (List.mem_of_getElem? (i := 24) rfl)
theorem dX1_putAddedUp_42 : decode cX1_putAddedUp 42 = .ok (.iload_n 1, 1) := DX1_putAddedUp (42, .iload_n 1, 1) (List.mem_of_getElem? (i := 25) rfl)
theorem dX1_putAddedUp_43 : decode cX1_putAddedUp 43 = .ok (.iconst 4, 1) := DX1_putAddedUp (43, .iconst 4, 1) (List.mem_of_getElem? (i := 26) rfl)
theorem dX1_putAddedUp_44 : decode cX1_putAddedUp 44 = .ok (.imul, 1) := DX1_putAddedUp (44, .imul, 1) (List.mem_of_getElem? (i := 27) rfl)
theorem dX1_putAddedUp_45 : decode cX1_putAddedUp 45 = .ok (.iload_n 2, 1) := DX1_putAddedUp (45, .iload_n 2, 1) (List.mem_of_getElem? (i := 28) rfl)
theorem dX1_putAddedUp_46 : decode cX1_putAddedUp 46 = .ok (.iconst 4, 1) := DX1_putAddedUp (46, .iconst 4, 1) (List.mem_of_getElem? (i := 29) rfl)
theorem dX1_putAddedUp_47 : decode cX1_putAddedUp 47 = .ok (.imul, 1) := DX1_putAddedUp (47, .imul, 1) (List.mem_of_getElem? (i := 30) rfl)
theorem dX1_putAddedUp_48 : decode cX1_putAddedUp 48 = .ok (.bipush 124, 2) := DX1_putAddedUp (48, .bipush 124, 2) (List.mem_of_getElem? (i := 31) rfl)
theorem dX1_putAddedUp_50 : decode cX1_putAddedUp 50 = .ok (.iconst 1, 1) := DX1_putAddedUp (50, .iconst 1, 1) (List.mem_of_getElem? (i := 32) rfl)
theorem dX1_putAddedUp_51 : decode cX1_putAddedUp 51 = .ok (.invokevirtual 37, 3) := DX1_putAddedUp (51, .invokevirtual 37, 3) (List.mem_of_getElem? (i := 33) rfl)
theorem dX1_putAddedUp_54 : decode cX1_putAddedUp 54 = .ok (.return_, 1) := DX1_putAddedUp (54, .return_, 1) (List.mem_of_getElem? (i := 34) rfl)
noncomputable def fX1_putAddedUp_B3 (l1 : Int32) (l2 : Int32) (l3 : Int32) (l4 : Int32) (σ : Mem) : Option ((Int32 × Mem) ⊕ (Mem)) :=
  if l4 ≤ 0 then
    some (.inr σ)
  else
    (fX5_putSum ((l1 * 4) + l4) (((l3 * 4) + l4) - 1) 124 1 σ).bind fun o1 =>
    some (.inl (l4 + (-1), o1))
set_option maxHeartbeats 4000000 in
set_option maxRecDepth 100000 in
theorem tX1_putAddedUp_B3 {E : Gx} {cI : ClassId} {ad : Nat → Nat} (C : Cx E rmX1_putAddedUp cI layX ad 5 RX1 cX1_putAddedUp) {out : Mem} (K0 : KV E rmX1_putAddedUp cI layX ad 5 cX1_putAddedUp out) {l1 : Int32} {l2 : Int32} {l3 : Int32} {l4 : Int32} {σ : Mem} {res : (Int32 × Mem) ⊕ (Mem)} (h : fX1_putAddedUp_B3 l1 l2 l3 l4 σ = some res) (K : Sum.elim (fun a => G E rmX1_putAddedUp cI layX ad 5 3 [(0, .ref (ad 1)), (1, .int l1), (2, .int l2), (3, .int l3), (4, .int a.1)] [] a.2) (fun b => G E rmX1_putAddedUp cI layX ad 5 38 [(0, .ref (ad 1)), (1, .int l1), (2, .int l2)] [] b) res) : G E rmX1_putAddedUp cI layX ad 5 3 [(0, .ref (ad 1)), (1, .int l1), (2, .int l2), (3, .int l3), (4, .int l4)] [] σ := by
  unfold fX1_putAddedUp_B3 at h
  refine g_iload 5 C dX1_putAddedUp_3 (j := 4) rfl rfl ?_
  refine g_if_le 38 8 C dX1_putAddedUp_5 (by decide) rfl h (fun h => ?_) (fun h => ?_)
  · have hh := end_inr h K
    exact g_sub [0, 1, 2] (hh) rfl
  · refine g_aload_n 9 C dX1_putAddedUp_8 rfl (j := 0) rfl rfl ?_
    refine g_getr 12 (j := 0) C rfl rfl wu_X1 (by decide) wf_X1_15 rfl dX1_putAddedUp_9 rfl ?_
    refine g_iload_n 13 C dX1_putAddedUp_12 rfl (j := 1) rfl rfl ?_
    refine g_iconst 14 (v := 4) C dX1_putAddedUp_13 (by decide) rfl ?_
    refine g_imul 15 C dX1_putAddedUp_14 rfl ?_
    refine g_iload 17 C dX1_putAddedUp_15 (j := 4) rfl rfl ?_
    refine g_iadd 18 C dX1_putAddedUp_17 rfl ?_
    refine g_iload_n 19 C dX1_putAddedUp_18 rfl (j := 3) rfl rfl ?_
    refine g_iconst 20 (v := 4) C dX1_putAddedUp_19 (by decide) rfl ?_
    refine g_imul 21 C dX1_putAddedUp_20 rfl ?_
    refine g_iload 23 C dX1_putAddedUp_21 (j := 4) rfl rfl ?_
    refine g_iadd 24 C dX1_putAddedUp_23 rfl ?_
    refine g_iconst 25 (v := 1) C dX1_putAddedUp_24 (by decide) rfl ?_
    refine g_isub 26 C dX1_putAddedUp_25 rfl ?_
    refine g_bipush 28 (v := 124) C dX1_putAddedUp_26 (by decide) rfl ?_
    refine g_iconst 29 (v := 1) C dX1_putAddedUp_28 (by decide) rfl ?_
    refine g_cnv 32 C (As := [.int ((l1 * 4) + l4), .int (((l3 * 4) + l4) - 1), .int 124, .int 1]) (fun _ h => mX5_putSum (a1 := (l1 * 4) + l4) (a2 := ((l3 * 4) + l4) - 1) (a3 := 124) (a4 := 1) (σ := σ) h) (List.mem_of_getElem? (i := 18) rfl) wi_X5_putSum wz_X5_putSum wc_X5_putSum wn_X5 qX5_putSum rfl rfl ⟨Nat.le_of_ble_eq_true rfl, Nat.le_of_ble_eq_true rfl⟩ rfl rfl rfl rfl (Nat.le_of_ble_eq_true rfl) dX1_putAddedUp_29 rfl h (fun o1 h => ?_)
    refine g_iinc 35 [(4, .int (l4 + (-1))), (0, .ref (ad 1)), (1, .int l1), (2, .int l2), (3, .int l3)] C dX1_putAddedUp_32 (j := 4) rfl (by rfl) (by decide) rfl rfl ?_
    refine g_goto 3 C dX1_putAddedUp_35 (by decide) ?_
    have hh := end_inl h K
    exact g_sub [1, 2, 3, 4, 0] (hh) rfl
noncomputable def fX1_putAddedUp_L38 (l1 : Int32) (l2 : Int32) (σ : Mem) : Option (Mem) :=
  (fX5_putSum (l1 * 4) (l2 * 4) 124 1 σ).bind fun o3 =>
  some o3
set_option maxHeartbeats 4000000 in
set_option maxRecDepth 100000 in
theorem tX1_putAddedUp_L38 {E : Gx} {cI : ClassId} {ad : Nat → Nat} (C : Cx E rmX1_putAddedUp cI layX ad 5 RX1 cX1_putAddedUp) {out : Mem} (K0 : KV E rmX1_putAddedUp cI layX ad 5 cX1_putAddedUp out) {l1 : Int32} {l2 : Int32} {σ : Mem} (h : fX1_putAddedUp_L38 l1 l2 σ = some out) : G E rmX1_putAddedUp cI layX ad 5 38 [(0, .ref (ad 1)), (1, .int l1), (2, .int l2)] [] σ := by
  unfold fX1_putAddedUp_L38 at h
  refine g_aload_n 39 C dX1_putAddedUp_38 rfl (j := 0) rfl rfl ?_
  refine g_getr 42 (j := 0) C rfl rfl wu_X1 (by decide) wf_X1_15 rfl dX1_putAddedUp_39 rfl ?_
  refine g_iload_n 43 C dX1_putAddedUp_42 rfl (j := 1) rfl rfl ?_
  refine g_iconst 44 (v := 4) C dX1_putAddedUp_43 (by decide) rfl ?_
  refine g_imul 45 C dX1_putAddedUp_44 rfl ?_
  refine g_iload_n 46 C dX1_putAddedUp_45 rfl (j := 2) rfl rfl ?_
  refine g_iconst 47 (v := 4) C dX1_putAddedUp_46 (by decide) rfl ?_
  refine g_imul 48 C dX1_putAddedUp_47 rfl ?_
  refine g_bipush 50 (v := 124) C dX1_putAddedUp_48 (by decide) rfl ?_
  refine g_iconst 51 (v := 1) C dX1_putAddedUp_50 (by decide) rfl ?_
  refine g_cnv 54 C (As := [.int (l1 * 4), .int (l2 * 4), .int 124, .int 1]) (fun _ h => mX5_putSum (a1 := l1 * 4) (a2 := l2 * 4) (a3 := 124) (a4 := 1) (σ := σ) h) (List.mem_of_getElem? (i := 18) rfl) wi_X5_putSum wz_X5_putSum wc_X5_putSum wn_X5 qX5_putSum rfl rfl ⟨Nat.le_of_ble_eq_true rfl, Nat.le_of_ble_eq_true rfl⟩ rfl rfl rfl rfl (Nat.le_of_ble_eq_true rfl) dX1_putAddedUp_51 rfl h (fun o3 h => ?_)
  cases h
  exact K0 _ _ dX1_putAddedUp_54
noncomputable def fX1_putAddedUp (a1 : Int32) (a2 : Int32) (a3 : Int32) (σ : Mem) : Option (Mem) :=
  (loop (fun a => fX1_putAddedUp_B3 a1 a2 a3 a.1 a.2) (3, σ)).bind fun b2 =>
  fX1_putAddedUp_L38 a1 a2 b2
set_option maxHeartbeats 4000000 in
set_option maxRecDepth 100000 in
theorem mX1_putAddedUp {l : Launch} {D : va_G} {cI : ClassId} {ad : Nat → Nat} {a1 : Int32} {a2 : Int32} {a3 : Int32} {σ : Mem} {out : Mem} (h : fX1_putAddedUp a1 a2 a3 σ = some out) : MV l D cI layX ad yX1_putAddedUp cX1_putAddedUp 5 rmX1_putAddedUp [.ref (ad 1), .int a1, .int a2, .int a3] σ out := by
  refine met_v (by decide) (Nat.le_of_ble_eq_true rfl) (fun E C K0 => ?_)
  show G E rmX1_putAddedUp cI layX ad 5 0 [(0, .ref (ad 1)), (1, .int a1), (2, .int a2), (3, .int a3)] [] σ
  unfold fX1_putAddedUp at h
  refine g_iconst 1 (v := 3) C dX1_putAddedUp_0 (by decide) rfl ?_
  refine g_istore 3 [(4, .int 3), (0, .ref (ad 1)), (1, .int a1), (2, .int a2), (3, .int a3)] C dX1_putAddedUp_1 (by decide) rfl rfl ?_
  obtain ⟨b2, hb, h⟩ := bind_some h
  refine g_sub [1, 2, 3, 4, 0] (g_loop (a := (3, σ)) (fun a => G E rmX1_putAddedUp cI layX ad 5 3 [(0, .ref (ad 1)), (1, .int a1), (2, .int a2), (3, .int a3), (4, .int a.1)] [] a.2) (fun b => G E rmX1_putAddedUp cI layX ad 5 38 [(0, .ref (ad 1)), (1, .int a1), (2, .int a2)] [] b) hb (fun a res h K => tX1_putAddedUp_B3 (l1 := a1) (l2 := a2) (l3 := a3) (l4 := a.1) (σ := a.2) (res := res) C K0 h K) ?_) rfl
  show G E rmX1_putAddedUp cI layX ad 5 38 [(0, .ref (ad 1)), (1, .int a1), (2, .int a2)] [] b2
  exact tX1_putAddedUp_L38 (l1 := a1) (l2 := a2) (σ := b2) C K0 h

/-! LoopReducer$Forms.startsAlike(II)Z -/
abbrev rmX1_startsAlike : Room := { frames := 1, cells := 0, slots := 0, locals := 23 }
theorem qX1_startsAlike : yX1_startsAlike.cls ≠ "java/lang/invoke/MethodHandle" ∧ yX1_startsAlike.cls ≠ "java/lang/invoke/VarHandle" ∧ (parseMethodDescriptor yX1_startsAlike.desc).map (fun d => d.parameters.length) = some 2 := by decide +kernel
theorem DX1_startsAlike : ∀ q ∈ ([(0, .aload_n 0, 1), (1, .getfield 15, 3), (4, .iload_n 1, 1), (5, .iconst 4, 1), (6, .imul, 1), (7, .iload_n 2, 1), (8, .iconst 4, 1), (9, .imul, 1), (10, .invokevirtual 58, 3), (13, .ireturn, 1)] : List (Nat × Instr × Nat)), decode cX1_startsAlike q.1 = .ok q.2 := by decide +kernel
theorem dX1_startsAlike_0 : decode cX1_startsAlike 0 = .ok (.aload_n 0, 1) := DX1_startsAlike (0, .aload_n 0, 1) (List.mem_of_getElem? (i := 0) rfl)
theorem dX1_startsAlike_1 : decode cX1_startsAlike 1 = .ok (.getfield 15, 3) := DX1_startsAlike (1, .getfield 15, 3) (List.mem_of_getElem? (i := 1) rfl)
theorem dX1_startsAlike_4 : decode cX1_startsAlike 4 = .ok (.iload_n 1, 1) := DX1_startsAlike (4, .iload_n 1, 1) (List.mem_of_getElem? (i := 2) rfl)
theorem dX1_startsAlike_5 : decode cX1_startsAlike 5 = .ok (.iconst 4, 1) := DX1_startsAlike (5, .iconst 4, 1) (List.mem_of_getElem? (i := 3) rfl)
theorem dX1_startsAlike_6 : decode cX1_startsAlike 6 = .ok (.imul, 1) := DX1_startsAlike (6, .imul, 1) (List.mem_of_getElem? (i := 4) rfl)
theorem dX1_startsAlike_7 : decode cX1_startsAlike 7 = .ok (.iload_n 2, 1) := DX1_startsAlike (7, .iload_n 2, 1) (List.mem_of_getElem? (i := 5) rfl)
theorem dX1_startsAlike_8 : decode cX1_startsAlike 8 = .ok (.iconst 4, 1) := DX1_startsAlike (8, .iconst 4, 1) (List.mem_of_getElem? (i := 6) rfl)
theorem dX1_startsAlike_9 : decode cX1_startsAlike 9 = .ok (.imul, 1) := DX1_startsAlike (9, .imul, 1) (List.mem_of_getElem? (i := 7) rfl)
theorem dX1_startsAlike_10 : decode cX1_startsAlike 10 = .ok (.invokevirtual 58, 3) := DX1_startsAlike (10, .invokevirtual 58, 3) (List.mem_of_getElem? (i := 8) rfl)
theorem dX1_startsAlike_13 : decode cX1_startsAlike 13 = .ok (.ireturn, 1) := DX1_startsAlike (13, .ireturn, 1) (List.mem_of_getElem? (i := 9) rfl)
noncomputable def fX1_startsAlike (a1 : Int32) (a2 : Int32) (σ : Mem) : Option (Int32 × Mem) :=
  (fX5_isSame (a1 * 4) (a2 * 4) σ).bind fun o1 =>
  chk (o1.1 == 0 || o1.1 == 1) <|
  some (o1.1, o1.2)
set_option maxHeartbeats 4000000 in
set_option maxRecDepth 100000 in
theorem mX1_startsAlike {l : Launch} {D : va_G} {cI : ClassId} {ad : Nat → Nat} {a1 : Int32} {a2 : Int32} {σ : Mem} {out : Int32 × Mem} (h : fX1_startsAlike a1 a2 σ = some out) : MI l D cI layX ad yX1_startsAlike cX1_startsAlike 3 .boolean rmX1_startsAlike [.ref (ad 1), .int a1, .int a2] σ out := by
  refine met_i (by decide) (Nat.le_of_ble_eq_true rfl) (fun E C K0 => ?_)
  show G E rmX1_startsAlike cI layX ad 3 0 [(0, .ref (ad 1)), (1, .int a1), (2, .int a2)] [] σ
  unfold fX1_startsAlike at h
  refine g_aload_n 1 C dX1_startsAlike_0 rfl (j := 0) rfl rfl ?_
  refine g_getr 4 (j := 0) C rfl rfl wu_X1 (by decide) wf_X1_15 rfl dX1_startsAlike_1 rfl ?_
  refine g_iload_n 5 C dX1_startsAlike_4 rfl (j := 1) rfl rfl ?_
  refine g_iconst 6 (v := 4) C dX1_startsAlike_5 (by decide) rfl ?_
  refine g_imul 7 C dX1_startsAlike_6 rfl ?_
  refine g_iload_n 8 C dX1_startsAlike_7 rfl (j := 2) rfl rfl ?_
  refine g_iconst 9 (v := 4) C dX1_startsAlike_8 (by decide) rfl ?_
  refine g_imul 10 C dX1_startsAlike_9 rfl ?_
  refine g_cni 13 C (As := [.int (a1 * 4), .int (a2 * 4)]) (fun _ h => mX5_isSame (a1 := a1 * 4) (a2 := a2 * 4) (σ := σ) h) (List.mem_of_getElem? (i := 25) rfl) wi_X5_isSame wz_X5_isSame wc_X5_isSame wn_X5 qX5_isSame rfl rfl ⟨Nat.le_of_ble_eq_true rfl, Nat.le_of_ble_eq_true rfl⟩ rfl rfl rfl rfl (Nat.le_of_ble_eq_true rfl) dX1_startsAlike_10 rfl h (fun o1 h => ?_)
  obtain ⟨hz, h⟩ := chk_some h
  cases h
  exact K0 _ _ dX1_startsAlike_13 (zb_nar hz)

/-! LoopReducer$Forms.isSame(IIII)Z -/
abbrev rmX1_isSame : Room := { frames := 1, cells := 0, slots := 0, locals := 23 }
theorem qX1_isSame : yX1_isSame.cls ≠ "java/lang/invoke/MethodHandle" ∧ yX1_isSame.cls ≠ "java/lang/invoke/VarHandle" ∧ (parseMethodDescriptor yX1_isSame.desc).map (fun d => d.parameters.length) = some 4 := by decide +kernel
theorem DX1_isSame : ∀ q ∈ ([(0, .iconst 0, 1), (1, .istore 5, 2), (3, .iload 5, 2), (5, .iconst 3, 1), (6, .if_icmp .gt 40, 3), (9, .aload_n 0, 1), (10, .getfield 15, 3), (13, .aload_n 0, 1), (14, .iload_n 1, 1), (15, .iload 5, 2), (17, .iload_n 2, 1), (18, .iadd, 1), (19, .invokevirtual 62, 3), (22, .aload_n 0, 1), (23, .iload_n 3, 1), (24, .iload 5, 2), (26, .iload 4, 2), (28, .iadd, 1), (29, .invokevirtual 62, 3), (32, .invokevirtual 58, 3), (35, .ifCond .ne 5, 3), (38, .iconst 0, 1), (39, .ireturn, 1), (40, .iinc 5 1, 3), (43, .goto (-40), 3), (46, .iconst 1, 1), (47, .ireturn, 1)] : List (Nat × Instr × Nat)), decode cX1_isSame q.1 = .ok q.2 := by decide +kernel
theorem dX1_isSame_0 : decode cX1_isSame 0 = .ok (.iconst 0, 1) := DX1_isSame (0, .iconst 0, 1) (List.mem_of_getElem? (i := 0) rfl)
theorem dX1_isSame_1 : decode cX1_isSame 1 = .ok (.istore 5, 2) := DX1_isSame (1, .istore 5, 2) (List.mem_of_getElem? (i := 1) rfl)
theorem dX1_isSame_3 : decode cX1_isSame 3 = .ok (.iload 5, 2) := DX1_isSame (3, .iload 5, 2) (List.mem_of_getElem? (i := 2) rfl)
theorem dX1_isSame_5 : decode cX1_isSame 5 = .ok (.iconst 3, 1) := DX1_isSame (5, .iconst 3, 1) (List.mem_of_getElem? (i := 3) rfl)
theorem dX1_isSame_6 : decode cX1_isSame 6 = .ok (.if_icmp .gt 40, 3) := DX1_isSame (6, .if_icmp .gt 40, 3) (List.mem_of_getElem? (i := 4) rfl)
theorem dX1_isSame_9 : decode cX1_isSame 9 = .ok (.aload_n 0, 1) := DX1_isSame (9, .aload_n 0, 1) (List.mem_of_getElem? (i := 5) rfl)
theorem dX1_isSame_10 : decode cX1_isSame 10 = .ok (.getfield 15, 3) := DX1_isSame (10, .getfield 15, 3) (List.mem_of_getElem? (i := 6) rfl)
theorem dX1_isSame_13 : decode cX1_isSame 13 = .ok (.aload_n 0, 1) := DX1_isSame (13, .aload_n 0, 1) (List.mem_of_getElem? (i := 7) rfl)
theorem dX1_isSame_14 : decode cX1_isSame 14 = .ok (.iload_n 1, 1) := DX1_isSame (14, .iload_n 1, 1) (List.mem_of_getElem? (i := 8) rfl)
theorem dX1_isSame_15 : decode cX1_isSame 15 = .ok (.iload 5, 2) := DX1_isSame (15, .iload 5, 2) (List.mem_of_getElem? (i := 9) rfl)
theorem dX1_isSame_17 : decode cX1_isSame 17 = .ok (.iload_n 2, 1) := DX1_isSame (17, .iload_n 2, 1) (List.mem_of_getElem? (i := 10) rfl)
theorem dX1_isSame_18 : decode cX1_isSame 18 = .ok (.iadd, 1) := DX1_isSame (18, .iadd, 1) (List.mem_of_getElem? (i := 11) rfl)
theorem dX1_isSame_19 : decode cX1_isSame 19 = .ok (.invokevirtual 62, 3) := DX1_isSame (19, .invokevirtual 62, 3) (List.mem_of_getElem? (i := 12) rfl)
theorem dX1_isSame_22 : decode cX1_isSame 22 = .ok (.aload_n 0, 1) := DX1_isSame (22, .aload_n 0, 1) (List.mem_of_getElem? (i := 13) rfl)
theorem dX1_isSame_23 : decode cX1_isSame 23 = .ok (.iload_n 3, 1) := DX1_isSame (23, .iload_n 3, 1) (List.mem_of_getElem? (i := 14) rfl)
theorem dX1_isSame_24 : decode cX1_isSame 24 = .ok (.iload 5, 2) := DX1_isSame (24, .iload 5, 2) (List.mem_of_getElem? (i := 15) rfl)
theorem dX1_isSame_26 : decode cX1_isSame 26 = .ok (.iload 4, 2) := DX1_isSame (26, .iload 4, 2) (List.mem_of_getElem? (i := 16) rfl)
theorem dX1_isSame_28 : decode cX1_isSame 28 = .ok (.iadd, 1) := DX1_isSame (28, .iadd, 1) (List.mem_of_getElem? (i := 17) rfl)
theorem dX1_isSame_29 : decode cX1_isSame 29 = .ok (.invokevirtual 62, 3) := DX1_isSame (29, .invokevirtual 62, 3) (List.mem_of_getElem? (i := 18) rfl)
theorem dX1_isSame_32 : decode cX1_isSame 32 = .ok (.invokevirtual 58, 3) := DX1_isSame (32, .invokevirtual 58, 3) (List.mem_of_getElem? (i := 19) rfl)
theorem dX1_isSame_35 : decode cX1_isSame 35 = .ok (.ifCond .ne 5, 3) := DX1_isSame (35, .ifCond .ne 5, 3) (List.mem_of_getElem? (i := 20) rfl)
theorem dX1_isSame_38 : decode cX1_isSame 38 = .ok (.iconst 0, 1) := DX1_isSame (38, .iconst 0, 1) (List.mem_of_getElem? (i := 21) rfl)
theorem dX1_isSame_39 : decode cX1_isSame 39 = .ok (.ireturn, 1) := DX1_isSame (39, .ireturn, 1) (List.mem_of_getElem? (i := 22) rfl)
theorem dX1_isSame_40 : decode cX1_isSame 40 = .ok (.iinc 5 1, 3) := DX1_isSame (40, .iinc 5 1, 3) (List.mem_of_getElem? (i := 23) rfl)
theorem dX1_isSame_43 : decode cX1_isSame 43 = .ok (.goto (-40), 3) := DX1_isSame (43, .goto (-40), 3) (List.mem_of_getElem? (i := 24) rfl)
theorem dX1_isSame_46 : decode cX1_isSame 46 = .ok (.iconst 1, 1) := DX1_isSame (46, .iconst 1, 1) (List.mem_of_getElem? (i := 25) rfl)
theorem dX1_isSame_47 : decode cX1_isSame 47 = .ok (.ireturn, 1) := DX1_isSame (47, .ireturn, 1) (List.mem_of_getElem? (i := 26) rfl)
noncomputable def fX1_isSame_B3 (l1 : Int32) (l2 : Int32) (l3 : Int32) (l4 : Int32) (l5 : Int32) (σ : Mem) : Option ((Int32 × Mem) ⊕ ((Mem) ⊕ (Int32 × Mem))) :=
  if 3 < l5 then
    some (.inr (.inl σ))
  else
    (fX1_polyBehind l1 (l5 + l2) σ).bind fun o1 =>
    (fX1_polyBehind l3 (l5 + l4) o1.2).bind fun o2 =>
    (fX5_isSame o1.1 o2.1 o2.2).bind fun o3 =>
    if o3.1 = 0 then
      some (.inr (.inr (0, o3.2)))
    else
      some (.inl (l5 + 1, o3.2))
set_option maxHeartbeats 4000000 in
set_option maxRecDepth 100000 in
theorem tX1_isSame_B3 {E : Gx} {cI : ClassId} {ad : Nat → Nat} (C : Cx E rmX1_isSame cI layX ad 6 RX1 cX1_isSame) {out : Int32 × Mem} (K0 : KI E rmX1_isSame cI layX ad 6 cX1_isSame .boolean out) {l1 : Int32} {l2 : Int32} {l3 : Int32} {l4 : Int32} {l5 : Int32} {σ : Mem} {res : (Int32 × Mem) ⊕ ((Mem) ⊕ (Int32 × Mem))} (h : fX1_isSame_B3 l1 l2 l3 l4 l5 σ = some res) (K : Sum.elim (fun a => G E rmX1_isSame cI layX ad 6 3 [(0, .ref (ad 1)), (1, .int l1), (2, .int l2), (3, .int l3), (4, .int l4), (5, .int a.1)] [] a.2) (Sum.elim (fun b => G E rmX1_isSame cI layX ad 6 46 [] [] b) (fun b => b = out)) res) : G E rmX1_isSame cI layX ad 6 3 [(0, .ref (ad 1)), (1, .int l1), (2, .int l2), (3, .int l3), (4, .int l4), (5, .int l5)] [] σ := by
  unfold fX1_isSame_B3 at h
  refine g_iload 5 C dX1_isSame_3 (j := 5) rfl rfl ?_
  refine g_iconst 6 (v := 3) C dX1_isSame_5 (by decide) rfl ?_
  refine g_icmp_gt 46 9 C dX1_isSame_6 (by decide) rfl h (fun h => ?_) (fun h => ?_)
  · have hh := end_alt0_2 h K
    exact g_sub [] (hh) rfl
  · refine g_aload_n 10 C dX1_isSame_9 rfl (j := 0) rfl rfl ?_
    refine g_getr 13 (j := 0) C rfl rfl wu_X1 (by decide) wf_X1_15 rfl dX1_isSame_10 rfl ?_
    refine g_aload_n 14 C dX1_isSame_13 rfl (j := 0) rfl rfl ?_
    refine g_iload_n 15 C dX1_isSame_14 rfl (j := 1) rfl rfl ?_
    refine g_iload 17 C dX1_isSame_15 (j := 5) rfl rfl ?_
    refine g_iload_n 18 C dX1_isSame_17 rfl (j := 2) rfl rfl ?_
    refine g_iadd 19 C dX1_isSame_18 rfl ?_
    refine g_cvi 22 C (As := [.int l1, .int (l5 + l2)]) (fun _ h => mX1_polyBehind (a1 := l1) (a2 := l5 + l2) (σ := σ) h) wl_X1_62 wi_X1_polyBehind wz_X1_polyBehind wc_X1_polyBehind wn_X1 qX1_polyBehind rfl rfl ⟨Nat.le_of_ble_eq_true rfl, Nat.le_of_ble_eq_true rfl⟩ rfl rfl rfl rfl (Nat.le_of_ble_eq_true rfl) dX1_isSame_19 rfl h (fun o1 h => ?_)
    refine g_aload_n 23 C dX1_isSame_22 rfl (j := 0) rfl rfl ?_
    refine g_iload_n 24 C dX1_isSame_23 rfl (j := 3) rfl rfl ?_
    refine g_iload 26 C dX1_isSame_24 (j := 5) rfl rfl ?_
    refine g_iload 28 C dX1_isSame_26 (j := 4) rfl rfl ?_
    refine g_iadd 29 C dX1_isSame_28 rfl ?_
    refine g_cvi 32 C (As := [.int l3, .int (l5 + l4)]) (fun _ h => mX1_polyBehind (a1 := l3) (a2 := l5 + l4) (σ := o1.2) h) wl_X1_62 wi_X1_polyBehind wz_X1_polyBehind wc_X1_polyBehind wn_X1 qX1_polyBehind rfl rfl ⟨Nat.le_of_ble_eq_true rfl, Nat.le_of_ble_eq_true rfl⟩ rfl rfl rfl rfl (Nat.le_of_ble_eq_true rfl) dX1_isSame_29 rfl h (fun o2 h => ?_)
    refine g_cni 35 C (As := [.int o1.1, .int o2.1]) (fun _ h => mX5_isSame (a1 := o1.1) (a2 := o2.1) (σ := o2.2) h) (List.mem_of_getElem? (i := 25) rfl) wi_X5_isSame wz_X5_isSame wc_X5_isSame wn_X5 qX5_isSame rfl rfl ⟨Nat.le_of_ble_eq_true rfl, Nat.le_of_ble_eq_true rfl⟩ rfl rfl rfl rfl (Nat.le_of_ble_eq_true rfl) dX1_isSame_32 rfl h (fun o3 h => ?_)
    refine g_if_ne 40 38 C dX1_isSame_35 (by decide) rfl h (fun h => ?_) (fun h => ?_)
    · refine g_iconst 39 (v := 0) C dX1_isSame_38 (by decide) rfl ?_
      have ho := end_alt1_2 h K
      replace ho : (0, o3.2) = out := ho
      subst ho
      exact K0 _ _ dX1_isSame_39 (zb_nar (x := 0) (by decide))
    · refine g_iinc 43 [(5, .int (l5 + 1)), (0, .ref (ad 1)), (1, .int l1), (2, .int l2), (3, .int l3), (4, .int l4)] C dX1_isSame_40 (j := 5) rfl (by rfl) (by decide) rfl rfl ?_
      refine g_goto 3 C dX1_isSame_43 (by decide) ?_
      have hh := end_inl h K
      exact g_sub [1, 2, 3, 4, 5, 0] (hh) rfl
noncomputable def fX1_isSame_L46 (σ : Mem) : Option (Int32 × Mem) :=
  some (1, σ)
set_option maxHeartbeats 4000000 in
set_option maxRecDepth 100000 in
theorem tX1_isSame_L46 {E : Gx} {cI : ClassId} {ad : Nat → Nat} (C : Cx E rmX1_isSame cI layX ad 6 RX1 cX1_isSame) {out : Int32 × Mem} (K0 : KI E rmX1_isSame cI layX ad 6 cX1_isSame .boolean out) {σ : Mem} (h : fX1_isSame_L46 σ = some out) : G E rmX1_isSame cI layX ad 6 46 [] [] σ := by
  unfold fX1_isSame_L46 at h
  refine g_iconst 47 (v := 1) C dX1_isSame_46 (by decide) rfl ?_
  cases h
  exact K0 _ _ dX1_isSame_47 (zb_nar (x := 1) (by decide))
noncomputable def fX1_isSame (a1 : Int32) (a2 : Int32) (a3 : Int32) (a4 : Int32) (σ : Mem) : Option (Int32 × Mem) :=
  (loop (fun a => fX1_isSame_B3 a1 a2 a3 a4 a.1 a.2) (0, σ)).bind (Sum.elim (fun b4x0 => fX1_isSame_L46 b4x0) (fun b4r => some b4r))
set_option maxHeartbeats 4000000 in
set_option maxRecDepth 100000 in
theorem mX1_isSame {l : Launch} {D : va_G} {cI : ClassId} {ad : Nat → Nat} {a1 : Int32} {a2 : Int32} {a3 : Int32} {a4 : Int32} {σ : Mem} {out : Int32 × Mem} (h : fX1_isSame a1 a2 a3 a4 σ = some out) : MI l D cI layX ad yX1_isSame cX1_isSame 6 .boolean rmX1_isSame [.ref (ad 1), .int a1, .int a2, .int a3, .int a4] σ out := by
  refine met_i (by decide) (Nat.le_of_ble_eq_true rfl) (fun E C K0 => ?_)
  show G E rmX1_isSame cI layX ad 6 0 [(0, .ref (ad 1)), (1, .int a1), (2, .int a2), (3, .int a3), (4, .int a4)] [] σ
  unfold fX1_isSame at h
  refine g_iconst 1 (v := 0) C dX1_isSame_0 (by decide) rfl ?_
  refine g_istore 3 [(5, .int 0), (0, .ref (ad 1)), (1, .int a1), (2, .int a2), (3, .int a3), (4, .int a4)] C dX1_isSame_1 (by decide) rfl rfl ?_
  obtain ⟨b4, hb, h⟩ := bind_some h
  refine g_sub [1, 2, 3, 4, 5, 0] (g_loop (a := (0, σ)) (fun a => G E rmX1_isSame cI layX ad 6 3 [(0, .ref (ad 1)), (1, .int a1), (2, .int a2), (3, .int a3), (4, .int a4), (5, .int a.1)] [] a.2) (Sum.elim (fun b => G E rmX1_isSame cI layX ad 6 46 [] [] b) (fun b => b = out)) hb (fun a res h K => tX1_isSame_B3 (l1 := a1) (l2 := a2) (l3 := a3) (l4 := a4) (l5 := a.1) (σ := a.2) (res := res) C K0 h K) ?_) rfl
  rcases b4 with b4x0 | b4r
  · show G E rmX1_isSame cI layX ad 6 46 [] [] b4x0
    exact tX1_isSame_L46 (σ := b4x0) C K0 h
  · exact end_top h

/-! LoopReducer$Forms.worth(II)I -/
abbrev rmX1_worth : Room := { frames := 2, cells := 0, slots := 0, locals := 48 }
theorem qX1_worth : yX1_worth.cls ≠ "java/lang/invoke/MethodHandle" ∧ yX1_worth.cls ≠ "java/lang/invoke/VarHandle" ∧ (parseMethodDescriptor yX1_worth.desc).map (fun d => d.parameters.length) = some 2 := by decide +kernel
theorem DX1_worth : ∀ q ∈ ([(0, .aload_n 0, 1), (1, .getfield 15, 3), (4, .aload_n 0, 1), (5, .iload_n 1, 1), (6, .iload_n 2, 1), (7, .invokevirtual 62, 3), (10, .invokevirtual 65, 3), (13, .ireturn, 1)] : List (Nat × Instr × Nat)), decode cX1_worth q.1 = .ok q.2 := by decide +kernel
theorem dX1_worth_0 : decode cX1_worth 0 = .ok (.aload_n 0, 1) := DX1_worth (0, .aload_n 0, 1) (List.mem_of_getElem? (i := 0) rfl)
theorem dX1_worth_1 : decode cX1_worth 1 = .ok (.getfield 15, 3) := DX1_worth (1, .getfield 15, 3) (List.mem_of_getElem? (i := 1) rfl)
theorem dX1_worth_4 : decode cX1_worth 4 = .ok (.aload_n 0, 1) := DX1_worth (4, .aload_n 0, 1) (List.mem_of_getElem? (i := 2) rfl)
theorem dX1_worth_5 : decode cX1_worth 5 = .ok (.iload_n 1, 1) := DX1_worth (5, .iload_n 1, 1) (List.mem_of_getElem? (i := 3) rfl)
theorem dX1_worth_6 : decode cX1_worth 6 = .ok (.iload_n 2, 1) := DX1_worth (6, .iload_n 2, 1) (List.mem_of_getElem? (i := 4) rfl)
theorem dX1_worth_7 : decode cX1_worth 7 = .ok (.invokevirtual 62, 3) := DX1_worth (7, .invokevirtual 62, 3) (List.mem_of_getElem? (i := 5) rfl)
theorem dX1_worth_10 : decode cX1_worth 10 = .ok (.invokevirtual 65, 3) := DX1_worth (10, .invokevirtual 65, 3) (List.mem_of_getElem? (i := 6) rfl)
theorem dX1_worth_13 : decode cX1_worth 13 = .ok (.ireturn, 1) := DX1_worth (13, .ireturn, 1) (List.mem_of_getElem? (i := 7) rfl)
noncomputable def fX1_worth (a1 : Int32) (a2 : Int32) (σ : Mem) : Option (Int32 × Mem) :=
  (fX1_polyBehind a1 a2 σ).bind fun o1 =>
  (fX5_worth o1.1 o1.2).bind fun o2 =>
  some (o2.1, o2.2)
set_option maxHeartbeats 4000000 in
set_option maxRecDepth 100000 in
theorem mX1_worth {l : Launch} {D : va_G} {cI : ClassId} {ad : Nat → Nat} {a1 : Int32} {a2 : Int32} {σ : Mem} {out : Int32 × Mem} (h : fX1_worth a1 a2 σ = some out) : MI l D cI layX ad yX1_worth cX1_worth 3 .int rmX1_worth [.ref (ad 1), .int a1, .int a2] σ out := by
  refine met_i (by decide) (Nat.le_of_ble_eq_true rfl) (fun E C K0 => ?_)
  show G E rmX1_worth cI layX ad 3 0 [(0, .ref (ad 1)), (1, .int a1), (2, .int a2)] [] σ
  unfold fX1_worth at h
  refine g_aload_n 1 C dX1_worth_0 rfl (j := 0) rfl rfl ?_
  refine g_getr 4 (j := 0) C rfl rfl wu_X1 (by decide) wf_X1_15 rfl dX1_worth_1 rfl ?_
  refine g_aload_n 5 C dX1_worth_4 rfl (j := 0) rfl rfl ?_
  refine g_iload_n 6 C dX1_worth_5 rfl (j := 1) rfl rfl ?_
  refine g_iload_n 7 C dX1_worth_6 rfl (j := 2) rfl rfl ?_
  refine g_cvi 10 C (As := [.int a1, .int a2]) (fun _ h => mX1_polyBehind (a1 := a1) (a2 := a2) (σ := σ) h) wl_X1_62 wi_X1_polyBehind wz_X1_polyBehind wc_X1_polyBehind wn_X1 qX1_polyBehind rfl rfl ⟨Nat.le_of_ble_eq_true rfl, Nat.le_of_ble_eq_true rfl⟩ rfl rfl rfl rfl (Nat.le_of_ble_eq_true rfl) dX1_worth_7 rfl h (fun o1 h => ?_)
  refine g_cni 13 C (As := [.int o1.1]) (fun _ h => mX5_worth (a1 := o1.1) (σ := o1.2) h) (List.mem_of_getElem? (i := 46) rfl) wi_X5_worth wz_X5_worth wc_X5_worth wn_X5 qX5_worth rfl rfl ⟨Nat.le_of_ble_eq_true rfl, Nat.le_of_ble_eq_true rfl⟩ rfl rfl rfl rfl (Nat.le_of_ble_eq_true rfl) dX1_worth_10 rfl h (fun o2 h => ?_)
  cases h
  exact K0 _ _ dX1_worth_13 rfl

/-! LoopReducer$Forms.tell(II)I -/
abbrev rmX1_tell : Room := { frames := 3, cells := 0, slots := 0, locals := 70 }
theorem qX1_tell : yX1_tell.cls ≠ "java/lang/invoke/MethodHandle" ∧ yX1_tell.cls ≠ "java/lang/invoke/VarHandle" ∧ (parseMethodDescriptor yX1_tell.desc).map (fun d => d.parameters.length) = some 2 := by decide +kernel
theorem DX1_tell : ∀ q ∈ ([(0, .iload_n 2, 1), (1, .i2l, 1), (2, .lstore_n 3, 1), (3, .aload_n 0, 1), (4, .iload_n 1, 1), (5, .iconst 0, 1), (6, .invokevirtual 68, 3), (9, .i2l, 1), (10, .lload_n 3, 1), (11, .aload_n 0, 1), (12, .iload_n 1, 1), (13, .iconst 1, 1), (14, .invokevirtual 68, 3), (17, .i2l, 1), (18, .lmul, 1), (19, .ladd, 1), (20, .lstore 5, 2), (22, .lload 5, 2), (24, .lload_n 3, 1), (25, .lload_n 3, 1), (26, .lconst 1, 1), (27, .lsub, 1), (28, .lmul, 1), (29, .ldc2_w 70, 3), (32, .ldiv, 1), (33, .aload_n 0, 1), (34, .getfield 19, 3), (37, .i2l, 1), (38, .land, 1), (39, .aload_n 0, 1), (40, .iload_n 1, 1), (41, .iconst 2, 1), (42, .invokevirtual 68, 3), (45, .i2l, 1), (46, .lmul, 1), (47, .ladd, 1), (48, .lstore 5, 2), (50, .lload 5, 2), (52, .lload_n 3, 1), (53, .lload_n 3, 1), (54, .lconst 1, 1), (55, .lsub, 1), (56, .lmul, 1), (57, .lload_n 3, 1), (58, .ldc2_w 70, 3), (61, .lsub, 1), (62, .lmul, 1), (63, .ldc2_w 72, 3), (66, .ldiv, 1), (67, .aload_n 0, 1), (68, .getfield 19, 3), (71, .i2l, 1), (72, .land, 1), (73, .aload_n 0, 1), (74, .iload_n 1, 1), (75, .iconst 3, 1), (76, .invokevirtual 68, 3), (79, .i2l, 1), (80, .lmul, 1), (81, .ladd, 1), (82, .lstore 5, 2), (84, .lload 5, 2), (86, .aload_n 0, 1), (87, .getfield 19, 3), (90, .i2l, 1), (91, .land, 1), (92, .l2i, 1), (93, .ireturn, 1)] : List (Nat × Instr × Nat)), decode cX1_tell q.1 = .ok q.2 := by decide +kernel
theorem dX1_tell_0 : decode cX1_tell 0 = .ok (.iload_n 2, 1) := DX1_tell (0, .iload_n 2, 1) (List.mem_of_getElem? (i := 0) rfl)
theorem dX1_tell_1 : decode cX1_tell 1 = .ok (.i2l, 1) := DX1_tell (1, .i2l, 1) (List.mem_of_getElem? (i := 1) rfl)
theorem dX1_tell_2 : decode cX1_tell 2 = .ok (.lstore_n 3, 1) := DX1_tell (2, .lstore_n 3, 1) (List.mem_of_getElem? (i := 2) rfl)
theorem dX1_tell_3 : decode cX1_tell 3 = .ok (.aload_n 0, 1) := DX1_tell (3, .aload_n 0, 1) (List.mem_of_getElem? (i := 3) rfl)
theorem dX1_tell_4 : decode cX1_tell 4 = .ok (.iload_n 1, 1) := DX1_tell (4, .iload_n 1, 1) (List.mem_of_getElem? (i := 4) rfl)
theorem dX1_tell_5 : decode cX1_tell 5 = .ok (.iconst 0, 1) := DX1_tell (5, .iconst 0, 1) (List.mem_of_getElem? (i := 5) rfl)
theorem dX1_tell_6 : decode cX1_tell 6 = .ok (.invokevirtual 68, 3) := DX1_tell (6, .invokevirtual 68, 3) (List.mem_of_getElem? (i := 6) rfl)
theorem dX1_tell_9 : decode cX1_tell 9 = .ok (.i2l, 1) := DX1_tell (9, .i2l, 1) (List.mem_of_getElem? (i := 7) rfl)
theorem dX1_tell_10 : decode cX1_tell 10 = .ok (.lload_n 3, 1) := DX1_tell (10, .lload_n 3, 1) (List.mem_of_getElem? (i := 8) rfl)
theorem dX1_tell_11 : decode cX1_tell 11 = .ok (.aload_n 0, 1) := DX1_tell (11, .aload_n 0, 1) (List.mem_of_getElem? (i := 9) rfl)
theorem dX1_tell_12 : decode cX1_tell 12 = .ok (.iload_n 1, 1) := DX1_tell (12, .iload_n 1, 1) (List.mem_of_getElem? (i := 10) rfl)
theorem dX1_tell_13 : decode cX1_tell 13 = .ok (.iconst 1, 1) := DX1_tell (13, .iconst 1, 1) (List.mem_of_getElem? (i := 11) rfl)
theorem dX1_tell_14 : decode cX1_tell 14 = .ok (.invokevirtual 68, 3) := DX1_tell (14, .invokevirtual 68, 3) (List.mem_of_getElem? (i := 12) rfl)
theorem dX1_tell_17 : decode cX1_tell 17 = .ok (.i2l, 1) := DX1_tell (17, .i2l, 1) (List.mem_of_getElem? (i := 13) rfl)
theorem dX1_tell_18 : decode cX1_tell 18 = .ok (.lmul, 1) := DX1_tell (18, .lmul, 1) (List.mem_of_getElem? (i := 14) rfl)
theorem dX1_tell_19 : decode cX1_tell 19 = .ok (.ladd, 1) := DX1_tell (19, .ladd, 1) (List.mem_of_getElem? (i := 15) rfl)
theorem dX1_tell_20 : decode cX1_tell 20 = .ok (.lstore 5, 2) := DX1_tell (20, .lstore 5, 2) (List.mem_of_getElem? (i := 16) rfl)
theorem dX1_tell_22 : decode cX1_tell 22 = .ok (.lload 5, 2) := DX1_tell (22, .lload 5, 2) (List.mem_of_getElem? (i := 17) rfl)
theorem dX1_tell_24 : decode cX1_tell 24 = .ok (.lload_n 3, 1) := DX1_tell (24, .lload_n 3, 1) (List.mem_of_getElem? (i := 18) rfl)
theorem dX1_tell_25 : decode cX1_tell 25 = .ok (.lload_n 3, 1) := DX1_tell (25, .lload_n 3, 1) (List.mem_of_getElem? (i := 19) rfl)
theorem dX1_tell_26 : decode cX1_tell 26 = .ok (.lconst 1, 1) := DX1_tell (26, .lconst 1, 1) (List.mem_of_getElem? (i := 20) rfl)
theorem dX1_tell_27 : decode cX1_tell 27 = .ok (.lsub, 1) := DX1_tell (27, .lsub, 1) (List.mem_of_getElem? (i := 21) rfl)
theorem dX1_tell_28 : decode cX1_tell 28 = .ok (.lmul, 1) := DX1_tell (28, .lmul, 1) (List.mem_of_getElem? (i := 22) rfl)
theorem dX1_tell_29 : decode cX1_tell 29 = .ok (.ldc2_w 70, 3) := DX1_tell (29, .ldc2_w 70, 3) (List.mem_of_getElem? (i := 23) rfl)
theorem dX1_tell_32 : decode cX1_tell 32 = .ok (.ldiv, 1) := DX1_tell (32, .ldiv, 1) (List.mem_of_getElem? (i := 24) rfl)
theorem dX1_tell_33 : decode cX1_tell 33 = .ok (.aload_n 0, 1) := DX1_tell (33, .aload_n 0, 1) (List.mem_of_getElem? (i := 25) rfl)
theorem dX1_tell_34 : decode cX1_tell 34 = .ok (.getfield 19, 3) := DX1_tell (34, .getfield 19, 3) (List.mem_of_getElem? (i := 26) rfl)
theorem dX1_tell_37 : decode cX1_tell 37 = .ok (.i2l, 1) := DX1_tell (37, .i2l, 1) (List.mem_of_getElem? (i := 27) rfl)
theorem dX1_tell_38 : decode cX1_tell 38 = .ok (.land, 1) := DX1_tell (38, .land, 1) (List.mem_of_getElem? (i := 28) rfl)
theorem dX1_tell_39 : decode cX1_tell 39 = .ok (.aload_n 0, 1) := DX1_tell (39, .aload_n 0, 1) (List.mem_of_getElem? (i := 29) rfl)
theorem dX1_tell_40 : decode cX1_tell 40 = .ok (.iload_n 1, 1) := DX1_tell (40, .iload_n 1, 1) (List.mem_of_getElem? (i := 30) rfl)
theorem dX1_tell_41 : decode cX1_tell 41 = .ok (.iconst 2, 1) := DX1_tell (41, .iconst 2, 1) (List.mem_of_getElem? (i := 31) rfl)
theorem dX1_tell_42 : decode cX1_tell 42 = .ok (.invokevirtual 68, 3) := DX1_tell (42, .invokevirtual 68, 3) (List.mem_of_getElem? (i := 32) rfl)
theorem dX1_tell_45 : decode cX1_tell 45 = .ok (.i2l, 1) := DX1_tell (45, .i2l, 1) (List.mem_of_getElem? (i := 33) rfl)
theorem dX1_tell_46 : decode cX1_tell 46 = .ok (.lmul, 1) := DX1_tell (46, .lmul, 1) (List.mem_of_getElem? (i := 34) rfl)
theorem dX1_tell_47 : decode cX1_tell 47 = .ok (.ladd, 1) := DX1_tell (47, .ladd, 1) (List.mem_of_getElem? (i := 35) rfl)
theorem dX1_tell_48 : decode cX1_tell 48 = .ok (.lstore 5, 2) := DX1_tell (48, .lstore 5, 2) (List.mem_of_getElem? (i := 36) rfl)
theorem dX1_tell_50 : decode cX1_tell 50 = .ok (.lload 5, 2) := DX1_tell (50, .lload 5, 2) (List.mem_of_getElem? (i := 37) rfl)
theorem dX1_tell_52 : decode cX1_tell 52 = .ok (.lload_n 3, 1) := DX1_tell (52, .lload_n 3, 1) (List.mem_of_getElem? (i := 38) rfl)
theorem dX1_tell_53 : decode cX1_tell 53 = .ok (.lload_n 3, 1) := DX1_tell (53, .lload_n 3, 1) (List.mem_of_getElem? (i := 39) rfl)
theorem dX1_tell_54 : decode cX1_tell 54 = .ok (.lconst 1, 1) := DX1_tell (54, .lconst 1, 1) (List.mem_of_getElem? (i := 40) rfl)
theorem dX1_tell_55 : decode cX1_tell 55 = .ok (.lsub, 1) := DX1_tell (55, .lsub, 1) (List.mem_of_getElem? (i := 41) rfl)
theorem dX1_tell_56 : decode cX1_tell 56 = .ok (.lmul, 1) := DX1_tell (56, .lmul, 1) (List.mem_of_getElem? (i := 42) rfl)
theorem dX1_tell_57 : decode cX1_tell 57 = .ok (.lload_n 3, 1) := DX1_tell (57, .lload_n 3, 1) (List.mem_of_getElem? (i := 43) rfl)
theorem dX1_tell_58 : decode cX1_tell 58 = .ok (.ldc2_w 70, 3) := DX1_tell (58, .ldc2_w 70, 3) (List.mem_of_getElem? (i := 44) rfl)
theorem dX1_tell_61 : decode cX1_tell 61 = .ok (.lsub, 1) := DX1_tell (61, .lsub, 1) (List.mem_of_getElem? (i := 45) rfl)
theorem dX1_tell_62 : decode cX1_tell 62 = .ok (.lmul, 1) := DX1_tell (62, .lmul, 1) (List.mem_of_getElem? (i := 46) rfl)
theorem dX1_tell_63 : decode cX1_tell 63 = .ok (.ldc2_w 72, 3) := DX1_tell (63, .ldc2_w 72, 3) (List.mem_of_getElem? (i := 47) rfl)
theorem dX1_tell_66 : decode cX1_tell 66 = .ok (.ldiv, 1) := DX1_tell (66, .ldiv, 1) (List.mem_of_getElem? (i := 48) rfl)
theorem dX1_tell_67 : decode cX1_tell 67 = .ok (.aload_n 0, 1) := DX1_tell (67, .aload_n 0, 1) (List.mem_of_getElem? (i := 49) rfl)
theorem dX1_tell_68 : decode cX1_tell 68 = .ok (.getfield 19, 3) := DX1_tell (68, .getfield 19, 3) (List.mem_of_getElem? (i := 50) rfl)
theorem dX1_tell_71 : decode cX1_tell 71 = .ok (.i2l, 1) := DX1_tell (71, .i2l, 1) (List.mem_of_getElem? (i := 51) rfl)
theorem dX1_tell_72 : decode cX1_tell 72 = .ok (.land, 1) := DX1_tell (72, .land, 1) (List.mem_of_getElem? (i := 52) rfl)
theorem dX1_tell_73 : decode cX1_tell 73 = .ok (.aload_n 0, 1) := DX1_tell (73, .aload_n 0, 1) (List.mem_of_getElem? (i := 53) rfl)
theorem dX1_tell_74 : decode cX1_tell 74 = .ok (.iload_n 1, 1) := DX1_tell (74, .iload_n 1, 1) (List.mem_of_getElem? (i := 54) rfl)
theorem dX1_tell_75 : decode cX1_tell 75 = .ok (.iconst 3, 1) := DX1_tell (75, .iconst 3, 1) (List.mem_of_getElem? (i := 55) rfl)
theorem dX1_tell_76 : decode cX1_tell 76 = .ok (.invokevirtual 68, 3) := DX1_tell (76, .invokevirtual 68, 3) (List.mem_of_getElem? (i := 56) rfl)
theorem dX1_tell_79 : decode cX1_tell 79 = .ok (.i2l, 1) := DX1_tell (79, .i2l, 1) (List.mem_of_getElem? (i := 57) rfl)
theorem dX1_tell_80 : decode cX1_tell 80 = .ok (.lmul, 1) := DX1_tell (80, .lmul, 1) (List.mem_of_getElem? (i := 58) rfl)
theorem dX1_tell_81 : decode cX1_tell 81 = .ok (.ladd, 1) := DX1_tell (81, .ladd, 1) (List.mem_of_getElem? (i := 59) rfl)
theorem dX1_tell_82 : decode cX1_tell 82 = .ok (.lstore 5, 2) := DX1_tell (82, .lstore 5, 2) (List.mem_of_getElem? (i := 60) rfl)
theorem dX1_tell_84 : decode cX1_tell 84 = .ok (.lload 5, 2) := DX1_tell (84, .lload 5, 2) (List.mem_of_getElem? (i := 61) rfl)
theorem dX1_tell_86 : decode cX1_tell 86 = .ok (.aload_n 0, 1) := DX1_tell (86, .aload_n 0, 1) (List.mem_of_getElem? (i := 62) rfl)
theorem dX1_tell_87 : decode cX1_tell 87 = .ok (.getfield 19, 3) := DX1_tell (87, .getfield 19, 3) (List.mem_of_getElem? (i := 63) rfl)
theorem dX1_tell_90 : decode cX1_tell 90 = .ok (.i2l, 1) := DX1_tell (90, .i2l, 1) (List.mem_of_getElem? (i := 64) rfl)
theorem dX1_tell_91 : decode cX1_tell 91 = .ok (.land, 1) := DX1_tell (91, .land, 1) (List.mem_of_getElem? (i := 65) rfl)
theorem dX1_tell_92 : decode cX1_tell 92 = .ok (.l2i, 1) := DX1_tell (92, .l2i, 1) (List.mem_of_getElem? (i := 66) rfl)
theorem dX1_tell_93 : decode cX1_tell 93 = .ok (.ireturn, 1) := DX1_tell (93, .ireturn, 1) (List.mem_of_getElem? (i := 67) rfl)
noncomputable def fX1_tell (a1 : Int32) (a2 : Int32) (σ : Mem) : Option (Int32 × Mem) :=
  (fX1_worth a1 0 σ).bind fun o1 =>
  (fX1_worth a1 1 o1.2).bind fun o2 =>
  (fX1_worth a1 2 o2.2).bind fun o3 =>
  (fX1_worth a1 3 o3.2).bind fun o4 =>
  some (((((((o1.1).toInt64) + (a2.toInt64 * ((o2.1).toInt64))) + ((((a2.toInt64 * (a2.toInt64 - 1)) / 2) &&& ((o2.2 1 1).toInt64)) * ((o3.1).toInt64))) + (((((a2.toInt64 * (a2.toInt64 - 1)) * (a2.toInt64 - 2)) / 6) &&& ((o3.2 1 1).toInt64)) * ((o4.1).toInt64))) &&& ((o4.2 1 1).toInt64)).toInt32, o4.2)
set_option maxHeartbeats 4000000 in
set_option maxRecDepth 100000 in
theorem mX1_tell {l : Launch} {D : va_G} {cI : ClassId} {ad : Nat → Nat} {a1 : Int32} {a2 : Int32} {σ : Mem} {out : Int32 × Mem} (h : fX1_tell a1 a2 σ = some out) : MI l D cI layX ad yX1_tell cX1_tell 7 .int rmX1_tell [.ref (ad 1), .int a1, .int a2] σ out := by
  refine met_i (by decide) (Nat.le_of_ble_eq_true rfl) (fun E C K0 => ?_)
  show G E rmX1_tell cI layX ad 7 0 [(0, .ref (ad 1)), (1, .int a1), (2, .int a2)] [] σ
  unfold fX1_tell at h
  refine g_iload_n 1 C dX1_tell_0 rfl (j := 2) rfl rfl ?_
  refine g_i2l 2 C dX1_tell_1 rfl ?_
  refine g_lstore_n 3 [(3, .long a2.toInt64), (0, .ref (ad 1)), (1, .int a1), (2, .int a2)] C dX1_tell_2 rfl (by decide) rfl rfl ?_
  refine g_aload_n 4 C dX1_tell_3 rfl (j := 1) rfl rfl ?_
  refine g_iload_n 5 C dX1_tell_4 rfl (j := 2) rfl rfl ?_
  refine g_iconst 6 (v := 0) C dX1_tell_5 (by decide) rfl ?_
  refine g_cvi 9 C (As := [.int a1, .int 0]) (fun _ h => mX1_worth (a1 := a1) (a2 := 0) (σ := σ) h) wl_X1_68 wi_X1_worth wz_X1_worth wc_X1_worth wn_X1 qX1_worth rfl rfl ⟨Nat.le_of_ble_eq_true rfl, Nat.le_of_ble_eq_true rfl⟩ rfl rfl rfl rfl (Nat.le_of_ble_eq_true rfl) dX1_tell_6 rfl h (fun o1 h => ?_)
  refine g_i2l 10 C dX1_tell_9 rfl ?_
  refine g_lload_n 11 C dX1_tell_10 rfl (j := 0) rfl rfl ?_
  refine g_aload_n 12 C dX1_tell_11 rfl (j := 1) rfl rfl ?_
  refine g_iload_n 13 C dX1_tell_12 rfl (j := 2) rfl rfl ?_
  refine g_iconst 14 (v := 1) C dX1_tell_13 (by decide) rfl ?_
  refine g_cvi 17 C (As := [.int a1, .int 1]) (fun _ h => mX1_worth (a1 := a1) (a2 := 1) (σ := o1.2) h) wl_X1_68 wi_X1_worth wz_X1_worth wc_X1_worth wn_X1 qX1_worth rfl rfl ⟨Nat.le_of_ble_eq_true rfl, Nat.le_of_ble_eq_true rfl⟩ rfl rfl rfl rfl (Nat.le_of_ble_eq_true rfl) dX1_tell_14 rfl h (fun o2 h => ?_)
  refine g_i2l 18 C dX1_tell_17 rfl ?_
  refine g_lmul 19 C dX1_tell_18 rfl ?_
  refine g_ladd 20 C dX1_tell_19 rfl ?_
  refine g_lstore 22 [(5, .long (((o1.1).toInt64) + (a2.toInt64 * ((o2.1).toInt64)))), (3, .long a2.toInt64), (0, .ref (ad 1)), (1, .int a1), (2, .int a2)] C dX1_tell_20 (by decide) rfl rfl ?_
  refine g_lload 24 C dX1_tell_22 (j := 0) rfl rfl ?_
  refine g_lload_n 25 C dX1_tell_24 rfl (j := 1) rfl rfl ?_
  refine g_lload_n 26 C dX1_tell_25 rfl (j := 1) rfl rfl ?_
  refine g_lconst 27 (v := 1) C dX1_tell_26 (by decide) rfl ?_
  refine g_lsub 28 C dX1_tell_27 rfl ?_
  refine g_lmul 29 C dX1_tell_28 rfl ?_
  refine g_ldc2 32 (v := 2) C dX1_tell_29 wk_X1_70 rfl ?_
  refine g_ldiv 33 C dX1_tell_32 (by decide) rfl ?_
  refine g_aload_n 34 C dX1_tell_33 rfl (j := 2) rfl rfl ?_
  refine g_geti 37 (j := 1) C rfl rfl wu_X1 (by decide) wf_X1_19 rfl dX1_tell_34 rfl ?_
  refine g_i2l 38 C dX1_tell_37 rfl ?_
  refine g_land 39 C dX1_tell_38 rfl ?_
  refine g_aload_n 40 C dX1_tell_39 rfl (j := 2) rfl rfl ?_
  refine g_iload_n 41 C dX1_tell_40 rfl (j := 3) rfl rfl ?_
  refine g_iconst 42 (v := 2) C dX1_tell_41 (by decide) rfl ?_
  refine g_cvi 45 C (As := [.int a1, .int 2]) (fun _ h => mX1_worth (a1 := a1) (a2 := 2) (σ := o2.2) h) wl_X1_68 wi_X1_worth wz_X1_worth wc_X1_worth wn_X1 qX1_worth rfl rfl ⟨Nat.le_of_ble_eq_true rfl, Nat.le_of_ble_eq_true rfl⟩ rfl rfl rfl rfl (Nat.le_of_ble_eq_true rfl) dX1_tell_42 rfl h (fun o3 h => ?_)
  refine g_i2l 46 C dX1_tell_45 rfl ?_
  refine g_lmul 47 C dX1_tell_46 rfl ?_
  refine g_ladd 48 C dX1_tell_47 rfl ?_
  refine g_lstore 50 [(5, .long ((((o1.1).toInt64) + (a2.toInt64 * ((o2.1).toInt64))) + ((((a2.toInt64 * (a2.toInt64 - 1)) / 2) &&& ((o2.2 1 1).toInt64)) * ((o3.1).toInt64)))), (3, .long a2.toInt64), (0, .ref (ad 1)), (1, .int a1), (2, .int a2)] C dX1_tell_48 (by decide) rfl rfl ?_
  refine g_lload 52 C dX1_tell_50 (j := 0) rfl rfl ?_
  refine g_lload_n 53 C dX1_tell_52 rfl (j := 1) rfl rfl ?_
  refine g_lload_n 54 C dX1_tell_53 rfl (j := 1) rfl rfl ?_
  refine g_lconst 55 (v := 1) C dX1_tell_54 (by decide) rfl ?_
  refine g_lsub 56 C dX1_tell_55 rfl ?_
  refine g_lmul 57 C dX1_tell_56 rfl ?_
  refine g_lload_n 58 C dX1_tell_57 rfl (j := 1) rfl rfl ?_
  refine g_ldc2 61 (v := 2) C dX1_tell_58 wk_X1_70 rfl ?_
  refine g_lsub 62 C dX1_tell_61 rfl ?_
  refine g_lmul 63 C dX1_tell_62 rfl ?_
  refine g_ldc2 66 (v := 6) C dX1_tell_63 wk_X1_72 rfl ?_
  refine g_ldiv 67 C dX1_tell_66 (by decide) rfl ?_
  refine g_aload_n 68 C dX1_tell_67 rfl (j := 2) rfl rfl ?_
  refine g_geti 71 (j := 1) C rfl rfl wu_X1 (by decide) wf_X1_19 rfl dX1_tell_68 rfl ?_
  refine g_i2l 72 C dX1_tell_71 rfl ?_
  refine g_land 73 C dX1_tell_72 rfl ?_
  refine g_aload_n 74 C dX1_tell_73 rfl (j := 2) rfl rfl ?_
  refine g_iload_n 75 C dX1_tell_74 rfl (j := 3) rfl rfl ?_
  refine g_iconst 76 (v := 3) C dX1_tell_75 (by decide) rfl ?_
  refine g_cvi 79 C (As := [.int a1, .int 3]) (fun _ h => mX1_worth (a1 := a1) (a2 := 3) (σ := o3.2) h) wl_X1_68 wi_X1_worth wz_X1_worth wc_X1_worth wn_X1 qX1_worth rfl rfl ⟨Nat.le_of_ble_eq_true rfl, Nat.le_of_ble_eq_true rfl⟩ rfl rfl rfl rfl (Nat.le_of_ble_eq_true rfl) dX1_tell_76 rfl h (fun o4 h => ?_)
  refine g_i2l 80 C dX1_tell_79 rfl ?_
  refine g_lmul 81 C dX1_tell_80 rfl ?_
  refine g_ladd 82 C dX1_tell_81 rfl ?_
  refine g_lstore 84 [(5, .long (((((o1.1).toInt64) + (a2.toInt64 * ((o2.1).toInt64))) + ((((a2.toInt64 * (a2.toInt64 - 1)) / 2) &&& ((o2.2 1 1).toInt64)) * ((o3.1).toInt64))) + (((((a2.toInt64 * (a2.toInt64 - 1)) * (a2.toInt64 - 2)) / 6) &&& ((o3.2 1 1).toInt64)) * ((o4.1).toInt64)))), (3, .long a2.toInt64), (0, .ref (ad 1)), (1, .int a1), (2, .int a2)] C dX1_tell_82 (by decide) rfl rfl ?_
  refine g_lload 86 C dX1_tell_84 (j := 0) rfl rfl ?_
  refine g_aload_n 87 C dX1_tell_86 rfl (j := 2) rfl rfl ?_
  refine g_geti 90 (j := 1) C rfl rfl wu_X1 (by decide) wf_X1_19 rfl dX1_tell_87 rfl ?_
  refine g_i2l 91 C dX1_tell_90 rfl ?_
  refine g_land 92 C dX1_tell_91 rfl ?_
  refine g_l2i 93 C dX1_tell_92 rfl ?_
  cases h
  exact K0 _ _ dX1_tell_93 rfl

/-! LoopReducer$Forms.putProduct(III)Z -/
abbrev rmX1_putProduct : Room := { frames := 2, cells := 0, slots := 0, locals := 52 }
theorem qX1_putProduct : yX1_putProduct.cls ≠ "java/lang/invoke/MethodHandle" ∧ yX1_putProduct.cls ≠ "java/lang/invoke/VarHandle" ∧ (parseMethodDescriptor yX1_putProduct.desc).map (fun d => d.parameters.length) = some 3 := by decide +kernel
theorem DX1_putProduct : ∀ q ∈ ([(0, .aload_n 0, 1), (1, .iload_n 1, 1), (2, .invokevirtual 32, 3), (5, .aload_n 0, 1), (6, .iload_n 2, 1), (7, .invokevirtual 41, 3), (10, .istore 4, 2), (12, .aload_n 0, 1), (13, .iload_n 3, 1), (14, .invokevirtual 41, 3), (17, .istore 5, 2), (19, .iload 4, 2), (21, .iload 5, 2), (23, .iadd, 1), (24, .iconst 3, 1), (25, .if_icmp .le 5, 3), (28, .iconst 0, 1), (29, .ireturn, 1), (30, .iconst 0, 1), (31, .istore 6, 2), (33, .iload 6, 2), (35, .iload 4, 2), (37, .if_icmp .gt 135, 3), (40, .iconst 0, 1), (41, .istore 7, 2), (43, .iload 7, 2), (45, .iload 5, 2), (47, .if_icmp .gt 119, 3), (50, .iload 6, 2), (52, .iload 7, 2), (54, .invokestatic 45, 3), (57, .istore 8, 2), (59, .iload_n 1, 1), (60, .iconst 4, 1), (61, .imul, 1), (62, .iload 8, 2), (64, .iadd, 1), (65, .istore 9, 2), (67, .iload 6, 2), (69, .iload 7, 2), (71, .invokestatic 51, 3), (74, .ifCond .le 7, 3), (77, .iconst 1, 1), (78, .goto 4, 3), (81, .iconst 0, 1), (82, .istore 10, 2), (84, .aload_n 0, 1), (85, .getfield 15, 3), (88, .iload 9, 2), (90, .iload_n 2, 1), (91, .iconst 4, 1), (92, .imul, 1), (93, .iload 6, 2), (95, .iadd, 1), (96, .iload_n 3, 1), (97, .iconst 4, 1), (98, .imul, 1), (99, .iload 7, 2), (101, .iadd, 1), (102, .iload 10, 2), (104, .ifCond .eq 8, 3), (107, .iload 8, 2), (109, .goto 4, 3), (112, .iconst 1, 1), (113, .invokevirtual 54, 3), (116, .ifCond .ne 5, 3), (119, .iconst 0, 1), (120, .ireturn, 1), (121, .iload 10, 2), (123, .ifCond .eq 37, 3), (126, .iload 8, 2), (128, .iconst 3, 1), (129, .if_icmp .ge 31, 3), (132, .aload_n 0, 1), (133, .getfield 15, 3), (136, .iload 9, 2), (138, .iconst 1, 1), (139, .iadd, 1), (140, .iload_n 2, 1), (141, .iconst 4, 1), (142, .imul, 1), (143, .iload 6, 2), (145, .iadd, 1), (146, .iload_n 3, 1), (147, .iconst 4, 1), (148, .imul, 1), (149, .iload 7, 2), (151, .iadd, 1), (152, .iload 8, 2), (154, .iconst 1, 1), (155, .iadd, 1), (156, .invokevirtual 54, 3), (159, .pop, 1), (160, .iinc 7 1, 3), (163, .goto (-120), 3), (166, .iinc 6 1, 3), (169, .goto (-136), 3), (172, .iconst 1, 1), (173, .ireturn, 1)] : List (Nat × Instr × Nat)), decode cX1_putProduct q.1 = .ok q.2 := by decide +kernel
theorem dX1_putProduct_0 : decode cX1_putProduct 0 = .ok (.aload_n 0, 1) := DX1_putProduct (0, .aload_n 0, 1) (List.mem_of_getElem? (i := 0) rfl)
theorem dX1_putProduct_1 : decode cX1_putProduct 1 = .ok (.iload_n 1, 1) := DX1_putProduct (1, .iload_n 1, 1) (List.mem_of_getElem? (i := 1) rfl)
theorem dX1_putProduct_2 : decode cX1_putProduct 2 = .ok (.invokevirtual 32, 3) := DX1_putProduct (2, .invokevirtual 32, 3) (List.mem_of_getElem? (i := 2) rfl)
theorem dX1_putProduct_5 : decode cX1_putProduct 5 = .ok (.aload_n 0, 1) := DX1_putProduct (5, .aload_n 0, 1) (List.mem_of_getElem? (i := 3) rfl)
theorem dX1_putProduct_6 : decode cX1_putProduct 6 = .ok (.iload_n 2, 1) := DX1_putProduct (6, .iload_n 2, 1) (List.mem_of_getElem? (i := 4) rfl)
theorem dX1_putProduct_7 : decode cX1_putProduct 7 = .ok (.invokevirtual 41, 3) := DX1_putProduct (7, .invokevirtual 41, 3) (List.mem_of_getElem? (i := 5) rfl)
theorem dX1_putProduct_10 : decode cX1_putProduct 10 = .ok (.istore 4, 2) := DX1_putProduct (10, .istore 4, 2) (List.mem_of_getElem? (i := 6) rfl)
theorem dX1_putProduct_12 : decode cX1_putProduct 12 = .ok (.aload_n 0, 1) := DX1_putProduct (12, .aload_n 0, 1) (List.mem_of_getElem? (i := 7) rfl)
theorem dX1_putProduct_13 : decode cX1_putProduct 13 = .ok (.iload_n 3, 1) := DX1_putProduct (13, .iload_n 3, 1) (List.mem_of_getElem? (i := 8) rfl)
theorem dX1_putProduct_14 : decode cX1_putProduct 14 = .ok (.invokevirtual 41, 3) := DX1_putProduct (14, .invokevirtual 41, 3) (List.mem_of_getElem? (i := 9) rfl)
theorem dX1_putProduct_17 : decode cX1_putProduct 17 = .ok (.istore 5, 2) := DX1_putProduct (17, .istore 5, 2) (List.mem_of_getElem? (i := 10) rfl)
theorem dX1_putProduct_19 : decode cX1_putProduct 19 = .ok (.iload 4, 2) := DX1_putProduct (19, .iload 4, 2) (List.mem_of_getElem? (i := 11) rfl)
theorem dX1_putProduct_21 : decode cX1_putProduct 21 = .ok (.iload 5, 2) := DX1_putProduct (21, .iload 5, 2) (List.mem_of_getElem? (i := 12) rfl)
theorem dX1_putProduct_23 : decode cX1_putProduct 23 = .ok (.iadd, 1) := DX1_putProduct (23, .iadd, 1) (List.mem_of_getElem? (i := 13) rfl)
theorem dX1_putProduct_24 : decode cX1_putProduct 24 = .ok (.iconst 3, 1) := DX1_putProduct (24, .iconst 3, 1) (List.mem_of_getElem? (i := 14) rfl)
theorem dX1_putProduct_25 : decode cX1_putProduct 25 = .ok (.if_icmp .le 5, 3) := DX1_putProduct (25, .if_icmp .le 5, 3) (List.mem_of_getElem? (i := 15) rfl)
theorem dX1_putProduct_28 : decode cX1_putProduct 28 = .ok (.iconst 0, 1) := DX1_putProduct (28, .iconst 0, 1) (List.mem_of_getElem? (i := 16) rfl)
theorem dX1_putProduct_29 : decode cX1_putProduct 29 = .ok (.ireturn, 1) := DX1_putProduct (29, .ireturn, 1) (List.mem_of_getElem? (i := 17) rfl)
theorem dX1_putProduct_30 : decode cX1_putProduct 30 = .ok (.iconst 0, 1) := DX1_putProduct (30, .iconst 0, 1) (List.mem_of_getElem? (i := 18) rfl)
theorem dX1_putProduct_31 : decode cX1_putProduct 31 = .ok (.istore 6, 2) := DX1_putProduct (31, .istore 6, 2) (List.mem_of_getElem? (i := 19) rfl)
theorem dX1_putProduct_33 : decode cX1_putProduct 33 = .ok (.iload 6, 2) := DX1_putProduct (33, .iload 6, 2) (List.mem_of_getElem? (i := 20) rfl)
theorem dX1_putProduct_35 : decode cX1_putProduct 35 = .ok (.iload 4, 2) := DX1_putProduct (35, .iload 4, 2) (List.mem_of_getElem? (i := 21) rfl)
theorem dX1_putProduct_37 : decode cX1_putProduct 37 = .ok (.if_icmp .gt 135, 3) := DX1_putProduct (37, .if_icmp .gt 135, 3) (List.mem_of_getElem? (i := 22) rfl)
theorem dX1_putProduct_40 : decode cX1_putProduct 40 = .ok (.iconst 0, 1) := DX1_putProduct (40, .iconst 0, 1) (List.mem_of_getElem? (i := 23) rfl)
theorem dX1_putProduct_41 : decode cX1_putProduct 41 = .ok (.istore 7, 2) := DX1_putProduct (41, .istore 7, 2) (List.mem_of_getElem? (i := 24) rfl)
theorem dX1_putProduct_43 : decode cX1_putProduct 43 = .ok (.iload 7, 2) := DX1_putProduct (43, .iload 7, 2) (List.mem_of_getElem? (i := 25) rfl)
theorem dX1_putProduct_45 : decode cX1_putProduct 45 = .ok (.iload 5, 2) := DX1_putProduct (45, .iload 5, 2) (List.mem_of_getElem? (i := 26) rfl)
theorem dX1_putProduct_47 : decode cX1_putProduct 47 = .ok (.if_icmp .gt 119, 3) := DX1_putProduct (47, .if_icmp .gt 119, 3) (List.mem_of_getElem? (i := 27) rfl)
theorem dX1_putProduct_50 : decode cX1_putProduct 50 = .ok (.iload 6, 2) := DX1_putProduct (50, .iload 6, 2) (List.mem_of_getElem? (i := 28) rfl)
theorem dX1_putProduct_52 : decode cX1_putProduct 52 = .ok (.iload 7, 2) := DX1_putProduct (52, .iload 7, 2) (List.mem_of_getElem? (i := 29) rfl)
theorem dX1_putProduct_54 : decode cX1_putProduct 54 = .ok (.invokestatic 45, 3) := DX1_putProduct (54, .invokestatic 45, 3) (List.mem_of_getElem? (i := 30) rfl)
theorem dX1_putProduct_57 : decode cX1_putProduct 57 = .ok (.istore 8, 2) := DX1_putProduct (57, .istore 8, 2) (List.mem_of_getElem? (i := 31) rfl)
theorem dX1_putProduct_59 : decode cX1_putProduct 59 = .ok (.iload_n 1, 1) := DX1_putProduct (59, .iload_n 1, 1) (List.mem_of_getElem? (i := 32) rfl)
theorem dX1_putProduct_60 : decode cX1_putProduct 60 = .ok (.iconst 4, 1) := DX1_putProduct (60, .iconst 4, 1) (List.mem_of_getElem? (i := 33) rfl)
theorem dX1_putProduct_61 : decode cX1_putProduct 61 = .ok (.imul, 1) := DX1_putProduct (61, .imul, 1) (List.mem_of_getElem? (i := 34) rfl)
theorem dX1_putProduct_62 : decode cX1_putProduct 62 = .ok (.iload 8, 2) := DX1_putProduct (62, .iload 8, 2) (List.mem_of_getElem? (i := 35) rfl)
theorem dX1_putProduct_64 : decode cX1_putProduct 64 = .ok (.iadd, 1) := DX1_putProduct (64, .iadd, 1) (List.mem_of_getElem? (i := 36) rfl)
theorem dX1_putProduct_65 : decode cX1_putProduct 65 = .ok (.istore 9, 2) := DX1_putProduct (65, .istore 9, 2) (List.mem_of_getElem? (i := 37) rfl)
theorem dX1_putProduct_67 : decode cX1_putProduct 67 = .ok (.iload 6, 2) := DX1_putProduct (67, .iload 6, 2) (List.mem_of_getElem? (i := 38) rfl)
theorem dX1_putProduct_69 : decode cX1_putProduct 69 = .ok (.iload 7, 2) := DX1_putProduct (69, .iload 7, 2) (List.mem_of_getElem? (i := 39) rfl)
theorem dX1_putProduct_71 : decode cX1_putProduct 71 = .ok (.invokestatic 51, 3) := DX1_putProduct (71, .invokestatic 51, 3) (List.mem_of_getElem? (i := 40) rfl)
theorem dX1_putProduct_74 : decode cX1_putProduct 74 = .ok (.ifCond .le 7, 3) := DX1_putProduct (74, .ifCond .le 7, 3) (List.mem_of_getElem? (i := 41) rfl)
theorem dX1_putProduct_77 : decode cX1_putProduct 77 = .ok (.iconst 1, 1) := DX1_putProduct (77, .iconst 1, 1) (List.mem_of_getElem? (i := 42) rfl)
theorem dX1_putProduct_78 : decode cX1_putProduct 78 = .ok (.goto 4, 3) := DX1_putProduct (78, .goto 4, 3) (List.mem_of_getElem? (i := 43) rfl)
theorem dX1_putProduct_81 : decode cX1_putProduct 81 = .ok (.iconst 0, 1) := DX1_putProduct (81, .iconst 0, 1) (List.mem_of_getElem? (i := 44) rfl)
theorem dX1_putProduct_82 : decode cX1_putProduct 82 = .ok (.istore 10, 2) := DX1_putProduct (82, .istore 10, 2) (List.mem_of_getElem? (i := 45) rfl)
theorem dX1_putProduct_84 : decode cX1_putProduct 84 = .ok (.aload_n 0, 1) := DX1_putProduct (84, .aload_n 0, 1) (List.mem_of_getElem? (i := 46) rfl)
theorem dX1_putProduct_85 : decode cX1_putProduct 85 = .ok (.getfield 15, 3) := DX1_putProduct (85, .getfield 15, 3) (List.mem_of_getElem? (i := 47) rfl)
theorem dX1_putProduct_88 : decode cX1_putProduct 88 = .ok (.iload 9, 2) := DX1_putProduct (88, .iload 9, 2) (List.mem_of_getElem? (i := 48) rfl)
theorem dX1_putProduct_90 : decode cX1_putProduct 90 = .ok (.iload_n 2, 1) := DX1_putProduct (90, .iload_n 2, 1) (List.mem_of_getElem? (i := 49) rfl)
theorem dX1_putProduct_91 : decode cX1_putProduct 91 = .ok (.iconst 4, 1) := DX1_putProduct (91, .iconst 4, 1) (List.mem_of_getElem? (i := 50) rfl)
theorem dX1_putProduct_92 : decode cX1_putProduct 92 = .ok (.imul, 1) := DX1_putProduct (92, .imul, 1) (List.mem_of_getElem? (i := 51) rfl)
theorem dX1_putProduct_93 : decode cX1_putProduct 93 = .ok (.iload 6, 2) := DX1_putProduct (93, .iload 6, 2) (List.mem_of_getElem? (i := 52) rfl)
theorem dX1_putProduct_95 : decode cX1_putProduct 95 = .ok (.iadd, 1) := DX1_putProduct (95, .iadd, 1) (List.mem_of_getElem? (i := 53) rfl)
theorem dX1_putProduct_96 : decode cX1_putProduct 96 = .ok (.iload_n 3, 1) := DX1_putProduct (96, .iload_n 3, 1) (List.mem_of_getElem? (i := 54) rfl)
theorem dX1_putProduct_97 : decode cX1_putProduct 97 = .ok (.iconst 4, 1) := DX1_putProduct (97, .iconst 4, 1) (List.mem_of_getElem? (i := 55) rfl)
theorem dX1_putProduct_98 : decode cX1_putProduct 98 = .ok (.imul, 1) := DX1_putProduct (98, .imul, 1) (List.mem_of_getElem? (i := 56) rfl)
theorem dX1_putProduct_99 : decode cX1_putProduct 99 = .ok (.iload 7, 2) := DX1_putProduct (99, .iload 7, 2) (List.mem_of_getElem? (i := 57) rfl)
theorem dX1_putProduct_101 : decode cX1_putProduct 101 = .ok (.iadd, 1) := DX1_putProduct (101, .iadd, 1) (List.mem_of_getElem? (i := 58) rfl)
theorem dX1_putProduct_102 : decode cX1_putProduct 102 = .ok (.iload 10, 2) := DX1_putProduct (102, .iload 10, 2) (List.mem_of_getElem? (i := 59) rfl)
theorem dX1_putProduct_104 : decode cX1_putProduct 104 = .ok (.ifCond .eq 8, 3) := DX1_putProduct (104, .ifCond .eq 8, 3) (List.mem_of_getElem? (i := 60) rfl)
theorem dX1_putProduct_107 : decode cX1_putProduct 107 = .ok (.iload 8, 2) := DX1_putProduct (107, .iload 8, 2) (List.mem_of_getElem? (i := 61) rfl)
theorem dX1_putProduct_109 : decode cX1_putProduct 109 = .ok (.goto 4, 3) := DX1_putProduct (109, .goto 4, 3) (List.mem_of_getElem? (i := 62) rfl)
theorem dX1_putProduct_112 : decode cX1_putProduct 112 = .ok (.iconst 1, 1) := DX1_putProduct (112, .iconst 1, 1) (List.mem_of_getElem? (i := 63) rfl)
theorem dX1_putProduct_113 : decode cX1_putProduct 113 = .ok (.invokevirtual 54, 3) := DX1_putProduct (113, .invokevirtual 54, 3) (List.mem_of_getElem? (i := 64) rfl)
theorem dX1_putProduct_116 : decode cX1_putProduct 116 = .ok (.ifCond .ne 5, 3) := DX1_putProduct (116, .ifCond .ne 5, 3) (List.mem_of_getElem? (i := 65) rfl)
theorem dX1_putProduct_119 : decode cX1_putProduct 119 = .ok (.iconst 0, 1) := DX1_putProduct (119, .iconst 0, 1) (List.mem_of_getElem? (i := 66) rfl)
theorem dX1_putProduct_120 : decode cX1_putProduct 120 = .ok (.ireturn, 1) := DX1_putProduct (120, .ireturn, 1) (List.mem_of_getElem? (i := 67) rfl)
theorem dX1_putProduct_121 : decode cX1_putProduct 121 = .ok (.iload 10, 2) := DX1_putProduct (121, .iload 10, 2) (List.mem_of_getElem? (i := 68) rfl)
theorem dX1_putProduct_123 : decode cX1_putProduct 123 = .ok (.ifCond .eq 37, 3) := DX1_putProduct (123, .ifCond .eq 37, 3) (List.mem_of_getElem? (i := 69) rfl)
theorem dX1_putProduct_126 : decode cX1_putProduct 126 = .ok (.iload 8, 2) := DX1_putProduct (126, .iload 8, 2) (List.mem_of_getElem? (i := 70) rfl)
theorem dX1_putProduct_128 : decode cX1_putProduct 128 = .ok (.iconst 3, 1) := DX1_putProduct (128, .iconst 3, 1) (List.mem_of_getElem? (i := 71) rfl)
theorem dX1_putProduct_129 : decode cX1_putProduct 129 = .ok (.if_icmp .ge 31, 3) := DX1_putProduct (129, .if_icmp .ge 31, 3) (List.mem_of_getElem? (i := 72) rfl)
theorem dX1_putProduct_132 : decode cX1_putProduct 132 = .ok (.aload_n 0, 1) := DX1_putProduct (132, .aload_n 0, 1) (List.mem_of_getElem? (i := 73) rfl)
theorem dX1_putProduct_133 : decode cX1_putProduct 133 = .ok (.getfield 15, 3) := DX1_putProduct (133, .getfield 15, 3) (List.mem_of_getElem? (i := 74) rfl)
theorem dX1_putProduct_136 : decode cX1_putProduct 136 = .ok (.iload 9, 2) := DX1_putProduct (136, .iload 9, 2) (List.mem_of_getElem? (i := 75) rfl)
theorem dX1_putProduct_138 : decode cX1_putProduct 138 = .ok (.iconst 1, 1) := DX1_putProduct (138, .iconst 1, 1) (List.mem_of_getElem? (i := 76) rfl)
theorem dX1_putProduct_139 : decode cX1_putProduct 139 = .ok (.iadd, 1) := DX1_putProduct (139, .iadd, 1) (List.mem_of_getElem? (i := 77) rfl)
theorem dX1_putProduct_140 : decode cX1_putProduct 140 = .ok (.iload_n 2, 1) := DX1_putProduct (140, .iload_n 2, 1) (List.mem_of_getElem? (i := 78) rfl)
theorem dX1_putProduct_141 : decode cX1_putProduct 141 = .ok (.iconst 4, 1) := DX1_putProduct (141, .iconst 4, 1) (List.mem_of_getElem? (i := 79) rfl)
theorem dX1_putProduct_142 : decode cX1_putProduct 142 = .ok (.imul, 1) := DX1_putProduct (142, .imul, 1) (List.mem_of_getElem? (i := 80) rfl)
theorem dX1_putProduct_143 : decode cX1_putProduct 143 = .ok (.iload 6, 2) := DX1_putProduct (143, .iload 6, 2) (List.mem_of_getElem? (i := 81) rfl)
theorem dX1_putProduct_145 : decode cX1_putProduct 145 = .ok (.iadd, 1) := DX1_putProduct (145, .iadd, 1) (List.mem_of_getElem? (i := 82) rfl)
theorem dX1_putProduct_146 : decode cX1_putProduct 146 = .ok (.iload_n 3, 1) := DX1_putProduct (146, .iload_n 3, 1) (List.mem_of_getElem? (i := 83) rfl)
theorem dX1_putProduct_147 : decode cX1_putProduct 147 = .ok (.iconst 4, 1) := DX1_putProduct (147, .iconst 4, 1) (List.mem_of_getElem? (i := 84) rfl)
theorem dX1_putProduct_148 : decode cX1_putProduct 148 = .ok (.imul, 1) := DX1_putProduct (148, .imul, 1) (List.mem_of_getElem? (i := 85) rfl)
theorem dX1_putProduct_149 : decode cX1_putProduct 149 = .ok (.iload 7, 2) := DX1_putProduct (149, .iload 7, 2) (List.mem_of_getElem? (i := 86) rfl)
theorem dX1_putProduct_151 : decode cX1_putProduct 151 = .ok (.iadd, 1) := DX1_putProduct (151, .iadd, 1) (List.mem_of_getElem? (i := 87) rfl)
theorem dX1_putProduct_152 : decode cX1_putProduct 152 = .ok (.iload 8, 2) := DX1_putProduct (152, .iload 8, 2) (List.mem_of_getElem? (i := 88) rfl)
theorem dX1_putProduct_154 : decode cX1_putProduct 154 = .ok (.iconst 1, 1) := DX1_putProduct (154, .iconst 1, 1) (List.mem_of_getElem? (i := 89) rfl)
theorem dX1_putProduct_155 : decode cX1_putProduct 155 = .ok (.iadd, 1) := DX1_putProduct (155, .iadd, 1) (List.mem_of_getElem? (i := 90) rfl)
theorem dX1_putProduct_156 : decode cX1_putProduct 156 = .ok (.invokevirtual 54, 3) := DX1_putProduct (156, .invokevirtual 54, 3) (List.mem_of_getElem? (i := 91) rfl)
theorem dX1_putProduct_159 : decode cX1_putProduct 159 = .ok (.pop, 1) := DX1_putProduct (159, .pop, 1) (List.mem_of_getElem? (i := 92) rfl)
theorem dX1_putProduct_160 : decode cX1_putProduct 160 = .ok (.iinc 7 1, 3) := DX1_putProduct (160, .iinc 7 1, 3) (List.mem_of_getElem? (i := 93) rfl)
theorem dX1_putProduct_163 : decode cX1_putProduct 163 = .ok (.goto (-120), 3) := DX1_putProduct (163, .goto (-120), 3) (List.mem_of_getElem? (i := 94) rfl)
theorem dX1_putProduct_166 : decode cX1_putProduct 166 = .ok (.iinc 6 1, 3) := DX1_putProduct (166, .iinc 6 1, 3) (List.mem_of_getElem? (i := 95) rfl)
theorem dX1_putProduct_169 : decode cX1_putProduct 169 = .ok (.goto (-136), 3) := DX1_putProduct (169, .goto (-136), 3) (List.mem_of_getElem? (i := 96) rfl)
theorem dX1_putProduct_172 : decode cX1_putProduct 172 = .ok (.iconst 1, 1) := DX1_putProduct (172, .iconst 1, 1) (List.mem_of_getElem? (i := 97) rfl)
theorem dX1_putProduct_173 : decode cX1_putProduct 173 = .ok (.ireturn, 1) := DX1_putProduct (173, .ireturn, 1) (List.mem_of_getElem? (i := 98) rfl)
noncomputable def fX1_putProduct_L160 (l1 : Int32) (l2 : Int32) (l3 : Int32) (l4 : Int32) (l5 : Int32) (l6 : Int32) (l7 : Int32) (σ : Mem) : Option ((Int32 × Mem) ⊕ ((Mem) ⊕ (Int32 × Mem))) :=
  some (.inl (l7 + 1, σ))
set_option maxHeartbeats 4000000 in
set_option maxRecDepth 100000 in
theorem tX1_putProduct_L160 {E : Gx} {cI : ClassId} {ad : Nat → Nat} (C : Cx E rmX1_putProduct cI layX ad 11 RX1 cX1_putProduct) {out : Int32 × Mem} (K0 : KI E rmX1_putProduct cI layX ad 11 cX1_putProduct .boolean out) {l1 : Int32} {l2 : Int32} {l3 : Int32} {l4 : Int32} {l5 : Int32} {l6 : Int32} {l7 : Int32} {σ : Mem} {res : (Int32 × Mem) ⊕ ((Mem) ⊕ (Int32 × Mem))} (h : fX1_putProduct_L160 l1 l2 l3 l4 l5 l6 l7 σ = some res) (K : Sum.elim (fun a => G E rmX1_putProduct cI layX ad 11 43 [(0, .ref (ad 1)), (1, .int l1), (2, .int l2), (3, .int l3), (4, .int l4), (5, .int l5), (6, .int l6), (7, .int a.1)] [] a.2) (Sum.elim (fun b => G E rmX1_putProduct cI layX ad 11 166 [(0, .ref (ad 1)), (1, .int l1), (2, .int l2), (3, .int l3), (4, .int l4), (5, .int l5), (6, .int l6)] [] b) (fun b => b = out)) res) : G E rmX1_putProduct cI layX ad 11 160 [(0, .ref (ad 1)), (1, .int l1), (2, .int l2), (3, .int l3), (4, .int l4), (5, .int l5), (6, .int l6), (7, .int l7)] [] σ := by
  unfold fX1_putProduct_L160 at h
  refine g_iinc 163 [(7, .int (l7 + 1)), (0, .ref (ad 1)), (1, .int l1), (2, .int l2), (3, .int l3), (4, .int l4), (5, .int l5), (6, .int l6)] C dX1_putProduct_160 (j := 7) rfl (by rfl) (by decide) rfl rfl ?_
  refine g_goto 43 C dX1_putProduct_163 (by decide) ?_
  have hh := end_inl h K
  exact g_sub [1, 2, 3, 4, 5, 6, 7, 0] (hh) rfl
noncomputable def fX1_putProduct_L113 (l1 : Int32) (l2 : Int32) (l3 : Int32) (l4 : Int32) (l5 : Int32) (l6 : Int32) (l7 : Int32) (l8 : Int32) (l9 : Int32) (l10 : Int32) (s1 : Int32) (s2 : Int32) (s3 : Int32) (s4 : Int32) (σ : Mem) : Option ((Int32 × Mem) ⊕ ((Mem) ⊕ (Int32 × Mem))) :=
  (fX5_addProduct s1 s2 s3 s4 σ).bind fun o4 =>
  if o4.1 = 0 then
    some (.inr (.inr (0, o4.2)))
  else
    if l10 = 0 then
      fX1_putProduct_L160 l1 l2 l3 l4 l5 l6 l7 o4.2
    else
      if 3 ≤ l8 then
        fX1_putProduct_L160 l1 l2 l3 l4 l5 l6 l7 o4.2
      else
        (fX5_addProduct (l9 + 1) ((l2 * 4) + l6) ((l3 * 4) + l7) (l8 + 1) o4.2).bind fun o5 =>
        fX1_putProduct_L160 l1 l2 l3 l4 l5 l6 l7 o5.2
set_option maxHeartbeats 4000000 in
set_option maxRecDepth 100000 in
theorem tX1_putProduct_L113 {E : Gx} {cI : ClassId} {ad : Nat → Nat} (C : Cx E rmX1_putProduct cI layX ad 11 RX1 cX1_putProduct) {out : Int32 × Mem} (K0 : KI E rmX1_putProduct cI layX ad 11 cX1_putProduct .boolean out) {l1 : Int32} {l2 : Int32} {l3 : Int32} {l4 : Int32} {l5 : Int32} {l6 : Int32} {l7 : Int32} {l8 : Int32} {l9 : Int32} {l10 : Int32} {s1 : Int32} {s2 : Int32} {s3 : Int32} {s4 : Int32} {σ : Mem} {res : (Int32 × Mem) ⊕ ((Mem) ⊕ (Int32 × Mem))} (h : fX1_putProduct_L113 l1 l2 l3 l4 l5 l6 l7 l8 l9 l10 s1 s2 s3 s4 σ = some res) (K : Sum.elim (fun a => G E rmX1_putProduct cI layX ad 11 43 [(0, .ref (ad 1)), (1, .int l1), (2, .int l2), (3, .int l3), (4, .int l4), (5, .int l5), (6, .int l6), (7, .int a.1)] [] a.2) (Sum.elim (fun b => G E rmX1_putProduct cI layX ad 11 166 [(0, .ref (ad 1)), (1, .int l1), (2, .int l2), (3, .int l3), (4, .int l4), (5, .int l5), (6, .int l6)] [] b) (fun b => b = out)) res) : G E rmX1_putProduct cI layX ad 11 113 [(0, .ref (ad 1)), (1, .int l1), (2, .int l2), (3, .int l3), (4, .int l4), (5, .int l5), (6, .int l6), (7, .int l7), (8, .int l8), (9, .int l9), (10, .int l10)] [.int s4, .int s3, .int s2, .int s1, .ref (ad 5)] σ := by
  unfold fX1_putProduct_L113 at h
  refine g_cni 116 C (As := [.int s1, .int s2, .int s3, .int s4]) (fun _ h => mX5_addProduct (a1 := s1) (a2 := s2) (a3 := s3) (a4 := s4) (σ := σ) h) (List.mem_of_getElem? (i := 29) rfl) wi_X5_addProduct wz_X5_addProduct wc_X5_addProduct wn_X5 qX5_addProduct rfl rfl ⟨Nat.le_of_ble_eq_true rfl, Nat.le_of_ble_eq_true rfl⟩ rfl rfl rfl rfl (Nat.le_of_ble_eq_true rfl) dX1_putProduct_113 rfl h (fun o4 h => ?_)
  refine g_if_ne 121 119 C dX1_putProduct_116 (by decide) rfl h (fun h => ?_) (fun h => ?_)
  · refine g_iconst 120 (v := 0) C dX1_putProduct_119 (by decide) rfl ?_
    have ho := end_alt1_2 h K
    replace ho : (0, o4.2) = out := ho
    subst ho
    exact K0 _ _ dX1_putProduct_120 (zb_nar (x := 0) (by decide))
  · refine g_iload 123 C dX1_putProduct_121 (j := 10) rfl rfl ?_
    refine g_if_eq 160 126 C dX1_putProduct_123 (by decide) rfl h (fun h => ?_) (fun h => ?_)
    · exact g_sub [0, 1, 2, 3, 4, 5, 6, 7] (tX1_putProduct_L160 (l1 := l1) (l2 := l2) (l3 := l3) (l4 := l4) (l5 := l5) (l6 := l6) (l7 := l7) (σ := o4.2) C K0 h K) rfl
    · refine g_iload 128 C dX1_putProduct_126 (j := 8) rfl rfl ?_
      refine g_iconst 129 (v := 3) C dX1_putProduct_128 (by decide) rfl ?_
      refine g_icmp_ge 160 132 C dX1_putProduct_129 (by decide) rfl h (fun h => ?_) (fun h => ?_)
      · exact g_sub [0, 1, 2, 3, 4, 5, 6, 7] (tX1_putProduct_L160 (l1 := l1) (l2 := l2) (l3 := l3) (l4 := l4) (l5 := l5) (l6 := l6) (l7 := l7) (σ := o4.2) C K0 h K) rfl
      · refine g_aload_n 133 C dX1_putProduct_132 rfl (j := 0) rfl rfl ?_
        refine g_getr 136 (j := 0) C rfl rfl wu_X1 (by decide) wf_X1_15 rfl dX1_putProduct_133 rfl ?_
        refine g_iload 138 C dX1_putProduct_136 (j := 9) rfl rfl ?_
        refine g_iconst 139 (v := 1) C dX1_putProduct_138 (by decide) rfl ?_
        refine g_iadd 140 C dX1_putProduct_139 rfl ?_
        refine g_iload_n 141 C dX1_putProduct_140 rfl (j := 2) rfl rfl ?_
        refine g_iconst 142 (v := 4) C dX1_putProduct_141 (by decide) rfl ?_
        refine g_imul 143 C dX1_putProduct_142 rfl ?_
        refine g_iload 145 C dX1_putProduct_143 (j := 6) rfl rfl ?_
        refine g_iadd 146 C dX1_putProduct_145 rfl ?_
        refine g_iload_n 147 C dX1_putProduct_146 rfl (j := 3) rfl rfl ?_
        refine g_iconst 148 (v := 4) C dX1_putProduct_147 (by decide) rfl ?_
        refine g_imul 149 C dX1_putProduct_148 rfl ?_
        refine g_iload 151 C dX1_putProduct_149 (j := 7) rfl rfl ?_
        refine g_iadd 152 C dX1_putProduct_151 rfl ?_
        refine g_iload 154 C dX1_putProduct_152 (j := 8) rfl rfl ?_
        refine g_iconst 155 (v := 1) C dX1_putProduct_154 (by decide) rfl ?_
        refine g_iadd 156 C dX1_putProduct_155 rfl ?_
        refine g_cni 159 C (As := [.int (l9 + 1), .int ((l2 * 4) + l6), .int ((l3 * 4) + l7), .int (l8 + 1)]) (fun _ h => mX5_addProduct (a1 := l9 + 1) (a2 := (l2 * 4) + l6) (a3 := (l3 * 4) + l7) (a4 := l8 + 1) (σ := o4.2) h) (List.mem_of_getElem? (i := 29) rfl) wi_X5_addProduct wz_X5_addProduct wc_X5_addProduct wn_X5 qX5_addProduct rfl rfl ⟨Nat.le_of_ble_eq_true rfl, Nat.le_of_ble_eq_true rfl⟩ rfl rfl rfl rfl (Nat.le_of_ble_eq_true rfl) dX1_putProduct_156 rfl h (fun o5 h => ?_)
        refine g_pop 160 C dX1_putProduct_159 rfl rfl ?_
        exact g_sub [0, 1, 2, 3, 4, 5, 6, 7] (tX1_putProduct_L160 (l1 := l1) (l2 := l2) (l3 := l3) (l4 := l4) (l5 := l5) (l6 := l6) (l7 := l7) (σ := o5.2) C K0 h K) rfl
noncomputable def fX1_putProduct_L82 (l1 : Int32) (l2 : Int32) (l3 : Int32) (l4 : Int32) (l5 : Int32) (l6 : Int32) (l7 : Int32) (l8 : Int32) (l9 : Int32) (s0 : Int32) (σ : Mem) : Option ((Int32 × Mem) ⊕ ((Mem) ⊕ (Int32 × Mem))) :=
  if s0 = 0 then
    fX1_putProduct_L113 l1 l2 l3 l4 l5 l6 l7 l8 l9 s0 l9 ((l2 * 4) + l6) ((l3 * 4) + l7) 1 σ
  else
    fX1_putProduct_L113 l1 l2 l3 l4 l5 l6 l7 l8 l9 s0 l9 ((l2 * 4) + l6) ((l3 * 4) + l7) l8 σ
set_option maxHeartbeats 4000000 in
set_option maxRecDepth 100000 in
theorem tX1_putProduct_L82 {E : Gx} {cI : ClassId} {ad : Nat → Nat} (C : Cx E rmX1_putProduct cI layX ad 11 RX1 cX1_putProduct) {out : Int32 × Mem} (K0 : KI E rmX1_putProduct cI layX ad 11 cX1_putProduct .boolean out) {l1 : Int32} {l2 : Int32} {l3 : Int32} {l4 : Int32} {l5 : Int32} {l6 : Int32} {l7 : Int32} {l8 : Int32} {l9 : Int32} {s0 : Int32} {σ : Mem} {res : (Int32 × Mem) ⊕ ((Mem) ⊕ (Int32 × Mem))} (h : fX1_putProduct_L82 l1 l2 l3 l4 l5 l6 l7 l8 l9 s0 σ = some res) (K : Sum.elim (fun a => G E rmX1_putProduct cI layX ad 11 43 [(0, .ref (ad 1)), (1, .int l1), (2, .int l2), (3, .int l3), (4, .int l4), (5, .int l5), (6, .int l6), (7, .int a.1)] [] a.2) (Sum.elim (fun b => G E rmX1_putProduct cI layX ad 11 166 [(0, .ref (ad 1)), (1, .int l1), (2, .int l2), (3, .int l3), (4, .int l4), (5, .int l5), (6, .int l6)] [] b) (fun b => b = out)) res) : G E rmX1_putProduct cI layX ad 11 82 [(0, .ref (ad 1)), (1, .int l1), (2, .int l2), (3, .int l3), (4, .int l4), (5, .int l5), (6, .int l6), (7, .int l7), (8, .int l8), (9, .int l9)] [.int s0] σ := by
  unfold fX1_putProduct_L82 at h
  refine g_istore 84 [(10, .int s0), (0, .ref (ad 1)), (1, .int l1), (2, .int l2), (3, .int l3), (4, .int l4), (5, .int l5), (6, .int l6), (7, .int l7), (8, .int l8), (9, .int l9)] C dX1_putProduct_82 (by decide) rfl rfl ?_
  refine g_aload_n 85 C dX1_putProduct_84 rfl (j := 1) rfl rfl ?_
  refine g_getr 88 (j := 0) C rfl rfl wu_X1 (by decide) wf_X1_15 rfl dX1_putProduct_85 rfl ?_
  refine g_iload 90 C dX1_putProduct_88 (j := 10) rfl rfl ?_
  refine g_iload_n 91 C dX1_putProduct_90 rfl (j := 3) rfl rfl ?_
  refine g_iconst 92 (v := 4) C dX1_putProduct_91 (by decide) rfl ?_
  refine g_imul 93 C dX1_putProduct_92 rfl ?_
  refine g_iload 95 C dX1_putProduct_93 (j := 7) rfl rfl ?_
  refine g_iadd 96 C dX1_putProduct_95 rfl ?_
  refine g_iload_n 97 C dX1_putProduct_96 rfl (j := 4) rfl rfl ?_
  refine g_iconst 98 (v := 4) C dX1_putProduct_97 (by decide) rfl ?_
  refine g_imul 99 C dX1_putProduct_98 rfl ?_
  refine g_iload 101 C dX1_putProduct_99 (j := 8) rfl rfl ?_
  refine g_iadd 102 C dX1_putProduct_101 rfl ?_
  refine g_iload 104 C dX1_putProduct_102 (j := 0) rfl rfl ?_
  refine g_if_eq 112 107 C dX1_putProduct_104 (by decide) rfl h (fun h => ?_) (fun h => ?_)
  · refine g_iconst 113 (v := 1) C dX1_putProduct_112 (by decide) rfl ?_
    exact g_sub [1, 2, 3, 4, 5, 6, 7, 8, 9, 10, 0] (tX1_putProduct_L113 (l1 := l1) (l2 := l2) (l3 := l3) (l4 := l4) (l5 := l5) (l6 := l6) (l7 := l7) (l8 := l8) (l9 := l9) (l10 := s0) (s1 := l9) (s2 := ((l2 * 4) + l6)) (s3 := ((l3 * 4) + l7)) (s4 := 1) (σ := σ) C K0 h K) rfl
  · refine g_iload 109 C dX1_putProduct_107 (j := 9) rfl rfl ?_
    refine g_goto 113 C dX1_putProduct_109 (by decide) ?_
    exact g_sub [1, 2, 3, 4, 5, 6, 7, 8, 9, 10, 0] (tX1_putProduct_L113 (l1 := l1) (l2 := l2) (l3 := l3) (l4 := l4) (l5 := l5) (l6 := l6) (l7 := l7) (l8 := l8) (l9 := l9) (l10 := s0) (s1 := l9) (s2 := ((l2 * 4) + l6)) (s3 := ((l3 * 4) + l7)) (s4 := l8) (σ := σ) C K0 h K) rfl
noncomputable def fX1_putProduct_B43 (l1 : Int32) (l2 : Int32) (l3 : Int32) (l4 : Int32) (l5 : Int32) (l6 : Int32) (l7 : Int32) (σ : Mem) : Option ((Int32 × Mem) ⊕ ((Mem) ⊕ (Int32 × Mem))) :=
  if l5 < l7 then
    some (.inr (.inl σ))
  else
    if (if l7 < l6 then l7 else l6) ≤ 0 then
      fX1_putProduct_L82 l1 l2 l3 l4 l5 l6 l7 (if l6 < l7 then l7 else l6) ((l1 * 4) + (if l6 < l7 then l7 else l6)) 0 σ
    else
      fX1_putProduct_L82 l1 l2 l3 l4 l5 l6 l7 (if l6 < l7 then l7 else l6) ((l1 * 4) + (if l6 < l7 then l7 else l6)) 1 σ
set_option maxHeartbeats 4000000 in
set_option maxRecDepth 100000 in
theorem tX1_putProduct_B43 {E : Gx} {cI : ClassId} {ad : Nat → Nat} (C : Cx E rmX1_putProduct cI layX ad 11 RX1 cX1_putProduct) {out : Int32 × Mem} (K0 : KI E rmX1_putProduct cI layX ad 11 cX1_putProduct .boolean out) {l1 : Int32} {l2 : Int32} {l3 : Int32} {l4 : Int32} {l5 : Int32} {l6 : Int32} {l7 : Int32} {σ : Mem} {res : (Int32 × Mem) ⊕ ((Mem) ⊕ (Int32 × Mem))} (h : fX1_putProduct_B43 l1 l2 l3 l4 l5 l6 l7 σ = some res) (K : Sum.elim (fun a => G E rmX1_putProduct cI layX ad 11 43 [(0, .ref (ad 1)), (1, .int l1), (2, .int l2), (3, .int l3), (4, .int l4), (5, .int l5), (6, .int l6), (7, .int a.1)] [] a.2) (Sum.elim (fun b => G E rmX1_putProduct cI layX ad 11 166 [(0, .ref (ad 1)), (1, .int l1), (2, .int l2), (3, .int l3), (4, .int l4), (5, .int l5), (6, .int l6)] [] b) (fun b => b = out)) res) : G E rmX1_putProduct cI layX ad 11 43 [(0, .ref (ad 1)), (1, .int l1), (2, .int l2), (3, .int l3), (4, .int l4), (5, .int l5), (6, .int l6), (7, .int l7)] [] σ := by
  unfold fX1_putProduct_B43 at h
  refine g_iload 45 C dX1_putProduct_43 (j := 7) rfl rfl ?_
  refine g_iload 47 C dX1_putProduct_45 (j := 5) rfl rfl ?_
  refine g_icmp_gt 166 50 C dX1_putProduct_47 (by decide) rfl h (fun h => ?_) (fun h => ?_)
  · have hh := end_alt0_2 h K
    exact g_sub [0, 1, 2, 3, 4, 5, 6] (hh) rfl
  · refine g_iload 52 C dX1_putProduct_50 (j := 6) rfl rfl ?_
    refine g_iload 54 C dX1_putProduct_52 (j := 7) rfl rfl ?_
    refine g_mmax 57 C wl_X1_45 wM_st wM_in wM_cmax (by decide) (Nat.le_of_ble_eq_true rfl) dX1_putProduct_54 rfl ?_
    refine g_istore 59 [(8, .int (if l6 < l7 then l7 else l6)), (0, .ref (ad 1)), (1, .int l1), (2, .int l2), (3, .int l3), (4, .int l4), (5, .int l5), (6, .int l6), (7, .int l7)] C dX1_putProduct_57 (by decide) rfl rfl ?_
    refine g_iload_n 60 C dX1_putProduct_59 rfl (j := 2) rfl rfl ?_
    refine g_iconst 61 (v := 4) C dX1_putProduct_60 (by decide) rfl ?_
    refine g_imul 62 C dX1_putProduct_61 rfl ?_
    refine g_iload 64 C dX1_putProduct_62 (j := 0) rfl rfl ?_
    refine g_iadd 65 C dX1_putProduct_64 rfl ?_
    refine g_istore 67 [(9, .int ((l1 * 4) + (if l6 < l7 then l7 else l6))), (8, .int (if l6 < l7 then l7 else l6)), (0, .ref (ad 1)), (1, .int l1), (2, .int l2), (3, .int l3), (4, .int l4), (5, .int l5), (6, .int l6), (7, .int l7)] C dX1_putProduct_65 (by decide) rfl rfl ?_
    refine g_iload 69 C dX1_putProduct_67 (j := 8) rfl rfl ?_
    refine g_iload 71 C dX1_putProduct_69 (j := 9) rfl rfl ?_
    refine g_mmin 74 C wl_X1_51 wM_sn wM_in wM_cmin (by decide) (Nat.le_of_ble_eq_true rfl) dX1_putProduct_71 rfl ?_
    refine g_if_le 81 77 C dX1_putProduct_74 (by decide) rfl h (fun h => ?_) (fun h => ?_)
    · refine g_iconst 82 (v := 0) C dX1_putProduct_81 (by decide) rfl ?_
      exact g_sub [2, 3, 4, 5, 6, 7, 8, 9, 1, 0] (tX1_putProduct_L82 (l1 := l1) (l2 := l2) (l3 := l3) (l4 := l4) (l5 := l5) (l6 := l6) (l7 := l7) (l8 := (if l6 < l7 then l7 else l6)) (l9 := ((l1 * 4) + (if l6 < l7 then l7 else l6))) (s0 := 0) (σ := σ) C K0 h K) rfl
    · refine g_iconst 78 (v := 1) C dX1_putProduct_77 (by decide) rfl ?_
      refine g_goto 82 C dX1_putProduct_78 (by decide) ?_
      exact g_sub [2, 3, 4, 5, 6, 7, 8, 9, 1, 0] (tX1_putProduct_L82 (l1 := l1) (l2 := l2) (l3 := l3) (l4 := l4) (l5 := l5) (l6 := l6) (l7 := l7) (l8 := (if l6 < l7 then l7 else l6)) (l9 := ((l1 * 4) + (if l6 < l7 then l7 else l6))) (s0 := 1) (σ := σ) C K0 h K) rfl
noncomputable def fX1_putProduct_L166 (l1 : Int32) (l2 : Int32) (l3 : Int32) (l4 : Int32) (l5 : Int32) (l6 : Int32) (σ : Mem) : Option ((Int32 × Mem) ⊕ ((Mem) ⊕ (Int32 × Mem))) :=
  some (.inl (l6 + 1, σ))
set_option maxHeartbeats 4000000 in
set_option maxRecDepth 100000 in
theorem tX1_putProduct_L166 {E : Gx} {cI : ClassId} {ad : Nat → Nat} (C : Cx E rmX1_putProduct cI layX ad 11 RX1 cX1_putProduct) {out : Int32 × Mem} (K0 : KI E rmX1_putProduct cI layX ad 11 cX1_putProduct .boolean out) {l1 : Int32} {l2 : Int32} {l3 : Int32} {l4 : Int32} {l5 : Int32} {l6 : Int32} {σ : Mem} {res : (Int32 × Mem) ⊕ ((Mem) ⊕ (Int32 × Mem))} (h : fX1_putProduct_L166 l1 l2 l3 l4 l5 l6 σ = some res) (K : Sum.elim (fun a => G E rmX1_putProduct cI layX ad 11 33 [(0, .ref (ad 1)), (1, .int l1), (2, .int l2), (3, .int l3), (4, .int l4), (5, .int l5), (6, .int a.1)] [] a.2) (Sum.elim (fun b => G E rmX1_putProduct cI layX ad 11 172 [] [] b) (fun b => b = out)) res) : G E rmX1_putProduct cI layX ad 11 166 [(0, .ref (ad 1)), (1, .int l1), (2, .int l2), (3, .int l3), (4, .int l4), (5, .int l5), (6, .int l6)] [] σ := by
  unfold fX1_putProduct_L166 at h
  refine g_iinc 169 [(6, .int (l6 + 1)), (0, .ref (ad 1)), (1, .int l1), (2, .int l2), (3, .int l3), (4, .int l4), (5, .int l5)] C dX1_putProduct_166 (j := 6) rfl (by rfl) (by decide) rfl rfl ?_
  refine g_goto 33 C dX1_putProduct_169 (by decide) ?_
  have hh := end_inl h K
  exact g_sub [1, 2, 3, 4, 5, 6, 0] (hh) rfl
noncomputable def fX1_putProduct_B33 (l1 : Int32) (l2 : Int32) (l3 : Int32) (l4 : Int32) (l5 : Int32) (l6 : Int32) (σ : Mem) : Option ((Int32 × Mem) ⊕ ((Mem) ⊕ (Int32 × Mem))) :=
  if l4 < l6 then
    some (.inr (.inl σ))
  else
    (loop (fun a => fX1_putProduct_B43 l1 l2 l3 l4 l5 l6 a.1 a.2) (0, σ)).bind (Sum.elim (fun b6x0 => fX1_putProduct_L166 l1 l2 l3 l4 l5 l6 b6x0) (fun b6r => some (.inr (.inr b6r))))
set_option maxHeartbeats 4000000 in
set_option maxRecDepth 100000 in
theorem tX1_putProduct_B33 {E : Gx} {cI : ClassId} {ad : Nat → Nat} (C : Cx E rmX1_putProduct cI layX ad 11 RX1 cX1_putProduct) {out : Int32 × Mem} (K0 : KI E rmX1_putProduct cI layX ad 11 cX1_putProduct .boolean out) {l1 : Int32} {l2 : Int32} {l3 : Int32} {l4 : Int32} {l5 : Int32} {l6 : Int32} {σ : Mem} {res : (Int32 × Mem) ⊕ ((Mem) ⊕ (Int32 × Mem))} (h : fX1_putProduct_B33 l1 l2 l3 l4 l5 l6 σ = some res) (K : Sum.elim (fun a => G E rmX1_putProduct cI layX ad 11 33 [(0, .ref (ad 1)), (1, .int l1), (2, .int l2), (3, .int l3), (4, .int l4), (5, .int l5), (6, .int a.1)] [] a.2) (Sum.elim (fun b => G E rmX1_putProduct cI layX ad 11 172 [] [] b) (fun b => b = out)) res) : G E rmX1_putProduct cI layX ad 11 33 [(0, .ref (ad 1)), (1, .int l1), (2, .int l2), (3, .int l3), (4, .int l4), (5, .int l5), (6, .int l6)] [] σ := by
  unfold fX1_putProduct_B33 at h
  refine g_iload 35 C dX1_putProduct_33 (j := 6) rfl rfl ?_
  refine g_iload 37 C dX1_putProduct_35 (j := 4) rfl rfl ?_
  refine g_icmp_gt 172 40 C dX1_putProduct_37 (by decide) rfl h (fun h => ?_) (fun h => ?_)
  · have hh := end_alt0_2 h K
    exact g_sub [] (hh) rfl
  · refine g_iconst 41 (v := 0) C dX1_putProduct_40 (by decide) rfl ?_
    refine g_istore 43 [(7, .int 0), (0, .ref (ad 1)), (1, .int l1), (2, .int l2), (3, .int l3), (4, .int l4), (5, .int l5), (6, .int l6)] C dX1_putProduct_41 (by decide) rfl rfl ?_
    obtain ⟨b6, hb, h⟩ := bind_some h
    refine g_sub [1, 2, 3, 4, 5, 6, 7, 0] (g_loop (a := (0, σ)) (fun a => G E rmX1_putProduct cI layX ad 11 43 [(0, .ref (ad 1)), (1, .int l1), (2, .int l2), (3, .int l3), (4, .int l4), (5, .int l5), (6, .int l6), (7, .int a.1)] [] a.2) (Sum.elim (fun b => G E rmX1_putProduct cI layX ad 11 166 [(0, .ref (ad 1)), (1, .int l1), (2, .int l2), (3, .int l3), (4, .int l4), (5, .int l5), (6, .int l6)] [] b) (fun b => b = out)) hb (fun a res h K => tX1_putProduct_B43 (l1 := l1) (l2 := l2) (l3 := l3) (l4 := l4) (l5 := l5) (l6 := l6) (l7 := a.1) (σ := a.2) (res := res) C K0 h K) ?_) rfl
    rcases b6 with b6x0 | b6r
    · show G E rmX1_putProduct cI layX ad 11 166 [(0, .ref (ad 1)), (1, .int l1), (2, .int l2), (3, .int l3), (4, .int l4), (5, .int l5), (6, .int l6)] [] b6x0
      exact tX1_putProduct_L166 (l1 := l1) (l2 := l2) (l3 := l3) (l4 := l4) (l5 := l5) (l6 := l6) (σ := b6x0) C K0 h K
    · replace h : some (Sum.inr (Sum.inr b6r)) = some res := h
      have ho := end_alt1_2 h K
      exact ho
noncomputable def fX1_putProduct_L172 (σ : Mem) : Option (Int32 × Mem) :=
  some (1, σ)
set_option maxHeartbeats 4000000 in
set_option maxRecDepth 100000 in
theorem tX1_putProduct_L172 {E : Gx} {cI : ClassId} {ad : Nat → Nat} (C : Cx E rmX1_putProduct cI layX ad 11 RX1 cX1_putProduct) {out : Int32 × Mem} (K0 : KI E rmX1_putProduct cI layX ad 11 cX1_putProduct .boolean out) {σ : Mem} (h : fX1_putProduct_L172 σ = some out) : G E rmX1_putProduct cI layX ad 11 172 [] [] σ := by
  unfold fX1_putProduct_L172 at h
  refine g_iconst 173 (v := 1) C dX1_putProduct_172 (by decide) rfl ?_
  cases h
  exact K0 _ _ dX1_putProduct_173 (zb_nar (x := 1) (by decide))
noncomputable def fX1_putProduct (a1 : Int32) (a2 : Int32) (a3 : Int32) (σ : Mem) : Option (Int32 × Mem) :=
  (fX1_clear a1 σ).bind fun o1 =>
  (fX1_degree a2 o1).bind fun o2 =>
  (fX1_degree a3 o2.2).bind fun o3 =>
  if (o2.1 + o3.1) ≤ 3 then
    (loop (fun a => fX1_putProduct_B33 a1 a2 a3 o2.1 o3.1 a.1 a.2) (0, o3.2)).bind (Sum.elim (fun b7x0 => fX1_putProduct_L172 b7x0) (fun b7r => some b7r))
  else
    some (0, o3.2)
set_option maxHeartbeats 4000000 in
set_option maxRecDepth 100000 in
theorem mX1_putProduct {l : Launch} {D : va_G} {cI : ClassId} {ad : Nat → Nat} {a1 : Int32} {a2 : Int32} {a3 : Int32} {σ : Mem} {out : Int32 × Mem} (h : fX1_putProduct a1 a2 a3 σ = some out) : MI l D cI layX ad yX1_putProduct cX1_putProduct 11 .boolean rmX1_putProduct [.ref (ad 1), .int a1, .int a2, .int a3] σ out := by
  refine met_i (by decide) (Nat.le_of_ble_eq_true rfl) (fun E C K0 => ?_)
  show G E rmX1_putProduct cI layX ad 11 0 [(0, .ref (ad 1)), (1, .int a1), (2, .int a2), (3, .int a3)] [] σ
  unfold fX1_putProduct at h
  refine g_aload_n 1 C dX1_putProduct_0 rfl (j := 0) rfl rfl ?_
  refine g_iload_n 2 C dX1_putProduct_1 rfl (j := 1) rfl rfl ?_
  refine g_cvv 5 C (As := [.int a1]) (fun _ h => mX1_clear (a1 := a1) (σ := σ) h) wl_X1_32 wi_X1_clear wz_X1_clear wc_X1_clear wn_X1 qX1_clear rfl rfl ⟨Nat.le_of_ble_eq_true rfl, Nat.le_of_ble_eq_true rfl⟩ rfl rfl rfl rfl (Nat.le_of_ble_eq_true rfl) dX1_putProduct_2 rfl h (fun o1 h => ?_)
  refine g_aload_n 6 C dX1_putProduct_5 rfl (j := 0) rfl rfl ?_
  refine g_iload_n 7 C dX1_putProduct_6 rfl (j := 2) rfl rfl ?_
  refine g_cvi 10 C (As := [.int a2]) (fun _ h => mX1_degree (a1 := a2) (σ := o1) h) wl_X1_41 wi_X1_degree wz_X1_degree wc_X1_degree wn_X1 qX1_degree rfl rfl ⟨Nat.le_of_ble_eq_true rfl, Nat.le_of_ble_eq_true rfl⟩ rfl rfl rfl rfl (Nat.le_of_ble_eq_true rfl) dX1_putProduct_7 rfl h (fun o2 h => ?_)
  refine g_istore 12 [(4, .int o2.1), (0, .ref (ad 1)), (1, .int a1), (2, .int a2), (3, .int a3)] C dX1_putProduct_10 (by decide) rfl rfl ?_
  refine g_aload_n 13 C dX1_putProduct_12 rfl (j := 1) rfl rfl ?_
  refine g_iload_n 14 C dX1_putProduct_13 rfl (j := 4) rfl rfl ?_
  refine g_cvi 17 C (As := [.int a3]) (fun _ h => mX1_degree (a1 := a3) (σ := o2.2) h) wl_X1_41 wi_X1_degree wz_X1_degree wc_X1_degree wn_X1 qX1_degree rfl rfl ⟨Nat.le_of_ble_eq_true rfl, Nat.le_of_ble_eq_true rfl⟩ rfl rfl rfl rfl (Nat.le_of_ble_eq_true rfl) dX1_putProduct_14 rfl h (fun o3 h => ?_)
  refine g_istore 19 [(5, .int o3.1), (4, .int o2.1), (0, .ref (ad 1)), (1, .int a1), (2, .int a2), (3, .int a3)] C dX1_putProduct_17 (by decide) rfl rfl ?_
  refine g_iload 21 C dX1_putProduct_19 (j := 1) rfl rfl ?_
  refine g_iload 23 C dX1_putProduct_21 (j := 0) rfl rfl ?_
  refine g_iadd 24 C dX1_putProduct_23 rfl ?_
  refine g_iconst 25 (v := 3) C dX1_putProduct_24 (by decide) rfl ?_
  refine g_icmp_le 30 28 C dX1_putProduct_25 (by decide) rfl h (fun h => ?_) (fun h => ?_)
  · refine g_iconst 31 (v := 0) C dX1_putProduct_30 (by decide) rfl ?_
    refine g_istore 33 [(6, .int 0), (5, .int o3.1), (4, .int o2.1), (0, .ref (ad 1)), (1, .int a1), (2, .int a2), (3, .int a3)] C dX1_putProduct_31 (by decide) rfl rfl ?_
    obtain ⟨b7, hb, h⟩ := bind_some h
    refine g_sub [3, 4, 5, 6, 2, 1, 0] (g_loop (a := (0, o3.2)) (fun a => G E rmX1_putProduct cI layX ad 11 33 [(0, .ref (ad 1)), (1, .int a1), (2, .int a2), (3, .int a3), (4, .int o2.1), (5, .int o3.1), (6, .int a.1)] [] a.2) (Sum.elim (fun b => G E rmX1_putProduct cI layX ad 11 172 [] [] b) (fun b => b = out)) hb (fun a res h K => tX1_putProduct_B33 (l1 := a1) (l2 := a2) (l3 := a3) (l4 := o2.1) (l5 := o3.1) (l6 := a.1) (σ := a.2) (res := res) C K0 h K) ?_) rfl
    rcases b7 with b7x0 | b7r
    · show G E rmX1_putProduct cI layX ad 11 172 [] [] b7x0
      exact tX1_putProduct_L172 (σ := b7x0) C K0 h
    · exact end_top h
  · refine g_iconst 29 (v := 0) C dX1_putProduct_28 (by decide) rfl ?_
    cases h
    exact K0 _ _ dX1_putProduct_29 (zb_nar (x := 0) (by decide))
