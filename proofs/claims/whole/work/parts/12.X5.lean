/-! LoopReducer$Polys.clear(I)V -/
abbrev rmX5_clear : Room := { frames := 0, cells := 0, slots := 0, locals := 0 }
theorem qX5_clear : yX5_clear.cls ≠ "java/lang/invoke/MethodHandle" ∧ yX5_clear.cls ≠ "java/lang/invoke/VarHandle" ∧ (parseMethodDescriptor yX5_clear.desc).map (fun d => d.parameters.length) = some 1 := by decide +kernel
theorem DX5_clear : ∀ q ∈ ([(0, .iconst 0, 1), (1, .istore_n 2, 1), (2, .iload_n 2, 1), (3, .aload_n 0, 1), (4, .getfield 15, 3), (7, .iload_n 1, 1), (8, .iaload, 1), (9, .if_icmp .ge 21, 3), (12, .aload_n 0, 1), (13, .getfield 9, 3), (16, .iload_n 1, 1), (17, .bipush 84, 2), (19, .imul, 1), (20, .iload_n 2, 1), (21, .iadd, 1), (22, .iconst 0, 1), (23, .iastore, 1), (24, .iinc 2 1, 3), (27, .goto (-25), 3), (30, .aload_n 0, 1), (31, .getfield 15, 3), (34, .iload_n 1, 1), (35, .iconst 0, 1), (36, .iastore, 1), (37, .return_, 1)] : List (Nat × Instr × Nat)), decode cX5_clear q.1 = .ok q.2 := by decide +kernel
theorem dX5_clear_0 : decode cX5_clear 0 = .ok (.iconst 0, 1) := DX5_clear (0, .iconst 0, 1) (List.mem_of_getElem? (i := 0) rfl)
theorem dX5_clear_1 : decode cX5_clear 1 = .ok (.istore_n 2, 1) := DX5_clear (1, .istore_n 2, 1) (List.mem_of_getElem? (i := 1) rfl)
theorem dX5_clear_2 : decode cX5_clear 2 = .ok (.iload_n 2, 1) := DX5_clear (2, .iload_n 2, 1) (List.mem_of_getElem? (i := 2) rfl)
theorem dX5_clear_3 : decode cX5_clear 3 = .ok (.aload_n 0, 1) := DX5_clear (3, .aload_n 0, 1) (List.mem_of_getElem? (i := 3) rfl)
theorem dX5_clear_4 : decode cX5_clear 4 = .ok (.getfield 15, 3) := DX5_clear (4, .getfield 15, 3) (List.mem_of_getElem? (i := 4) rfl)
theorem dX5_clear_7 : decode cX5_clear 7 = .ok (.iload_n 1, 1) := DX5_clear (7, .iload_n 1, 1) (List.mem_of_getElem? (i := 5) rfl)
theorem dX5_clear_8 : decode cX5_clear 8 = .ok (.iaload, 1) := DX5_clear (8, .iaload, 1) (List.mem_of_getElem? (i := 6) rfl)
theorem dX5_clear_9 : decode cX5_clear 9 = .ok (.if_icmp .ge 21, 3) := DX5_clear (9, .if_icmp .ge 21, 3) (List.mem_of_getElem? (i := 7) rfl)
theorem dX5_clear_12 : decode cX5_clear 12 = .ok (.aload_n 0, 1) := DX5_clear (12, .aload_n 0, 1) (List.mem_of_getElem? (i := 8) rfl)
theorem dX5_clear_13 : decode cX5_clear 13 = .ok (.getfield 9, 3) := DX5_clear (13, .getfield 9, 3) (List.mem_of_getElem? (i := 9) rfl)
theorem dX5_clear_16 : decode cX5_clear 16 = .ok (.iload_n 1, 1) := DX5_clear (16, .iload_n 1, 1) (List.mem_of_getElem? (i := 10) rfl)
theorem dX5_clear_17 : decode cX5_clear 17 = .ok (.bipush 84, 2) := DX5_clear (17, .bipush 84, 2) (List.mem_of_getElem? (i := 11) rfl)
theorem dX5_clear_19 : decode cX5_clear 19 = .ok (.imul, 1) := DX5_clear (19, .imul, 1) (List.mem_of_getElem? (i := 12) rfl)
theorem dX5_clear_20 : decode cX5_clear 20 = .ok (.iload_n 2, 1) := DX5_clear (20, .iload_n 2, 1) (List.mem_of_getElem? (i := 13) rfl)
theorem dX5_clear_21 : decode cX5_clear 21 = .ok (.iadd, 1) := DX5_clear (21, .iadd, 1) (List.mem_of_getElem? (i := 14) rfl)
theorem dX5_clear_22 : decode cX5_clear 22 = .ok (.iconst 0, 1) := DX5_clear (22, .iconst 0, 1) (List.mem_of_getElem? (i := 15) rfl)
theorem dX5_clear_23 : decode cX5_clear 23 = .ok (.iastore, 1) := DX5_clear (23, .iastore, 1) (List.mem_of_getElem? (i := 16) rfl)
theorem dX5_clear_24 : decode cX5_clear 24 = .ok (.iinc 2 1, 3) := DX5_clear (24, .iinc 2 1, 3) (List.mem_of_getElem? (i := 17) rfl)
theorem dX5_clear_27 : decode cX5_clear 27 = .ok (.goto (-25), 3) := DX5_clear (27, .goto (-25), 3) (List.mem_of_getElem? (i := 18) rfl)
theorem dX5_clear_30 : decode cX5_clear 30 = .ok (.aload_n 0, 1) := DX5_clear (30, .aload_n 0, 1) (List.mem_of_getElem? (i := 19) rfl)
theorem dX5_clear_31 : decode cX5_clear 31 = .ok (.getfield 15, 3) := DX5_clear (31, .getfield 15, 3) (List.mem_of_getElem? (i := 20) rfl)
theorem dX5_clear_34 : decode cX5_clear 34 = .ok (.iload_n 1, 1) := DX5_clear (34, .iload_n 1, 1) (List.mem_of_getElem? (i := 21) rfl)
theorem dX5_clear_35 : decode cX5_clear 35 = .ok (.iconst 0, 1) := DX5_clear (35, .iconst 0, 1) (List.mem_of_getElem? (i := 22) rfl)
theorem dX5_clear_36 : decode cX5_clear 36 = .ok (.iastore, 1) := DX5_clear (36, .iastore, 1) (List.mem_of_getElem? (i := 23) rfl)
theorem dX5_clear_37 : decode cX5_clear 37 = .ok (.return_, 1) := DX5_clear (37, .return_, 1) (List.mem_of_getElem? (i := 24) rfl)
noncomputable def fX5_clear_B2 (l1 : Int32) (l2 : Int32) (σ : Mem) : Option ((Int32 × Mem) ⊕ (Mem)) :=
  chk (inb l1 125) <|
  if (σ 16 l1.toNatClampNeg) ≤ l2 then
    some (.inr σ)
  else
    chk (inb ((l1 * 84) + l2) 10500) <|
    some (.inl (l2 + 1, up2 σ 15 ((l1 * 84) + l2).toNatClampNeg 0))
set_option maxHeartbeats 4000000 in
set_option maxRecDepth 100000 in
theorem tX5_clear_B2 {E : Gx} {cI : ClassId} {ad : Nat → Nat} (C : Cx E rmX5_clear cI layX ad 3 RX5 cX5_clear) {out : Mem} (K0 : KV E rmX5_clear cI layX ad 3 cX5_clear out) {l1 : Int32} {l2 : Int32} {σ : Mem} {res : (Int32 × Mem) ⊕ (Mem)} (h : fX5_clear_B2 l1 l2 σ = some res) (K : Sum.elim (fun a => G E rmX5_clear cI layX ad 3 2 [(0, .ref (ad 5)), (1, .int l1), (2, .int a.1)] [] a.2) (fun b => G E rmX5_clear cI layX ad 3 30 [(0, .ref (ad 5)), (1, .int l1)] [] b) res) : G E rmX5_clear cI layX ad 3 2 [(0, .ref (ad 5)), (1, .int l1), (2, .int l2)] [] σ := by
  unfold fX5_clear_B2 at h
  refine g_iload_n 3 C dX5_clear_2 rfl (j := 2) rfl rfl ?_
  refine g_aload_n 4 C dX5_clear_3 rfl (j := 0) rfl rfl ?_
  refine g_getr 7 (j := 3) C rfl rfl wu_X5 (by decide) wf_X5_15 rfl dX5_clear_4 rfl ?_
  refine g_iload_n 8 C dX5_clear_7 rfl (j := 1) rfl rfl ?_
  refine g_iald 9 C rfl dX5_clear_8 rfl h (fun h => ?_)
  refine g_icmp_ge 30 12 C dX5_clear_9 (by decide) rfl h (fun h => ?_) (fun h => ?_)
  · have hh := end_inr h K
    exact g_sub [0, 1] (hh) rfl
  · refine g_aload_n 13 C dX5_clear_12 rfl (j := 0) rfl rfl ?_
    refine g_getr 16 (j := 2) C rfl rfl wu_X5 (by decide) wf_X5_9 rfl dX5_clear_13 rfl ?_
    refine g_iload_n 17 C dX5_clear_16 rfl (j := 1) rfl rfl ?_
    refine g_bipush 19 (v := 84) C dX5_clear_17 (by decide) rfl ?_
    refine g_imul 20 C dX5_clear_19 rfl ?_
    refine g_iload_n 21 C dX5_clear_20 rfl (j := 2) rfl rfl ?_
    refine g_iadd 22 C dX5_clear_21 rfl ?_
    refine g_iconst 23 (v := 0) C dX5_clear_22 (by decide) rfl ?_
    refine g_iast 24 C rfl dX5_clear_23 rfl h (fun h => ?_)
    refine g_iinc 27 [(2, .int (l2 + 1)), (0, .ref (ad 5)), (1, .int l1)] C dX5_clear_24 (j := 2) rfl (by rfl) (by decide) rfl rfl ?_
    refine g_goto 2 C dX5_clear_27 (by decide) ?_
    have hh := end_inl h K
    exact g_sub [1, 2, 0] (hh) rfl
noncomputable def fX5_clear_L30 (l1 : Int32) (σ : Mem) : Option (Mem) :=
  chk (inb l1 125) <|
  some (up2 σ 16 l1.toNatClampNeg 0)
set_option maxHeartbeats 4000000 in
set_option maxRecDepth 100000 in
theorem tX5_clear_L30 {E : Gx} {cI : ClassId} {ad : Nat → Nat} (C : Cx E rmX5_clear cI layX ad 3 RX5 cX5_clear) {out : Mem} (K0 : KV E rmX5_clear cI layX ad 3 cX5_clear out) {l1 : Int32} {σ : Mem} (h : fX5_clear_L30 l1 σ = some out) : G E rmX5_clear cI layX ad 3 30 [(0, .ref (ad 5)), (1, .int l1)] [] σ := by
  unfold fX5_clear_L30 at h
  refine g_aload_n 31 C dX5_clear_30 rfl (j := 0) rfl rfl ?_
  refine g_getr 34 (j := 3) C rfl rfl wu_X5 (by decide) wf_X5_15 rfl dX5_clear_31 rfl ?_
  refine g_iload_n 35 C dX5_clear_34 rfl (j := 1) rfl rfl ?_
  refine g_iconst 36 (v := 0) C dX5_clear_35 (by decide) rfl ?_
  refine g_iast 37 C rfl dX5_clear_36 rfl h (fun h => ?_)
  cases h
  exact K0 _ _ dX5_clear_37
noncomputable def fX5_clear (a1 : Int32) (σ : Mem) : Option (Mem) :=
  (loop (fun a => fX5_clear_B2 a1 a.1 a.2) (0, σ)).bind fun b1 =>
  fX5_clear_L30 a1 b1
set_option maxHeartbeats 4000000 in
set_option maxRecDepth 100000 in
theorem mX5_clear {l : Launch} {D : va_G} {cI : ClassId} {ad : Nat → Nat} {a1 : Int32} {σ : Mem} {out : Mem} (h : fX5_clear a1 σ = some out) : MV l D cI layX ad yX5_clear cX5_clear 3 rmX5_clear [.ref (ad 5), .int a1] σ out := by
  refine met_v (by decide) (Nat.le_of_ble_eq_true rfl) (fun E C K0 => ?_)
  show G E rmX5_clear cI layX ad 3 0 [(0, .ref (ad 5)), (1, .int a1)] [] σ
  unfold fX5_clear at h
  refine g_iconst 1 (v := 0) C dX5_clear_0 (by decide) rfl ?_
  refine g_istore_n 2 [(2, .int 0), (0, .ref (ad 5)), (1, .int a1)] C dX5_clear_1 rfl (by decide) rfl rfl ?_
  obtain ⟨b1, hb, h⟩ := bind_some h
  refine g_sub [1, 2, 0] (g_loop (a := (0, σ)) (fun a => G E rmX5_clear cI layX ad 3 2 [(0, .ref (ad 5)), (1, .int a1), (2, .int a.1)] [] a.2) (fun b => G E rmX5_clear cI layX ad 3 30 [(0, .ref (ad 5)), (1, .int a1)] [] b) hb (fun a res h K => tX5_clear_B2 (l1 := a1) (l2 := a.1) (σ := a.2) (res := res) C K0 h K) ?_) rfl
  show G E rmX5_clear cI layX ad 3 30 [(0, .ref (ad 5)), (1, .int a1)] [] b1
  exact tX5_clear_L30 (l1 := a1) (σ := b1) C K0 h

/-! LoopReducer$Polys.putOne(III)V -/
abbrev rmX5_putOne : Room := { frames := 1, cells := 0, slots := 0, locals := 22 }
theorem qX5_putOne : yX5_putOne.cls ≠ "java/lang/invoke/MethodHandle" ∧ yX5_putOne.cls ≠ "java/lang/invoke/VarHandle" ∧ (parseMethodDescriptor yX5_putOne.desc).map (fun d => d.parameters.length) = some 3 := by decide +kernel
theorem DX5_putOne : ∀ q ∈ ([(0, .aload_n 0, 1), (1, .iload_n 1, 1), (2, .invokevirtual 26, 3), (5, .aload_n 0, 1), (6, .getfield 18, 3), (9, .getfield 30, 3), (12, .iload_n 2, 1), (13, .iaload, 1), (14, .istore 4, 2), (16, .aload_n 0, 1), (17, .getfield 9, 3), (20, .iload_n 1, 1), (21, .bipush 84, 2), (23, .imul, 1), (24, .iload 4, 2), (26, .iadd, 1), (27, .iload_n 3, 1), (28, .iastore, 1), (29, .aload_n 0, 1), (30, .getfield 15, 3), (33, .iload_n 1, 1), (34, .iload_n 3, 1), (35, .ifCond .ne 7, 3), (38, .iconst 0, 1), (39, .goto 7, 3), (42, .iload 4, 2), (44, .iconst 1, 1), (45, .iadd, 1), (46, .iastore, 1), (47, .return_, 1)] : List (Nat × Instr × Nat)), decode cX5_putOne q.1 = .ok q.2 := by decide +kernel
theorem dX5_putOne_0 : decode cX5_putOne 0 = .ok (.aload_n 0, 1) := DX5_putOne (0, .aload_n 0, 1) (List.mem_of_getElem? (i := 0) rfl)
theorem dX5_putOne_1 : decode cX5_putOne 1 = .ok (.iload_n 1, 1) := DX5_putOne (1, .iload_n 1, 1) (List.mem_of_getElem? (i := 1) rfl)
theorem dX5_putOne_2 : decode cX5_putOne 2 = .ok (.invokevirtual 26, 3) := DX5_putOne (2, .invokevirtual 26, 3) (List.mem_of_getElem? (i := 2) rfl)
theorem dX5_putOne_5 : decode cX5_putOne 5 = .ok (.aload_n 0, 1) := DX5_putOne (5, .aload_n 0, 1) (List.mem_of_getElem? (i := 3) rfl)
theorem dX5_putOne_6 : decode cX5_putOne 6 = .ok (.getfield 18, 3) := DX5_putOne (6, .getfield 18, 3) (List.mem_of_getElem? (i := 4) rfl)
theorem dX5_putOne_9 : decode cX5_putOne 9 = .ok (.getfield 30, 3) := DX5_putOne (9, .getfield 30, 3) (List.mem_of_getElem? (i := 5) rfl)
theorem dX5_putOne_12 : decode cX5_putOne 12 = .ok (.iload_n 2, 1) := DX5_putOne (12, .iload_n 2, 1) (List.mem_of_getElem? (i := 6) rfl)
theorem dX5_putOne_13 : decode cX5_putOne 13 = .ok (.iaload, 1) := DX5_putOne (13, .iaload, 1) (List.mem_of_getElem? (i := 7) rfl)
theorem dX5_putOne_14 : decode cX5_putOne 14 = .ok (.istore 4, 2) := DX5_putOne (14, .istore 4, 2) (List.mem_of_getElem? (i := 8) rfl)
theorem dX5_putOne_16 : decode cX5_putOne 16 = .ok (.aload_n 0, 1) := DX5_putOne (16, .aload_n 0, 1) (List.mem_of_getElem? (i := 9) rfl)
theorem dX5_putOne_17 : decode cX5_putOne 17 = .ok (.getfield 9, 3) := DX5_putOne (17, .getfield 9, 3) (List.mem_of_getElem? (i := 10) rfl)
theorem dX5_putOne_20 : decode cX5_putOne 20 = .ok (.iload_n 1, 1) := DX5_putOne (20, .iload_n 1, 1) (List.mem_of_getElem? (i := 11) rfl)
theorem dX5_putOne_21 : decode cX5_putOne 21 = .ok (.bipush 84, 2) := DX5_putOne (21, .bipush 84, 2) (List.mem_of_getElem? (i := 12) rfl)
theorem dX5_putOne_23 : decode cX5_putOne 23 = .ok (.imul, 1) := DX5_putOne (23, .imul, 1) (List.mem_of_getElem? (i := 13) rfl)
theorem dX5_putOne_24 : decode cX5_putOne 24 = .ok (.iload 4, 2) := DX5_putOne (24, .iload 4, 2) (List.mem_of_getElem? (i := 14) rfl)
theorem dX5_putOne_26 : decode cX5_putOne 26 = .ok (.iadd, 1) := DX5_putOne (26, .iadd, 1) (List.mem_of_getElem? (i := 15) rfl)
theorem dX5_putOne_27 : decode cX5_putOne 27 = .ok (.iload_n 3, 1) := DX5_putOne (27, .iload_n 3, 1) (List.mem_of_getElem? (i := 16) rfl)
theorem dX5_putOne_28 : decode cX5_putOne 28 = .ok (.iastore, 1) := DX5_putOne (28, .iastore, 1) (List.mem_of_getElem? (i := 17) rfl)
theorem dX5_putOne_29 : decode cX5_putOne 29 = .ok (.aload_n 0, 1) := DX5_putOne (29, .aload_n 0, 1) (List.mem_of_getElem? (i := 18) rfl)
theorem dX5_putOne_30 : decode cX5_putOne 30 = .ok (.getfield 15, 3) := DX5_putOne (30, .getfield 15, 3) (List.mem_of_getElem? (i := 19) rfl)
theorem dX5_putOne_33 : decode cX5_putOne 33 = .ok (.iload_n 1, 1) := DX5_putOne (33, .iload_n 1, 1) (List.mem_of_getElem? (i := 20) rfl)
theorem dX5_putOne_34 : decode cX5_putOne 34 = .ok (.iload_n 3, 1) := DX5_putOne (34, .iload_n 3, 1) (List.mem_of_getElem? (i := 21) rfl)
theorem dX5_putOne_35 : decode cX5_putOne 35 = .ok (.ifCond .ne 7, 3) := DX5_putOne (35, .ifCond .ne 7, 3) (List.mem_of_getElem? (i := 22) rfl)
theorem dX5_putOne_38 : decode cX5_putOne 38 = .ok (.iconst 0, 1) := DX5_putOne (38, .iconst 0, 1) (List.mem_of_getElem? (i := 23) rfl)
theorem dX5_putOne_39 : decode cX5_putOne 39 = .ok (.goto 7, 3) := DX5_putOne (39, .goto 7, 3) (List.mem_of_getElem? (i := 24) rfl)
theorem dX5_putOne_42 : decode cX5_putOne 42 = .ok (.iload 4, 2) := DX5_putOne (42, .iload 4, 2) (List.mem_of_getElem? (i := 25) rfl)
theorem dX5_putOne_44 : decode cX5_putOne 44 = .ok (.iconst 1, 1) := DX5_putOne (44, .iconst 1, 1) (List.mem_of_getElem? (i := 26) rfl)
theorem dX5_putOne_45 : decode cX5_putOne 45 = .ok (.iadd, 1) := DX5_putOne (45, .iadd, 1) (List.mem_of_getElem? (i := 27) rfl)
theorem dX5_putOne_46 : decode cX5_putOne 46 = .ok (.iastore, 1) := DX5_putOne (46, .iastore, 1) (List.mem_of_getElem? (i := 28) rfl)
theorem dX5_putOne_47 : decode cX5_putOne 47 = .ok (.return_, 1) := DX5_putOne (47, .return_, 1) (List.mem_of_getElem? (i := 29) rfl)
noncomputable def fX5_putOne_L46 (s1 : Int32) (s2 : Int32) (σ : Mem) : Option (Mem) :=
  chk (inb s1 125) <|
  some (up2 σ 16 s1.toNatClampNeg s2)
set_option maxHeartbeats 4000000 in
set_option maxRecDepth 100000 in
theorem tX5_putOne_L46 {E : Gx} {cI : ClassId} {ad : Nat → Nat} (C : Cx E rmX5_putOne cI layX ad 5 RX5 cX5_putOne) {out : Mem} (K0 : KV E rmX5_putOne cI layX ad 5 cX5_putOne out) {s1 : Int32} {s2 : Int32} {σ : Mem} (h : fX5_putOne_L46 s1 s2 σ = some out) : G E rmX5_putOne cI layX ad 5 46 [] [.int s2, .int s1, .ref (ad 16)] σ := by
  unfold fX5_putOne_L46 at h
  refine g_iast 47 C rfl dX5_putOne_46 rfl h (fun h => ?_)
  cases h
  exact K0 _ _ dX5_putOne_47
noncomputable def fX5_putOne (a1 : Int32) (a2 : Int32) (a3 : Int32) (σ : Mem) : Option (Mem) :=
  (fX5_clear a1 σ).bind fun o1 =>
  chk (inb a2 343) <|
  chk (inb ((a1 * 84) + (o1 13 a2.toNatClampNeg)) 10500) <|
  if a3 = 0 then
    fX5_putOne_L46 a1 0 (up2 o1 15 ((a1 * 84) + (o1 13 a2.toNatClampNeg)).toNatClampNeg a3)
  else
    fX5_putOne_L46 a1 ((o1 13 a2.toNatClampNeg) + 1) (up2 o1 15 ((a1 * 84) + (o1 13 a2.toNatClampNeg)).toNatClampNeg a3)
set_option maxHeartbeats 4000000 in
set_option maxRecDepth 100000 in
theorem mX5_putOne {l : Launch} {D : va_G} {cI : ClassId} {ad : Nat → Nat} {a1 : Int32} {a2 : Int32} {a3 : Int32} {σ : Mem} {out : Mem} (h : fX5_putOne a1 a2 a3 σ = some out) : MV l D cI layX ad yX5_putOne cX5_putOne 5 rmX5_putOne [.ref (ad 5), .int a1, .int a2, .int a3] σ out := by
  refine met_v (by decide) (Nat.le_of_ble_eq_true rfl) (fun E C K0 => ?_)
  show G E rmX5_putOne cI layX ad 5 0 [(0, .ref (ad 5)), (1, .int a1), (2, .int a2), (3, .int a3)] [] σ
  unfold fX5_putOne at h
  refine g_aload_n 1 C dX5_putOne_0 rfl (j := 0) rfl rfl ?_
  refine g_iload_n 2 C dX5_putOne_1 rfl (j := 1) rfl rfl ?_
  refine g_cvv 5 C (As := [.int a1]) (fun _ h => mX5_clear (a1 := a1) (σ := σ) h) wl_X5_26 wi_X5_clear wz_X5_clear wc_X5_clear wn_X5 qX5_clear rfl rfl ⟨Nat.le_of_ble_eq_true rfl, Nat.le_of_ble_eq_true rfl⟩ rfl rfl rfl rfl (Nat.le_of_ble_eq_true rfl) dX5_putOne_2 rfl h (fun o1 h => ?_)
  refine g_aload_n 6 C dX5_putOne_5 rfl (j := 0) rfl rfl ?_
  refine g_getr 9 (j := 0) C rfl rfl wu_X5 (by decide) wf_X5_18 rfl dX5_putOne_6 rfl ?_
  refine g_getrN 12 (j := 3) C rfl rfl wu_X2 (by decide) (List.mem_of_getElem? (i := 32) rfl) rfl dX5_putOne_9 rfl ?_
  refine g_iload_n 13 C dX5_putOne_12 rfl (j := 2) rfl rfl ?_
  refine g_iald 14 C rfl dX5_putOne_13 rfl h (fun h => ?_)
  refine g_istore 16 [(4, .int (o1 13 a2.toNatClampNeg)), (0, .ref (ad 5)), (1, .int a1), (2, .int a2), (3, .int a3)] C dX5_putOne_14 (by decide) rfl rfl ?_
  refine g_aload_n 17 C dX5_putOne_16 rfl (j := 1) rfl rfl ?_
  refine g_getr 20 (j := 2) C rfl rfl wu_X5 (by decide) wf_X5_9 rfl dX5_putOne_17 rfl ?_
  refine g_iload_n 21 C dX5_putOne_20 rfl (j := 2) rfl rfl ?_
  refine g_bipush 23 (v := 84) C dX5_putOne_21 (by decide) rfl ?_
  refine g_imul 24 C dX5_putOne_23 rfl ?_
  refine g_iload 26 C dX5_putOne_24 (j := 0) rfl rfl ?_
  refine g_iadd 27 C dX5_putOne_26 rfl ?_
  refine g_iload_n 28 C dX5_putOne_27 rfl (j := 4) rfl rfl ?_
  refine g_iast 29 C rfl dX5_putOne_28 rfl h (fun h => ?_)
  refine g_aload_n 30 C dX5_putOne_29 rfl (j := 1) rfl rfl ?_
  refine g_getr 33 (j := 3) C rfl rfl wu_X5 (by decide) wf_X5_15 rfl dX5_putOne_30 rfl ?_
  refine g_iload_n 34 C dX5_putOne_33 rfl (j := 2) rfl rfl ?_
  refine g_iload_n 35 C dX5_putOne_34 rfl (j := 4) rfl rfl ?_
  refine g_if_ne 42 38 C dX5_putOne_35 (by decide) rfl h (fun h => ?_) (fun h => ?_)
  · refine g_iconst 39 (v := 0) C dX5_putOne_38 (by decide) rfl ?_
    refine g_goto 46 C dX5_putOne_39 (by decide) ?_
    exact g_sub [] (tX5_putOne_L46 (s1 := a1) (s2 := 0) (σ := up2 o1 15 ((a1 * 84) + (o1 13 a2.toNatClampNeg)).toNatClampNeg a3) C K0 h) rfl
  · refine g_iload 44 C dX5_putOne_42 (j := 0) rfl rfl ?_
    refine g_iconst 45 (v := 1) C dX5_putOne_44 (by decide) rfl ?_
    refine g_iadd 46 C dX5_putOne_45 rfl ?_
    exact g_sub [] (tX5_putOne_L46 (s1 := a1) (s2 := ((o1 13 a2.toNatClampNeg) + 1)) (σ := up2 o1 15 ((a1 * 84) + (o1 13 a2.toNatClampNeg)).toNatClampNeg a3) C K0 h) rfl

/-! LoopReducer$Polys.putSum(IIII)V -/
abbrev rmX5_putSum : Room := { frames := 1, cells := 0, slots := 0, locals := 21 }
theorem qX5_putSum : yX5_putSum.cls ≠ "java/lang/invoke/MethodHandle" ∧ yX5_putSum.cls ≠ "java/lang/invoke/VarHandle" ∧ (parseMethodDescriptor yX5_putSum.desc).map (fun d => d.parameters.length) = some 4 := by decide +kernel
theorem DX5_putSum : ∀ q ∈ ([(0, .aload_n 0, 1), (1, .getfield 15, 3), (4, .iload_n 1, 1), (5, .iaload, 1), (6, .aload_n 0, 1), (7, .getfield 15, 3), (10, .iload_n 2, 1), (11, .iaload, 1), (12, .aload_n 0, 1), (13, .getfield 15, 3), (16, .iload_n 3, 1), (17, .iaload, 1), (18, .invokestatic 35, 3), (21, .invokestatic 35, 3), (24, .istore 5, 2), (26, .iconst 0, 1), (27, .istore 6, 2), (29, .iconst 0, 1), (30, .istore 7, 2), (32, .iload 7, 2), (34, .iload 5, 2), (36, .if_icmp .ge 78, 3), (39, .iload 4, 2), (41, .aload_n 0, 1), (42, .getfield 9, 3), (45, .iload_n 3, 1), (46, .bipush 84, 2), (48, .imul, 1), (49, .iload 7, 2), (51, .iadd, 1), (52, .iaload, 1), (53, .imul, 1), (54, .istore 8, 2), (56, .aload_n 0, 1), (57, .getfield 9, 3), (60, .iload_n 2, 1), (61, .bipush 84, 2), (63, .imul, 1), (64, .iload 7, 2), (66, .iadd, 1), (67, .iaload, 1), (68, .iload 8, 2), (70, .iadd, 1), (71, .aload_n 0, 1), (72, .getfield 22, 3), (75, .iand, 1), (76, .istore 9, 2), (78, .aload_n 0, 1), (79, .getfield 9, 3), (82, .iload_n 1, 1), (83, .bipush 84, 2), (85, .imul, 1), (86, .iload 7, 2), (88, .iadd, 1), (89, .iload 9, 2), (91, .iastore, 1), (92, .iload 9, 2), (94, .ifCond .ne 8, 3), (97, .iload 6, 2), (99, .goto 7, 3), (102, .iload 7, 2), (104, .iconst 1, 1), (105, .iadd, 1), (106, .istore 6, 2), (108, .iinc 7 1, 3), (111, .goto (-79), 3), (114, .aload_n 0, 1), (115, .getfield 15, 3), (118, .iload_n 1, 1), (119, .iload 6, 2), (121, .iastore, 1), (122, .return_, 1)] : List (Nat × Instr × Nat)), decode cX5_putSum q.1 = .ok q.2 := by decide +kernel
theorem dX5_putSum_0 : decode cX5_putSum 0 = .ok (.aload_n 0, 1) := DX5_putSum (0, .aload_n 0, 1) (List.mem_of_getElem? (i := 0) rfl)
theorem dX5_putSum_1 : decode cX5_putSum 1 = .ok (.getfield 15, 3) := DX5_putSum (1, .getfield 15, 3) (List.mem_of_getElem? (i := 1) rfl)
theorem dX5_putSum_4 : decode cX5_putSum 4 = .ok (.iload_n 1, 1) := DX5_putSum (4, .iload_n 1, 1) (List.mem_of_getElem? (i := 2) rfl)
theorem dX5_putSum_5 : decode cX5_putSum 5 = .ok (.iaload, 1) := DX5_putSum (5, .iaload, 1) (List.mem_of_getElem? (i := 3) rfl)
theorem dX5_putSum_6 : decode cX5_putSum 6 = .ok (.aload_n 0, 1) := DX5_putSum (6, .aload_n 0, 1) (List.mem_of_getElem? (i := 4) rfl)
theorem dX5_putSum_7 : decode cX5_putSum 7 = .ok (.getfield 15, 3) := DX5_putSum (7, .getfield 15, 3) (List.mem_of_getElem? (i := 5) rfl)
theorem dX5_putSum_10 : decode cX5_putSum 10 = .ok (.iload_n 2, 1) := DX5_putSum (10, .iload_n 2, 1) (List.mem_of_getElem? (i := 6) rfl)
theorem dX5_putSum_11 : decode cX5_putSum 11 = .ok (.iaload, 1) := DX5_putSum (11, .iaload, 1) (List.mem_of_getElem? (i := 7) rfl)
theorem dX5_putSum_12 : decode cX5_putSum 12 = .ok (.aload_n 0, 1) := DX5_putSum (12, .aload_n 0, 1) (List.mem_of_getElem? (i := 8) rfl)
theorem dX5_putSum_13 : decode cX5_putSum 13 = .ok (.getfield 15, 3) := DX5_putSum (13, .getfield 15, 3) (List.mem_of_getElem? (i := 9) rfl)
theorem dX5_putSum_16 : decode cX5_putSum 16 = .ok (.iload_n 3, 1) := DX5_putSum (16, .iload_n 3, 1) (List.mem_of_getElem? (i := 10) rfl)
theorem dX5_putSum_17 : decode cX5_putSum 17 = .ok (.iaload, 1) := DX5_putSum (17, .iaload, 1) (List.mem_of_getElem? (i := 11) rfl)
theorem dX5_putSum_18 : decode cX5_putSum 18 = .ok (.invokestatic 35, 3) := DX5_putSum (18, .invokestatic 35, 3) (List.mem_of_getElem? (i := 12) rfl)
theorem dX5_putSum_21 : decode cX5_putSum 21 = .ok (.invokestatic 35, 3) := DX5_putSum (21, .invokestatic 35, 3) (List.mem_of_getElem? (i := 13) rfl)
theorem dX5_putSum_24 : decode cX5_putSum 24 = .ok (.istore 5, 2) := DX5_putSum (24, .istore 5, 2) (List.mem_of_getElem? (i := 14) rfl)
theorem dX5_putSum_26 : decode cX5_putSum 26 = .ok (.iconst 0, 1) := DX5_putSum (26, .iconst 0, 1) (List.mem_of_getElem? (i := 15) rfl)
theorem dX5_putSum_27 : decode cX5_putSum 27 = .ok (.istore 6, 2) := DX5_putSum (27, .istore 6, 2) (List.mem_of_getElem? (i := 16) rfl)
theorem dX5_putSum_29 : decode cX5_putSum 29 = .ok (.iconst 0, 1) := DX5_putSum (29, .iconst 0, 1) (List.mem_of_getElem? (i := 17) rfl)
theorem dX5_putSum_30 : decode cX5_putSum 30 = .ok (.istore 7, 2) := DX5_putSum (30, .istore 7, 2) (List.mem_of_getElem? (i := 18) rfl)
theorem dX5_putSum_32 : decode cX5_putSum 32 = .ok (.iload 7, 2) := DX5_putSum (32, .iload 7, 2) (List.mem_of_getElem? (i := 19) rfl)
theorem dX5_putSum_34 : decode cX5_putSum 34 = .ok (.iload 5, 2) := DX5_putSum (34, .iload 5, 2) (List.mem_of_getElem? (i := 20) rfl)
theorem dX5_putSum_36 : decode cX5_putSum 36 = .ok (.if_icmp .ge 78, 3) := DX5_putSum (36, .if_icmp .ge 78, 3) (List.mem_of_getElem? (i := 21) rfl)
theorem dX5_putSum_39 : decode cX5_putSum 39 = .ok (.iload 4, 2) := DX5_putSum (39, .iload 4, 2) (List.mem_of_getElem? (i := 22) rfl)
theorem dX5_putSum_41 : decode cX5_putSum 41 = .ok (.aload_n 0, 1) := DX5_putSum (41, .aload_n 0, 1) (List.mem_of_getElem? (i := 23) rfl)
theorem dX5_putSum_42 : decode cX5_putSum 42 = .ok (.getfield 9, 3) := DX5_putSum (42, .getfield 9, 3) (List.mem_of_getElem? (i := 24) rfl)
theorem dX5_putSum_45 : decode cX5_putSum 45 = .ok (.iload_n 3, 1) := DX5_putSum (45, .iload_n 3, 1) (List.mem_of_getElem? (i := 25) rfl)
theorem dX5_putSum_46 : decode cX5_putSum 46 = .ok (.bipush 84, 2) := DX5_putSum (46, .bipush 84, 2) (List.mem_of_getElem? (i := 26) rfl)
theorem dX5_putSum_48 : decode cX5_putSum 48 = .ok (.imul, 1) := DX5_putSum (48, .imul, 1) (List.mem_of_getElem? (i := 27) rfl)
theorem dX5_putSum_49 : decode cX5_putSum 49 = .ok (.iload 7, 2) := DX5_putSum (49, .iload 7, 2) (List.mem_of_getElem? (i := 28) rfl)
theorem dX5_putSum_51 : decode cX5_putSum 51 = .ok (.iadd, 1) := DX5_putSum (51, .iadd, 1) (List.mem_of_getElem? (i := 29) rfl)
theorem dX5_putSum_52 : decode cX5_putSum 52 = .ok (.iaload, 1) := DX5_putSum (52, .iaload, 1) (List.mem_of_getElem? (i := 30) rfl)
theorem dX5_putSum_53 : decode cX5_putSum 53 = .ok (.imul, 1) := DX5_putSum (53, .imul, 1) (List.mem_of_getElem? (i := 31) rfl)
theorem dX5_putSum_54 : decode cX5_putSum 54 = .ok (.istore 8, 2) := DX5_putSum (54, .istore 8, 2) (List.mem_of_getElem? (i := 32) rfl)
theorem dX5_putSum_56 : decode cX5_putSum 56 = .ok (.aload_n 0, 1) := DX5_putSum (56, .aload_n 0, 1) (List.mem_of_getElem? (i := 33) rfl)
theorem dX5_putSum_57 : decode cX5_putSum 57 = .ok (.getfield 9, 3) := DX5_putSum (57, .getfield 9, 3) (List.mem_of_getElem? (i := 34) rfl)
theorem dX5_putSum_60 : decode cX5_putSum 60 = .ok (.iload_n 2, 1) := DX5_putSum (60, .iload_n 2, 1) (List.mem_of_getElem? (i := 35) rfl)
theorem dX5_putSum_61 : decode cX5_putSum 61 = .ok (.bipush 84, 2) := DX5_putSum (61, .bipush 84, 2) (List.mem_of_getElem? (i := 36) rfl)
theorem dX5_putSum_63 : decode cX5_putSum 63 = .ok (.imul, 1) := DX5_putSum (63, .imul, 1) (List.mem_of_getElem? (i := 37) rfl)
theorem dX5_putSum_64 : decode cX5_putSum 64 = .ok (.iload 7, 2) := DX5_putSum (64, .iload 7, 2) (List.mem_of_getElem? (i := 38) rfl)
theorem dX5_putSum_66 : decode cX5_putSum 66 = .ok (.iadd, 1) := DX5_putSum (66, .iadd, 1) (List.mem_of_getElem? (i := 39) rfl)
theorem dX5_putSum_67 : decode cX5_putSum 67 = .ok (.iaload, 1) := DX5_putSum (67, .iaload, 1) (List.mem_of_getElem? (i := 40) rfl)
theorem dX5_putSum_68 : decode cX5_putSum 68 = .ok (.iload 8, 2) := DX5_putSum (68, .iload 8, 2) (List.mem_of_getElem? (i := 41) rfl)
theorem dX5_putSum_70 : decode cX5_putSum 70 = .ok (.iadd, 1) := DX5_putSum (70, .iadd, 1) (List.mem_of_getElem? (i := 42) rfl)
theorem dX5_putSum_71 : decode cX5_putSum 71 = .ok (.aload_n 0, 1) := DX5_putSum (71, .aload_n 0, 1) (List.mem_of_getElem? (i := 43) rfl)
theorem dX5_putSum_72 : decode cX5_putSum 72 = .ok (.getfield 22, 3) := DX5_putSum (72, .getfield 22, 3) (List.mem_of_getElem? (i := 44) rfl)
theorem dX5_putSum_75 : decode cX5_putSum 75 = .ok (.iand, 1) := DX5_putSum (75, .iand, 1) (List.mem_of_getElem? (i := 45) rfl)
theorem dX5_putSum_76 : decode cX5_putSum 76 = .ok (.istore 9, 2) := DX5_putSum (76, .istore 9, 2) (List.mem_of_getElem? (i := 46) rfl)
theorem dX5_putSum_78 : decode cX5_putSum 78 = .ok (.aload_n 0, 1) := DX5_putSum (78, .aload_n 0, 1) (List.mem_of_getElem? (i := 47) rfl)
theorem dX5_putSum_79 : decode cX5_putSum 79 = .ok (.getfield 9, 3) := DX5_putSum (79, .getfield 9, 3) (List.mem_of_getElem? (i := 48) rfl)
theorem dX5_putSum_82 : decode cX5_putSum 82 = .ok (.iload_n 1, 1) := DX5_putSum (82, .iload_n 1, 1) (List.mem_of_getElem? (i := 49) rfl)
theorem dX5_putSum_83 : decode cX5_putSum 83 = .ok (.bipush 84, 2) := DX5_putSum (83, .bipush 84, 2) (List.mem_of_getElem? (i := 50) rfl)
theorem dX5_putSum_85 : decode cX5_putSum 85 = .ok (.imul, 1) := DX5_putSum (85, .imul, 1) (List.mem_of_getElem? (i := 51) rfl)
theorem dX5_putSum_86 : decode cX5_putSum 86 = .ok (.iload 7, 2) := DX5_putSum (86, .iload 7, 2) (List.mem_of_getElem? (i := 52) rfl)
theorem dX5_putSum_88 : decode cX5_putSum 88 = .ok (.iadd, 1) := DX5_putSum (88, .iadd, 1) (List.mem_of_getElem? (i := 53) rfl)
theorem dX5_putSum_89 : decode cX5_putSum 89 = .ok (.iload 9, 2) := DX5_putSum (89, .iload 9, 2) (List.mem_of_getElem? (i := 54) rfl)
theorem dX5_putSum_91 : decode cX5_putSum 91 = .ok (.iastore, 1) := DX5_putSum (91, .iastore, 1) (List.mem_of_getElem? (i := 55) rfl)
theorem dX5_putSum_92 : decode cX5_putSum 92 = .ok (.iload 9, 2) := DX5_putSum (92, .iload 9, 2) (List.mem_of_getElem? (i := 56) rfl)
theorem dX5_putSum_94 : decode cX5_putSum 94 = .ok (.ifCond .ne 8, 3) := DX5_putSum (94, .ifCond .ne 8, 3) (List.mem_of_getElem? (i := 57) rfl)
theorem dX5_putSum_97 : decode cX5_putSum 97 = .ok (.iload 6, 2) := DX5_putSum (97, .iload 6, 2) (List.mem_of_getElem? (i := 58) rfl)
theorem dX5_putSum_99 : decode cX5_putSum 99 = .ok (.goto 7, 3) := DX5_putSum (99, .goto 7, 3) (List.mem_of_getElem? (i := 59) rfl)
theorem dX5_putSum_102 : decode cX5_putSum 102 = .ok (.iload 7, 2) := DX5_putSum (102, .iload 7, 2) (List.mem_of_getElem? (i := 60) rfl)
theorem dX5_putSum_104 : decode cX5_putSum 104 = .ok (.iconst 1, 1) := DX5_putSum (104, .iconst 1, 1) (List.mem_of_getElem? (i := 61) rfl)
theorem dX5_putSum_105 : decode cX5_putSum 105 = .ok (.iadd, 1) := DX5_putSum (105, .iadd, 1) (List.mem_of_getElem? (i := 62) rfl)
theorem dX5_putSum_106 : decode cX5_putSum 106 = .ok (.istore 6, 2) := DX5_putSum (106, .istore 6, 2) (List.mem_of_getElem? (i := 63) rfl)
theorem dX5_putSum_108 : decode cX5_putSum 108 = .ok (.iinc 7 1, 3) := DX5_putSum (108, .iinc 7 1, 3) (List.mem_of_getElem? (i := 64) rfl)
theorem dX5_putSum_111 : decode cX5_putSum 111 = .ok (.goto (-79), 3) := DX5_putSum (111, .goto (-79), 3) (List.mem_of_getElem? (i := 65) rfl)
theorem dX5_putSum_114 : decode cX5_putSum 114 = .ok (.aload_n 0, 1) := DX5_putSum (114, .aload_n 0, 1) (List.mem_of_getElem? (i := 66) rfl)
theorem dX5_putSum_115 : decode cX5_putSum 115 = .ok (.getfield 15, 3) := DX5_putSum (115, .getfield 15, 3) (List.mem_of_getElem? (i := 67) rfl)
theorem dX5_putSum_118 : decode cX5_putSum 118 = .ok (.iload_n 1, 1) := DX5_putSum (118, .iload_n 1, 1) (List.mem_of_getElem? (i := 68) rfl)
theorem dX5_putSum_119 : decode cX5_putSum 119 = .ok (.iload 6, 2) := DX5_putSum (119, .iload 6, 2) (List.mem_of_getElem? (i := 69) rfl)
theorem dX5_putSum_121 : decode cX5_putSum 121 = .ok (.iastore, 1) := DX5_putSum (121, .iastore, 1) (List.mem_of_getElem? (i := 70) rfl)
theorem dX5_putSum_122 : decode cX5_putSum 122 = .ok (.return_, 1) := DX5_putSum (122, .return_, 1) (List.mem_of_getElem? (i := 71) rfl)
noncomputable def fX5_putSum_L106 (l1 : Int32) (l2 : Int32) (l3 : Int32) (l4 : Int32) (l5 : Int32) (l7 : Int32) (s0 : Int32) (σ : Mem) : Option ((Int32 × Int32 × Mem) ⊕ (Int32 × Mem)) :=
  some (.inl (s0, l7 + 1, σ))
set_option maxHeartbeats 4000000 in
set_option maxRecDepth 100000 in
theorem tX5_putSum_L106 {E : Gx} {cI : ClassId} {ad : Nat → Nat} (C : Cx E rmX5_putSum cI layX ad 10 RX5 cX5_putSum) {out : Mem} (K0 : KV E rmX5_putSum cI layX ad 10 cX5_putSum out) {l1 : Int32} {l2 : Int32} {l3 : Int32} {l4 : Int32} {l5 : Int32} {l7 : Int32} {s0 : Int32} {σ : Mem} {res : (Int32 × Int32 × Mem) ⊕ (Int32 × Mem)} (h : fX5_putSum_L106 l1 l2 l3 l4 l5 l7 s0 σ = some res) (K : Sum.elim (fun a => G E rmX5_putSum cI layX ad 10 32 [(0, .ref (ad 5)), (1, .int l1), (2, .int l2), (3, .int l3), (4, .int l4), (5, .int l5), (6, .int a.1), (7, .int a.2.1)] [] a.2.2) (fun b => G E rmX5_putSum cI layX ad 10 114 [(0, .ref (ad 5)), (1, .int l1), (6, .int b.1)] [] b.2) res) : G E rmX5_putSum cI layX ad 10 106 [(0, .ref (ad 5)), (1, .int l1), (2, .int l2), (3, .int l3), (4, .int l4), (5, .int l5), (7, .int l7)] [.int s0] σ := by
  unfold fX5_putSum_L106 at h
  refine g_istore 108 [(6, .int s0), (0, .ref (ad 5)), (1, .int l1), (2, .int l2), (3, .int l3), (4, .int l4), (5, .int l5), (7, .int l7)] C dX5_putSum_106 (by decide) rfl rfl ?_
  refine g_iinc 111 [(7, .int (l7 + 1)), (6, .int s0), (0, .ref (ad 5)), (1, .int l1), (2, .int l2), (3, .int l3), (4, .int l4), (5, .int l5)] C dX5_putSum_108 (j := 7) rfl (by rfl) (by decide) rfl rfl ?_
  refine g_goto 32 C dX5_putSum_111 (by decide) ?_
  have hh := end_inl h K
  exact g_sub [2, 3, 4, 5, 6, 7, 1, 0] (hh) rfl
noncomputable def fX5_putSum_B32 (l1 : Int32) (l2 : Int32) (l3 : Int32) (l4 : Int32) (l5 : Int32) (l6 : Int32) (l7 : Int32) (σ : Mem) : Option ((Int32 × Int32 × Mem) ⊕ (Int32 × Mem)) :=
  if l5 ≤ l7 then
    some (.inr (l6, σ))
  else
    chk (inb ((l3 * 84) + l7) 10500) <|
    chk (inb ((l2 * 84) + l7) 10500) <|
    chk (inb ((l1 * 84) + l7) 10500) <|
    if (((σ 15 ((l2 * 84) + l7).toNatClampNeg) + (l4 * (σ 15 ((l3 * 84) + l7).toNatClampNeg))) &&& (σ 5 1)) = 0 then
      fX5_putSum_L106 l1 l2 l3 l4 l5 l7 l6 (up2 σ 15 ((l1 * 84) + l7).toNatClampNeg (((σ 15 ((l2 * 84) + l7).toNatClampNeg) + (l4 * (σ 15 ((l3 * 84) + l7).toNatClampNeg))) &&& (σ 5 1)))
    else
      fX5_putSum_L106 l1 l2 l3 l4 l5 l7 (l7 + 1) (up2 σ 15 ((l1 * 84) + l7).toNatClampNeg (((σ 15 ((l2 * 84) + l7).toNatClampNeg) + (l4 * (σ 15 ((l3 * 84) + l7).toNatClampNeg))) &&& (σ 5 1)))
set_option maxHeartbeats 4000000 in
set_option maxRecDepth 100000 in
theorem tX5_putSum_B32 {E : Gx} {cI : ClassId} {ad : Nat → Nat} (C : Cx E rmX5_putSum cI layX ad 10 RX5 cX5_putSum) {out : Mem} (K0 : KV E rmX5_putSum cI layX ad 10 cX5_putSum out) {l1 : Int32} {l2 : Int32} {l3 : Int32} {l4 : Int32} {l5 : Int32} {l6 : Int32} {l7 : Int32} {σ : Mem} {res : (Int32 × Int32 × Mem) ⊕ (Int32 × Mem)} (h : fX5_putSum_B32 l1 l2 l3 l4 l5 l6 l7 σ = some res) (K : Sum.elim (fun a => G E rmX5_putSum cI layX ad 10 32 [(0, .ref (ad 5)), (1, .int l1), (2, .int l2), (3, .int l3), (4, .int l4), (5, .int l5), (6, .int a.1), (7, .int a.2.1)] [] a.2.2) (fun b => G E rmX5_putSum cI layX ad 10 114 [(0, .ref (ad 5)), (1, .int l1), (6, .int b.1)] [] b.2) res) : G E rmX5_putSum cI layX ad 10 32 [(0, .ref (ad 5)), (1, .int l1), (2, .int l2), (3, .int l3), (4, .int l4), (5, .int l5), (6, .int l6), (7, .int l7)] [] σ := by
  unfold fX5_putSum_B32 at h
  refine g_iload 34 C dX5_putSum_32 (j := 7) rfl rfl ?_
  refine g_iload 36 C dX5_putSum_34 (j := 5) rfl rfl ?_
  refine g_icmp_ge 114 39 C dX5_putSum_36 (by decide) rfl h (fun h => ?_) (fun h => ?_)
  · have hh := end_inr h K
    exact g_sub [0, 1, 6] (hh) rfl
  · refine g_iload 41 C dX5_putSum_39 (j := 4) rfl rfl ?_
    refine g_aload_n 42 C dX5_putSum_41 rfl (j := 0) rfl rfl ?_
    refine g_getr 45 (j := 2) C rfl rfl wu_X5 (by decide) wf_X5_9 rfl dX5_putSum_42 rfl ?_
    refine g_iload_n 46 C dX5_putSum_45 rfl (j := 3) rfl rfl ?_
    refine g_bipush 48 (v := 84) C dX5_putSum_46 (by decide) rfl ?_
    refine g_imul 49 C dX5_putSum_48 rfl ?_
    refine g_iload 51 C dX5_putSum_49 (j := 7) rfl rfl ?_
    refine g_iadd 52 C dX5_putSum_51 rfl ?_
    refine g_iald 53 C rfl dX5_putSum_52 rfl h (fun h => ?_)
    refine g_imul 54 C dX5_putSum_53 rfl ?_
    refine g_istore 56 [(8, .int (l4 * (σ 15 ((l3 * 84) + l7).toNatClampNeg))), (0, .ref (ad 5)), (1, .int l1), (2, .int l2), (3, .int l3), (4, .int l4), (5, .int l5), (6, .int l6), (7, .int l7)] C dX5_putSum_54 (by decide) rfl rfl ?_
    refine g_aload_n 57 C dX5_putSum_56 rfl (j := 1) rfl rfl ?_
    refine g_getr 60 (j := 2) C rfl rfl wu_X5 (by decide) wf_X5_9 rfl dX5_putSum_57 rfl ?_
    refine g_iload_n 61 C dX5_putSum_60 rfl (j := 3) rfl rfl ?_
    refine g_bipush 63 (v := 84) C dX5_putSum_61 (by decide) rfl ?_
    refine g_imul 64 C dX5_putSum_63 rfl ?_
    refine g_iload 66 C dX5_putSum_64 (j := 8) rfl rfl ?_
    refine g_iadd 67 C dX5_putSum_66 rfl ?_
    refine g_iald 68 C rfl dX5_putSum_67 rfl h (fun h => ?_)
    refine g_iload 70 C dX5_putSum_68 (j := 0) rfl rfl ?_
    refine g_iadd 71 C dX5_putSum_70 rfl ?_
    refine g_aload_n 72 C dX5_putSum_71 rfl (j := 1) rfl rfl ?_
    refine g_geti 75 (j := 1) C rfl rfl wu_X5 (by decide) wf_X5_22 rfl dX5_putSum_72 rfl ?_
    refine g_iand 76 C dX5_putSum_75 rfl ?_
    refine g_istore 78 [(9, .int (((σ 15 ((l2 * 84) + l7).toNatClampNeg) + (l4 * (σ 15 ((l3 * 84) + l7).toNatClampNeg))) &&& (σ 5 1))), (8, .int (l4 * (σ 15 ((l3 * 84) + l7).toNatClampNeg))), (0, .ref (ad 5)), (1, .int l1), (2, .int l2), (3, .int l3), (4, .int l4), (5, .int l5), (6, .int l6), (7, .int l7)] C dX5_putSum_76 (by decide) rfl rfl ?_
    refine g_aload_n 79 C dX5_putSum_78 rfl (j := 2) rfl rfl ?_
    refine g_getr 82 (j := 2) C rfl rfl wu_X5 (by decide) wf_X5_9 rfl dX5_putSum_79 rfl ?_
    refine g_iload_n 83 C dX5_putSum_82 rfl (j := 3) rfl rfl ?_
    refine g_bipush 85 (v := 84) C dX5_putSum_83 (by decide) rfl ?_
    refine g_imul 86 C dX5_putSum_85 rfl ?_
    refine g_iload 88 C dX5_putSum_86 (j := 9) rfl rfl ?_
    refine g_iadd 89 C dX5_putSum_88 rfl ?_
    refine g_iload 91 C dX5_putSum_89 (j := 0) rfl rfl ?_
    refine g_iast 92 C rfl dX5_putSum_91 rfl h (fun h => ?_)
    refine g_iload 94 C dX5_putSum_92 (j := 0) rfl rfl ?_
    refine g_if_ne 102 97 C dX5_putSum_94 (by decide) rfl h (fun h => ?_) (fun h => ?_)
    · refine g_iload 99 C dX5_putSum_97 (j := 8) rfl rfl ?_
      refine g_goto 106 C dX5_putSum_99 (by decide) ?_
      exact g_sub [2, 3, 4, 5, 6, 7, 9] (tX5_putSum_L106 (l1 := l1) (l2 := l2) (l3 := l3) (l4 := l4) (l5 := l5) (l7 := l7) (s0 := l6) (σ := up2 σ 15 ((l1 * 84) + l7).toNatClampNeg (((σ 15 ((l2 * 84) + l7).toNatClampNeg) + (l4 * (σ 15 ((l3 * 84) + l7).toNatClampNeg))) &&& (σ 5 1))) C K0 h K) rfl
    · refine g_iload 104 C dX5_putSum_102 (j := 9) rfl rfl ?_
      refine g_iconst 105 (v := 1) C dX5_putSum_104 (by decide) rfl ?_
      refine g_iadd 106 C dX5_putSum_105 rfl ?_
      exact g_sub [2, 3, 4, 5, 6, 7, 9] (tX5_putSum_L106 (l1 := l1) (l2 := l2) (l3 := l3) (l4 := l4) (l5 := l5) (l7 := l7) (s0 := (l7 + 1)) (σ := up2 σ 15 ((l1 * 84) + l7).toNatClampNeg (((σ 15 ((l2 * 84) + l7).toNatClampNeg) + (l4 * (σ 15 ((l3 * 84) + l7).toNatClampNeg))) &&& (σ 5 1))) C K0 h K) rfl
noncomputable def fX5_putSum_L114 (l1 : Int32) (l6 : Int32) (σ : Mem) : Option (Mem) :=
  chk (inb l1 125) <|
  some (up2 σ 16 l1.toNatClampNeg l6)
set_option maxHeartbeats 4000000 in
set_option maxRecDepth 100000 in
theorem tX5_putSum_L114 {E : Gx} {cI : ClassId} {ad : Nat → Nat} (C : Cx E rmX5_putSum cI layX ad 10 RX5 cX5_putSum) {out : Mem} (K0 : KV E rmX5_putSum cI layX ad 10 cX5_putSum out) {l1 : Int32} {l6 : Int32} {σ : Mem} (h : fX5_putSum_L114 l1 l6 σ = some out) : G E rmX5_putSum cI layX ad 10 114 [(0, .ref (ad 5)), (1, .int l1), (6, .int l6)] [] σ := by
  unfold fX5_putSum_L114 at h
  refine g_aload_n 115 C dX5_putSum_114 rfl (j := 0) rfl rfl ?_
  refine g_getr 118 (j := 3) C rfl rfl wu_X5 (by decide) wf_X5_15 rfl dX5_putSum_115 rfl ?_
  refine g_iload_n 119 C dX5_putSum_118 rfl (j := 1) rfl rfl ?_
  refine g_iload 121 C dX5_putSum_119 (j := 2) rfl rfl ?_
  refine g_iast 122 C rfl dX5_putSum_121 rfl h (fun h => ?_)
  cases h
  exact K0 _ _ dX5_putSum_122
noncomputable def fX5_putSum (a1 : Int32) (a2 : Int32) (a3 : Int32) (a4 : Int32) (σ : Mem) : Option (Mem) :=
  chk (inb a1 125) <|
  chk (inb a2 125) <|
  chk (inb a3 125) <|
  (loop (fun a => fX5_putSum_B32 a1 a2 a3 a4 (if (σ 16 a1.toNatClampNeg) < (if (σ 16 a2.toNatClampNeg) < (σ 16 a3.toNatClampNeg) then (σ 16 a3.toNatClampNeg) else (σ 16 a2.toNatClampNeg)) then (if (σ 16 a2.toNatClampNeg) < (σ 16 a3.toNatClampNeg) then (σ 16 a3.toNatClampNeg) else (σ 16 a2.toNatClampNeg)) else (σ 16 a1.toNatClampNeg)) a.1 a.2.1 a.2.2) (0, 0, σ)).bind fun b1 =>
  fX5_putSum_L114 a1 b1.1 b1.2
set_option maxHeartbeats 4000000 in
set_option maxRecDepth 100000 in
theorem mX5_putSum {l : Launch} {D : va_G} {cI : ClassId} {ad : Nat → Nat} {a1 : Int32} {a2 : Int32} {a3 : Int32} {a4 : Int32} {σ : Mem} {out : Mem} (h : fX5_putSum a1 a2 a3 a4 σ = some out) : MV l D cI layX ad yX5_putSum cX5_putSum 10 rmX5_putSum [.ref (ad 5), .int a1, .int a2, .int a3, .int a4] σ out := by
  refine met_v (by decide) (Nat.le_of_ble_eq_true rfl) (fun E C K0 => ?_)
  show G E rmX5_putSum cI layX ad 10 0 [(0, .ref (ad 5)), (1, .int a1), (2, .int a2), (3, .int a3), (4, .int a4)] [] σ
  unfold fX5_putSum at h
  refine g_aload_n 1 C dX5_putSum_0 rfl (j := 0) rfl rfl ?_
  refine g_getr 4 (j := 3) C rfl rfl wu_X5 (by decide) wf_X5_15 rfl dX5_putSum_1 rfl ?_
  refine g_iload_n 5 C dX5_putSum_4 rfl (j := 1) rfl rfl ?_
  refine g_iald 6 C rfl dX5_putSum_5 rfl h (fun h => ?_)
  refine g_aload_n 7 C dX5_putSum_6 rfl (j := 0) rfl rfl ?_
  refine g_getr 10 (j := 3) C rfl rfl wu_X5 (by decide) wf_X5_15 rfl dX5_putSum_7 rfl ?_
  refine g_iload_n 11 C dX5_putSum_10 rfl (j := 2) rfl rfl ?_
  refine g_iald 12 C rfl dX5_putSum_11 rfl h (fun h => ?_)
  refine g_aload_n 13 C dX5_putSum_12 rfl (j := 0) rfl rfl ?_
  refine g_getr 16 (j := 3) C rfl rfl wu_X5 (by decide) wf_X5_15 rfl dX5_putSum_13 rfl ?_
  refine g_iload_n 17 C dX5_putSum_16 rfl (j := 3) rfl rfl ?_
  refine g_iald 18 C rfl dX5_putSum_17 rfl h (fun h => ?_)
  refine g_mmax 21 C wl_X5_35 wM_st wM_in wM_cmax (by decide) (Nat.le_of_ble_eq_true rfl) dX5_putSum_18 rfl ?_
  refine g_mmax 24 C wl_X5_35 wM_st wM_in wM_cmax (by decide) (Nat.le_of_ble_eq_true rfl) dX5_putSum_21 rfl ?_
  refine g_istore 26 [(5, .int (if (σ 16 a1.toNatClampNeg) < (if (σ 16 a2.toNatClampNeg) < (σ 16 a3.toNatClampNeg) then (σ 16 a3.toNatClampNeg) else (σ 16 a2.toNatClampNeg)) then (if (σ 16 a2.toNatClampNeg) < (σ 16 a3.toNatClampNeg) then (σ 16 a3.toNatClampNeg) else (σ 16 a2.toNatClampNeg)) else (σ 16 a1.toNatClampNeg))), (0, .ref (ad 5)), (1, .int a1), (2, .int a2), (3, .int a3), (4, .int a4)] C dX5_putSum_24 (by decide) rfl rfl ?_
  refine g_iconst 27 (v := 0) C dX5_putSum_26 (by decide) rfl ?_
  refine g_istore 29 [(6, .int 0), (5, .int (if (σ 16 a1.toNatClampNeg) < (if (σ 16 a2.toNatClampNeg) < (σ 16 a3.toNatClampNeg) then (σ 16 a3.toNatClampNeg) else (σ 16 a2.toNatClampNeg)) then (if (σ 16 a2.toNatClampNeg) < (σ 16 a3.toNatClampNeg) then (σ 16 a3.toNatClampNeg) else (σ 16 a2.toNatClampNeg)) else (σ 16 a1.toNatClampNeg))), (0, .ref (ad 5)), (1, .int a1), (2, .int a2), (3, .int a3), (4, .int a4)] C dX5_putSum_27 (by decide) rfl rfl ?_
  refine g_iconst 30 (v := 0) C dX5_putSum_29 (by decide) rfl ?_
  refine g_istore 32 [(7, .int 0), (6, .int 0), (5, .int (if (σ 16 a1.toNatClampNeg) < (if (σ 16 a2.toNatClampNeg) < (σ 16 a3.toNatClampNeg) then (σ 16 a3.toNatClampNeg) else (σ 16 a2.toNatClampNeg)) then (if (σ 16 a2.toNatClampNeg) < (σ 16 a3.toNatClampNeg) then (σ 16 a3.toNatClampNeg) else (σ 16 a2.toNatClampNeg)) else (σ 16 a1.toNatClampNeg))), (0, .ref (ad 5)), (1, .int a1), (2, .int a2), (3, .int a3), (4, .int a4)] C dX5_putSum_30 (by decide) rfl rfl ?_
  obtain ⟨b1, hb, h⟩ := bind_some h
  refine g_sub [3, 4, 5, 6, 7, 2, 1, 0] (g_loop (a := (0, 0, σ)) (fun a => G E rmX5_putSum cI layX ad 10 32 [(0, .ref (ad 5)), (1, .int a1), (2, .int a2), (3, .int a3), (4, .int a4), (5, .int (if (σ 16 a1.toNatClampNeg) < (if (σ 16 a2.toNatClampNeg) < (σ 16 a3.toNatClampNeg) then (σ 16 a3.toNatClampNeg) else (σ 16 a2.toNatClampNeg)) then (if (σ 16 a2.toNatClampNeg) < (σ 16 a3.toNatClampNeg) then (σ 16 a3.toNatClampNeg) else (σ 16 a2.toNatClampNeg)) else (σ 16 a1.toNatClampNeg))), (6, .int a.1), (7, .int a.2.1)] [] a.2.2) (fun b => G E rmX5_putSum cI layX ad 10 114 [(0, .ref (ad 5)), (1, .int a1), (6, .int b.1)] [] b.2) hb (fun a res h K => tX5_putSum_B32 (l1 := a1) (l2 := a2) (l3 := a3) (l4 := a4) (l5 := (if (σ 16 a1.toNatClampNeg) < (if (σ 16 a2.toNatClampNeg) < (σ 16 a3.toNatClampNeg) then (σ 16 a3.toNatClampNeg) else (σ 16 a2.toNatClampNeg)) then (if (σ 16 a2.toNatClampNeg) < (σ 16 a3.toNatClampNeg) then (σ 16 a3.toNatClampNeg) else (σ 16 a2.toNatClampNeg)) else (σ 16 a1.toNatClampNeg))) (l6 := a.1) (l7 := a.2.1) (σ := a.2.2) (res := res) C K0 h K) ?_) rfl
  show G E rmX5_putSum cI layX ad 10 114 [(0, .ref (ad 5)), (1, .int a1), (6, .int b1.1)] [] b1.2
  exact tX5_putSum_L114 (l1 := a1) (l6 := b1.1) (σ := b1.2) C K0 h

/-! LoopReducer$Polys.trim(I)V -/
abbrev rmX5_trim : Room := { frames := 0, cells := 0, slots := 0, locals := 0 }
theorem qX5_trim : yX5_trim.cls ≠ "java/lang/invoke/MethodHandle" ∧ yX5_trim.cls ≠ "java/lang/invoke/VarHandle" ∧ (parseMethodDescriptor yX5_trim.desc).map (fun d => d.parameters.length) = some 1 := by decide +kernel
theorem DX5_trim : ∀ q ∈ ([(0, .aload_n 0, 1), (1, .getfield 15, 3), (4, .iload_n 1, 1), (5, .iaload, 1), (6, .istore_n 2, 1), (7, .iload_n 2, 1), (8, .ifCond .le 35, 3), (11, .aload_n 0, 1), (12, .getfield 9, 3), (15, .iload_n 1, 1), (16, .bipush 84, 2), (18, .imul, 1), (19, .iload_n 2, 1), (20, .iadd, 1), (21, .iconst 1, 1), (22, .isub, 1), (23, .iaload, 1), (24, .ifCond .eq 4, 3), (27, .return_, 1), (28, .aload_n 0, 1), (29, .getfield 15, 3), (32, .iload_n 1, 1), (33, .iload_n 2, 1), (34, .iconst 1, 1), (35, .isub, 1), (36, .iastore, 1), (37, .iinc 2 (-1), 3), (40, .goto (-33), 3), (43, .return_, 1)] : List (Nat × Instr × Nat)), decode cX5_trim q.1 = .ok q.2 := by decide +kernel
theorem dX5_trim_0 : decode cX5_trim 0 = .ok (.aload_n 0, 1) := DX5_trim (0, .aload_n 0, 1) (List.mem_of_getElem? (i := 0) rfl)
theorem dX5_trim_1 : decode cX5_trim 1 = .ok (.getfield 15, 3) := DX5_trim (1, .getfield 15, 3) (List.mem_of_getElem? (i := 1) rfl)
theorem dX5_trim_4 : decode cX5_trim 4 = .ok (.iload_n 1, 1) := DX5_trim (4, .iload_n 1, 1) (List.mem_of_getElem? (i := 2) rfl)
theorem dX5_trim_5 : decode cX5_trim 5 = .ok (.iaload, 1) := DX5_trim (5, .iaload, 1) (List.mem_of_getElem? (i := 3) rfl)
theorem dX5_trim_6 : decode cX5_trim 6 = .ok (.istore_n 2, 1) := DX5_trim (6, .istore_n 2, 1) (List.mem_of_getElem? (i := 4) rfl)
theorem dX5_trim_7 : decode cX5_trim 7 = .ok (.iload_n 2, 1) := DX5_trim (7, .iload_n 2, 1) (List.mem_of_getElem? (i := 5) rfl)
theorem dX5_trim_8 : decode cX5_trim 8 = .ok (.ifCond .le 35, 3) := DX5_trim (8, .ifCond .le 35, 3) (List.mem_of_getElem? (i := 6) rfl)
theorem dX5_trim_11 : decode cX5_trim 11 = .ok (.aload_n 0, 1) := DX5_trim (11, .aload_n 0, 1) (List.mem_of_getElem? (i := 7) rfl)
theorem dX5_trim_12 : decode cX5_trim 12 = .ok (.getfield 9, 3) := DX5_trim (12, .getfield 9, 3) (List.mem_of_getElem? (i := 8) rfl)
theorem dX5_trim_15 : decode cX5_trim 15 = .ok (.iload_n 1, 1) := DX5_trim (15, .iload_n 1, 1) (List.mem_of_getElem? (i := 9) rfl)
theorem dX5_trim_16 : decode cX5_trim 16 = .ok (.bipush 84, 2) := DX5_trim (16, .bipush 84, 2) (List.mem_of_getElem? (i := 10) rfl)
theorem dX5_trim_18 : decode cX5_trim 18 = .ok (.imul, 1) := DX5_trim (18, .imul, 1) (List.mem_of_getElem? (i := 11) rfl)
theorem dX5_trim_19 : decode cX5_trim 19 = .ok (.iload_n 2, 1) := DX5_trim (19, .iload_n 2, 1) (List.mem_of_getElem? (i := 12) rfl)
theorem dX5_trim_20 : decode cX5_trim 20 = .ok (.iadd, 1) := DX5_trim (20, .iadd, 1) (List.mem_of_getElem? (i := 13) rfl)
theorem dX5_trim_21 : decode cX5_trim 21 = .ok (.iconst 1, 1) := DX5_trim (21, .iconst 1, 1) (List.mem_of_getElem? (i := 14) rfl)
theorem dX5_trim_22 : decode cX5_trim 22 = .ok (.isub, 1) := DX5_trim (22, .isub, 1) (List.mem_of_getElem? (i := 15) rfl)
theorem dX5_trim_23 : decode cX5_trim 23 = .ok (.iaload, 1) := DX5_trim (23, .iaload, 1) (List.mem_of_getElem? (i := 16) rfl)
theorem dX5_trim_24 : decode cX5_trim 24 = .ok (.ifCond .eq 4, 3) := DX5_trim (24, .ifCond .eq 4, 3) (List.mem_of_getElem? (i := 17) rfl)
theorem dX5_trim_27 : decode cX5_trim 27 = .ok (.return_, 1) := DX5_trim (27, .return_, 1) (List.mem_of_getElem? (i := 18) rfl)
theorem dX5_trim_28 : decode cX5_trim 28 = .ok (.aload_n 0, 1) := DX5_trim (28, .aload_n 0, 1) (List.mem_of_getElem? (i := 19) rfl)
theorem dX5_trim_29 : decode cX5_trim 29 = .ok (.getfield 15, 3) := DX5_trim (29, .getfield 15, 3) (List.mem_of_getElem? (i := 20) rfl)
theorem dX5_trim_32 : decode cX5_trim 32 = .ok (.iload_n 1, 1) := DX5_trim (32, .iload_n 1, 1) (List.mem_of_getElem? (i := 21) rfl)
theorem dX5_trim_33 : decode cX5_trim 33 = .ok (.iload_n 2, 1) := DX5_trim (33, .iload_n 2, 1) (List.mem_of_getElem? (i := 22) rfl)
theorem dX5_trim_34 : decode cX5_trim 34 = .ok (.iconst 1, 1) := DX5_trim (34, .iconst 1, 1) (List.mem_of_getElem? (i := 23) rfl)
theorem dX5_trim_35 : decode cX5_trim 35 = .ok (.isub, 1) := DX5_trim (35, .isub, 1) (List.mem_of_getElem? (i := 24) rfl)
theorem dX5_trim_36 : decode cX5_trim 36 = .ok (.iastore, 1) := DX5_trim (36, .iastore, 1) (List.mem_of_getElem? (i := 25) rfl)
theorem dX5_trim_37 : decode cX5_trim 37 = .ok (.iinc 2 (-1), 3) := DX5_trim (37, .iinc 2 (-1), 3) (List.mem_of_getElem? (i := 26) rfl)
theorem dX5_trim_40 : decode cX5_trim 40 = .ok (.goto (-33), 3) := DX5_trim (40, .goto (-33), 3) (List.mem_of_getElem? (i := 27) rfl)
theorem dX5_trim_43 : decode cX5_trim 43 = .ok (.return_, 1) := DX5_trim (43, .return_, 1) (List.mem_of_getElem? (i := 28) rfl)
noncomputable def fX5_trim_B7 (l1 : Int32) (l2 : Int32) (σ : Mem) : Option ((Int32 × Mem) ⊕ ((Mem) ⊕ (Mem))) :=
  if l2 ≤ 0 then
    some (.inr (.inl σ))
  else
    chk (inb (((l1 * 84) + l2) - 1) 10500) <|
    if (σ 15 (((l1 * 84) + l2) - 1).toNatClampNeg) = 0 then
      chk (inb l1 125) <|
      some (.inl (l2 + (-1), up2 σ 16 l1.toNatClampNeg (l2 - 1)))
    else
      some (.inr (.inr σ))
set_option maxHeartbeats 4000000 in
set_option maxRecDepth 100000 in
theorem tX5_trim_B7 {E : Gx} {cI : ClassId} {ad : Nat → Nat} (C : Cx E rmX5_trim cI layX ad 3 RX5 cX5_trim) {out : Mem} (K0 : KV E rmX5_trim cI layX ad 3 cX5_trim out) {l1 : Int32} {l2 : Int32} {σ : Mem} {res : (Int32 × Mem) ⊕ ((Mem) ⊕ (Mem))} (h : fX5_trim_B7 l1 l2 σ = some res) (K : Sum.elim (fun a => G E rmX5_trim cI layX ad 3 7 [(0, .ref (ad 5)), (1, .int l1), (2, .int a.1)] [] a.2) (Sum.elim (fun b => G E rmX5_trim cI layX ad 3 43 [] [] b) (fun b => b = out)) res) : G E rmX5_trim cI layX ad 3 7 [(0, .ref (ad 5)), (1, .int l1), (2, .int l2)] [] σ := by
  unfold fX5_trim_B7 at h
  refine g_iload_n 8 C dX5_trim_7 rfl (j := 2) rfl rfl ?_
  refine g_if_le 43 11 C dX5_trim_8 (by decide) rfl h (fun h => ?_) (fun h => ?_)
  · have hh := end_alt0_2 h K
    exact g_sub [] (hh) rfl
  · refine g_aload_n 12 C dX5_trim_11 rfl (j := 0) rfl rfl ?_
    refine g_getr 15 (j := 2) C rfl rfl wu_X5 (by decide) wf_X5_9 rfl dX5_trim_12 rfl ?_
    refine g_iload_n 16 C dX5_trim_15 rfl (j := 1) rfl rfl ?_
    refine g_bipush 18 (v := 84) C dX5_trim_16 (by decide) rfl ?_
    refine g_imul 19 C dX5_trim_18 rfl ?_
    refine g_iload_n 20 C dX5_trim_19 rfl (j := 2) rfl rfl ?_
    refine g_iadd 21 C dX5_trim_20 rfl ?_
    refine g_iconst 22 (v := 1) C dX5_trim_21 (by decide) rfl ?_
    refine g_isub 23 C dX5_trim_22 rfl ?_
    refine g_iald 24 C rfl dX5_trim_23 rfl h (fun h => ?_)
    refine g_if_eq 28 27 C dX5_trim_24 (by decide) rfl h (fun h => ?_) (fun h => ?_)
    · refine g_aload_n 29 C dX5_trim_28 rfl (j := 0) rfl rfl ?_
      refine g_getr 32 (j := 3) C rfl rfl wu_X5 (by decide) wf_X5_15 rfl dX5_trim_29 rfl ?_
      refine g_iload_n 33 C dX5_trim_32 rfl (j := 1) rfl rfl ?_
      refine g_iload_n 34 C dX5_trim_33 rfl (j := 2) rfl rfl ?_
      refine g_iconst 35 (v := 1) C dX5_trim_34 (by decide) rfl ?_
      refine g_isub 36 C dX5_trim_35 rfl ?_
      refine g_iast 37 C rfl dX5_trim_36 rfl h (fun h => ?_)
      refine g_iinc 40 [(2, .int (l2 + (-1))), (0, .ref (ad 5)), (1, .int l1)] C dX5_trim_37 (j := 2) rfl (by rfl) (by decide) rfl rfl ?_
      refine g_goto 7 C dX5_trim_40 (by decide) ?_
      have hh := end_inl h K
      exact g_sub [1, 2, 0] (hh) rfl
    · have ho := end_alt1_2 h K
      replace ho : σ = out := ho
      subst ho
      exact K0 _ _ dX5_trim_27
noncomputable def fX5_trim_L43 (σ : Mem) : Option (Mem) :=
  some σ
set_option maxHeartbeats 4000000 in
set_option maxRecDepth 100000 in
theorem tX5_trim_L43 {E : Gx} {cI : ClassId} {ad : Nat → Nat} (C : Cx E rmX5_trim cI layX ad 3 RX5 cX5_trim) {out : Mem} (K0 : KV E rmX5_trim cI layX ad 3 cX5_trim out) {σ : Mem} (h : fX5_trim_L43 σ = some out) : G E rmX5_trim cI layX ad 3 43 [] [] σ := by
  unfold fX5_trim_L43 at h
  cases h
  exact K0 _ _ dX5_trim_43
noncomputable def fX5_trim (a1 : Int32) (σ : Mem) : Option (Mem) :=
  chk (inb a1 125) <|
  (loop (fun a => fX5_trim_B7 a1 a.1 a.2) (σ 16 a1.toNatClampNeg, σ)).bind (Sum.elim (fun b1x0 => fX5_trim_L43 b1x0) (fun b1r => some b1r))
set_option maxHeartbeats 4000000 in
set_option maxRecDepth 100000 in
theorem mX5_trim {l : Launch} {D : va_G} {cI : ClassId} {ad : Nat → Nat} {a1 : Int32} {σ : Mem} {out : Mem} (h : fX5_trim a1 σ = some out) : MV l D cI layX ad yX5_trim cX5_trim 3 rmX5_trim [.ref (ad 5), .int a1] σ out := by
  refine met_v (by decide) (Nat.le_of_ble_eq_true rfl) (fun E C K0 => ?_)
  show G E rmX5_trim cI layX ad 3 0 [(0, .ref (ad 5)), (1, .int a1)] [] σ
  unfold fX5_trim at h
  refine g_aload_n 1 C dX5_trim_0 rfl (j := 0) rfl rfl ?_
  refine g_getr 4 (j := 3) C rfl rfl wu_X5 (by decide) wf_X5_15 rfl dX5_trim_1 rfl ?_
  refine g_iload_n 5 C dX5_trim_4 rfl (j := 1) rfl rfl ?_
  refine g_iald 6 C rfl dX5_trim_5 rfl h (fun h => ?_)
  refine g_istore_n 7 [(2, .int (σ 16 a1.toNatClampNeg)), (0, .ref (ad 5)), (1, .int a1)] C dX5_trim_6 rfl (by decide) rfl rfl ?_
  obtain ⟨b1, hb, h⟩ := bind_some h
  refine g_sub [1, 2, 0] (g_loop (a := (σ 16 a1.toNatClampNeg, σ)) (fun a => G E rmX5_trim cI layX ad 3 7 [(0, .ref (ad 5)), (1, .int a1), (2, .int a.1)] [] a.2) (Sum.elim (fun b => G E rmX5_trim cI layX ad 3 43 [] [] b) (fun b => b = out)) hb (fun a res h K => tX5_trim_B7 (l1 := a1) (l2 := a.1) (σ := a.2) (res := res) C K0 h K) ?_) rfl
  rcases b1 with b1x0 | b1r
  · show G E rmX5_trim cI layX ad 3 43 [] [] b1x0
    exact tX5_trim_L43 (σ := b1x0) C K0 h
  · exact end_top h

/-! LoopReducer$Polys.isSame(II)Z -/
abbrev rmX5_isSame : Room := { frames := 0, cells := 0, slots := 0, locals := 0 }
theorem qX5_isSame : yX5_isSame.cls ≠ "java/lang/invoke/MethodHandle" ∧ yX5_isSame.cls ≠ "java/lang/invoke/VarHandle" ∧ (parseMethodDescriptor yX5_isSame.desc).map (fun d => d.parameters.length) = some 2 := by decide +kernel
theorem DX5_isSame : ∀ q ∈ ([(0, .aload_n 0, 1), (1, .getfield 15, 3), (4, .iload_n 1, 1), (5, .iaload, 1), (6, .aload_n 0, 1), (7, .getfield 15, 3), (10, .iload_n 2, 1), (11, .iaload, 1), (12, .if_icmp .eq 5, 3), (15, .iconst 0, 1), (16, .ireturn, 1), (17, .iconst 0, 1), (18, .istore_n 3, 1), (19, .iload_n 3, 1), (20, .aload_n 0, 1), (21, .getfield 15, 3), (24, .iload_n 1, 1), (25, .iaload, 1), (26, .if_icmp .ge 36, 3), (29, .aload_n 0, 1), (30, .getfield 9, 3), (33, .iload_n 1, 1), (34, .bipush 84, 2), (36, .imul, 1), (37, .iload_n 3, 1), (38, .iadd, 1), (39, .iaload, 1), (40, .aload_n 0, 1), (41, .getfield 9, 3), (44, .iload_n 2, 1), (45, .bipush 84, 2), (47, .imul, 1), (48, .iload_n 3, 1), (49, .iadd, 1), (50, .iaload, 1), (51, .if_icmp .eq 5, 3), (54, .iconst 0, 1), (55, .ireturn, 1), (56, .iinc 3 1, 3), (59, .goto (-40), 3), (62, .iconst 1, 1), (63, .ireturn, 1)] : List (Nat × Instr × Nat)), decode cX5_isSame q.1 = .ok q.2 := by decide +kernel
theorem dX5_isSame_0 : decode cX5_isSame 0 = .ok (.aload_n 0, 1) := DX5_isSame (0, .aload_n 0, 1) (List.mem_of_getElem? (i := 0) rfl)
theorem dX5_isSame_1 : decode cX5_isSame 1 = .ok (.getfield 15, 3) := DX5_isSame (1, .getfield 15, 3) (List.mem_of_getElem? (i := 1) rfl)
theorem dX5_isSame_4 : decode cX5_isSame 4 = .ok (.iload_n 1, 1) := DX5_isSame (4, .iload_n 1, 1) (List.mem_of_getElem? (i := 2) rfl)
theorem dX5_isSame_5 : decode cX5_isSame 5 = .ok (.iaload, 1) := DX5_isSame (5, .iaload, 1) (List.mem_of_getElem? (i := 3) rfl)
theorem dX5_isSame_6 : decode cX5_isSame 6 = .ok (.aload_n 0, 1) := DX5_isSame (6, .aload_n 0, 1) (List.mem_of_getElem? (i := 4) rfl)
theorem dX5_isSame_7 : decode cX5_isSame 7 = .ok (.getfield 15, 3) := DX5_isSame (7, .getfield 15, 3) (List.mem_of_getElem? (i := 5) rfl)
theorem dX5_isSame_10 : decode cX5_isSame 10 = .ok (.iload_n 2, 1) := DX5_isSame (10, .iload_n 2, 1) (List.mem_of_getElem? (i := 6) rfl)
theorem dX5_isSame_11 : decode cX5_isSame 11 = .ok (.iaload, 1) := DX5_isSame (11, .iaload, 1) (List.mem_of_getElem? (i := 7) rfl)
theorem dX5_isSame_12 : decode cX5_isSame 12 = .ok (.if_icmp .eq 5, 3) := DX5_isSame (12, .if_icmp .eq 5, 3) (List.mem_of_getElem? (i := 8) rfl)
theorem dX5_isSame_15 : decode cX5_isSame 15 = .ok (.iconst 0, 1) := DX5_isSame (15, .iconst 0, 1) (List.mem_of_getElem? (i := 9) rfl)
theorem dX5_isSame_16 : decode cX5_isSame 16 = .ok (.ireturn, 1) := DX5_isSame (16, .ireturn, 1) (List.mem_of_getElem? (i := 10) rfl)
theorem dX5_isSame_17 : decode cX5_isSame 17 = .ok (.iconst 0, 1) := DX5_isSame (17, .iconst 0, 1) (List.mem_of_getElem? (i := 11) rfl)
theorem dX5_isSame_18 : decode cX5_isSame 18 = .ok (.istore_n 3, 1) := DX5_isSame (18, .istore_n 3, 1) (List.mem_of_getElem? (i := 12) rfl)
theorem dX5_isSame_19 : decode cX5_isSame 19 = .ok (.iload_n 3, 1) := DX5_isSame (19, .iload_n 3, 1) (List.mem_of_getElem? (i := 13) rfl)
theorem dX5_isSame_20 : decode cX5_isSame 20 = .ok (.aload_n 0, 1) := DX5_isSame (20, .aload_n 0, 1) (List.mem_of_getElem? (i := 14) rfl)
theorem dX5_isSame_21 : decode cX5_isSame 21 = .ok (.getfield 15, 3) := DX5_isSame (21, .getfield 15, 3) (List.mem_of_getElem? (i := 15) rfl)
theorem dX5_isSame_24 : decode cX5_isSame 24 = .ok (.iload_n 1, 1) := DX5_isSame (24, .iload_n 1, 1) (List.mem_of_getElem? (i := 16) rfl)
theorem dX5_isSame_25 : decode cX5_isSame 25 = .ok (.iaload, 1) := DX5_isSame (25, .iaload, 1) (List.mem_of_getElem? (i := 17) rfl)
theorem dX5_isSame_26 : decode cX5_isSame 26 = .ok (.if_icmp .ge 36, 3) := DX5_isSame (26, .if_icmp .ge 36, 3) (List.mem_of_getElem? (i := 18) rfl)
theorem dX5_isSame_29 : decode cX5_isSame 29 = .ok (.aload_n 0, 1) := DX5_isSame (29, .aload_n 0, 1) (List.mem_of_getElem? (i := 19) rfl)
theorem dX5_isSame_30 : decode cX5_isSame 30 = .ok (.getfield 9, 3) := DX5_isSame (30, .getfield 9, 3) (List.mem_of_getElem? (i := 20) rfl)
theorem dX5_isSame_33 : decode cX5_isSame 33 = .ok (.iload_n 1, 1) := DX5_isSame (33, .iload_n 1, 1) (List.mem_of_getElem? (i := 21) rfl)
theorem dX5_isSame_34 : decode cX5_isSame 34 = .ok (.bipush 84, 2) := DX5_isSame (34, .bipush 84, 2) (List.mem_of_getElem? (i := 22) rfl)
theorem dX5_isSame_36 : decode cX5_isSame 36 = .ok (.imul, 1) := DX5_isSame (36, .imul, 1) (List.mem_of_getElem? (i := 23) rfl)
theorem dX5_isSame_37 : decode cX5_isSame 37 = .ok (.iload_n 3, 1) := DX5_isSame (37, .iload_n 3, 1) (List.mem_of_getElem? (i := 24) rfl)
theorem dX5_isSame_38 : decode cX5_isSame 38 = .ok (.iadd, 1) := DX5_isSame (38, .iadd, 1) (List.mem_of_getElem? (i := 25) rfl)
theorem dX5_isSame_39 : decode cX5_isSame 39 = .ok (.iaload, 1) := DX5_isSame (39, .iaload, 1) (List.mem_of_getElem? (i := 26) rfl)
theorem dX5_isSame_40 : decode cX5_isSame 40 = .ok (.aload_n 0, 1) := DX5_isSame (40, .aload_n 0, 1) (List.mem_of_getElem? (i := 27) rfl)
theorem dX5_isSame_41 : decode cX5_isSame 41 = .ok (.getfield 9, 3) := DX5_isSame (41, .getfield 9, 3) (List.mem_of_getElem? (i := 28) rfl)
theorem dX5_isSame_44 : decode cX5_isSame 44 = .ok (.iload_n 2, 1) := DX5_isSame (44, .iload_n 2, 1) (List.mem_of_getElem? (i := 29) rfl)
theorem dX5_isSame_45 : decode cX5_isSame 45 = .ok (.bipush 84, 2) := DX5_isSame (45, .bipush 84, 2) (List.mem_of_getElem? (i := 30) rfl)
theorem dX5_isSame_47 : decode cX5_isSame 47 = .ok (.imul, 1) := DX5_isSame (47, .imul, 1) (List.mem_of_getElem? (i := 31) rfl)
theorem dX5_isSame_48 : decode cX5_isSame 48 = .ok (.iload_n 3, 1) := DX5_isSame (48, .iload_n 3, 1) (List.mem_of_getElem? (i := 32) rfl)
theorem dX5_isSame_49 : decode cX5_isSame 49 = .ok (.iadd, 1) := DX5_isSame (49, .iadd, 1) (List.mem_of_getElem? (i := 33) rfl)
theorem dX5_isSame_50 : decode cX5_isSame 50 = .ok (.iaload, 1) := DX5_isSame (50, .iaload, 1) (List.mem_of_getElem? (i := 34) rfl)
theorem dX5_isSame_51 : decode cX5_isSame 51 = .ok (.if_icmp .eq 5, 3) := DX5_isSame (51, .if_icmp .eq 5, 3) (List.mem_of_getElem? (i := 35) rfl)
theorem dX5_isSame_54 : decode cX5_isSame 54 = .ok (.iconst 0, 1) := DX5_isSame (54, .iconst 0, 1) (List.mem_of_getElem? (i := 36) rfl)
theorem dX5_isSame_55 : decode cX5_isSame 55 = .ok (.ireturn, 1) := DX5_isSame (55, .ireturn, 1) (List.mem_of_getElem? (i := 37) rfl)
theorem dX5_isSame_56 : decode cX5_isSame 56 = .ok (.iinc 3 1, 3) := DX5_isSame (56, .iinc 3 1, 3) (List.mem_of_getElem? (i := 38) rfl)
theorem dX5_isSame_59 : decode cX5_isSame 59 = .ok (.goto (-40), 3) := DX5_isSame (59, .goto (-40), 3) (List.mem_of_getElem? (i := 39) rfl)
theorem dX5_isSame_62 : decode cX5_isSame 62 = .ok (.iconst 1, 1) := DX5_isSame (62, .iconst 1, 1) (List.mem_of_getElem? (i := 40) rfl)
theorem dX5_isSame_63 : decode cX5_isSame 63 = .ok (.ireturn, 1) := DX5_isSame (63, .ireturn, 1) (List.mem_of_getElem? (i := 41) rfl)
noncomputable def fX5_isSame_B19 (l1 : Int32) (l2 : Int32) (l3 : Int32) (σ : Mem) : Option ((Int32 × Mem) ⊕ ((Mem) ⊕ (Int32 × Mem))) :=
  chk (inb l1 125) <|
  if (σ 16 l1.toNatClampNeg) ≤ l3 then
    some (.inr (.inl σ))
  else
    chk (inb ((l1 * 84) + l3) 10500) <|
    chk (inb ((l2 * 84) + l3) 10500) <|
    if (σ 15 ((l1 * 84) + l3).toNatClampNeg) = (σ 15 ((l2 * 84) + l3).toNatClampNeg) then
      some (.inl (l3 + 1, σ))
    else
      some (.inr (.inr (0, σ)))
set_option maxHeartbeats 4000000 in
set_option maxRecDepth 100000 in
theorem tX5_isSame_B19 {E : Gx} {cI : ClassId} {ad : Nat → Nat} (C : Cx E rmX5_isSame cI layX ad 4 RX5 cX5_isSame) {out : Int32 × Mem} (K0 : KI E rmX5_isSame cI layX ad 4 cX5_isSame .boolean out) {l1 : Int32} {l2 : Int32} {l3 : Int32} {σ : Mem} {res : (Int32 × Mem) ⊕ ((Mem) ⊕ (Int32 × Mem))} (h : fX5_isSame_B19 l1 l2 l3 σ = some res) (K : Sum.elim (fun a => G E rmX5_isSame cI layX ad 4 19 [(0, .ref (ad 5)), (1, .int l1), (2, .int l2), (3, .int a.1)] [] a.2) (Sum.elim (fun b => G E rmX5_isSame cI layX ad 4 62 [] [] b) (fun b => b = out)) res) : G E rmX5_isSame cI layX ad 4 19 [(0, .ref (ad 5)), (1, .int l1), (2, .int l2), (3, .int l3)] [] σ := by
  unfold fX5_isSame_B19 at h
  refine g_iload_n 20 C dX5_isSame_19 rfl (j := 3) rfl rfl ?_
  refine g_aload_n 21 C dX5_isSame_20 rfl (j := 0) rfl rfl ?_
  refine g_getr 24 (j := 3) C rfl rfl wu_X5 (by decide) wf_X5_15 rfl dX5_isSame_21 rfl ?_
  refine g_iload_n 25 C dX5_isSame_24 rfl (j := 1) rfl rfl ?_
  refine g_iald 26 C rfl dX5_isSame_25 rfl h (fun h => ?_)
  refine g_icmp_ge 62 29 C dX5_isSame_26 (by decide) rfl h (fun h => ?_) (fun h => ?_)
  · have hh := end_alt0_2 h K
    exact g_sub [] (hh) rfl
  · refine g_aload_n 30 C dX5_isSame_29 rfl (j := 0) rfl rfl ?_
    refine g_getr 33 (j := 2) C rfl rfl wu_X5 (by decide) wf_X5_9 rfl dX5_isSame_30 rfl ?_
    refine g_iload_n 34 C dX5_isSame_33 rfl (j := 1) rfl rfl ?_
    refine g_bipush 36 (v := 84) C dX5_isSame_34 (by decide) rfl ?_
    refine g_imul 37 C dX5_isSame_36 rfl ?_
    refine g_iload_n 38 C dX5_isSame_37 rfl (j := 3) rfl rfl ?_
    refine g_iadd 39 C dX5_isSame_38 rfl ?_
    refine g_iald 40 C rfl dX5_isSame_39 rfl h (fun h => ?_)
    refine g_aload_n 41 C dX5_isSame_40 rfl (j := 0) rfl rfl ?_
    refine g_getr 44 (j := 2) C rfl rfl wu_X5 (by decide) wf_X5_9 rfl dX5_isSame_41 rfl ?_
    refine g_iload_n 45 C dX5_isSame_44 rfl (j := 2) rfl rfl ?_
    refine g_bipush 47 (v := 84) C dX5_isSame_45 (by decide) rfl ?_
    refine g_imul 48 C dX5_isSame_47 rfl ?_
    refine g_iload_n 49 C dX5_isSame_48 rfl (j := 3) rfl rfl ?_
    refine g_iadd 50 C dX5_isSame_49 rfl ?_
    refine g_iald 51 C rfl dX5_isSame_50 rfl h (fun h => ?_)
    refine g_icmp_eq 56 54 C dX5_isSame_51 (by decide) rfl h (fun h => ?_) (fun h => ?_)
    · refine g_iinc 59 [(3, .int (l3 + 1)), (0, .ref (ad 5)), (1, .int l1), (2, .int l2)] C dX5_isSame_56 (j := 3) rfl (by rfl) (by decide) rfl rfl ?_
      refine g_goto 19 C dX5_isSame_59 (by decide) ?_
      have hh := end_inl h K
      exact g_sub [1, 2, 3, 0] (hh) rfl
    · refine g_iconst 55 (v := 0) C dX5_isSame_54 (by decide) rfl ?_
      have ho := end_alt1_2 h K
      replace ho : (0, σ) = out := ho
      subst ho
      exact K0 _ _ dX5_isSame_55 (zb_nar (x := 0) (by decide))
noncomputable def fX5_isSame_L62 (σ : Mem) : Option (Int32 × Mem) :=
  some (1, σ)
set_option maxHeartbeats 4000000 in
set_option maxRecDepth 100000 in
theorem tX5_isSame_L62 {E : Gx} {cI : ClassId} {ad : Nat → Nat} (C : Cx E rmX5_isSame cI layX ad 4 RX5 cX5_isSame) {out : Int32 × Mem} (K0 : KI E rmX5_isSame cI layX ad 4 cX5_isSame .boolean out) {σ : Mem} (h : fX5_isSame_L62 σ = some out) : G E rmX5_isSame cI layX ad 4 62 [] [] σ := by
  unfold fX5_isSame_L62 at h
  refine g_iconst 63 (v := 1) C dX5_isSame_62 (by decide) rfl ?_
  cases h
  exact K0 _ _ dX5_isSame_63 (zb_nar (x := 1) (by decide))
noncomputable def fX5_isSame (a1 : Int32) (a2 : Int32) (σ : Mem) : Option (Int32 × Mem) :=
  chk (inb a1 125) <|
  chk (inb a2 125) <|
  if (σ 16 a1.toNatClampNeg) = (σ 16 a2.toNatClampNeg) then
    (loop (fun a => fX5_isSame_B19 a1 a2 a.1 a.2) (0, σ)).bind (Sum.elim (fun b1x0 => fX5_isSame_L62 b1x0) (fun b1r => some b1r))
  else
    some (0, σ)
set_option maxHeartbeats 4000000 in
set_option maxRecDepth 100000 in
theorem mX5_isSame {l : Launch} {D : va_G} {cI : ClassId} {ad : Nat → Nat} {a1 : Int32} {a2 : Int32} {σ : Mem} {out : Int32 × Mem} (h : fX5_isSame a1 a2 σ = some out) : MI l D cI layX ad yX5_isSame cX5_isSame 4 .boolean rmX5_isSame [.ref (ad 5), .int a1, .int a2] σ out := by
  refine met_i (by decide) (Nat.le_of_ble_eq_true rfl) (fun E C K0 => ?_)
  show G E rmX5_isSame cI layX ad 4 0 [(0, .ref (ad 5)), (1, .int a1), (2, .int a2)] [] σ
  unfold fX5_isSame at h
  refine g_aload_n 1 C dX5_isSame_0 rfl (j := 0) rfl rfl ?_
  refine g_getr 4 (j := 3) C rfl rfl wu_X5 (by decide) wf_X5_15 rfl dX5_isSame_1 rfl ?_
  refine g_iload_n 5 C dX5_isSame_4 rfl (j := 1) rfl rfl ?_
  refine g_iald 6 C rfl dX5_isSame_5 rfl h (fun h => ?_)
  refine g_aload_n 7 C dX5_isSame_6 rfl (j := 0) rfl rfl ?_
  refine g_getr 10 (j := 3) C rfl rfl wu_X5 (by decide) wf_X5_15 rfl dX5_isSame_7 rfl ?_
  refine g_iload_n 11 C dX5_isSame_10 rfl (j := 2) rfl rfl ?_
  refine g_iald 12 C rfl dX5_isSame_11 rfl h (fun h => ?_)
  refine g_icmp_eq 17 15 C dX5_isSame_12 (by decide) rfl h (fun h => ?_) (fun h => ?_)
  · refine g_iconst 18 (v := 0) C dX5_isSame_17 (by decide) rfl ?_
    refine g_istore_n 19 [(3, .int 0), (0, .ref (ad 5)), (1, .int a1), (2, .int a2)] C dX5_isSame_18 rfl (by decide) rfl rfl ?_
    obtain ⟨b1, hb, h⟩ := bind_some h
    refine g_sub [1, 2, 3, 0] (g_loop (a := (0, σ)) (fun a => G E rmX5_isSame cI layX ad 4 19 [(0, .ref (ad 5)), (1, .int a1), (2, .int a2), (3, .int a.1)] [] a.2) (Sum.elim (fun b => G E rmX5_isSame cI layX ad 4 62 [] [] b) (fun b => b = out)) hb (fun a res h K => tX5_isSame_B19 (l1 := a1) (l2 := a2) (l3 := a.1) (σ := a.2) (res := res) C K0 h K) ?_) rfl
    rcases b1 with b1x0 | b1r
    · show G E rmX5_isSame cI layX ad 4 62 [] [] b1x0
      exact tX5_isSame_L62 (σ := b1x0) C K0 h
    · exact end_top h
  · refine g_iconst 16 (v := 0) C dX5_isSame_15 (by decide) rfl ?_
    cases h
    exact K0 _ _ dX5_isSame_16 (zb_nar (x := 0) (by decide))

/-! LoopReducer$Polys.amount(I)I -/
abbrev rmX5_amount : Room := { frames := 0, cells := 0, slots := 0, locals := 0 }
theorem qX5_amount : yX5_amount.cls ≠ "java/lang/invoke/MethodHandle" ∧ yX5_amount.cls ≠ "java/lang/invoke/VarHandle" ∧ (parseMethodDescriptor yX5_amount.desc).map (fun d => d.parameters.length) = some 1 := by decide +kernel
theorem DX5_amount : ∀ q ∈ ([(0, .iconst 0, 1), (1, .istore_n 2, 1), (2, .iconst 0, 1), (3, .istore_n 3, 1), (4, .iload_n 3, 1), (5, .aload_n 0, 1), (6, .getfield 15, 3), (9, .iload_n 1, 1), (10, .iaload, 1), (11, .if_icmp .ge 31, 3), (14, .iload_n 2, 1), (15, .aload_n 0, 1), (16, .getfield 9, 3), (19, .iload_n 1, 1), (20, .bipush 84, 2), (22, .imul, 1), (23, .iload_n 3, 1), (24, .iadd, 1), (25, .iaload, 1), (26, .ifCond .eq 7, 3), (29, .iconst 1, 1), (30, .goto 4, 3), (33, .iconst 0, 1), (34, .iadd, 1), (35, .istore_n 2, 1), (36, .iinc 3 1, 3), (39, .goto (-35), 3), (42, .iload_n 2, 1), (43, .ireturn, 1)] : List (Nat × Instr × Nat)), decode cX5_amount q.1 = .ok q.2 := by decide +kernel
theorem dX5_amount_0 : decode cX5_amount 0 = .ok (.iconst 0, 1) := DX5_amount (0, .iconst 0, 1) (List.mem_of_getElem? (i := 0) rfl)
theorem dX5_amount_1 : decode cX5_amount 1 = .ok (.istore_n 2, 1) := DX5_amount (1, .istore_n 2, 1) (List.mem_of_getElem? (i := 1) rfl)
theorem dX5_amount_2 : decode cX5_amount 2 = .ok (.iconst 0, 1) := DX5_amount (2, .iconst 0, 1) (List.mem_of_getElem? (i := 2) rfl)
theorem dX5_amount_3 : decode cX5_amount 3 = .ok (.istore_n 3, 1) := DX5_amount (3, .istore_n 3, 1) (List.mem_of_getElem? (i := 3) rfl)
theorem dX5_amount_4 : decode cX5_amount 4 = .ok (.iload_n 3, 1) := DX5_amount (4, .iload_n 3, 1) (List.mem_of_getElem? (i := 4) rfl)
theorem dX5_amount_5 : decode cX5_amount 5 = .ok (.aload_n 0, 1) := DX5_amount (5, .aload_n 0, 1) (List.mem_of_getElem? (i := 5) rfl)
theorem dX5_amount_6 : decode cX5_amount 6 = .ok (.getfield 15, 3) := DX5_amount (6, .getfield 15, 3) (List.mem_of_getElem? (i := 6) rfl)
theorem dX5_amount_9 : decode cX5_amount 9 = .ok (.iload_n 1, 1) := DX5_amount (9, .iload_n 1, 1) (List.mem_of_getElem? (i := 7) rfl)
theorem dX5_amount_10 : decode cX5_amount 10 = .ok (.iaload, 1) := DX5_amount (10, .iaload, 1) (List.mem_of_getElem? (i := 8) rfl)
theorem dX5_amount_11 : decode cX5_amount 11 = .ok (.if_icmp .ge 31, 3) := DX5_amount (11, .if_icmp .ge 31, 3) (List.mem_of_getElem? (i := 9) rfl)
theorem dX5_amount_14 : decode cX5_amount 14 = .ok (.iload_n 2, 1) := DX5_amount (14, .iload_n 2, 1) (List.mem_of_getElem? (i := 10) rfl)
theorem dX5_amount_15 : decode cX5_amount 15 = .ok (.aload_n 0, 1) := DX5_amount (15, .aload_n 0, 1) (List.mem_of_getElem? (i := 11) rfl)
theorem dX5_amount_16 : decode cX5_amount 16 = .ok (.getfield 9, 3) := DX5_amount (16, .getfield 9, 3) (List.mem_of_getElem? (i := 12) rfl)
theorem dX5_amount_19 : decode cX5_amount 19 = .ok (.iload_n 1, 1) := DX5_amount (19, .iload_n 1, 1) (List.mem_of_getElem? (i := 13) rfl)
theorem dX5_amount_20 : decode cX5_amount 20 = .ok (.bipush 84, 2) := DX5_amount (20, .bipush 84, 2) (List.mem_of_getElem? (i := 14) rfl)
theorem dX5_amount_22 : decode cX5_amount 22 = .ok (.imul, 1) := DX5_amount (22, .imul, 1) (List.mem_of_getElem? (i := 15) rfl)
theorem dX5_amount_23 : decode cX5_amount 23 = .ok (.iload_n 3, 1) := DX5_amount (23, .iload_n 3, 1) (List.mem_of_getElem? (i := 16) rfl)
theorem dX5_amount_24 : decode cX5_amount 24 = .ok (.iadd, 1) := DX5_amount (24, .iadd, 1) (List.mem_of_getElem? (i := 17) rfl)
theorem dX5_amount_25 : decode cX5_amount 25 = .ok (.iaload, 1) := DX5_amount (25, .iaload, 1) (List.mem_of_getElem? (i := 18) rfl)
theorem dX5_amount_26 : decode cX5_amount 26 = .ok (.ifCond .eq 7, 3) := DX5_amount (26, .ifCond .eq 7, 3) (List.mem_of_getElem? (i := 19) rfl)
theorem dX5_amount_29 : decode cX5_amount 29 = .ok (.iconst 1, 1) := DX5_amount (29, .iconst 1, 1) (List.mem_of_getElem? (i := 20) rfl)
theorem dX5_amount_30 : decode cX5_amount 30 = .ok (.goto 4, 3) := DX5_amount (30, .goto 4, 3) (List.mem_of_getElem? (i := 21) rfl)
theorem dX5_amount_33 : decode cX5_amount 33 = .ok (.iconst 0, 1) := DX5_amount (33, .iconst 0, 1) (List.mem_of_getElem? (i := 22) rfl)
theorem dX5_amount_34 : decode cX5_amount 34 = .ok (.iadd, 1) := DX5_amount (34, .iadd, 1) (List.mem_of_getElem? (i := 23) rfl)
theorem dX5_amount_35 : decode cX5_amount 35 = .ok (.istore_n 2, 1) := DX5_amount (35, .istore_n 2, 1) (List.mem_of_getElem? (i := 24) rfl)
theorem dX5_amount_36 : decode cX5_amount 36 = .ok (.iinc 3 1, 3) := DX5_amount (36, .iinc 3 1, 3) (List.mem_of_getElem? (i := 25) rfl)
theorem dX5_amount_39 : decode cX5_amount 39 = .ok (.goto (-35), 3) := DX5_amount (39, .goto (-35), 3) (List.mem_of_getElem? (i := 26) rfl)
theorem dX5_amount_42 : decode cX5_amount 42 = .ok (.iload_n 2, 1) := DX5_amount (42, .iload_n 2, 1) (List.mem_of_getElem? (i := 27) rfl)
theorem dX5_amount_43 : decode cX5_amount 43 = .ok (.ireturn, 1) := DX5_amount (43, .ireturn, 1) (List.mem_of_getElem? (i := 28) rfl)
noncomputable def fX5_amount_L34 (l1 : Int32) (l3 : Int32) (s0 : Int32) (s1 : Int32) (σ : Mem) : Option ((Int32 × Int32 × Mem) ⊕ (Int32 × Mem)) :=
  some (.inl (s0 + s1, l3 + 1, σ))
set_option maxHeartbeats 4000000 in
set_option maxRecDepth 100000 in
theorem tX5_amount_L34 {E : Gx} {cI : ClassId} {ad : Nat → Nat} (C : Cx E rmX5_amount cI layX ad 4 RX5 cX5_amount) {out : Int32 × Mem} (K0 : KI E rmX5_amount cI layX ad 4 cX5_amount .int out) {l1 : Int32} {l3 : Int32} {s0 : Int32} {s1 : Int32} {σ : Mem} {res : (Int32 × Int32 × Mem) ⊕ (Int32 × Mem)} (h : fX5_amount_L34 l1 l3 s0 s1 σ = some res) (K : Sum.elim (fun a => G E rmX5_amount cI layX ad 4 4 [(0, .ref (ad 5)), (1, .int l1), (2, .int a.1), (3, .int a.2.1)] [] a.2.2) (fun b => G E rmX5_amount cI layX ad 4 42 [(2, .int b.1)] [] b.2) res) : G E rmX5_amount cI layX ad 4 34 [(0, .ref (ad 5)), (1, .int l1), (3, .int l3)] [.int s1, .int s0] σ := by
  unfold fX5_amount_L34 at h
  refine g_iadd 35 C dX5_amount_34 rfl ?_
  refine g_istore_n 36 [(2, .int (s0 + s1)), (0, .ref (ad 5)), (1, .int l1), (3, .int l3)] C dX5_amount_35 rfl (by decide) rfl rfl ?_
  refine g_iinc 39 [(3, .int (l3 + 1)), (2, .int (s0 + s1)), (0, .ref (ad 5)), (1, .int l1)] C dX5_amount_36 (j := 3) rfl (by rfl) (by decide) rfl rfl ?_
  refine g_goto 4 C dX5_amount_39 (by decide) ?_
  have hh := end_inl h K
  exact g_sub [2, 3, 1, 0] (hh) rfl
noncomputable def fX5_amount_B4 (l1 : Int32) (l2 : Int32) (l3 : Int32) (σ : Mem) : Option ((Int32 × Int32 × Mem) ⊕ (Int32 × Mem)) :=
  chk (inb l1 125) <|
  if (σ 16 l1.toNatClampNeg) ≤ l3 then
    some (.inr (l2, σ))
  else
    chk (inb ((l1 * 84) + l3) 10500) <|
    if (σ 15 ((l1 * 84) + l3).toNatClampNeg) = 0 then
      fX5_amount_L34 l1 l3 l2 0 σ
    else
      fX5_amount_L34 l1 l3 l2 1 σ
set_option maxHeartbeats 4000000 in
set_option maxRecDepth 100000 in
theorem tX5_amount_B4 {E : Gx} {cI : ClassId} {ad : Nat → Nat} (C : Cx E rmX5_amount cI layX ad 4 RX5 cX5_amount) {out : Int32 × Mem} (K0 : KI E rmX5_amount cI layX ad 4 cX5_amount .int out) {l1 : Int32} {l2 : Int32} {l3 : Int32} {σ : Mem} {res : (Int32 × Int32 × Mem) ⊕ (Int32 × Mem)} (h : fX5_amount_B4 l1 l2 l3 σ = some res) (K : Sum.elim (fun a => G E rmX5_amount cI layX ad 4 4 [(0, .ref (ad 5)), (1, .int l1), (2, .int a.1), (3, .int a.2.1)] [] a.2.2) (fun b => G E rmX5_amount cI layX ad 4 42 [(2, .int b.1)] [] b.2) res) : G E rmX5_amount cI layX ad 4 4 [(0, .ref (ad 5)), (1, .int l1), (2, .int l2), (3, .int l3)] [] σ := by
  unfold fX5_amount_B4 at h
  refine g_iload_n 5 C dX5_amount_4 rfl (j := 3) rfl rfl ?_
  refine g_aload_n 6 C dX5_amount_5 rfl (j := 0) rfl rfl ?_
  refine g_getr 9 (j := 3) C rfl rfl wu_X5 (by decide) wf_X5_15 rfl dX5_amount_6 rfl ?_
  refine g_iload_n 10 C dX5_amount_9 rfl (j := 1) rfl rfl ?_
  refine g_iald 11 C rfl dX5_amount_10 rfl h (fun h => ?_)
  refine g_icmp_ge 42 14 C dX5_amount_11 (by decide) rfl h (fun h => ?_) (fun h => ?_)
  · have hh := end_inr h K
    exact g_sub [2] (hh) rfl
  · refine g_iload_n 15 C dX5_amount_14 rfl (j := 2) rfl rfl ?_
    refine g_aload_n 16 C dX5_amount_15 rfl (j := 0) rfl rfl ?_
    refine g_getr 19 (j := 2) C rfl rfl wu_X5 (by decide) wf_X5_9 rfl dX5_amount_16 rfl ?_
    refine g_iload_n 20 C dX5_amount_19 rfl (j := 1) rfl rfl ?_
    refine g_bipush 22 (v := 84) C dX5_amount_20 (by decide) rfl ?_
    refine g_imul 23 C dX5_amount_22 rfl ?_
    refine g_iload_n 24 C dX5_amount_23 rfl (j := 3) rfl rfl ?_
    refine g_iadd 25 C dX5_amount_24 rfl ?_
    refine g_iald 26 C rfl dX5_amount_25 rfl h (fun h => ?_)
    refine g_if_eq 33 29 C dX5_amount_26 (by decide) rfl h (fun h => ?_) (fun h => ?_)
    · refine g_iconst 34 (v := 0) C dX5_amount_33 (by decide) rfl ?_
      exact g_sub [0, 1, 3] (tX5_amount_L34 (l1 := l1) (l3 := l3) (s0 := l2) (s1 := 0) (σ := σ) C K0 h K) rfl
    · refine g_iconst 30 (v := 1) C dX5_amount_29 (by decide) rfl ?_
      refine g_goto 34 C dX5_amount_30 (by decide) ?_
      exact g_sub [0, 1, 3] (tX5_amount_L34 (l1 := l1) (l3 := l3) (s0 := l2) (s1 := 1) (σ := σ) C K0 h K) rfl
noncomputable def fX5_amount_L42 (l2 : Int32) (σ : Mem) : Option (Int32 × Mem) :=
  some (l2, σ)
set_option maxHeartbeats 4000000 in
set_option maxRecDepth 100000 in
theorem tX5_amount_L42 {E : Gx} {cI : ClassId} {ad : Nat → Nat} (C : Cx E rmX5_amount cI layX ad 4 RX5 cX5_amount) {out : Int32 × Mem} (K0 : KI E rmX5_amount cI layX ad 4 cX5_amount .int out) {l2 : Int32} {σ : Mem} (h : fX5_amount_L42 l2 σ = some out) : G E rmX5_amount cI layX ad 4 42 [(2, .int l2)] [] σ := by
  unfold fX5_amount_L42 at h
  refine g_iload_n 43 C dX5_amount_42 rfl (j := 0) rfl rfl ?_
  cases h
  exact K0 _ _ dX5_amount_43 rfl
noncomputable def fX5_amount (a1 : Int32) (σ : Mem) : Option (Int32 × Mem) :=
  (loop (fun a => fX5_amount_B4 a1 a.1 a.2.1 a.2.2) (0, 0, σ)).bind fun b1 =>
  fX5_amount_L42 b1.1 b1.2
set_option maxHeartbeats 4000000 in
set_option maxRecDepth 100000 in
theorem mX5_amount {l : Launch} {D : va_G} {cI : ClassId} {ad : Nat → Nat} {a1 : Int32} {σ : Mem} {out : Int32 × Mem} (h : fX5_amount a1 σ = some out) : MI l D cI layX ad yX5_amount cX5_amount 4 .int rmX5_amount [.ref (ad 5), .int a1] σ out := by
  refine met_i (by decide) (Nat.le_of_ble_eq_true rfl) (fun E C K0 => ?_)
  show G E rmX5_amount cI layX ad 4 0 [(0, .ref (ad 5)), (1, .int a1)] [] σ
  unfold fX5_amount at h
  refine g_iconst 1 (v := 0) C dX5_amount_0 (by decide) rfl ?_
  refine g_istore_n 2 [(2, .int 0), (0, .ref (ad 5)), (1, .int a1)] C dX5_amount_1 rfl (by decide) rfl rfl ?_
  refine g_iconst 3 (v := 0) C dX5_amount_2 (by decide) rfl ?_
  refine g_istore_n 4 [(3, .int 0), (2, .int 0), (0, .ref (ad 5)), (1, .int a1)] C dX5_amount_3 rfl (by decide) rfl rfl ?_
  obtain ⟨b1, hb, h⟩ := bind_some h
  refine g_sub [2, 3, 1, 0] (g_loop (a := (0, 0, σ)) (fun a => G E rmX5_amount cI layX ad 4 4 [(0, .ref (ad 5)), (1, .int a1), (2, .int a.1), (3, .int a.2.1)] [] a.2.2) (fun b => G E rmX5_amount cI layX ad 4 42 [(2, .int b.1)] [] b.2) hb (fun a res h K => tX5_amount_B4 (l1 := a1) (l2 := a.1) (l3 := a.2.1) (σ := a.2.2) (res := res) C K0 h K) ?_) rfl
  show G E rmX5_amount cI layX ad 4 42 [(2, .int b1.1)] [] b1.2
  exact tX5_amount_L42 (l2 := b1.1) (σ := b1.2) C K0 h

/-! LoopReducer$Polys.placeOf(II)I -/
abbrev rmX5_placeOf : Room := { frames := 0, cells := 0, slots := 0, locals := 0 }
theorem qX5_placeOf : yX5_placeOf.cls ≠ "java/lang/invoke/MethodHandle" ∧ yX5_placeOf.cls ≠ "java/lang/invoke/VarHandle" ∧ (parseMethodDescriptor yX5_placeOf.desc).map (fun d => d.parameters.length) = some 2 := by decide +kernel
theorem DX5_placeOf : ∀ q ∈ ([(0, .iconst 0, 1), (1, .istore_n 3, 1), (2, .iconst 0, 1), (3, .istore 4, 2), (5, .iload 4, 2), (7, .aload_n 0, 1), (8, .getfield 15, 3), (11, .iload_n 1, 1), (12, .iaload, 1), (13, .if_icmp .ge 35, 3), (16, .aload_n 0, 1), (17, .getfield 9, 3), (20, .iload_n 1, 1), (21, .bipush 84, 2), (23, .imul, 1), (24, .iload 4, 2), (26, .iadd, 1), (27, .iaload, 1), (28, .ifCond .eq 14, 3), (31, .iload_n 3, 1), (32, .iload_n 2, 1), (33, .if_icmp .ne 6, 3), (36, .iload 4, 2), (38, .ireturn, 1), (39, .iinc 3 1, 3), (42, .iinc 4 1, 3), (45, .goto (-40), 3), (48, .iconst (-1), 1), (49, .ireturn, 1)] : List (Nat × Instr × Nat)), decode cX5_placeOf q.1 = .ok q.2 := by decide +kernel
theorem dX5_placeOf_0 : decode cX5_placeOf 0 = .ok (.iconst 0, 1) := DX5_placeOf (0, .iconst 0, 1) (List.mem_of_getElem? (i := 0) rfl)
theorem dX5_placeOf_1 : decode cX5_placeOf 1 = .ok (.istore_n 3, 1) := DX5_placeOf (1, .istore_n 3, 1) (List.mem_of_getElem? (i := 1) rfl)
theorem dX5_placeOf_2 : decode cX5_placeOf 2 = .ok (.iconst 0, 1) := DX5_placeOf (2, .iconst 0, 1) (List.mem_of_getElem? (i := 2) rfl)
theorem dX5_placeOf_3 : decode cX5_placeOf 3 = .ok (.istore 4, 2) := DX5_placeOf (3, .istore 4, 2) (List.mem_of_getElem? (i := 3) rfl)
theorem dX5_placeOf_5 : decode cX5_placeOf 5 = .ok (.iload 4, 2) := DX5_placeOf (5, .iload 4, 2) (List.mem_of_getElem? (i := 4) rfl)
theorem dX5_placeOf_7 : decode cX5_placeOf 7 = .ok (.aload_n 0, 1) := DX5_placeOf (7, .aload_n 0, 1) (List.mem_of_getElem? (i := 5) rfl)
theorem dX5_placeOf_8 : decode cX5_placeOf 8 = .ok (.getfield 15, 3) := DX5_placeOf (8, .getfield 15, 3) (List.mem_of_getElem? (i := 6) rfl)
theorem dX5_placeOf_11 : decode cX5_placeOf 11 = .ok (.iload_n 1, 1) := DX5_placeOf (11, .iload_n 1, 1) (List.mem_of_getElem? (i := 7) rfl)
theorem dX5_placeOf_12 : decode cX5_placeOf 12 = .ok (.iaload, 1) := DX5_placeOf (12, .iaload, 1) (List.mem_of_getElem? (i := 8) rfl)
theorem dX5_placeOf_13 : decode cX5_placeOf 13 = .ok (.if_icmp .ge 35, 3) := DX5_placeOf (13, .if_icmp .ge 35, 3) (List.mem_of_getElem? (i := 9) rfl)
theorem dX5_placeOf_16 : decode cX5_placeOf 16 = .ok (.aload_n 0, 1) := DX5_placeOf (16, .aload_n 0, 1) (List.mem_of_getElem? (i := 10) rfl)
theorem dX5_placeOf_17 : decode cX5_placeOf 17 = .ok (.getfield 9, 3) := DX5_placeOf (17, .getfield 9, 3) (List.mem_of_getElem? (i := 11) rfl)
theorem dX5_placeOf_20 : decode cX5_placeOf 20 = .ok (.iload_n 1, 1) := DX5_placeOf (20, .iload_n 1, 1) (List.mem_of_getElem? (i := 12) rfl)
theorem dX5_placeOf_21 : decode cX5_placeOf 21 = .ok (.bipush 84, 2) := DX5_placeOf (21, .bipush 84, 2) (List.mem_of_getElem? (i := 13) rfl)
theorem dX5_placeOf_23 : decode cX5_placeOf 23 = .ok (.imul, 1) := DX5_placeOf (23, .imul, 1) (List.mem_of_getElem? (i := 14) rfl)
theorem dX5_placeOf_24 : decode cX5_placeOf 24 = .ok (.iload 4, 2) := DX5_placeOf (24, .iload 4, 2) (List.mem_of_getElem? (i := 15) rfl)
theorem dX5_placeOf_26 : decode cX5_placeOf 26 = .ok (.iadd, 1) := DX5_placeOf (26, .iadd, 1) (List.mem_of_getElem? (i := 16) rfl)
theorem dX5_placeOf_27 : decode cX5_placeOf 27 = .ok (.iaload, 1) := DX5_placeOf (27, .iaload, 1) (List.mem_of_getElem? (i := 17) rfl)
theorem dX5_placeOf_28 : decode cX5_placeOf 28 = .ok (.ifCond .eq 14, 3) := DX5_placeOf (28, .ifCond .eq 14, 3) (List.mem_of_getElem? (i := 18) rfl)
theorem dX5_placeOf_31 : decode cX5_placeOf 31 = .ok (.iload_n 3, 1) := DX5_placeOf (31, .iload_n 3, 1) (List.mem_of_getElem? (i := 19) rfl)
theorem dX5_placeOf_32 : decode cX5_placeOf 32 = .ok (.iload_n 2, 1) := DX5_placeOf (32, .iload_n 2, 1) (List.mem_of_getElem? (i := 20) rfl)
theorem dX5_placeOf_33 : decode cX5_placeOf 33 = .ok (.if_icmp .ne 6, 3) := DX5_placeOf (33, .if_icmp .ne 6, 3) (List.mem_of_getElem? (i := 21) rfl)
theorem dX5_placeOf_36 : decode cX5_placeOf 36 = .ok (.iload 4, 2) := DX5_placeOf (36, .iload 4, 2) (List.mem_of_getElem? (i := 22) rfl)
theorem dX5_placeOf_38 : decode cX5_placeOf 38 = .ok (.ireturn, 1) := DX5_placeOf (38, .ireturn, 1) (List.mem_of_getElem? (i := 23) rfl)
theorem dX5_placeOf_39 : decode cX5_placeOf 39 = .ok (.iinc 3 1, 3) := DX5_placeOf (39, .iinc 3 1, 3) (List.mem_of_getElem? (i := 24) rfl)
theorem dX5_placeOf_42 : decode cX5_placeOf 42 = .ok (.iinc 4 1, 3) := DX5_placeOf (42, .iinc 4 1, 3) (List.mem_of_getElem? (i := 25) rfl)
theorem dX5_placeOf_45 : decode cX5_placeOf 45 = .ok (.goto (-40), 3) := DX5_placeOf (45, .goto (-40), 3) (List.mem_of_getElem? (i := 26) rfl)
theorem dX5_placeOf_48 : decode cX5_placeOf 48 = .ok (.iconst (-1), 1) := DX5_placeOf (48, .iconst (-1), 1) (List.mem_of_getElem? (i := 27) rfl)
theorem dX5_placeOf_49 : decode cX5_placeOf 49 = .ok (.ireturn, 1) := DX5_placeOf (49, .ireturn, 1) (List.mem_of_getElem? (i := 28) rfl)
noncomputable def fX5_placeOf_L42 (l1 : Int32) (l2 : Int32) (l3 : Int32) (l4 : Int32) (σ : Mem) : Option ((Int32 × Int32 × Mem) ⊕ ((Mem) ⊕ (Int32 × Mem))) :=
  some (.inl (l3, l4 + 1, σ))
set_option maxHeartbeats 4000000 in
set_option maxRecDepth 100000 in
theorem tX5_placeOf_L42 {E : Gx} {cI : ClassId} {ad : Nat → Nat} (C : Cx E rmX5_placeOf cI layX ad 5 RX5 cX5_placeOf) {out : Int32 × Mem} (K0 : KI E rmX5_placeOf cI layX ad 5 cX5_placeOf .int out) {l1 : Int32} {l2 : Int32} {l3 : Int32} {l4 : Int32} {σ : Mem} {res : (Int32 × Int32 × Mem) ⊕ ((Mem) ⊕ (Int32 × Mem))} (h : fX5_placeOf_L42 l1 l2 l3 l4 σ = some res) (K : Sum.elim (fun a => G E rmX5_placeOf cI layX ad 5 5 [(0, .ref (ad 5)), (1, .int l1), (2, .int l2), (3, .int a.1), (4, .int a.2.1)] [] a.2.2) (Sum.elim (fun b => G E rmX5_placeOf cI layX ad 5 48 [] [] b) (fun b => b = out)) res) : G E rmX5_placeOf cI layX ad 5 42 [(0, .ref (ad 5)), (1, .int l1), (2, .int l2), (3, .int l3), (4, .int l4)] [] σ := by
  unfold fX5_placeOf_L42 at h
  refine g_iinc 45 [(4, .int (l4 + 1)), (0, .ref (ad 5)), (1, .int l1), (2, .int l2), (3, .int l3)] C dX5_placeOf_42 (j := 4) rfl (by rfl) (by decide) rfl rfl ?_
  refine g_goto 5 C dX5_placeOf_45 (by decide) ?_
  have hh := end_inl h K
  exact g_sub [1, 2, 3, 4, 0] (hh) rfl
noncomputable def fX5_placeOf_B5 (l1 : Int32) (l2 : Int32) (l3 : Int32) (l4 : Int32) (σ : Mem) : Option ((Int32 × Int32 × Mem) ⊕ ((Mem) ⊕ (Int32 × Mem))) :=
  chk (inb l1 125) <|
  if (σ 16 l1.toNatClampNeg) ≤ l4 then
    some (.inr (.inl σ))
  else
    chk (inb ((l1 * 84) + l4) 10500) <|
    if (σ 15 ((l1 * 84) + l4).toNatClampNeg) = 0 then
      fX5_placeOf_L42 l1 l2 l3 l4 σ
    else
      if l3 = l2 then
        some (.inr (.inr (l4, σ)))
      else
        fX5_placeOf_L42 l1 l2 (l3 + 1) l4 σ
set_option maxHeartbeats 4000000 in
set_option maxRecDepth 100000 in
theorem tX5_placeOf_B5 {E : Gx} {cI : ClassId} {ad : Nat → Nat} (C : Cx E rmX5_placeOf cI layX ad 5 RX5 cX5_placeOf) {out : Int32 × Mem} (K0 : KI E rmX5_placeOf cI layX ad 5 cX5_placeOf .int out) {l1 : Int32} {l2 : Int32} {l3 : Int32} {l4 : Int32} {σ : Mem} {res : (Int32 × Int32 × Mem) ⊕ ((Mem) ⊕ (Int32 × Mem))} (h : fX5_placeOf_B5 l1 l2 l3 l4 σ = some res) (K : Sum.elim (fun a => G E rmX5_placeOf cI layX ad 5 5 [(0, .ref (ad 5)), (1, .int l1), (2, .int l2), (3, .int a.1), (4, .int a.2.1)] [] a.2.2) (Sum.elim (fun b => G E rmX5_placeOf cI layX ad 5 48 [] [] b) (fun b => b = out)) res) : G E rmX5_placeOf cI layX ad 5 5 [(0, .ref (ad 5)), (1, .int l1), (2, .int l2), (3, .int l3), (4, .int l4)] [] σ := by
  unfold fX5_placeOf_B5 at h
  refine g_iload 7 C dX5_placeOf_5 (j := 4) rfl rfl ?_
  refine g_aload_n 8 C dX5_placeOf_7 rfl (j := 0) rfl rfl ?_
  refine g_getr 11 (j := 3) C rfl rfl wu_X5 (by decide) wf_X5_15 rfl dX5_placeOf_8 rfl ?_
  refine g_iload_n 12 C dX5_placeOf_11 rfl (j := 1) rfl rfl ?_
  refine g_iald 13 C rfl dX5_placeOf_12 rfl h (fun h => ?_)
  refine g_icmp_ge 48 16 C dX5_placeOf_13 (by decide) rfl h (fun h => ?_) (fun h => ?_)
  · have hh := end_alt0_2 h K
    exact g_sub [] (hh) rfl
  · refine g_aload_n 17 C dX5_placeOf_16 rfl (j := 0) rfl rfl ?_
    refine g_getr 20 (j := 2) C rfl rfl wu_X5 (by decide) wf_X5_9 rfl dX5_placeOf_17 rfl ?_
    refine g_iload_n 21 C dX5_placeOf_20 rfl (j := 1) rfl rfl ?_
    refine g_bipush 23 (v := 84) C dX5_placeOf_21 (by decide) rfl ?_
    refine g_imul 24 C dX5_placeOf_23 rfl ?_
    refine g_iload 26 C dX5_placeOf_24 (j := 4) rfl rfl ?_
    refine g_iadd 27 C dX5_placeOf_26 rfl ?_
    refine g_iald 28 C rfl dX5_placeOf_27 rfl h (fun h => ?_)
    refine g_if_eq 42 31 C dX5_placeOf_28 (by decide) rfl h (fun h => ?_) (fun h => ?_)
    · exact tX5_placeOf_L42 (l1 := l1) (l2 := l2) (l3 := l3) (l4 := l4) (σ := σ) C K0 h K
    · refine g_iload_n 32 C dX5_placeOf_31 rfl (j := 3) rfl rfl ?_
      refine g_iload_n 33 C dX5_placeOf_32 rfl (j := 2) rfl rfl ?_
      refine g_icmp_ne 39 36 C dX5_placeOf_33 (by decide) rfl h (fun h => ?_) (fun h => ?_)
      · refine g_iload 38 C dX5_placeOf_36 (j := 4) rfl rfl ?_
        have ho := end_alt1_2 h K
        replace ho : (l4, σ) = out := ho
        subst ho
        exact K0 _ _ dX5_placeOf_38 rfl
      · refine g_iinc 42 [(3, .int (l3 + 1)), (0, .ref (ad 5)), (1, .int l1), (2, .int l2), (4, .int l4)] C dX5_placeOf_39 (j := 3) rfl (by rfl) (by decide) rfl rfl ?_
        exact g_sub [1, 2, 3, 0, 4] (tX5_placeOf_L42 (l1 := l1) (l2 := l2) (l3 := (l3 + 1)) (l4 := l4) (σ := σ) C K0 h K) rfl
noncomputable def fX5_placeOf_L48 (σ : Mem) : Option (Int32 × Mem) :=
  some ((-1), σ)
set_option maxHeartbeats 4000000 in
set_option maxRecDepth 100000 in
theorem tX5_placeOf_L48 {E : Gx} {cI : ClassId} {ad : Nat → Nat} (C : Cx E rmX5_placeOf cI layX ad 5 RX5 cX5_placeOf) {out : Int32 × Mem} (K0 : KI E rmX5_placeOf cI layX ad 5 cX5_placeOf .int out) {σ : Mem} (h : fX5_placeOf_L48 σ = some out) : G E rmX5_placeOf cI layX ad 5 48 [] [] σ := by
  unfold fX5_placeOf_L48 at h
  refine g_iconst 49 (v := (-1)) C dX5_placeOf_48 (by decide) rfl ?_
  cases h
  exact K0 _ _ dX5_placeOf_49 rfl
noncomputable def fX5_placeOf (a1 : Int32) (a2 : Int32) (σ : Mem) : Option (Int32 × Mem) :=
  (loop (fun a => fX5_placeOf_B5 a1 a2 a.1 a.2.1 a.2.2) (0, 0, σ)).bind (Sum.elim (fun b1x0 => fX5_placeOf_L48 b1x0) (fun b1r => some b1r))
set_option maxHeartbeats 4000000 in
set_option maxRecDepth 100000 in
theorem mX5_placeOf {l : Launch} {D : va_G} {cI : ClassId} {ad : Nat → Nat} {a1 : Int32} {a2 : Int32} {σ : Mem} {out : Int32 × Mem} (h : fX5_placeOf a1 a2 σ = some out) : MI l D cI layX ad yX5_placeOf cX5_placeOf 5 .int rmX5_placeOf [.ref (ad 5), .int a1, .int a2] σ out := by
  refine met_i (by decide) (Nat.le_of_ble_eq_true rfl) (fun E C K0 => ?_)
  show G E rmX5_placeOf cI layX ad 5 0 [(0, .ref (ad 5)), (1, .int a1), (2, .int a2)] [] σ
  unfold fX5_placeOf at h
  refine g_iconst 1 (v := 0) C dX5_placeOf_0 (by decide) rfl ?_
  refine g_istore_n 2 [(3, .int 0), (0, .ref (ad 5)), (1, .int a1), (2, .int a2)] C dX5_placeOf_1 rfl (by decide) rfl rfl ?_
  refine g_iconst 3 (v := 0) C dX5_placeOf_2 (by decide) rfl ?_
  refine g_istore 5 [(4, .int 0), (3, .int 0), (0, .ref (ad 5)), (1, .int a1), (2, .int a2)] C dX5_placeOf_3 (by decide) rfl rfl ?_
  obtain ⟨b1, hb, h⟩ := bind_some h
  refine g_sub [2, 3, 4, 1, 0] (g_loop (a := (0, 0, σ)) (fun a => G E rmX5_placeOf cI layX ad 5 5 [(0, .ref (ad 5)), (1, .int a1), (2, .int a2), (3, .int a.1), (4, .int a.2.1)] [] a.2.2) (Sum.elim (fun b => G E rmX5_placeOf cI layX ad 5 48 [] [] b) (fun b => b = out)) hb (fun a res h K => tX5_placeOf_B5 (l1 := a1) (l2 := a2) (l3 := a.1) (l4 := a.2.1) (σ := a.2.2) (res := res) C K0 h K) ?_) rfl
  rcases b1 with b1x0 | b1r
  · show G E rmX5_placeOf cI layX ad 5 48 [] [] b1x0
    exact tX5_placeOf_L48 (σ := b1x0) C K0 h
  · exact end_top h

/-! LoopReducer$Polys.factorAt(II)I -/
abbrev rmX5_factorAt : Room := { frames := 0, cells := 0, slots := 0, locals := 0 }
theorem qX5_factorAt : yX5_factorAt.cls ≠ "java/lang/invoke/MethodHandle" ∧ yX5_factorAt.cls ≠ "java/lang/invoke/VarHandle" ∧ (parseMethodDescriptor yX5_factorAt.desc).map (fun d => d.parameters.length) = some 2 := by decide +kernel
theorem DX5_factorAt : ∀ q ∈ ([(0, .aload_n 0, 1), (1, .getfield 9, 3), (4, .iload_n 1, 1), (5, .bipush 84, 2), (7, .imul, 1), (8, .iload_n 2, 1), (9, .iadd, 1), (10, .iaload, 1), (11, .ireturn, 1)] : List (Nat × Instr × Nat)), decode cX5_factorAt q.1 = .ok q.2 := by decide +kernel
theorem dX5_factorAt_0 : decode cX5_factorAt 0 = .ok (.aload_n 0, 1) := DX5_factorAt (0, .aload_n 0, 1) (List.mem_of_getElem? (i := 0) rfl)
theorem dX5_factorAt_1 : decode cX5_factorAt 1 = .ok (.getfield 9, 3) := DX5_factorAt (1, .getfield 9, 3) (List.mem_of_getElem? (i := 1) rfl)
theorem dX5_factorAt_4 : decode cX5_factorAt 4 = .ok (.iload_n 1, 1) := DX5_factorAt (4, .iload_n 1, 1) (List.mem_of_getElem? (i := 2) rfl)
theorem dX5_factorAt_5 : decode cX5_factorAt 5 = .ok (.bipush 84, 2) := DX5_factorAt (5, .bipush 84, 2) (List.mem_of_getElem? (i := 3) rfl)
theorem dX5_factorAt_7 : decode cX5_factorAt 7 = .ok (.imul, 1) := DX5_factorAt (7, .imul, 1) (List.mem_of_getElem? (i := 4) rfl)
theorem dX5_factorAt_8 : decode cX5_factorAt 8 = .ok (.iload_n 2, 1) := DX5_factorAt (8, .iload_n 2, 1) (List.mem_of_getElem? (i := 5) rfl)
theorem dX5_factorAt_9 : decode cX5_factorAt 9 = .ok (.iadd, 1) := DX5_factorAt (9, .iadd, 1) (List.mem_of_getElem? (i := 6) rfl)
theorem dX5_factorAt_10 : decode cX5_factorAt 10 = .ok (.iaload, 1) := DX5_factorAt (10, .iaload, 1) (List.mem_of_getElem? (i := 7) rfl)
theorem dX5_factorAt_11 : decode cX5_factorAt 11 = .ok (.ireturn, 1) := DX5_factorAt (11, .ireturn, 1) (List.mem_of_getElem? (i := 8) rfl)
noncomputable def fX5_factorAt (a1 : Int32) (a2 : Int32) (σ : Mem) : Option (Int32 × Mem) :=
  chk (inb ((a1 * 84) + a2) 10500) <|
  some (σ 15 ((a1 * 84) + a2).toNatClampNeg, σ)
set_option maxHeartbeats 4000000 in
set_option maxRecDepth 100000 in
theorem mX5_factorAt {l : Launch} {D : va_G} {cI : ClassId} {ad : Nat → Nat} {a1 : Int32} {a2 : Int32} {σ : Mem} {out : Int32 × Mem} (h : fX5_factorAt a1 a2 σ = some out) : MI l D cI layX ad yX5_factorAt cX5_factorAt 3 .int rmX5_factorAt [.ref (ad 5), .int a1, .int a2] σ out := by
  refine met_i (by decide) (Nat.le_of_ble_eq_true rfl) (fun E C K0 => ?_)
  show G E rmX5_factorAt cI layX ad 3 0 [(0, .ref (ad 5)), (1, .int a1), (2, .int a2)] [] σ
  unfold fX5_factorAt at h
  refine g_aload_n 1 C dX5_factorAt_0 rfl (j := 0) rfl rfl ?_
  refine g_getr 4 (j := 2) C rfl rfl wu_X5 (by decide) wf_X5_9 rfl dX5_factorAt_1 rfl ?_
  refine g_iload_n 5 C dX5_factorAt_4 rfl (j := 1) rfl rfl ?_
  refine g_bipush 7 (v := 84) C dX5_factorAt_5 (by decide) rfl ?_
  refine g_imul 8 C dX5_factorAt_7 rfl ?_
  refine g_iload_n 9 C dX5_factorAt_8 rfl (j := 2) rfl rfl ?_
  refine g_iadd 10 C dX5_factorAt_9 rfl ?_
  refine g_iald 11 C rfl dX5_factorAt_10 rfl h (fun h => ?_)
  cases h
  exact K0 _ _ dX5_factorAt_11 rfl

/-! LoopReducer$Polys.worth(I)I -/
abbrev rmX5_worth : Room := { frames := 1, cells := 0, slots := 0, locals := 24 }
theorem qX5_worth : yX5_worth.cls ≠ "java/lang/invoke/MethodHandle" ∧ yX5_worth.cls ≠ "java/lang/invoke/VarHandle" ∧ (parseMethodDescriptor yX5_worth.desc).map (fun d => d.parameters.length) = some 1 := by decide +kernel
theorem DX5_worth : ∀ q ∈ ([(0, .iconst 0, 1), (1, .istore_n 2, 1), (2, .iconst 0, 1), (3, .istore_n 3, 1), (4, .iload_n 3, 1), (5, .aload_n 0, 1), (6, .getfield 15, 3), (9, .iload_n 1, 1), (10, .iaload, 1), (11, .if_icmp .ge 41, 3), (14, .aload_n 0, 1), (15, .getfield 9, 3), (18, .iload_n 1, 1), (19, .bipush 84, 2), (21, .imul, 1), (22, .iload_n 3, 1), (23, .iadd, 1), (24, .iaload, 1), (25, .istore 4, 2), (27, .iload 4, 2), (29, .ifCond .eq 17, 3), (32, .iload_n 2, 1), (33, .iload 4, 2), (35, .aload_n 0, 1), (36, .getfield 18, 3), (39, .iload_n 3, 1), (40, .invokevirtual 47, 3), (43, .imul, 1), (44, .iadd, 1), (45, .istore_n 2, 1), (46, .iinc 3 1, 3), (49, .goto (-45), 3), (52, .iload_n 2, 1), (53, .aload_n 0, 1), (54, .getfield 22, 3), (57, .iand, 1), (58, .ireturn, 1)] : List (Nat × Instr × Nat)), decode cX5_worth q.1 = .ok q.2 := by decide +kernel
theorem dX5_worth_0 : decode cX5_worth 0 = .ok (.iconst 0, 1) := DX5_worth (0, .iconst 0, 1) (List.mem_of_getElem? (i := 0) rfl)
theorem dX5_worth_1 : decode cX5_worth 1 = .ok (.istore_n 2, 1) := DX5_worth (1, .istore_n 2, 1) (List.mem_of_getElem? (i := 1) rfl)
theorem dX5_worth_2 : decode cX5_worth 2 = .ok (.iconst 0, 1) := DX5_worth (2, .iconst 0, 1) (List.mem_of_getElem? (i := 2) rfl)
theorem dX5_worth_3 : decode cX5_worth 3 = .ok (.istore_n 3, 1) := DX5_worth (3, .istore_n 3, 1) (List.mem_of_getElem? (i := 3) rfl)
theorem dX5_worth_4 : decode cX5_worth 4 = .ok (.iload_n 3, 1) := DX5_worth (4, .iload_n 3, 1) (List.mem_of_getElem? (i := 4) rfl)
theorem dX5_worth_5 : decode cX5_worth 5 = .ok (.aload_n 0, 1) := DX5_worth (5, .aload_n 0, 1) (List.mem_of_getElem? (i := 5) rfl)
theorem dX5_worth_6 : decode cX5_worth 6 = .ok (.getfield 15, 3) := DX5_worth (6, .getfield 15, 3) (List.mem_of_getElem? (i := 6) rfl)
theorem dX5_worth_9 : decode cX5_worth 9 = .ok (.iload_n 1, 1) := DX5_worth (9, .iload_n 1, 1) (List.mem_of_getElem? (i := 7) rfl)
theorem dX5_worth_10 : decode cX5_worth 10 = .ok (.iaload, 1) := DX5_worth (10, .iaload, 1) (List.mem_of_getElem? (i := 8) rfl)
theorem dX5_worth_11 : decode cX5_worth 11 = .ok (.if_icmp .ge 41, 3) := DX5_worth (11, .if_icmp .ge 41, 3) (List.mem_of_getElem? (i := 9) rfl)
theorem dX5_worth_14 : decode cX5_worth 14 = .ok (.aload_n 0, 1) := DX5_worth (14, .aload_n 0, 1) (List.mem_of_getElem? (i := 10) rfl)
theorem dX5_worth_15 : decode cX5_worth 15 = .ok (.getfield 9, 3) := DX5_worth (15, .getfield 9, 3) (List.mem_of_getElem? (i := 11) rfl)
theorem dX5_worth_18 : decode cX5_worth 18 = .ok (.iload_n 1, 1) := DX5_worth (18, .iload_n 1, 1) (List.mem_of_getElem? (i := 12) rfl)
theorem dX5_worth_19 : decode cX5_worth 19 = .ok (.bipush 84, 2) := DX5_worth (19, .bipush 84, 2) (List.mem_of_getElem? (i := 13) rfl)
theorem dX5_worth_21 : decode cX5_worth 21 = .ok (.imul, 1) := DX5_worth (21, .imul, 1) (List.mem_of_getElem? (i := 14) rfl)
theorem dX5_worth_22 : decode cX5_worth 22 = .ok (.iload_n 3, 1) := DX5_worth (22, .iload_n 3, 1) (List.mem_of_getElem? (i := 15) rfl)
theorem dX5_worth_23 : decode cX5_worth 23 = .ok (.iadd, 1) := DX5_worth (23, .iadd, 1) (List.mem_of_getElem? (i := 16) rfl)
theorem dX5_worth_24 : decode cX5_worth 24 = .ok (.iaload, 1) := DX5_worth (24, .iaload, 1) (List.mem_of_getElem? (i := 17) rfl)
theorem dX5_worth_25 : decode cX5_worth 25 = .ok (.istore 4, 2) := DX5_worth (25, .istore 4, 2) (List.mem_of_getElem? (i := 18) rfl)
theorem dX5_worth_27 : decode cX5_worth 27 = .ok (.iload 4, 2) := DX5_worth (27, .iload 4, 2) (List.mem_of_getElem? (i := 19) rfl)
theorem dX5_worth_29 : decode cX5_worth 29 = .ok (.ifCond .eq 17, 3) := DX5_worth (29, .ifCond .eq 17, 3) (List.mem_of_getElem? (i := 20) rfl)
theorem dX5_worth_32 : decode cX5_worth 32 = .ok (.iload_n 2, 1) := DX5_worth (32, .iload_n 2, 1) (List.mem_of_getElem? (i := 21) rfl)
theorem dX5_worth_33 : decode cX5_worth 33 = .ok (.iload 4, 2) := DX5_worth (33, .iload 4, 2) (List.mem_of_getElem? (i := 22) rfl)
theorem dX5_worth_35 : decode cX5_worth 35 = .ok (.aload_n 0, 1) := DX5_worth (35, .aload_n 0, 1) (List.mem_of_getElem? (i := 23) rfl)
theorem dX5_worth_36 : decode cX5_worth 36 = .ok (.getfield 18, 3) := DX5_worth (36, .getfield 18, 3) (List.mem_of_getElem? (i := 24) rfl)
theorem dX5_worth_39 : decode cX5_worth 39 = .ok (.iload_n 3, 1) := DX5_worth (39, .iload_n 3, 1) (List.mem_of_getElem? (i := 25) rfl)
theorem dX5_worth_40 : decode cX5_worth 40 = .ok (.invokevirtual 47, 3) := DX5_worth (40, .invokevirtual 47, 3) (List.mem_of_getElem? (i := 26) rfl)
theorem dX5_worth_43 : decode cX5_worth 43 = .ok (.imul, 1) := DX5_worth (43, .imul, 1) (List.mem_of_getElem? (i := 27) rfl)
theorem dX5_worth_44 : decode cX5_worth 44 = .ok (.iadd, 1) := DX5_worth (44, .iadd, 1) (List.mem_of_getElem? (i := 28) rfl)
theorem dX5_worth_45 : decode cX5_worth 45 = .ok (.istore_n 2, 1) := DX5_worth (45, .istore_n 2, 1) (List.mem_of_getElem? (i := 29) rfl)
theorem dX5_worth_46 : decode cX5_worth 46 = .ok (.iinc 3 1, 3) := DX5_worth (46, .iinc 3 1, 3) (List.mem_of_getElem? (i := 30) rfl)
theorem dX5_worth_49 : decode cX5_worth 49 = .ok (.goto (-45), 3) := DX5_worth (49, .goto (-45), 3) (List.mem_of_getElem? (i := 31) rfl)
theorem dX5_worth_52 : decode cX5_worth 52 = .ok (.iload_n 2, 1) := DX5_worth (52, .iload_n 2, 1) (List.mem_of_getElem? (i := 32) rfl)
theorem dX5_worth_53 : decode cX5_worth 53 = .ok (.aload_n 0, 1) := DX5_worth (53, .aload_n 0, 1) (List.mem_of_getElem? (i := 33) rfl)
theorem dX5_worth_54 : decode cX5_worth 54 = .ok (.getfield 22, 3) := DX5_worth (54, .getfield 22, 3) (List.mem_of_getElem? (i := 34) rfl)
theorem dX5_worth_57 : decode cX5_worth 57 = .ok (.iand, 1) := DX5_worth (57, .iand, 1) (List.mem_of_getElem? (i := 35) rfl)
theorem dX5_worth_58 : decode cX5_worth 58 = .ok (.ireturn, 1) := DX5_worth (58, .ireturn, 1) (List.mem_of_getElem? (i := 36) rfl)
noncomputable def fX5_worth_L46 (l1 : Int32) (l2 : Int32) (l3 : Int32) (σ : Mem) : Option ((Int32 × Int32 × Mem) ⊕ (Int32 × Mem)) :=
  some (.inl (l2, l3 + 1, σ))
set_option maxHeartbeats 4000000 in
set_option maxRecDepth 100000 in
theorem tX5_worth_L46 {E : Gx} {cI : ClassId} {ad : Nat → Nat} (C : Cx E rmX5_worth cI layX ad 5 RX5 cX5_worth) {out : Int32 × Mem} (K0 : KI E rmX5_worth cI layX ad 5 cX5_worth .int out) {l1 : Int32} {l2 : Int32} {l3 : Int32} {σ : Mem} {res : (Int32 × Int32 × Mem) ⊕ (Int32 × Mem)} (h : fX5_worth_L46 l1 l2 l3 σ = some res) (K : Sum.elim (fun a => G E rmX5_worth cI layX ad 5 4 [(0, .ref (ad 5)), (1, .int l1), (2, .int a.1), (3, .int a.2.1)] [] a.2.2) (fun b => G E rmX5_worth cI layX ad 5 52 [(0, .ref (ad 5)), (2, .int b.1)] [] b.2) res) : G E rmX5_worth cI layX ad 5 46 [(0, .ref (ad 5)), (1, .int l1), (2, .int l2), (3, .int l3)] [] σ := by
  unfold fX5_worth_L46 at h
  refine g_iinc 49 [(3, .int (l3 + 1)), (0, .ref (ad 5)), (1, .int l1), (2, .int l2)] C dX5_worth_46 (j := 3) rfl (by rfl) (by decide) rfl rfl ?_
  refine g_goto 4 C dX5_worth_49 (by decide) ?_
  have hh := end_inl h K
  exact g_sub [1, 2, 3, 0] (hh) rfl
noncomputable def fX5_worth_B4 (l1 : Int32) (l2 : Int32) (l3 : Int32) (σ : Mem) : Option ((Int32 × Int32 × Mem) ⊕ (Int32 × Mem)) :=
  chk (inb l1 125) <|
  if (σ 16 l1.toNatClampNeg) ≤ l3 then
    some (.inr (l2, σ))
  else
    chk (inb ((l1 * 84) + l3) 10500) <|
    if (σ 15 ((l1 * 84) + l3).toNatClampNeg) = 0 then
      fX5_worth_L46 l1 l2 l3 σ
    else
      (fX2_worth l3 σ).bind fun o1 =>
      fX5_worth_L46 l1 (l2 + ((σ 15 ((l1 * 84) + l3).toNatClampNeg) * o1.1)) l3 o1.2
set_option maxHeartbeats 4000000 in
set_option maxRecDepth 100000 in
theorem tX5_worth_B4 {E : Gx} {cI : ClassId} {ad : Nat → Nat} (C : Cx E rmX5_worth cI layX ad 5 RX5 cX5_worth) {out : Int32 × Mem} (K0 : KI E rmX5_worth cI layX ad 5 cX5_worth .int out) {l1 : Int32} {l2 : Int32} {l3 : Int32} {σ : Mem} {res : (Int32 × Int32 × Mem) ⊕ (Int32 × Mem)} (h : fX5_worth_B4 l1 l2 l3 σ = some res) (K : Sum.elim (fun a => G E rmX5_worth cI layX ad 5 4 [(0, .ref (ad 5)), (1, .int l1), (2, .int a.1), (3, .int a.2.1)] [] a.2.2) (fun b => G E rmX5_worth cI layX ad 5 52 [(0, .ref (ad 5)), (2, .int b.1)] [] b.2) res) : G E rmX5_worth cI layX ad 5 4 [(0, .ref (ad 5)), (1, .int l1), (2, .int l2), (3, .int l3)] [] σ := by
  unfold fX5_worth_B4 at h
  refine g_iload_n 5 C dX5_worth_4 rfl (j := 3) rfl rfl ?_
  refine g_aload_n 6 C dX5_worth_5 rfl (j := 0) rfl rfl ?_
  refine g_getr 9 (j := 3) C rfl rfl wu_X5 (by decide) wf_X5_15 rfl dX5_worth_6 rfl ?_
  refine g_iload_n 10 C dX5_worth_9 rfl (j := 1) rfl rfl ?_
  refine g_iald 11 C rfl dX5_worth_10 rfl h (fun h => ?_)
  refine g_icmp_ge 52 14 C dX5_worth_11 (by decide) rfl h (fun h => ?_) (fun h => ?_)
  · have hh := end_inr h K
    exact g_sub [0, 2] (hh) rfl
  · refine g_aload_n 15 C dX5_worth_14 rfl (j := 0) rfl rfl ?_
    refine g_getr 18 (j := 2) C rfl rfl wu_X5 (by decide) wf_X5_9 rfl dX5_worth_15 rfl ?_
    refine g_iload_n 19 C dX5_worth_18 rfl (j := 1) rfl rfl ?_
    refine g_bipush 21 (v := 84) C dX5_worth_19 (by decide) rfl ?_
    refine g_imul 22 C dX5_worth_21 rfl ?_
    refine g_iload_n 23 C dX5_worth_22 rfl (j := 3) rfl rfl ?_
    refine g_iadd 24 C dX5_worth_23 rfl ?_
    refine g_iald 25 C rfl dX5_worth_24 rfl h (fun h => ?_)
    refine g_istore 27 [(4, .int (σ 15 ((l1 * 84) + l3).toNatClampNeg)), (0, .ref (ad 5)), (1, .int l1), (2, .int l2), (3, .int l3)] C dX5_worth_25 (by decide) rfl rfl ?_
    refine g_iload 29 C dX5_worth_27 (j := 0) rfl rfl ?_
    refine g_if_eq 46 32 C dX5_worth_29 (by decide) rfl h (fun h => ?_) (fun h => ?_)
    · exact g_sub [1, 2, 3, 4] (tX5_worth_L46 (l1 := l1) (l2 := l2) (l3 := l3) (σ := σ) C K0 h K) rfl
    · refine g_iload_n 33 C dX5_worth_32 rfl (j := 3) rfl rfl ?_
      refine g_iload 35 C dX5_worth_33 (j := 0) rfl rfl ?_
      refine g_aload_n 36 C dX5_worth_35 rfl (j := 1) rfl rfl ?_
      refine g_getr 39 (j := 0) C rfl rfl wu_X5 (by decide) wf_X5_18 rfl dX5_worth_36 rfl ?_
      refine g_iload_n 40 C dX5_worth_39 rfl (j := 4) rfl rfl ?_
      refine g_cni 43 C (As := [.int l3]) (fun _ h => mX2_worth (a1 := l3) (σ := σ) h) (List.mem_of_getElem? (i := 41) rfl) wi_X2_worth wz_X2_worth wc_X2_worth wn_X2 qX2_worth rfl rfl ⟨Nat.le_of_ble_eq_true rfl, Nat.le_of_ble_eq_true rfl⟩ rfl rfl rfl rfl (Nat.le_of_ble_eq_true rfl) dX5_worth_40 rfl h (fun o1 h => ?_)
      refine g_imul 44 C dX5_worth_43 rfl ?_
      refine g_iadd 45 C dX5_worth_44 rfl ?_
      refine g_istore_n 46 [(2, .int (l2 + ((σ 15 ((l1 * 84) + l3).toNatClampNeg) * o1.1))), (4, .int (σ 15 ((l1 * 84) + l3).toNatClampNeg)), (0, .ref (ad 5)), (1, .int l1), (3, .int l3)] C dX5_worth_45 rfl (by decide) rfl rfl ?_
      exact g_sub [2, 3, 0, 4] (tX5_worth_L46 (l1 := l1) (l2 := (l2 + ((σ 15 ((l1 * 84) + l3).toNatClampNeg) * o1.1))) (l3 := l3) (σ := o1.2) C K0 h K) rfl
noncomputable def fX5_worth_L52 (l2 : Int32) (σ : Mem) : Option (Int32 × Mem) :=
  some (l2 &&& (σ 5 1), σ)
set_option maxHeartbeats 4000000 in
set_option maxRecDepth 100000 in
theorem tX5_worth_L52 {E : Gx} {cI : ClassId} {ad : Nat → Nat} (C : Cx E rmX5_worth cI layX ad 5 RX5 cX5_worth) {out : Int32 × Mem} (K0 : KI E rmX5_worth cI layX ad 5 cX5_worth .int out) {l2 : Int32} {σ : Mem} (h : fX5_worth_L52 l2 σ = some out) : G E rmX5_worth cI layX ad 5 52 [(0, .ref (ad 5)), (2, .int l2)] [] σ := by
  unfold fX5_worth_L52 at h
  refine g_iload_n 53 C dX5_worth_52 rfl (j := 1) rfl rfl ?_
  refine g_aload_n 54 C dX5_worth_53 rfl (j := 0) rfl rfl ?_
  refine g_geti 57 (j := 1) C rfl rfl wu_X5 (by decide) wf_X5_22 rfl dX5_worth_54 rfl ?_
  refine g_iand 58 C dX5_worth_57 rfl ?_
  cases h
  exact K0 _ _ dX5_worth_58 rfl
noncomputable def fX5_worth (a1 : Int32) (σ : Mem) : Option (Int32 × Mem) :=
  (loop (fun a => fX5_worth_B4 a1 a.1 a.2.1 a.2.2) (0, 0, σ)).bind fun b2 =>
  fX5_worth_L52 b2.1 b2.2
set_option maxHeartbeats 4000000 in
set_option maxRecDepth 100000 in
theorem mX5_worth {l : Launch} {D : va_G} {cI : ClassId} {ad : Nat → Nat} {a1 : Int32} {σ : Mem} {out : Int32 × Mem} (h : fX5_worth a1 σ = some out) : MI l D cI layX ad yX5_worth cX5_worth 5 .int rmX5_worth [.ref (ad 5), .int a1] σ out := by
  refine met_i (by decide) (Nat.le_of_ble_eq_true rfl) (fun E C K0 => ?_)
  show G E rmX5_worth cI layX ad 5 0 [(0, .ref (ad 5)), (1, .int a1)] [] σ
  unfold fX5_worth at h
  refine g_iconst 1 (v := 0) C dX5_worth_0 (by decide) rfl ?_
  refine g_istore_n 2 [(2, .int 0), (0, .ref (ad 5)), (1, .int a1)] C dX5_worth_1 rfl (by decide) rfl rfl ?_
  refine g_iconst 3 (v := 0) C dX5_worth_2 (by decide) rfl ?_
  refine g_istore_n 4 [(3, .int 0), (2, .int 0), (0, .ref (ad 5)), (1, .int a1)] C dX5_worth_3 rfl (by decide) rfl rfl ?_
  obtain ⟨b2, hb, h⟩ := bind_some h
  refine g_sub [2, 3, 1, 0] (g_loop (a := (0, 0, σ)) (fun a => G E rmX5_worth cI layX ad 5 4 [(0, .ref (ad 5)), (1, .int a1), (2, .int a.1), (3, .int a.2.1)] [] a.2.2) (fun b => G E rmX5_worth cI layX ad 5 52 [(0, .ref (ad 5)), (2, .int b.1)] [] b.2) hb (fun a res h K => tX5_worth_B4 (l1 := a1) (l2 := a.1) (l3 := a.2.1) (σ := a.2.2) (res := res) C K0 h K) ?_) rfl
  show G E rmX5_worth cI layX ad 5 52 [(0, .ref (ad 5)), (2, .int b2.1)] [] b2.2
  exact tX5_worth_L52 (l2 := b2.1) (σ := b2.2) C K0 h

/-! LoopReducer$Polys.addProduct(IIII)Z -/
abbrev rmX5_addProduct : Room := { frames := 1, cells := 0, slots := 0, locals := 22 }
theorem qX5_addProduct : yX5_addProduct.cls ≠ "java/lang/invoke/MethodHandle" ∧ yX5_addProduct.cls ≠ "java/lang/invoke/VarHandle" ∧ (parseMethodDescriptor yX5_addProduct.desc).map (fun d => d.parameters.length) = some 4 := by decide +kernel
theorem DX5_addProduct : ∀ q ∈ ([(0, .iconst 0, 1), (1, .istore 5, 2), (3, .iload 5, 2), (5, .aload_n 0, 1), (6, .getfield 15, 3), (9, .iload_n 2, 1), (10, .iaload, 1), (11, .if_icmp .ge 150, 3), (14, .aload_n 0, 1), (15, .getfield 9, 3), (18, .iload_n 2, 1), (19, .bipush 84, 2), (21, .imul, 1), (22, .iload 5, 2), (24, .iadd, 1), (25, .iaload, 1), (26, .istore 6, 2), (28, .iload 6, 2), (30, .ifCond .ne 6, 3), (33, .goto 122, 3), (36, .iconst 0, 1), (37, .istore 7, 2), (39, .iload 7, 2), (41, .aload_n 0, 1), (42, .getfield 15, 3), (45, .iload_n 3, 1), (46, .iaload, 1), (47, .if_icmp .ge 108, 3), (50, .aload_n 0, 1), (51, .getfield 9, 3), (54, .iload_n 3, 1), (55, .bipush 84, 2), (57, .imul, 1), (58, .iload 7, 2), (60, .iadd, 1), (61, .iaload, 1), (62, .istore 8, 2), (64, .iload 8, 2), (66, .ifCond .ne 6, 3), (69, .goto 80, 3), (72, .aload_n 0, 1), (73, .getfield 18, 3), (76, .iload 5, 2), (78, .iload 7, 2), (80, .invokevirtual 41, 3), (83, .istore 9, 2), (85, .iload 9, 2), (87, .iconst (-1), 1), (88, .if_icmp .ne 5, 3), (91, .iconst 0, 1), (92, .ireturn, 1), (93, .iload_n 1, 1), (94, .bipush 84, 2), (96, .imul, 1), (97, .iload 9, 2), (99, .iadd, 1), (100, .istore 10, 2), (102, .aload_n 0, 1), (103, .getfield 9, 3), (106, .iload 10, 2), (108, .aload_n 0, 1), (109, .getfield 9, 3), (112, .iload 10, 2), (114, .iaload, 1), (115, .iload 4, 2), (117, .iload 6, 2), (119, .imul, 1), (120, .iload 8, 2), (122, .imul, 1), (123, .iadd, 1), (124, .aload_n 0, 1), (125, .getfield 22, 3), (128, .iand, 1), (129, .iastore, 1), (130, .aload_n 0, 1), (131, .getfield 15, 3), (134, .iload_n 1, 1), (135, .aload_n 0, 1), (136, .getfield 15, 3), (139, .iload_n 1, 1), (140, .iaload, 1), (141, .iload 9, 2), (143, .iconst 1, 1), (144, .iadd, 1), (145, .invokestatic 35, 3), (148, .iastore, 1), (149, .iinc 7 1, 3), (152, .goto (-113), 3), (155, .iinc 5 1, 3), (158, .goto (-155), 3), (161, .aload_n 0, 1), (162, .iload_n 1, 1), (163, .invokevirtual 44, 3), (166, .iconst 1, 1), (167, .ireturn, 1)] : List (Nat × Instr × Nat)), decode cX5_addProduct q.1 = .ok q.2 := by decide +kernel
theorem dX5_addProduct_0 : decode cX5_addProduct 0 = .ok (.iconst 0, 1) := DX5_addProduct (0, .iconst 0, 1) (List.mem_of_getElem? (i := 0) rfl)
theorem dX5_addProduct_1 : decode cX5_addProduct 1 = .ok (.istore 5, 2) := DX5_addProduct (1, .istore 5, 2) (List.mem_of_getElem? (i := 1) rfl)
theorem dX5_addProduct_3 : decode cX5_addProduct 3 = .ok (.iload 5, 2) := DX5_addProduct (3, .iload 5, 2) (List.mem_of_getElem? (i := 2) rfl)
theorem dX5_addProduct_5 : decode cX5_addProduct 5 = .ok (.aload_n 0, 1) := DX5_addProduct (5, .aload_n 0, 1) (List.mem_of_getElem? (i := 3) rfl)
theorem dX5_addProduct_6 : decode cX5_addProduct 6 = .ok (.getfield 15, 3) := DX5_addProduct (6, .getfield 15, 3) (List.mem_of_getElem? (i := 4) rfl)
theorem dX5_addProduct_9 : decode cX5_addProduct 9 = .ok (.iload_n 2, 1) := DX5_addProduct (9, .iload_n 2, 1) (List.mem_of_getElem? (i := 5) rfl)
theorem dX5_addProduct_10 : decode cX5_addProduct 10 = .ok (.iaload, 1) := DX5_addProduct (10, .iaload, 1) (List.mem_of_getElem? (i := 6) rfl)
theorem dX5_addProduct_11 : decode cX5_addProduct 11 = .ok (.if_icmp .ge 150, 3) := DX5_addProduct (11, .if_icmp .ge 150, 3) (List.mem_of_getElem? (i := 7) rfl)
theorem dX5_addProduct_14 : decode cX5_addProduct 14 = .ok (.aload_n 0, 1) := DX5_addProduct (14, .aload_n 0, 1) (List.mem_of_getElem? (i := 8) rfl)
theorem dX5_addProduct_15 : decode cX5_addProduct 15 = .ok (.getfield 9, 3) := DX5_addProduct (15, .getfield 9, 3) (List.mem_of_getElem? (i := 9) rfl)
theorem dX5_addProduct_18 : decode cX5_addProduct 18 = .ok (.iload_n 2, 1) := DX5_addProduct (18, .iload_n 2, 1) (List.mem_of_getElem? (i := 10) rfl)
theorem dX5_addProduct_19 : decode cX5_addProduct 19 = .ok (.bipush 84, 2) := DX5_addProduct (19, .bipush 84, 2) (List.mem_of_getElem? (i := 11) rfl)
theorem dX5_addProduct_21 : decode cX5_addProduct 21 = .ok (.imul, 1) := DX5_addProduct (21, .imul, 1) (List.mem_of_getElem? (i := 12) rfl)
theorem dX5_addProduct_22 : decode cX5_addProduct 22 = .ok (.iload 5, 2) := DX5_addProduct (22, .iload 5, 2) (List.mem_of_getElem? (i := 13) rfl)
theorem dX5_addProduct_24 : decode cX5_addProduct 24 = .ok (.iadd, 1) := DX5_addProduct (24, .iadd, 1) (List.mem_of_getElem? (i := 14) rfl)
theorem dX5_addProduct_25 : decode cX5_addProduct 25 = .ok (.iaload, 1) := DX5_addProduct (25, .iaload, 1) (List.mem_of_getElem? (i := 15) rfl)
theorem dX5_addProduct_26 : decode cX5_addProduct 26 = .ok (.istore 6, 2) := DX5_addProduct (26, .istore 6, 2) (List.mem_of_getElem? (i := 16) rfl)
theorem dX5_addProduct_28 : decode cX5_addProduct 28 = .ok (.iload 6, 2) := DX5_addProduct (28, .iload 6, 2) (List.mem_of_getElem? (i := 17) rfl)
theorem dX5_addProduct_30 : decode cX5_addProduct 30 = .ok (.ifCond .ne 6, 3) := DX5_addProduct (30, .ifCond .ne 6, 3) (List.mem_of_getElem? (i := 18) rfl)
theorem dX5_addProduct_33 : decode cX5_addProduct 33 = .ok (.goto 122, 3) := DX5_addProduct (33, .goto 122, 3) (List.mem_of_getElem? (i := 19) rfl)
theorem dX5_addProduct_36 : decode cX5_addProduct 36 = .ok (.iconst 0, 1) := DX5_addProduct (36, .iconst 0, 1) (List.mem_of_getElem? (i := 20) rfl)
theorem dX5_addProduct_37 : decode cX5_addProduct 37 = .ok (.istore 7, 2) := DX5_addProduct (37, .istore 7, 2) (List.mem_of_getElem? (i := 21) rfl)
theorem dX5_addProduct_39 : decode cX5_addProduct 39 = .ok (.iload 7, 2) := DX5_addProduct (39, .iload 7, 2) (List.mem_of_getElem? (i := 22) rfl)
theorem dX5_addProduct_41 : decode cX5_addProduct 41 = .ok (.aload_n 0, 1) := DX5_addProduct (41, .aload_n 0, 1) (List.mem_of_getElem? (i := 23) rfl)
theorem dX5_addProduct_42 : decode cX5_addProduct 42 = .ok (.getfield 15, 3) := DX5_addProduct (42, .getfield 15, 3) (List.mem_of_getElem? (i := 24) rfl)
theorem dX5_addProduct_45 : decode cX5_addProduct 45 = .ok (.iload_n 3, 1) := DX5_addProduct (45, .iload_n 3, 1) (List.mem_of_getElem? (i := 25) rfl)
theorem dX5_addProduct_46 : decode cX5_addProduct 46 = .ok (.iaload, 1) := DX5_addProduct (46, .iaload, 1) (List.mem_of_getElem? (i := 26) rfl)
theorem dX5_addProduct_47 : decode cX5_addProduct 47 = .ok (.if_icmp .ge 108, 3) := DX5_addProduct (47, .if_icmp .ge 108, 3) (List.mem_of_getElem? (i := 27) rfl)
theorem dX5_addProduct_50 : decode cX5_addProduct 50 = .ok (.aload_n 0, 1) := DX5_addProduct (50, .aload_n 0, 1) (List.mem_of_getElem? (i := 28) rfl)
theorem dX5_addProduct_51 : decode cX5_addProduct 51 = .ok (.getfield 9, 3) := DX5_addProduct (51, .getfield 9, 3) (List.mem_of_getElem? (i := 29) rfl)
theorem dX5_addProduct_54 : decode cX5_addProduct 54 = .ok (.iload_n 3, 1) := DX5_addProduct (54, .iload_n 3, 1) (List.mem_of_getElem? (i := 30) rfl)
theorem dX5_addProduct_55 : decode cX5_addProduct 55 = .ok (.bipush 84, 2) := DX5_addProduct (55, .bipush 84, 2) (List.mem_of_getElem? (i := 31) rfl)
theorem dX5_addProduct_57 : decode cX5_addProduct 57 = .ok (.imul, 1) := DX5_addProduct (57, .imul, 1) (List.mem_of_getElem? (i := 32) rfl)
theorem dX5_addProduct_58 : decode cX5_addProduct 58 = .ok (.iload 7, 2) := DX5_addProduct (58, .iload 7, 2) (List.mem_of_getElem? (i := 33) rfl)
theorem dX5_addProduct_60 : decode cX5_addProduct 60 = .ok (.iadd, 1) := DX5_addProduct (60, .iadd, 1) (List.mem_of_getElem? (i := 34) rfl)
theorem dX5_addProduct_61 : decode cX5_addProduct 61 = .ok (.iaload, 1) := DX5_addProduct (61, .iaload, 1) (List.mem_of_getElem? (i := 35) rfl)
theorem dX5_addProduct_62 : decode cX5_addProduct 62 = .ok (.istore 8, 2) := DX5_addProduct (62, .istore 8, 2) (List.mem_of_getElem? (i := 36) rfl)
theorem dX5_addProduct_64 : decode cX5_addProduct 64 = .ok (.iload 8, 2) := DX5_addProduct (64, .iload 8, 2) (List.mem_of_getElem? (i := 37) rfl)
theorem dX5_addProduct_66 : decode cX5_addProduct 66 = .ok (.ifCond .ne 6, 3) := DX5_addProduct (66, .ifCond .ne 6, 3) (List.mem_of_getElem? (i := 38) rfl)
theorem dX5_addProduct_69 : decode cX5_addProduct 69 = .ok (.goto 80, 3) := DX5_addProduct (69, .goto 80, 3) (List.mem_of_getElem? (i := 39) rfl)
theorem dX5_addProduct_72 : decode cX5_addProduct 72 = .ok (.aload_n 0, 1) := DX5_addProduct (72, .aload_n 0, 1) (List.mem_of_getElem? (i := 40) rfl)
theorem dX5_addProduct_73 : decode cX5_addProduct 73 = .ok (.getfield 18, 3) := DX5_addProduct (73, .getfield 18, 3) (List.mem_of_getElem? (i := 41) rfl)
theorem dX5_addProduct_76 : decode cX5_addProduct 76 = .ok (.iload 5, 2) := DX5_addProduct (76, .iload 5, 2) (List.mem_of_getElem? (i := 42) rfl)
theorem dX5_addProduct_78 : decode cX5_addProduct 78 = .ok (.iload 7, 2) := DX5_addProduct (78, .iload 7, 2) (List.mem_of_getElem? (i := 43) rfl)
theorem dX5_addProduct_80 : decode cX5_addProduct 80 = .ok (.invokevirtual 41, 3) := DX5_addProduct (80, .invokevirtual 41, 3) (List.mem_of_getElem? (i := 44) rfl)
theorem dX5_addProduct_83 : decode cX5_addProduct 83 = .ok (.istore 9, 2) := DX5_addProduct (83, .istore 9, 2) (List.mem_of_getElem? (i := 45) rfl)
theorem dX5_addProduct_85 : decode cX5_addProduct 85 = .ok (.iload 9, 2) := DX5_addProduct (85, .iload 9, 2) (List.mem_of_getElem? (i := 46) rfl)
theorem dX5_addProduct_87 : decode cX5_addProduct 87 = .ok (.iconst (-1), 1) := DX5_addProduct (87, .iconst (-1), 1) (List.mem_of_getElem? (i := 47) rfl)
theorem dX5_addProduct_88 : decode cX5_addProduct 88 = .ok (.if_icmp .ne 5, 3) := DX5_addProduct (88, .if_icmp .ne 5, 3) (List.mem_of_getElem? (i := 48) rfl)
theorem dX5_addProduct_91 : decode cX5_addProduct 91 = .ok (.iconst 0, 1) := DX5_addProduct (91, .iconst 0, 1) (List.mem_of_getElem? (i := 49) rfl)
theorem dX5_addProduct_92 : decode cX5_addProduct 92 = .ok (.ireturn, 1) := DX5_addProduct (92, .ireturn, 1) (List.mem_of_getElem? (i := 50) rfl)
theorem dX5_addProduct_93 : decode cX5_addProduct 93 = .ok (.iload_n 1, 1) := DX5_addProduct (93, .iload_n 1, 1) (List.mem_of_getElem? (i := 51) rfl)
theorem dX5_addProduct_94 : decode cX5_addProduct 94 = .ok (.bipush 84, 2) := DX5_addProduct (94, .bipush 84, 2) (List.mem_of_getElem? (i := 52) rfl)
theorem dX5_addProduct_96 : decode cX5_addProduct 96 = .ok (.imul, 1) := DX5_addProduct (96, .imul, 1) (List.mem_of_getElem? (i := 53) rfl)
theorem dX5_addProduct_97 : decode cX5_addProduct 97 = .ok (.iload 9, 2) := DX5_addProduct (97, .iload 9, 2) (List.mem_of_getElem? (i := 54) rfl)
theorem dX5_addProduct_99 : decode cX5_addProduct 99 = .ok (.iadd, 1) := DX5_addProduct (99, .iadd, 1) (List.mem_of_getElem? (i := 55) rfl)
theorem dX5_addProduct_100 : decode cX5_addProduct 100 = .ok (.istore 10, 2) := DX5_addProduct (100, .istore 10, 2) (List.mem_of_getElem? (i := 56) rfl)
theorem dX5_addProduct_102 : decode cX5_addProduct 102 = .ok (.aload_n 0, 1) := DX5_addProduct (102, .aload_n 0, 1) (List.mem_of_getElem? (i := 57) rfl)
theorem dX5_addProduct_103 : decode cX5_addProduct 103 = .ok (.getfield 9, 3) := DX5_addProduct (103, .getfield 9, 3) (List.mem_of_getElem? (i := 58) rfl)
theorem dX5_addProduct_106 : decode cX5_addProduct 106 = .ok (.iload 10, 2) := DX5_addProduct (106, .iload 10, 2) (List.mem_of_getElem? (i := 59) rfl)
theorem dX5_addProduct_108 : decode cX5_addProduct 108 = .ok (.aload_n 0, 1) := DX5_addProduct (108, .aload_n 0, 1) (List.mem_of_getElem? (i := 60) rfl)
theorem dX5_addProduct_109 : decode cX5_addProduct 109 = .ok (.getfield 9, 3) := DX5_addProduct (109, .getfield 9, 3) (List.mem_of_getElem? (i := 61) rfl)
theorem dX5_addProduct_112 : decode cX5_addProduct 112 = .ok (.iload 10, 2) := DX5_addProduct (112, .iload 10, 2) (List.mem_of_getElem? (i := 62) rfl)
theorem dX5_addProduct_114 : decode cX5_addProduct 114 = .ok (.iaload, 1) := DX5_addProduct (114, .iaload, 1) (List.mem_of_getElem? (i := 63) rfl)
theorem dX5_addProduct_115 : decode cX5_addProduct 115 = .ok (.iload 4, 2) := DX5_addProduct (115, .iload 4, 2) (List.mem_of_getElem? (i := 64) rfl)
theorem dX5_addProduct_117 : decode cX5_addProduct 117 = .ok (.iload 6, 2) := DX5_addProduct (117, .iload 6, 2) (List.mem_of_getElem? (i := 65) rfl)
theorem dX5_addProduct_119 : decode cX5_addProduct 119 = .ok (.imul, 1) := DX5_addProduct (119, .imul, 1) (List.mem_of_getElem? (i := 66) rfl)
theorem dX5_addProduct_120 : decode cX5_addProduct 120 = .ok (.iload 8, 2) := DX5_addProduct (120, .iload 8, 2) (List.mem_of_getElem? (i := 67) rfl)
theorem dX5_addProduct_122 : decode cX5_addProduct 122 = .ok (.imul, 1) := DX5_addProduct (122, .imul, 1) (List.mem_of_getElem? (i := 68) rfl)
theorem dX5_addProduct_123 : decode cX5_addProduct 123 = .ok (.iadd, 1) := DX5_addProduct (123, .iadd, 1) (List.mem_of_getElem? (i := 69) rfl)
theorem dX5_addProduct_124 : decode cX5_addProduct 124 = .ok (.aload_n 0, 1) := DX5_addProduct (124, .aload_n 0, 1) (List.mem_of_getElem? (i := 70) rfl)
theorem dX5_addProduct_125 : decode cX5_addProduct 125 = .ok (.getfield 22, 3) := DX5_addProduct (125, .getfield 22, 3) (List.mem_of_getElem? (i := 71) rfl)
theorem dX5_addProduct_128 : decode cX5_addProduct 128 = .ok (.iand, 1) := DX5_addProduct (128, .iand, 1) (List.mem_of_getElem? (i := 72) rfl)
theorem dX5_addProduct_129 : decode cX5_addProduct 129 = .ok (.iastore, 1) := DX5_addProduct (129, .iastore, 1) (List.mem_of_getElem? (i := 73) rfl)
theorem dX5_addProduct_130 : decode cX5_addProduct 130 = .ok (.aload_n 0, 1) := DX5_addProduct (130, .aload_n 0, 1) (List.mem_of_getElem? (i := 74) rfl)
theorem dX5_addProduct_131 : decode cX5_addProduct 131 = .ok (.getfield 15, 3) := DX5_addProduct (131, .getfield 15, 3) (List.mem_of_getElem? (i := 75) rfl)
theorem dX5_addProduct_134 : decode cX5_addProduct 134 = .ok (.iload_n 1, 1) := DX5_addProduct (134, .iload_n 1, 1) (List.mem_of_getElem? (i := 76) rfl)
theorem dX5_addProduct_135 : decode cX5_addProduct 135 = .ok (.aload_n 0, 1) := DX5_addProduct (135, .aload_n 0, 1) (List.mem_of_getElem? (i := 77) rfl)
theorem dX5_addProduct_136 : decode cX5_addProduct 136 = .ok (.getfield 15, 3) := DX5_addProduct (136, .getfield 15, 3) (List.mem_of_getElem? (i := 78) rfl)
theorem dX5_addProduct_139 : decode cX5_addProduct 139 = .ok (.iload_n 1, 1) := DX5_addProduct (139, .iload_n 1, 1) (List.mem_of_getElem? (i := 79) rfl)
theorem dX5_addProduct_140 : decode cX5_addProduct 140 = .ok (.iaload, 1) := DX5_addProduct (140, .iaload, 1) (List.mem_of_getElem? (i := 80) rfl)
theorem dX5_addProduct_141 : decode cX5_addProduct 141 = .ok (.iload 9, 2) := DX5_addProduct (141, .iload 9, 2) (List.mem_of_getElem? (i := 81) rfl)
theorem dX5_addProduct_143 : decode cX5_addProduct 143 = .ok (.iconst 1, 1) := DX5_addProduct (143, .iconst 1, 1) (List.mem_of_getElem? (i := 82) rfl)
theorem dX5_addProduct_144 : decode cX5_addProduct 144 = .ok (.iadd, 1) := DX5_addProduct (144, .iadd, 1) (List.mem_of_getElem? (i := 83) rfl)
theorem dX5_addProduct_145 : decode cX5_addProduct 145 = .ok (.invokestatic 35, 3) := DX5_addProduct (145, .invokestatic 35, 3) (List.mem_of_getElem? (i := 84) rfl)
theorem dX5_addProduct_148 : decode cX5_addProduct 148 = .ok (.iastore, 1) := DX5_addProduct (148, .iastore, 1) (List.mem_of_getElem? (i := 85) rfl)
theorem dX5_addProduct_149 : decode cX5_addProduct 149 = .ok (.iinc 7 1, 3) := DX5_addProduct (149, .iinc 7 1, 3) (List.mem_of_getElem? (i := 86) rfl)
theorem dX5_addProduct_152 : decode cX5_addProduct 152 = .ok (.goto (-113), 3) := DX5_addProduct (152, .goto (-113), 3) (List.mem_of_getElem? (i := 87) rfl)
theorem dX5_addProduct_155 : decode cX5_addProduct 155 = .ok (.iinc 5 1, 3) := DX5_addProduct (155, .iinc 5 1, 3) (List.mem_of_getElem? (i := 88) rfl)
theorem dX5_addProduct_158 : decode cX5_addProduct 158 = .ok (.goto (-155), 3) := DX5_addProduct (158, .goto (-155), 3) (List.mem_of_getElem? (i := 89) rfl)
theorem dX5_addProduct_161 : decode cX5_addProduct 161 = .ok (.aload_n 0, 1) := DX5_addProduct (161, .aload_n 0, 1) (List.mem_of_getElem? (i := 90) rfl)
theorem dX5_addProduct_162 : decode cX5_addProduct 162 = .ok (.iload_n 1, 1) := DX5_addProduct (162, .iload_n 1, 1) (List.mem_of_getElem? (i := 91) rfl)
theorem dX5_addProduct_163 : decode cX5_addProduct 163 = .ok (.invokevirtual 44, 3) := DX5_addProduct (163, .invokevirtual 44, 3) (List.mem_of_getElem? (i := 92) rfl)
theorem dX5_addProduct_166 : decode cX5_addProduct 166 = .ok (.iconst 1, 1) := DX5_addProduct (166, .iconst 1, 1) (List.mem_of_getElem? (i := 93) rfl)
theorem dX5_addProduct_167 : decode cX5_addProduct 167 = .ok (.ireturn, 1) := DX5_addProduct (167, .ireturn, 1) (List.mem_of_getElem? (i := 94) rfl)
noncomputable def fX5_addProduct_L149 (l1 : Int32) (l2 : Int32) (l3 : Int32) (l4 : Int32) (l5 : Int32) (l6 : Int32) (l7 : Int32) (σ : Mem) : Option ((Int32 × Mem) ⊕ ((Mem) ⊕ (Int32 × Mem))) :=
  some (.inl (l7 + 1, σ))
set_option maxHeartbeats 4000000 in
set_option maxRecDepth 100000 in
theorem tX5_addProduct_L149 {E : Gx} {cI : ClassId} {ad : Nat → Nat} (C : Cx E rmX5_addProduct cI layX ad 11 RX5 cX5_addProduct) {out : Int32 × Mem} (K0 : KI E rmX5_addProduct cI layX ad 11 cX5_addProduct .boolean out) {l1 : Int32} {l2 : Int32} {l3 : Int32} {l4 : Int32} {l5 : Int32} {l6 : Int32} {l7 : Int32} {σ : Mem} {res : (Int32 × Mem) ⊕ ((Mem) ⊕ (Int32 × Mem))} (h : fX5_addProduct_L149 l1 l2 l3 l4 l5 l6 l7 σ = some res) (K : Sum.elim (fun a => G E rmX5_addProduct cI layX ad 11 39 [(0, .ref (ad 5)), (1, .int l1), (2, .int l2), (3, .int l3), (4, .int l4), (5, .int l5), (6, .int l6), (7, .int a.1)] [] a.2) (Sum.elim (fun b => G E rmX5_addProduct cI layX ad 11 155 [(0, .ref (ad 5)), (1, .int l1), (2, .int l2), (3, .int l3), (4, .int l4), (5, .int l5)] [] b) (fun b => b = out)) res) : G E rmX5_addProduct cI layX ad 11 149 [(0, .ref (ad 5)), (1, .int l1), (2, .int l2), (3, .int l3), (4, .int l4), (5, .int l5), (6, .int l6), (7, .int l7)] [] σ := by
  unfold fX5_addProduct_L149 at h
  refine g_iinc 152 [(7, .int (l7 + 1)), (0, .ref (ad 5)), (1, .int l1), (2, .int l2), (3, .int l3), (4, .int l4), (5, .int l5), (6, .int l6)] C dX5_addProduct_149 (j := 7) rfl (by rfl) (by decide) rfl rfl ?_
  refine g_goto 39 C dX5_addProduct_152 (by decide) ?_
  have hh := end_inl h K
  exact g_sub [1, 2, 3, 4, 5, 6, 7, 0] (hh) rfl
noncomputable def fX5_addProduct_B39 (l1 : Int32) (l2 : Int32) (l3 : Int32) (l4 : Int32) (l5 : Int32) (l6 : Int32) (l7 : Int32) (σ : Mem) : Option ((Int32 × Mem) ⊕ ((Mem) ⊕ (Int32 × Mem))) :=
  chk (inb l3 125) <|
  if (σ 16 l3.toNatClampNeg) ≤ l7 then
    some (.inr (.inl σ))
  else
    chk (inb ((l3 * 84) + l7) 10500) <|
    if (σ 15 ((l3 * 84) + l7).toNatClampNeg) = 0 then
      fX5_addProduct_L149 l1 l2 l3 l4 l5 l6 l7 σ
    else
      (fX2_placeOfProduct l5 l7 σ).bind fun o1 =>
      if o1.1 = (-1) then
        some (.inr (.inr (0, o1.2)))
      else
        chk (inb ((l1 * 84) + o1.1) 10500) <|
        chk (inb ((l1 * 84) + o1.1) 10500) <|
        chk (inb l1 125) <|
        chk (inb l1 125) <|
        fX5_addProduct_L149 l1 l2 l3 l4 l5 l6 l7 (up2 (up2 o1.2 15 ((l1 * 84) + o1.1).toNatClampNeg (((o1.2 15 ((l1 * 84) + o1.1).toNatClampNeg) + ((l4 * l6) * (σ 15 ((l3 * 84) + l7).toNatClampNeg))) &&& (o1.2 5 1))) 16 l1.toNatClampNeg (if ((up2 o1.2 15 ((l1 * 84) + o1.1).toNatClampNeg (((o1.2 15 ((l1 * 84) + o1.1).toNatClampNeg) + ((l4 * l6) * (σ 15 ((l3 * 84) + l7).toNatClampNeg))) &&& (o1.2 5 1))) 16 l1.toNatClampNeg) < (o1.1 + 1) then (o1.1 + 1) else ((up2 o1.2 15 ((l1 * 84) + o1.1).toNatClampNeg (((o1.2 15 ((l1 * 84) + o1.1).toNatClampNeg) + ((l4 * l6) * (σ 15 ((l3 * 84) + l7).toNatClampNeg))) &&& (o1.2 5 1))) 16 l1.toNatClampNeg)))
set_option maxHeartbeats 4000000 in
set_option maxRecDepth 100000 in
theorem tX5_addProduct_B39 {E : Gx} {cI : ClassId} {ad : Nat → Nat} (C : Cx E rmX5_addProduct cI layX ad 11 RX5 cX5_addProduct) {out : Int32 × Mem} (K0 : KI E rmX5_addProduct cI layX ad 11 cX5_addProduct .boolean out) {l1 : Int32} {l2 : Int32} {l3 : Int32} {l4 : Int32} {l5 : Int32} {l6 : Int32} {l7 : Int32} {σ : Mem} {res : (Int32 × Mem) ⊕ ((Mem) ⊕ (Int32 × Mem))} (h : fX5_addProduct_B39 l1 l2 l3 l4 l5 l6 l7 σ = some res) (K : Sum.elim (fun a => G E rmX5_addProduct cI layX ad 11 39 [(0, .ref (ad 5)), (1, .int l1), (2, .int l2), (3, .int l3), (4, .int l4), (5, .int l5), (6, .int l6), (7, .int a.1)] [] a.2) (Sum.elim (fun b => G E rmX5_addProduct cI layX ad 11 155 [(0, .ref (ad 5)), (1, .int l1), (2, .int l2), (3, .int l3), (4, .int l4), (5, .int l5)] [] b) (fun b => b = out)) res) : G E rmX5_addProduct cI layX ad 11 39 [(0, .ref (ad 5)), (1, .int l1), (2, .int l2), (3, .int l3), (4, .int l4), (5, .int l5), (6, .int l6), (7, .int l7)] [] σ := by
  unfold fX5_addProduct_B39 at h
  refine g_iload 41 C dX5_addProduct_39 (j := 7) rfl rfl ?_
  refine g_aload_n 42 C dX5_addProduct_41 rfl (j := 0) rfl rfl ?_
  refine g_getr 45 (j := 3) C rfl rfl wu_X5 (by decide) wf_X5_15 rfl dX5_addProduct_42 rfl ?_
  refine g_iload_n 46 C dX5_addProduct_45 rfl (j := 3) rfl rfl ?_
  refine g_iald 47 C rfl dX5_addProduct_46 rfl h (fun h => ?_)
  refine g_icmp_ge 155 50 C dX5_addProduct_47 (by decide) rfl h (fun h => ?_) (fun h => ?_)
  · have hh := end_alt0_2 h K
    exact g_sub [0, 1, 2, 3, 4, 5] (hh) rfl
  · refine g_aload_n 51 C dX5_addProduct_50 rfl (j := 0) rfl rfl ?_
    refine g_getr 54 (j := 2) C rfl rfl wu_X5 (by decide) wf_X5_9 rfl dX5_addProduct_51 rfl ?_
    refine g_iload_n 55 C dX5_addProduct_54 rfl (j := 3) rfl rfl ?_
    refine g_bipush 57 (v := 84) C dX5_addProduct_55 (by decide) rfl ?_
    refine g_imul 58 C dX5_addProduct_57 rfl ?_
    refine g_iload 60 C dX5_addProduct_58 (j := 7) rfl rfl ?_
    refine g_iadd 61 C dX5_addProduct_60 rfl ?_
    refine g_iald 62 C rfl dX5_addProduct_61 rfl h (fun h => ?_)
    refine g_istore 64 [(8, .int (σ 15 ((l3 * 84) + l7).toNatClampNeg)), (0, .ref (ad 5)), (1, .int l1), (2, .int l2), (3, .int l3), (4, .int l4), (5, .int l5), (6, .int l6), (7, .int l7)] C dX5_addProduct_62 (by decide) rfl rfl ?_
    refine g_iload 66 C dX5_addProduct_64 (j := 0) rfl rfl ?_
    refine g_if_ne 72 69 C dX5_addProduct_66 (by decide) rfl h (fun h => ?_) (fun h => ?_)
    · refine g_goto 149 C dX5_addProduct_69 (by decide) ?_
      exact g_sub [1, 2, 3, 4, 5, 6, 7, 8] (tX5_addProduct_L149 (l1 := l1) (l2 := l2) (l3 := l3) (l4 := l4) (l5 := l5) (l6 := l6) (l7 := l7) (σ := σ) C K0 h K) rfl
    · refine g_aload_n 73 C dX5_addProduct_72 rfl (j := 1) rfl rfl ?_
      refine g_getr 76 (j := 0) C rfl rfl wu_X5 (by decide) wf_X5_18 rfl dX5_addProduct_73 rfl ?_
      refine g_iload 78 C dX5_addProduct_76 (j := 6) rfl rfl ?_
      refine g_iload 80 C dX5_addProduct_78 (j := 8) rfl rfl ?_
      refine g_cni 83 C (As := [.int l5, .int l7]) (fun _ h => mX2_placeOfProduct (a1 := l5) (a2 := l7) (σ := σ) h) (List.mem_of_getElem? (i := 30) rfl) wi_X2_placeOfProduct wz_X2_placeOfProduct wc_X2_placeOfProduct wn_X2 qX2_placeOfProduct rfl rfl ⟨Nat.le_of_ble_eq_true rfl, Nat.le_of_ble_eq_true rfl⟩ rfl rfl rfl rfl (Nat.le_of_ble_eq_true rfl) dX5_addProduct_80 rfl h (fun o1 h => ?_)
      refine g_istore 85 [(9, .int o1.1), (8, .int (σ 15 ((l3 * 84) + l7).toNatClampNeg)), (0, .ref (ad 5)), (1, .int l1), (2, .int l2), (3, .int l3), (4, .int l4), (5, .int l5), (6, .int l6), (7, .int l7)] C dX5_addProduct_83 (by decide) rfl rfl ?_
      refine g_iload 87 C dX5_addProduct_85 (j := 0) rfl rfl ?_
      refine g_iconst 88 (v := (-1)) C dX5_addProduct_87 (by decide) rfl ?_
      refine g_icmp_ne 93 91 C dX5_addProduct_88 (by decide) rfl h (fun h => ?_) (fun h => ?_)
      · refine g_iconst 92 (v := 0) C dX5_addProduct_91 (by decide) rfl ?_
        have ho := end_alt1_2 h K
        replace ho : (0, o1.2) = out := ho
        subst ho
        exact K0 _ _ dX5_addProduct_92 (zb_nar (x := 0) (by decide))
      · refine g_iload_n 94 C dX5_addProduct_93 rfl (j := 3) rfl rfl ?_
        refine g_bipush 96 (v := 84) C dX5_addProduct_94 (by decide) rfl ?_
        refine g_imul 97 C dX5_addProduct_96 rfl ?_
        refine g_iload 99 C dX5_addProduct_97 (j := 0) rfl rfl ?_
        refine g_iadd 100 C dX5_addProduct_99 rfl ?_
        refine g_istore 102 [(10, .int ((l1 * 84) + o1.1)), (9, .int o1.1), (8, .int (σ 15 ((l3 * 84) + l7).toNatClampNeg)), (0, .ref (ad 5)), (1, .int l1), (2, .int l2), (3, .int l3), (4, .int l4), (5, .int l5), (6, .int l6), (7, .int l7)] C dX5_addProduct_100 (by decide) rfl rfl ?_
        refine g_aload_n 103 C dX5_addProduct_102 rfl (j := 3) rfl rfl ?_
        refine g_getr 106 (j := 2) C rfl rfl wu_X5 (by decide) wf_X5_9 rfl dX5_addProduct_103 rfl ?_
        refine g_iload 108 C dX5_addProduct_106 (j := 0) rfl rfl ?_
        refine g_aload_n 109 C dX5_addProduct_108 rfl (j := 3) rfl rfl ?_
        refine g_getr 112 (j := 2) C rfl rfl wu_X5 (by decide) wf_X5_9 rfl dX5_addProduct_109 rfl ?_
        refine g_iload 114 C dX5_addProduct_112 (j := 0) rfl rfl ?_
        refine g_iald 115 C rfl dX5_addProduct_114 rfl h (fun h => ?_)
        refine g_iload 117 C dX5_addProduct_115 (j := 7) rfl rfl ?_
        refine g_iload 119 C dX5_addProduct_117 (j := 9) rfl rfl ?_
        refine g_imul 120 C dX5_addProduct_119 rfl ?_
        refine g_iload 122 C dX5_addProduct_120 (j := 2) rfl rfl ?_
        refine g_imul 123 C dX5_addProduct_122 rfl ?_
        refine g_iadd 124 C dX5_addProduct_123 rfl ?_
        refine g_aload_n 125 C dX5_addProduct_124 rfl (j := 3) rfl rfl ?_
        refine g_geti 128 (j := 1) C rfl rfl wu_X5 (by decide) wf_X5_22 rfl dX5_addProduct_125 rfl ?_
        refine g_iand 129 C dX5_addProduct_128 rfl ?_
        refine g_iast 130 C rfl dX5_addProduct_129 rfl h (fun h => ?_)
        refine g_aload_n 131 C dX5_addProduct_130 rfl (j := 3) rfl rfl ?_
        refine g_getr 134 (j := 3) C rfl rfl wu_X5 (by decide) wf_X5_15 rfl dX5_addProduct_131 rfl ?_
        refine g_iload_n 135 C dX5_addProduct_134 rfl (j := 4) rfl rfl ?_
        refine g_aload_n 136 C dX5_addProduct_135 rfl (j := 3) rfl rfl ?_
        refine g_getr 139 (j := 3) C rfl rfl wu_X5 (by decide) wf_X5_15 rfl dX5_addProduct_136 rfl ?_
        refine g_iload_n 140 C dX5_addProduct_139 rfl (j := 4) rfl rfl ?_
        refine g_iald 141 C rfl dX5_addProduct_140 rfl h (fun h => ?_)
        refine g_iload 143 C dX5_addProduct_141 (j := 1) rfl rfl ?_
        refine g_iconst 144 (v := 1) C dX5_addProduct_143 (by decide) rfl ?_
        refine g_iadd 145 C dX5_addProduct_144 rfl ?_
        refine g_mmax 148 C wl_X5_35 wM_st wM_in wM_cmax (by decide) (Nat.le_of_ble_eq_true rfl) dX5_addProduct_145 rfl ?_
        refine g_iast 149 C rfl dX5_addProduct_148 rfl h (fun h => ?_)
        exact g_sub [3, 4, 5, 6, 7, 8, 9, 10] (tX5_addProduct_L149 (l1 := l1) (l2 := l2) (l3 := l3) (l4 := l4) (l5 := l5) (l6 := l6) (l7 := l7) (σ := up2 (up2 o1.2 15 ((l1 * 84) + o1.1).toNatClampNeg (((o1.2 15 ((l1 * 84) + o1.1).toNatClampNeg) + ((l4 * l6) * (σ 15 ((l3 * 84) + l7).toNatClampNeg))) &&& (o1.2 5 1))) 16 l1.toNatClampNeg (if ((up2 o1.2 15 ((l1 * 84) + o1.1).toNatClampNeg (((o1.2 15 ((l1 * 84) + o1.1).toNatClampNeg) + ((l4 * l6) * (σ 15 ((l3 * 84) + l7).toNatClampNeg))) &&& (o1.2 5 1))) 16 l1.toNatClampNeg) < (o1.1 + 1) then (o1.1 + 1) else ((up2 o1.2 15 ((l1 * 84) + o1.1).toNatClampNeg (((o1.2 15 ((l1 * 84) + o1.1).toNatClampNeg) + ((l4 * l6) * (σ 15 ((l3 * 84) + l7).toNatClampNeg))) &&& (o1.2 5 1))) 16 l1.toNatClampNeg))) C K0 h K) rfl
noncomputable def fX5_addProduct_L155 (l1 : Int32) (l2 : Int32) (l3 : Int32) (l4 : Int32) (l5 : Int32) (σ : Mem) : Option ((Int32 × Mem) ⊕ ((Mem) ⊕ (Int32 × Mem))) :=
  some (.inl (l5 + 1, σ))
set_option maxHeartbeats 4000000 in
set_option maxRecDepth 100000 in
theorem tX5_addProduct_L155 {E : Gx} {cI : ClassId} {ad : Nat → Nat} (C : Cx E rmX5_addProduct cI layX ad 11 RX5 cX5_addProduct) {out : Int32 × Mem} (K0 : KI E rmX5_addProduct cI layX ad 11 cX5_addProduct .boolean out) {l1 : Int32} {l2 : Int32} {l3 : Int32} {l4 : Int32} {l5 : Int32} {σ : Mem} {res : (Int32 × Mem) ⊕ ((Mem) ⊕ (Int32 × Mem))} (h : fX5_addProduct_L155 l1 l2 l3 l4 l5 σ = some res) (K : Sum.elim (fun a => G E rmX5_addProduct cI layX ad 11 3 [(0, .ref (ad 5)), (1, .int l1), (2, .int l2), (3, .int l3), (4, .int l4), (5, .int a.1)] [] a.2) (Sum.elim (fun b => G E rmX5_addProduct cI layX ad 11 161 [(0, .ref (ad 5)), (1, .int l1)] [] b) (fun b => b = out)) res) : G E rmX5_addProduct cI layX ad 11 155 [(0, .ref (ad 5)), (1, .int l1), (2, .int l2), (3, .int l3), (4, .int l4), (5, .int l5)] [] σ := by
  unfold fX5_addProduct_L155 at h
  refine g_iinc 158 [(5, .int (l5 + 1)), (0, .ref (ad 5)), (1, .int l1), (2, .int l2), (3, .int l3), (4, .int l4)] C dX5_addProduct_155 (j := 5) rfl (by rfl) (by decide) rfl rfl ?_
  refine g_goto 3 C dX5_addProduct_158 (by decide) ?_
  have hh := end_inl h K
  exact g_sub [1, 2, 3, 4, 5, 0] (hh) rfl
noncomputable def fX5_addProduct_B3 (l1 : Int32) (l2 : Int32) (l3 : Int32) (l4 : Int32) (l5 : Int32) (σ : Mem) : Option ((Int32 × Mem) ⊕ ((Mem) ⊕ (Int32 × Mem))) :=
  chk (inb l2 125) <|
  if (σ 16 l2.toNatClampNeg) ≤ l5 then
    some (.inr (.inl σ))
  else
    chk (inb ((l2 * 84) + l5) 10500) <|
    if (σ 15 ((l2 * 84) + l5).toNatClampNeg) = 0 then
      fX5_addProduct_L155 l1 l2 l3 l4 l5 σ
    else
      (loop (fun a => fX5_addProduct_B39 l1 l2 l3 l4 l5 (σ 15 ((l2 * 84) + l5).toNatClampNeg) a.1 a.2) (0, σ)).bind (Sum.elim (fun b2x0 => fX5_addProduct_L155 l1 l2 l3 l4 l5 b2x0) (fun b2r => some (.inr (.inr b2r))))
set_option maxHeartbeats 4000000 in
set_option maxRecDepth 100000 in
theorem tX5_addProduct_B3 {E : Gx} {cI : ClassId} {ad : Nat → Nat} (C : Cx E rmX5_addProduct cI layX ad 11 RX5 cX5_addProduct) {out : Int32 × Mem} (K0 : KI E rmX5_addProduct cI layX ad 11 cX5_addProduct .boolean out) {l1 : Int32} {l2 : Int32} {l3 : Int32} {l4 : Int32} {l5 : Int32} {σ : Mem} {res : (Int32 × Mem) ⊕ ((Mem) ⊕ (Int32 × Mem))} (h : fX5_addProduct_B3 l1 l2 l3 l4 l5 σ = some res) (K : Sum.elim (fun a => G E rmX5_addProduct cI layX ad 11 3 [(0, .ref (ad 5)), (1, .int l1), (2, .int l2), (3, .int l3), (4, .int l4), (5, .int a.1)] [] a.2) (Sum.elim (fun b => G E rmX5_addProduct cI layX ad 11 161 [(0, .ref (ad 5)), (1, .int l1)] [] b) (fun b => b = out)) res) : G E rmX5_addProduct cI layX ad 11 3 [(0, .ref (ad 5)), (1, .int l1), (2, .int l2), (3, .int l3), (4, .int l4), (5, .int l5)] [] σ := by
  unfold fX5_addProduct_B3 at h
  refine g_iload 5 C dX5_addProduct_3 (j := 5) rfl rfl ?_
  refine g_aload_n 6 C dX5_addProduct_5 rfl (j := 0) rfl rfl ?_
  refine g_getr 9 (j := 3) C rfl rfl wu_X5 (by decide) wf_X5_15 rfl dX5_addProduct_6 rfl ?_
  refine g_iload_n 10 C dX5_addProduct_9 rfl (j := 2) rfl rfl ?_
  refine g_iald 11 C rfl dX5_addProduct_10 rfl h (fun h => ?_)
  refine g_icmp_ge 161 14 C dX5_addProduct_11 (by decide) rfl h (fun h => ?_) (fun h => ?_)
  · have hh := end_alt0_2 h K
    exact g_sub [0, 1] (hh) rfl
  · refine g_aload_n 15 C dX5_addProduct_14 rfl (j := 0) rfl rfl ?_
    refine g_getr 18 (j := 2) C rfl rfl wu_X5 (by decide) wf_X5_9 rfl dX5_addProduct_15 rfl ?_
    refine g_iload_n 19 C dX5_addProduct_18 rfl (j := 2) rfl rfl ?_
    refine g_bipush 21 (v := 84) C dX5_addProduct_19 (by decide) rfl ?_
    refine g_imul 22 C dX5_addProduct_21 rfl ?_
    refine g_iload 24 C dX5_addProduct_22 (j := 5) rfl rfl ?_
    refine g_iadd 25 C dX5_addProduct_24 rfl ?_
    refine g_iald 26 C rfl dX5_addProduct_25 rfl h (fun h => ?_)
    refine g_istore 28 [(6, .int (σ 15 ((l2 * 84) + l5).toNatClampNeg)), (0, .ref (ad 5)), (1, .int l1), (2, .int l2), (3, .int l3), (4, .int l4), (5, .int l5)] C dX5_addProduct_26 (by decide) rfl rfl ?_
    refine g_iload 30 C dX5_addProduct_28 (j := 0) rfl rfl ?_
    refine g_if_ne 36 33 C dX5_addProduct_30 (by decide) rfl h (fun h => ?_) (fun h => ?_)
    · refine g_goto 155 C dX5_addProduct_33 (by decide) ?_
      exact g_sub [1, 2, 3, 4, 5, 6] (tX5_addProduct_L155 (l1 := l1) (l2 := l2) (l3 := l3) (l4 := l4) (l5 := l5) (σ := σ) C K0 h K) rfl
    · refine g_iconst 37 (v := 0) C dX5_addProduct_36 (by decide) rfl ?_
      refine g_istore 39 [(7, .int 0), (6, .int (σ 15 ((l2 * 84) + l5).toNatClampNeg)), (0, .ref (ad 5)), (1, .int l1), (2, .int l2), (3, .int l3), (4, .int l4), (5, .int l5)] C dX5_addProduct_37 (by decide) rfl rfl ?_
      obtain ⟨b2, hb, h⟩ := bind_some h
      refine g_sub [2, 3, 4, 5, 6, 7, 1, 0] (g_loop (a := (0, σ)) (fun a => G E rmX5_addProduct cI layX ad 11 39 [(0, .ref (ad 5)), (1, .int l1), (2, .int l2), (3, .int l3), (4, .int l4), (5, .int l5), (6, .int (σ 15 ((l2 * 84) + l5).toNatClampNeg)), (7, .int a.1)] [] a.2) (Sum.elim (fun b => G E rmX5_addProduct cI layX ad 11 155 [(0, .ref (ad 5)), (1, .int l1), (2, .int l2), (3, .int l3), (4, .int l4), (5, .int l5)] [] b) (fun b => b = out)) hb (fun a res h K => tX5_addProduct_B39 (l1 := l1) (l2 := l2) (l3 := l3) (l4 := l4) (l5 := l5) (l6 := (σ 15 ((l2 * 84) + l5).toNatClampNeg)) (l7 := a.1) (σ := a.2) (res := res) C K0 h K) ?_) rfl
      rcases b2 with b2x0 | b2r
      · show G E rmX5_addProduct cI layX ad 11 155 [(0, .ref (ad 5)), (1, .int l1), (2, .int l2), (3, .int l3), (4, .int l4), (5, .int l5)] [] b2x0
        exact tX5_addProduct_L155 (l1 := l1) (l2 := l2) (l3 := l3) (l4 := l4) (l5 := l5) (σ := b2x0) C K0 h K
      · replace h : some (Sum.inr (Sum.inr b2r)) = some res := h
        have ho := end_alt1_2 h K
        exact ho
noncomputable def fX5_addProduct_L161 (l1 : Int32) (σ : Mem) : Option (Int32 × Mem) :=
  (fX5_trim l1 σ).bind fun o4 =>
  some (1, o4)
set_option maxHeartbeats 4000000 in
set_option maxRecDepth 100000 in
theorem tX5_addProduct_L161 {E : Gx} {cI : ClassId} {ad : Nat → Nat} (C : Cx E rmX5_addProduct cI layX ad 11 RX5 cX5_addProduct) {out : Int32 × Mem} (K0 : KI E rmX5_addProduct cI layX ad 11 cX5_addProduct .boolean out) {l1 : Int32} {σ : Mem} (h : fX5_addProduct_L161 l1 σ = some out) : G E rmX5_addProduct cI layX ad 11 161 [(0, .ref (ad 5)), (1, .int l1)] [] σ := by
  unfold fX5_addProduct_L161 at h
  refine g_aload_n 162 C dX5_addProduct_161 rfl (j := 0) rfl rfl ?_
  refine g_iload_n 163 C dX5_addProduct_162 rfl (j := 1) rfl rfl ?_
  refine g_cvv 166 C (As := [.int l1]) (fun _ h => mX5_trim (a1 := l1) (σ := σ) h) wl_X5_44 wi_X5_trim wz_X5_trim wc_X5_trim wn_X5 qX5_trim rfl rfl ⟨Nat.le_of_ble_eq_true rfl, Nat.le_of_ble_eq_true rfl⟩ rfl rfl rfl rfl (Nat.le_of_ble_eq_true rfl) dX5_addProduct_163 rfl h (fun o4 h => ?_)
  refine g_iconst 167 (v := 1) C dX5_addProduct_166 (by decide) rfl ?_
  cases h
  exact K0 _ _ dX5_addProduct_167 (zb_nar (x := 1) (by decide))
noncomputable def fX5_addProduct (a1 : Int32) (a2 : Int32) (a3 : Int32) (a4 : Int32) (σ : Mem) : Option (Int32 × Mem) :=
  (loop (fun a => fX5_addProduct_B3 a1 a2 a3 a4 a.1 a.2) (0, σ)).bind (Sum.elim (fun b3x0 => fX5_addProduct_L161 a1 b3x0) (fun b3r => some b3r))
set_option maxHeartbeats 4000000 in
set_option maxRecDepth 100000 in
theorem mX5_addProduct {l : Launch} {D : va_G} {cI : ClassId} {ad : Nat → Nat} {a1 : Int32} {a2 : Int32} {a3 : Int32} {a4 : Int32} {σ : Mem} {out : Int32 × Mem} (h : fX5_addProduct a1 a2 a3 a4 σ = some out) : MI l D cI layX ad yX5_addProduct cX5_addProduct 11 .boolean rmX5_addProduct [.ref (ad 5), .int a1, .int a2, .int a3, .int a4] σ out := by
  refine met_i (by decide) (Nat.le_of_ble_eq_true rfl) (fun E C K0 => ?_)
  show G E rmX5_addProduct cI layX ad 11 0 [(0, .ref (ad 5)), (1, .int a1), (2, .int a2), (3, .int a3), (4, .int a4)] [] σ
  unfold fX5_addProduct at h
  refine g_iconst 1 (v := 0) C dX5_addProduct_0 (by decide) rfl ?_
  refine g_istore 3 [(5, .int 0), (0, .ref (ad 5)), (1, .int a1), (2, .int a2), (3, .int a3), (4, .int a4)] C dX5_addProduct_1 (by decide) rfl rfl ?_
  obtain ⟨b3, hb, h⟩ := bind_some h
  refine g_sub [1, 2, 3, 4, 5, 0] (g_loop (a := (0, σ)) (fun a => G E rmX5_addProduct cI layX ad 11 3 [(0, .ref (ad 5)), (1, .int a1), (2, .int a2), (3, .int a3), (4, .int a4), (5, .int a.1)] [] a.2) (Sum.elim (fun b => G E rmX5_addProduct cI layX ad 11 161 [(0, .ref (ad 5)), (1, .int a1)] [] b) (fun b => b = out)) hb (fun a res h K => tX5_addProduct_B3 (l1 := a1) (l2 := a2) (l3 := a3) (l4 := a4) (l5 := a.1) (σ := a.2) (res := res) C K0 h K) ?_) rfl
  rcases b3 with b3x0 | b3r
  · show G E rmX5_addProduct cI layX ad 11 161 [(0, .ref (ad 5)), (1, .int a1)] [] b3x0
    exact tX5_addProduct_L161 (l1 := a1) (σ := b3x0) C K0 h
  · exact end_top h
