def PureClaim : Prop := ∃ Rel : Nat → Mem → Mem → Prop, (∀ v : Int32, ∃ τ : Mem, fX2_init_L42 (mono0 (maskX v)) = some τ ∧ Rel 0 (initX v τ) (initM v)) ∧ Sim Rel
theorem law_le {L k : Nat} {x4 : Int32} (hL : L ≤ 3073) (hk : k ≤ 512) (e : x4 = nI (1 + 6 * k)) (hc : ¬ Int32.ofNat L - 6 < x4) : 1 + 6 * k + 6 ≤ L := by
  rcases Nat.lt_or_ge L 6 with h | h
  · exfalso
    apply hc
    have h0 : (0 : Int32) ≤ x4 := by rw [e]; exact nI_pos' (by omega)
    have h1 : Int32.ofNat L - 6 < 0 := by
      rcases (show L = 0 ∨ L = 1 ∨ L = 2 ∨ L = 3 ∨ L = 4 ∨ L = 5 by omega) with rfl | rfl | rfl | rfl | rfl | rfl <;> decide
    exact Int32.lt_of_lt_of_le h1 h0
  · obtain ⟨m, rfl⟩ : ∃ m, L = m + 6 := ⟨L - 6, by omega⟩
    rcases Nat.lt_or_ge m (1 + 6 * k) with h2 | h2
    · exfalso
      apply hc
      have e2 : Int32.ofNat (m + 6) - 6 = nI m := by
        have h3 := nI_add m 6
        show nI (m + 6) - 6 = nI m
        rw [← h3]
        show nI m + 6 - 6 = nI m
        exact Int32.add_sub_cancel _ _
      rw [e2, e]
      exact nI_lt h2 (by omega)
    · omega
theorem x4_in {L k j : Nat} {x4 v : Int32} (hL : L ≤ 3073) (h : 1 + 6 * k + 6 ≤ L) (hj : j ≤ 5) (e : x4 = nI (1 + 6 * k)) (hv : v = nI j) : vp_in (x4 + v) L := by
  rw [e, hv, nI_add]
  exact vp_in_nI (by omega) (by omega)
set_option maxHeartbeats 4000000 in
set_option maxRecDepth 100000 in
theorem law_loop {E : Gx} {cI cL : ClassId} {adX adM : Nat → Nat} {qo b L sa : Nat} {xs : Nat → Int32} (C : CL E cI cL adX adM qo b L sa xs) (hL : L ≤ 3073) {Rel : Nat → Mem → Mem → Prop} (hsim : Sim Rel) {c0 s0 : Nat} (hc0 : c0 + 520 ≤ room_1.cells) (hs0 : s0 + 3200 ≤ room_1.slots) (hfin : ∀ (lv : List (Nat × Value)) (σX σM : Mem) (fo : Nat → Int64) (ce sl : Nat), ce ≤ c0 + 520 → sl ≤ s0 + 3200 → GL E cI cL adX adM qo 1108 lv [] σX σM fo ce sl) :
    ∀ (n k : Nat) (x4 : Int32) (σX σM : Mem) (fo : Nat → Int64) (ce sl : Nat), 513 ≤ k + n → k ≤ 512 → x4 = nI (1 + 6 * k) → Rel k σX σM → ce ≤ c0 + k → sl ≤ s0 + 6 * k → GL E cI cL adX adM qo 33 [(0, .ref b), (1, .ref (adX 7)), (2, .ref (adM 0)), (3, .ref qo), (4, .int x4)] [] σX σM fo ce sl := by
  intro n
  induction n with
  | zero => intro k x4 σX σM fo ce sl h1 h2; omega
  | succ n ih =>
    intro k x4 σX σM fo ce sl hn hk ex4 hR hce0 hsl0
    refine l_iload 35 C dL_33 (j := 4) rfl rfl ?_
    refine l_aload_n 36 C dL_35 rfl (j := 0) rfl rfl ?_
    refine l_slen 37 C dL_36 rfl ?_
    refine l_bipush 39 (v := 6) C dL_37 (by decide) rfl ?_
    refine l_isub 40 C dL_39 rfl ?_
    refine l_icmp_gt 1108 43 C dL_40 (by decide) rfl (fun hc => ?_) (fun hc => ?_)
    · exact hfin _ _ _ _ _ _ (by omega) (by omega)
    have hle := law_le hL hk ex4 hc
    have hk2 : k < 512 := by omega
    obtain ⟨hrel1, h_number, h_input, h_carried, h_op, h_next, h_pop, h_test, h_show, h_count, h_of, h_cycle, h_form, h_poly, h_value, h_told, h_reduced, h_cell, h_needed, h_run, h_runReduced, h_seen, h_ahead, h_swapped⟩ := hsim k σX σM hk2 hR
    have hi0 : vp_in x4 L := by rw [ex4]; exact vp_in_nI (by omega) (by omega)
    have hi1 : vp_in (x4 + 1) L := x4_in (j := 1) hL hle (by omega) ex4 rfl
    have hi2 : vp_in (x4 + 2) L := x4_in (j := 2) hL hle (by omega) ex4 rfl
    have hi3 : vp_in (x4 + 3) L := x4_in (j := 3) hL hle (by omega) ex4 rfl
    have hi4 : vp_in (x4 + 4) L := x4_in (j := 4) hL hle (by omega) ex4 rfl
    have hi5 : vp_in (x4 + 5) L := x4_in (j := 5) hL hle (by omega) ex4 rfl
    have hce : ce ≤ room_1.cells ∧ sl ≤ room_1.slots := ⟨by omega, by omega⟩
    have hce6 : ce + 1 ≤ room_1.cells ∧ sl + 6 ≤ room_1.slots := ⟨by omega, by omega⟩
    have hend : ∀ (τX τM : Mem) (go : Nat → Int64) (ce2 sl2 : Nat), Rel (k + 1) τX τM → ce2 ≤ ce + 1 → sl2 ≤ sl + 6 → GL E cI cL adX adM qo 1102 [(0, .ref b), (1, .ref (adX 7)), (2, .ref (adM 0)), (3, .ref qo), (4, .int x4)] [] τX τM go ce2 sl2 := by
      intro τX τM go ce2 sl2 hr h1 h2
      refine l_iinc 1105 [(4, .int (x4 + 6)), (0, .ref b), (1, .ref (adX 7)), (2, .ref (adM 0)), (3, .ref qo)] C dL_1102 (j := 4) rfl (by rfl) (by decide) rfl rfl ?_
      refine l_goto 33 C dL_1105 (by decide) ?_
      refine l_sub [1, 2, 3, 4, 0] ?_ rfl
      exact ih (k + 1) (x4 + 6) τX τM go ce2 sl2 (by omega) (by omega) (by rw [ex4, show (6 : Int32) = nI 6 from rfl, nI_add]; congr 1) hr (by omega) (by omega)
    refine l_aload_n 44 C dL_43 rfl (j := 0) rfl rfl ?_
    refine l_iload 46 C dL_44 (j := 4) rfl rfl ?_
    refine l_sld 47 C hi0 dL_46 rfl ?_
    refine l_bipush 49 (v := 31) C dL_47 (by decide) rfl ?_
    refine l_iand 50 C dL_49 rfl ?_
    obtain ⟨y, hy⟩ : ∃ z, xs x4.toNatClampNeg &&& 31 = z := ⟨_, rfl⟩
    rw [hy]
    by_cases c0 : y = 0
    · refine l_tswC 156 (off := 106) C dL_50 c0 (by decide) (by decide) (by decide) (by decide) ?_
      exact law_number C hce hce6 hi1 h_number hend
    by_cases c1 : y = 1
    · refine l_tswC 181 (off := 131) C dL_50 c1 (by decide) (by decide) (by decide) (by decide) ?_
      exact law_input C hce hce6 h_input hend
    by_cases c2 : y = 2
    · refine l_tswC 194 (off := 144) C dL_50 c2 (by decide) (by decide) (by decide) (by decide) ?_
      exact law_carried C hce hce6 hi1 h_carried hend
    by_cases c3 : y = 3
    · refine l_tswC 219 (off := 169) C dL_50 c3 (by decide) (by decide) (by decide) (by decide) ?_
      exact law_op C hce hce6 hi1 hi2 hi3 h_op hend
    by_cases c4 : y = 4
    · refine l_tswC 268 (off := 218) C dL_50 c4 (by decide) (by decide) (by decide) (by decide) ?_
      exact law_next C hce hce6 hi1 hi2 h_next hend
    by_cases c5 : y = 5
    · refine l_tswC 305 (off := 255) C dL_50 c5 (by decide) (by decide) (by decide) (by decide) ?_
      exact law_pop C hce hce6 h_pop hend
    by_cases c6 : y = 6
    · refine l_tswC 318 (off := 268) C dL_50 c6 (by decide) (by decide) (by decide) (by decide) ?_
      exact law_test C hce hce6 hi1 hi2 hi3 h_test hend
    by_cases c7 : y = 7
    · refine l_tswC 367 (off := 317) C dL_50 c7 (by decide) (by decide) (by decide) (by decide) ?_
      exact law_show C hce hce6 hi1 hi2 h_show hend
    by_cases c8 : y = 8
    · refine l_tswC 420 (off := 370) C dL_50 c8 (by decide) (by decide) (by decide) (by decide) ?_
      exact law_count C hce hce6 hi1 h_count hend
    by_cases c9 : y = 9
    · refine l_tswC 445 (off := 395) C dL_50 c9 (by decide) (by decide) (by decide) (by decide) ?_
      exact law_of C hce hce6 hi1 hi2 h_of hend
    by_cases c10 : y = 10
    · refine l_tswC 513 (off := 463) C dL_50 c10 (by decide) (by decide) (by decide) (by decide) ?_
      exact law_cycle C hce hce6 hi1 h_cycle hend
    by_cases c11 : y = 11
    · refine l_tswC 538 (off := 488) C dL_50 c11 (by decide) (by decide) (by decide) (by decide) ?_
      exact law_form C hce hce6 hi1 hi2 h_form hend
    by_cases c12 : y = 12
    · refine l_tswC 575 (off := 525) C dL_50 c12 (by decide) (by decide) (by decide) (by decide) ?_
      exact law_poly C hce hce6 hi1 hi2 hi3 hi4 h_poly hend
    by_cases c13 : y = 13
    · refine l_tswC 636 (off := 586) C dL_50 c13 (by decide) (by decide) (by decide) (by decide) ?_
      exact law_value C hce hce6 hi1 hi2 hi3 hi4 hi5 h_value hend
    by_cases c14 : y = 14
    · refine l_tswC 709 (off := 659) C dL_50 c14 (by decide) (by decide) (by decide) (by decide) ?_
      exact law_told C hce hce6 hi1 hi2 hi3 hi4 hi5 h_told hend
    by_cases c15 : y = 15
    · refine l_tswC 782 (off := 732) C dL_50 c15 (by decide) (by decide) (by decide) (by decide) ?_
      exact law_reduced C hce hce6 hi1 h_reduced hend
    by_cases c16 : y = 16
    · refine l_tswC 807 (off := 757) C dL_50 c16 (by decide) (by decide) (by decide) (by decide) ?_
      exact law_cell C hce hce6 hi1 hi2 h_cell hend
    by_cases c17 : y = 17
    · refine l_tswC 844 (off := 794) C dL_50 c17 (by decide) (by decide) (by decide) (by decide) ?_
      exact law_needed C hce hce6 hi1 h_needed hend
    by_cases c18 : y = 18
    · refine l_tswC 869 (off := 819) C dL_50 c18 (by decide) (by decide) (by decide) (by decide) ?_
      exact law_run C hce hce6 hi1 hi2 hi3 h_run hend
    by_cases c19 : y = 19
    · refine l_tswC 918 (off := 868) C dL_50 c19 (by decide) (by decide) (by decide) (by decide) ?_
      exact law_runReduced C hce hce6 hi1 hi2 hi3 h_runReduced hend
    by_cases c20 : y = 20
    · refine l_tswC 967 (off := 917) C dL_50 c20 (by decide) (by decide) (by decide) (by decide) ?_
      exact law_seen C hce hce6 hi1 h_seen hend
    by_cases c21 : y = 21
    · refine l_tswC 992 (off := 942) C dL_50 c21 (by decide) (by decide) (by decide) (by decide) ?_
      exact law_ahead C hce hce6 hi1 hi2 hi3 h_ahead hend
    by_cases c22 : y = 22
    · refine l_tswC 1041 (off := 991) C dL_50 c22 (by decide) (by decide) (by decide) (by decide) ?_
      exact law_swapped C hce hce6 hi1 hi2 hi3 hi4 h_swapped hend
    have hout : y.toInt < 0 ∨ 22 < y.toInt := by
      have n0 : ¬ y.toInt = 0 := ne_toInt c0
      have n1 : ¬ y.toInt = 1 := ne_toInt c1
      have n2 : ¬ y.toInt = 2 := ne_toInt c2
      have n3 : ¬ y.toInt = 3 := ne_toInt c3
      have n4 : ¬ y.toInt = 4 := ne_toInt c4
      have n5 : ¬ y.toInt = 5 := ne_toInt c5
      have n6 : ¬ y.toInt = 6 := ne_toInt c6
      have n7 : ¬ y.toInt = 7 := ne_toInt c7
      have n8 : ¬ y.toInt = 8 := ne_toInt c8
      have n9 : ¬ y.toInt = 9 := ne_toInt c9
      have n10 : ¬ y.toInt = 10 := ne_toInt c10
      have n11 : ¬ y.toInt = 11 := ne_toInt c11
      have n12 : ¬ y.toInt = 12 := ne_toInt c12
      have n13 : ¬ y.toInt = 13 := ne_toInt c13
      have n14 : ¬ y.toInt = 14 := ne_toInt c14
      have n15 : ¬ y.toInt = 15 := ne_toInt c15
      have n16 : ¬ y.toInt = 16 := ne_toInt c16
      have n17 : ¬ y.toInt = 17 := ne_toInt c17
      have n18 : ¬ y.toInt = 18 := ne_toInt c18
      have n19 : ¬ y.toInt = 19 := ne_toInt c19
      have n20 : ¬ y.toInt = 20 := ne_toInt c20
      have n21 : ¬ y.toInt = 21 := ne_toInt c21
      have n22 : ¬ y.toInt = 22 := ne_toInt c22
      omega
    refine l_tswD 1102 C dL_50 hout (by decide) ?_
    exact hend _ _ _ _ _ hrel1 (by omega) (by omega)
/-! the law's cell -/
theorem DL_cell : ∀ q ∈ ([(0, .iload_n 1, 1), (1, .aload_n 0, 1), (2, .arraylength, 1), (3, .if_icmp .ge 9, 3), (6, .aload_n 0, 1), (7, .iload_n 1, 1), (8, .iaload, 1), (9, .goto 4, 3), (12, .iconst 0, 1), (13, .ireturn, 1)] : List (Nat × Instr × Nat)), decode cL_cell q.1 = .ok q.2 := by decide +kernel
def cellV (L : Nat) (xs : Nat → Int32) : Int32 := if Int32.ofNat L ≤ 0 then 0 else xs 0
abbrev rmL_cell : Room := { frames := 0, cells := 0, slots := 0, locals := 0 }
set_option maxHeartbeats 4000000 in
theorem mL_cell {l : Launch} {b L : Nat} {xs : Nat → Int32} (hL : L ≤ 3073) : Met l yL_cell (Cond.code yL_cell cL_cell 2 (some .int) :: Wall) rmL_cell (va_Pc [.ref b, .int 0] (fun U => va_X b L xs U U.heap)) (va_Qi (fun (r : Int32) (_ : Unit) => r = cellV L xs) (fun _ _ => True) (fun _ => False)) 0 0 (fun _ => False) := by
  refine Met.ofW (cc := cL_cell) (maxL := 2) (ret := some .int) (by decide) rfl ?_
  intro p e s m args below meth c s₁ B hml hv
  obtain ⟨rfl, hX⟩ := hv
  have hx := B.exec
  have hb := B.bytes
  have hr := B.returns
  have hlocks := B.notSynchronized
  have hbl : b < s.heap.size := by
    obtain ⟨scr, h1, -⟩ := hX
    exact (Array.getElem?_eq_some_iff.mp h1).1
  have hS : va_S (fun _ => False) s.heap s.heap [] := va_S.rf
  have hl := lv_entry [.ref b, .int 0] (n := 2) (Nat.le_of_ble_eq_true rfl)
  rw [lg_entry_eq]
  generalize (lg_sl ([.ref b, .int 0]) ++ List.replicate (2 - (lg_sl ([.ref b, .int 0])).length) Slot.unset).toArray = ls at hl ⊢
  have hl : lv_has ls 2 [(0, .ref b), (1, .int 0)] := hl
  refine lv_iload_n hx hb (DL_cell (0, .iload_n 1, 1) (List.mem_of_getElem? (i := 0) rfl)) rfl (lv_at hl 1 rfl) ?_
  refine lv_aload_n hx hb (DL_cell (1, .aload_n 0, 1) (List.mem_of_getElem? (i := 1) rfl)) rfl (lv_at hl 0 rfl) ?_
  refine va_slen hx hb hX hbl (fun h => h) hS (DL_cell (2, .arraylength, 1) (List.mem_of_getElem? (i := 2) rfl)) ?_
  refine lv_icmp_ge (tgt := 12) hx hb (DL_cell (3, .if_icmp .ge 9, 3) (List.mem_of_getElem? (i := 3) rfl)) (by decide) (fun hc => ?_) (fun hc => ?_)
  · refine lv_iconst (v := 0) hx hb (DL_cell (12, .iconst 0, 1) (List.mem_of_getElem? (i := 8) rfl)) (by decide) ?_
    exact W.iret (v := 0) hx hb hr (fun t ht hW => ⟨⟨0, (), rfl, by unfold cellV; rw [if_pos hc], trivial⟩, hS.F ht⟩) hS.2.2 (DL_cell (13, .ireturn, 1) (List.mem_of_getElem? (i := 9) rfl)) hlocks
  · have hin : vp_in 0 L := by
      rcases Nat.eq_zero_or_pos L with h | h
      · subst h
        exact absurd (by decide) hc
      · exact vp_in_nI (n := 0) h (by omega)
    refine lv_aload_n hx hb (DL_cell (6, .aload_n 0, 1) (List.mem_of_getElem? (i := 4) rfl)) rfl (lv_at hl 0 rfl) ?_
    refine lv_iload_n hx hb (DL_cell (7, .iload_n 1, 1) (List.mem_of_getElem? (i := 5) rfl)) rfl (lv_at hl 1 rfl) ?_
    refine va_sld hx hb hX hbl (fun h => h) hS hin (DL_cell (8, .iaload, 1) (List.mem_of_getElem? (i := 6) rfl)) ?_
    refine lv_goto (tgt := 13) hx hb (DL_cell (9, .goto 4, 3) (List.mem_of_getElem? (i := 7) rfl)) (by decide) ?_
    exact W.iret (v := xs (0 : Int32).toNatClampNeg) hx hb hr (fun t ht hW => ⟨⟨_, (), rfl, by unfold cellV; rw [if_neg hc]; rfl, trivial⟩, hS.F ht⟩) hS.2.2 (DL_cell (13, .ireturn, 1) (List.mem_of_getElem? (i := 9) rfl)) hlocks
set_option maxRecDepth 100000 in
theorem nsF_in : ∀ q ∈ nsF, Cond.fieldLinkNest q.1 q.2.1 q.2.2.1 q.2.2.2.1 q.2.2.2.2.1 q.2.2.2.2.2 ∈ tables_1_1 ++ (tables_1_2 ++ (tables_1_3 ++ (tables_1_4 ++ (tables_1_5 ++ tables_1_6)))) := List.forall_mem_cons.mpr ⟨(List.mem_append_left _ (List.mem_of_getElem? (i := 38) rfl)), List.forall_mem_cons.mpr ⟨(List.mem_append_left _ (List.mem_of_getElem? (i := 39) rfl)), List.forall_mem_cons.mpr ⟨(List.mem_append_left _ (List.mem_of_getElem? (i := 40) rfl)), List.forall_mem_cons.mpr ⟨(List.mem_append_left _ (List.mem_of_getElem? (i := 42) rfl)), List.forall_mem_cons.mpr ⟨(List.mem_append_left _ (List.mem_of_getElem? (i := 43) rfl)), List.forall_mem_cons.mpr ⟨(List.mem_append_left _ (List.mem_of_getElem? (i := 44) rfl)), List.forall_mem_cons.mpr ⟨(List.mem_append_left _ (List.mem_of_getElem? (i := 45) rfl)), List.forall_mem_cons.mpr ⟨(List.mem_append_left _ (List.mem_of_getElem? (i := 47) rfl)), List.forall_mem_cons.mpr ⟨(List.mem_append_left _ (List.mem_of_getElem? (i := 48) rfl)), List.forall_mem_cons.mpr ⟨(List.mem_append_left _ (List.mem_of_getElem? (i := 49) rfl)), List.forall_mem_cons.mpr ⟨(List.mem_append_left _ (List.mem_of_getElem? (i := 51) rfl)), List.forall_mem_cons.mpr ⟨(List.mem_append_left _ (List.mem_of_getElem? (i := 52) rfl)), List.forall_mem_cons.mpr ⟨(List.mem_append_left _ (List.mem_of_getElem? (i := 53) rfl)), List.forall_mem_cons.mpr ⟨(List.mem_append_left _ (List.mem_of_getElem? (i := 55) rfl)), List.forall_mem_cons.mpr ⟨(List.mem_append_left _ (List.mem_of_getElem? (i := 56) rfl)), List.forall_mem_cons.mpr ⟨(List.mem_append_left _ (List.mem_of_getElem? (i := 57) rfl)), List.forall_mem_cons.mpr ⟨(List.mem_append_left _ (List.mem_of_getElem? (i := 58) rfl)), List.forall_mem_cons.mpr ⟨(List.mem_append_left _ (List.mem_of_getElem? (i := 59) rfl)), List.forall_mem_cons.mpr ⟨(List.mem_append_left _ (List.mem_of_getElem? (i := 62) rfl)), List.forall_mem_cons.mpr ⟨(List.mem_append_left _ (List.mem_of_getElem? (i := 64) rfl)), List.forall_mem_cons.mpr ⟨(List.mem_append_left _ (List.mem_of_getElem? (i := 65) rfl)), List.forall_mem_cons.mpr ⟨(List.mem_append_left _ (List.mem_of_getElem? (i := 67) rfl)), List.forall_mem_cons.mpr ⟨(List.mem_append_left _ (List.mem_of_getElem? (i := 68) rfl)), List.forall_mem_cons.mpr ⟨(List.mem_append_left _ (List.mem_of_getElem? (i := 70) rfl)), List.forall_mem_cons.mpr ⟨(List.mem_append_left _ (List.mem_of_getElem? (i := 71) rfl)), List.forall_mem_cons.mpr ⟨(List.mem_append_left _ (List.mem_of_getElem? (i := 73) rfl)), List.forall_mem_cons.mpr ⟨(List.mem_append_left _ (List.mem_of_getElem? (i := 74) rfl)), List.forall_mem_cons.mpr ⟨(List.mem_append_left _ (List.mem_of_getElem? (i := 76) rfl)), List.forall_mem_cons.mpr ⟨(List.mem_append_left _ (List.mem_of_getElem? (i := 77) rfl)), List.forall_mem_cons.mpr ⟨(List.mem_append_left _ (List.mem_of_getElem? (i := 78) rfl)), List.forall_mem_cons.mpr ⟨(List.mem_append_left _ (List.mem_of_getElem? (i := 80) rfl)), List.forall_mem_cons.mpr ⟨(List.mem_append_left _ (List.mem_of_getElem? (i := 81) rfl)), List.forall_mem_cons.mpr ⟨(List.mem_append_left _ (List.mem_of_getElem? (i := 120) rfl)), List.forall_mem_cons.mpr ⟨(List.mem_append_left _ (List.mem_of_getElem? (i := 143) rfl)), List.forall_mem_cons.mpr ⟨(List.mem_append_left _ (List.mem_of_getElem? (i := 162) rfl)), List.forall_mem_cons.mpr ⟨(List.mem_append_left _ (List.mem_of_getElem? (i := 163) rfl)), List.forall_mem_cons.mpr ⟨(List.mem_append_left _ (List.mem_of_getElem? (i := 181) rfl)), List.forall_mem_cons.mpr ⟨(List.mem_append_left _ (List.mem_of_getElem? (i := 183) rfl)), List.forall_mem_cons.mpr ⟨(List.mem_append_left _ (List.mem_of_getElem? (i := 184) rfl)), List.forall_mem_cons.mpr ⟨(List.mem_append_left _ (List.mem_of_getElem? (i := 185) rfl)), List.forall_mem_cons.mpr ⟨(List.mem_append_left _ (List.mem_of_getElem? (i := 213) rfl)), List.forall_mem_cons.mpr ⟨(List.mem_append_left _ (List.mem_of_getElem? (i := 214) rfl)), List.forall_mem_cons.mpr ⟨(List.mem_append_left _ (List.mem_of_getElem? (i := 216) rfl)), List.forall_mem_cons.mpr ⟨(List.mem_append_left _ (List.mem_of_getElem? (i := 217) rfl)), List.forall_mem_cons.mpr ⟨(List.mem_append_left _ (List.mem_of_getElem? (i := 219) rfl)), List.forall_mem_cons.mpr ⟨(List.mem_append_left _ (List.mem_of_getElem? (i := 220) rfl)), List.forall_mem_cons.mpr ⟨(List.mem_append_left _ (List.mem_of_getElem? (i := 222) rfl)), List.forall_mem_cons.mpr ⟨(List.mem_append_left _ (List.mem_of_getElem? (i := 224) rfl)), List.forall_mem_cons.mpr ⟨(List.mem_append_left _ (List.mem_of_getElem? (i := 225) rfl)), List.forall_mem_cons.mpr ⟨(List.mem_append_left _ (List.mem_of_getElem? (i := 227) rfl)), List.forall_mem_cons.mpr ⟨(List.mem_append_right _ (List.mem_append_left _ (List.mem_of_getElem? (i := 29) rfl))), List.forall_mem_cons.mpr ⟨(List.mem_append_right _ (List.mem_append_left _ (List.mem_of_getElem? (i := 31) rfl))), fun _ h => absurd h List.not_mem_nil⟩⟩⟩⟩⟩⟩⟩⟩⟩⟩⟩⟩⟩⟩⟩⟩⟩⟩⟩⟩⟩⟩⟩⟩⟩⟩⟩⟩⟩⟩⟩⟩⟩⟩⟩⟩⟩⟩⟩⟩⟩⟩⟩⟩⟩⟩⟩⟩⟩⟩⟩⟩
set_option maxRecDepth 100000 in
theorem nsM_in : ∀ q ∈ nsM, Cond.methodLinkNest q.1 q.2.1 q.2.2.1 q.2.2.2 ∈ tables_1_1 ++ (tables_1_2 ++ (tables_1_3 ++ (tables_1_4 ++ (tables_1_5 ++ tables_1_6)))) := List.forall_mem_cons.mpr ⟨(List.mem_append_left _ (List.mem_of_getElem? (i := 33) rfl)), List.forall_mem_cons.mpr ⟨(List.mem_append_left _ (List.mem_of_getElem? (i := 112) rfl)), List.forall_mem_cons.mpr ⟨(List.mem_append_left _ (List.mem_of_getElem? (i := 135) rfl)), List.forall_mem_cons.mpr ⟨(List.mem_append_left _ (List.mem_of_getElem? (i := 155) rfl)), List.forall_mem_cons.mpr ⟨(List.mem_append_left _ (List.mem_of_getElem? (i := 173) rfl)), List.forall_mem_cons.mpr ⟨(List.mem_append_left _ (List.mem_of_getElem? (i := 205) rfl)), List.forall_mem_cons.mpr ⟨(List.mem_append_right _ (List.mem_append_left _ (List.mem_of_getElem? (i := 15) rfl))), List.forall_mem_cons.mpr ⟨(List.mem_append_right _ (List.mem_append_left _ (List.mem_of_getElem? (i := 81) rfl))), List.forall_mem_cons.mpr ⟨(List.mem_append_right _ (List.mem_append_left _ (List.mem_of_getElem? (i := 93) rfl))), List.forall_mem_cons.mpr ⟨(List.mem_append_right _ (List.mem_append_left _ (List.mem_of_getElem? (i := 105) rfl))), List.forall_mem_cons.mpr ⟨(List.mem_append_right _ (List.mem_append_left _ (List.mem_of_getElem? (i := 114) rfl))), List.forall_mem_cons.mpr ⟨(List.mem_append_right _ (List.mem_append_left _ (List.mem_of_getElem? (i := 126) rfl))), List.forall_mem_cons.mpr ⟨(List.mem_append_right _ (List.mem_append_left _ (List.mem_of_getElem? (i := 154) rfl))), List.forall_mem_cons.mpr ⟨(List.mem_append_right _ (List.mem_append_left _ (List.mem_of_getElem? (i := 162) rfl))), List.forall_mem_cons.mpr ⟨(List.mem_append_right _ (List.mem_append_left _ (List.mem_of_getElem? (i := 170) rfl))), List.forall_mem_cons.mpr ⟨(List.mem_append_right _ (List.mem_append_left _ (List.mem_of_getElem? (i := 179) rfl))), List.forall_mem_cons.mpr ⟨(List.mem_append_right _ (List.mem_append_left _ (List.mem_of_getElem? (i := 183) rfl))), List.forall_mem_cons.mpr ⟨(List.mem_append_right _ (List.mem_append_left _ (List.mem_of_getElem? (i := 199) rfl))), List.forall_mem_cons.mpr ⟨(List.mem_append_right _ (List.mem_append_left _ (List.mem_of_getElem? (i := 203) rfl))), List.forall_mem_cons.mpr ⟨(List.mem_append_right _ (List.mem_append_left _ (List.mem_of_getElem? (i := 208) rfl))), List.forall_mem_cons.mpr ⟨(List.mem_append_right _ (List.mem_append_left _ (List.mem_of_getElem? (i := 212) rfl))), List.forall_mem_cons.mpr ⟨(List.mem_append_right _ (List.mem_append_left _ (List.mem_of_getElem? (i := 216) rfl))), List.forall_mem_cons.mpr ⟨(List.mem_append_right _ (List.mem_append_left _ (List.mem_of_getElem? (i := 224) rfl))), List.forall_mem_cons.mpr ⟨(List.mem_append_right _ (List.mem_append_left _ (List.mem_of_getElem? (i := 228) rfl))), List.forall_mem_cons.mpr ⟨(List.mem_append_right _ (List.mem_append_left _ (List.mem_of_getElem? (i := 232) rfl))), List.forall_mem_cons.mpr ⟨(List.mem_append_right _ (List.mem_append_left _ (List.mem_of_getElem? (i := 236) rfl))), List.forall_mem_cons.mpr ⟨(List.mem_append_right _ (List.mem_append_right _ (List.mem_append_left _ (List.mem_of_getElem? (i := 8) rfl)))), List.forall_mem_cons.mpr ⟨(List.mem_append_right _ (List.mem_append_right _ (List.mem_append_left _ (List.mem_of_getElem? (i := 13) rfl)))), List.forall_mem_cons.mpr ⟨(List.mem_append_right _ (List.mem_append_right _ (List.mem_append_left _ (List.mem_of_getElem? (i := 25) rfl)))), List.forall_mem_cons.mpr ⟨(List.mem_append_right _ (List.mem_append_right _ (List.mem_append_left _ (List.mem_of_getElem? (i := 32) rfl)))), List.forall_mem_cons.mpr ⟨(List.mem_append_right _ (List.mem_append_right _ (List.mem_append_left _ (List.mem_of_getElem? (i := 36) rfl)))), List.forall_mem_cons.mpr ⟨(List.mem_append_right _ (List.mem_append_right _ (List.mem_append_left _ (List.mem_of_getElem? (i := 49) rfl)))), List.forall_mem_cons.mpr ⟨(List.mem_append_right _ (List.mem_append_right _ (List.mem_append_left _ (List.mem_of_getElem? (i := 50) rfl)))), List.forall_mem_cons.mpr ⟨(List.mem_append_right _ (List.mem_append_right _ (List.mem_append_left _ (List.mem_of_getElem? (i := 57) rfl)))), List.forall_mem_cons.mpr ⟨(List.mem_append_right _ (List.mem_append_right _ (List.mem_append_left _ (List.mem_of_getElem? (i := 61) rfl)))), List.forall_mem_cons.mpr ⟨(List.mem_append_right _ (List.mem_append_right _ (List.mem_append_left _ (List.mem_of_getElem? (i := 77) rfl)))), List.forall_mem_cons.mpr ⟨(List.mem_append_right _ (List.mem_append_right _ (List.mem_append_left _ (List.mem_of_getElem? (i := 81) rfl)))), List.forall_mem_cons.mpr ⟨(List.mem_append_right _ (List.mem_append_right _ (List.mem_append_left _ (List.mem_of_getElem? (i := 85) rfl)))), List.forall_mem_cons.mpr ⟨(List.mem_append_right _ (List.mem_append_right _ (List.mem_append_left _ (List.mem_of_getElem? (i := 89) rfl)))), List.forall_mem_cons.mpr ⟨(List.mem_append_right _ (List.mem_append_right _ (List.mem_append_left _ (List.mem_of_getElem? (i := 97) rfl)))), List.forall_mem_cons.mpr ⟨(List.mem_append_right _ (List.mem_append_right _ (List.mem_append_left _ (List.mem_of_getElem? (i := 105) rfl)))), List.forall_mem_cons.mpr ⟨(List.mem_append_right _ (List.mem_append_right _ (List.mem_append_left _ (List.mem_of_getElem? (i := 109) rfl)))), List.forall_mem_cons.mpr ⟨(List.mem_append_right _ (List.mem_append_right _ (List.mem_append_left _ (List.mem_of_getElem? (i := 118) rfl)))), List.forall_mem_cons.mpr ⟨(List.mem_append_right _ (List.mem_append_right _ (List.mem_append_left _ (List.mem_of_getElem? (i := 122) rfl)))), List.forall_mem_cons.mpr ⟨(List.mem_append_right _ (List.mem_append_right _ (List.mem_append_left _ (List.mem_of_getElem? (i := 127) rfl)))), List.forall_mem_cons.mpr ⟨(List.mem_append_right _ (List.mem_append_right _ (List.mem_append_left _ (List.mem_of_getElem? (i := 135) rfl)))), List.forall_mem_cons.mpr ⟨(List.mem_append_right _ (List.mem_append_right _ (List.mem_append_left _ (List.mem_of_getElem? (i := 143) rfl)))), List.forall_mem_cons.mpr ⟨(List.mem_append_right _ (List.mem_append_right _ (List.mem_append_left _ (List.mem_of_getElem? (i := 150) rfl)))), List.forall_mem_cons.mpr ⟨(List.mem_append_right _ (List.mem_append_right _ (List.mem_append_left _ (List.mem_of_getElem? (i := 154) rfl)))), List.forall_mem_cons.mpr ⟨(List.mem_append_right _ (List.mem_append_right _ (List.mem_append_left _ (List.mem_of_getElem? (i := 159) rfl)))), List.forall_mem_cons.mpr ⟨(List.mem_append_right _ (List.mem_append_right _ (List.mem_append_left _ (List.mem_of_getElem? (i := 164) rfl)))), List.forall_mem_cons.mpr ⟨(List.mem_append_right _ (List.mem_append_right _ (List.mem_append_left _ (List.mem_of_getElem? (i := 169) rfl)))), List.forall_mem_cons.mpr ⟨(List.mem_append_right _ (List.mem_append_right _ (List.mem_append_left _ (List.mem_of_getElem? (i := 174) rfl)))), List.forall_mem_cons.mpr ⟨(List.mem_append_right _ (List.mem_append_right _ (List.mem_append_left _ (List.mem_of_getElem? (i := 175) rfl)))), List.forall_mem_cons.mpr ⟨(List.mem_append_right _ (List.mem_append_right _ (List.mem_append_left _ (List.mem_of_getElem? (i := 179) rfl)))), List.forall_mem_cons.mpr ⟨(List.mem_append_right _ (List.mem_append_right _ (List.mem_append_left _ (List.mem_of_getElem? (i := 183) rfl)))), List.forall_mem_cons.mpr ⟨(List.mem_append_right _ (List.mem_append_right _ (List.mem_append_left _ (List.mem_of_getElem? (i := 191) rfl)))), List.forall_mem_cons.mpr ⟨(List.mem_append_right _ (List.mem_append_right _ (List.mem_append_left _ (List.mem_of_getElem? (i := 199) rfl)))), List.forall_mem_cons.mpr ⟨(List.mem_append_right _ (List.mem_append_right _ (List.mem_append_left _ (List.mem_of_getElem? (i := 204) rfl)))), List.forall_mem_cons.mpr ⟨(List.mem_append_right _ (List.mem_append_right _ (List.mem_append_left _ (List.mem_of_getElem? (i := 227) rfl)))), List.forall_mem_cons.mpr ⟨(List.mem_append_right _ (List.mem_append_right _ (List.mem_append_left _ (List.mem_of_getElem? (i := 233) rfl)))), List.forall_mem_cons.mpr ⟨(List.mem_append_right _ (List.mem_append_right _ (List.mem_append_left _ (List.mem_of_getElem? (i := 234) rfl)))), List.forall_mem_cons.mpr ⟨(List.mem_append_right _ (List.mem_append_right _ (List.mem_append_left _ (List.mem_of_getElem? (i := 235) rfl)))), List.forall_mem_cons.mpr ⟨(List.mem_append_right _ (List.mem_append_right _ (List.mem_append_right _ (List.mem_append_left _ (List.mem_of_getElem? (i := 15) rfl))))), List.forall_mem_cons.mpr ⟨(List.mem_append_right _ (List.mem_append_right _ (List.mem_append_right _ (List.mem_append_left _ (List.mem_of_getElem? (i := 20) rfl))))), List.forall_mem_cons.mpr ⟨(List.mem_append_right _ (List.mem_append_right _ (List.mem_append_right _ (List.mem_append_left _ (List.mem_of_getElem? (i := 28) rfl))))), List.forall_mem_cons.mpr ⟨(List.mem_append_right _ (List.mem_append_right _ (List.mem_append_right _ (List.mem_append_left _ (List.mem_of_getElem? (i := 45) rfl))))), fun _ h => absurd h List.not_mem_nil⟩⟩⟩⟩⟩⟩⟩⟩⟩⟩⟩⟩⟩⟩⟩⟩⟩⟩⟩⟩⟩⟩⟩⟩⟩⟩⟩⟩⟩⟩⟩⟩⟩⟩⟩⟩⟩⟩⟩⟩⟩⟩⟩⟩⟩⟩⟩⟩⟩⟩⟩⟩⟩⟩⟩⟩⟩⟩⟩⟩⟩⟩⟩⟩⟩⟩⟩
theorem xD_in : ∀ y ∈ xD, Cond.declares y ∈ tables_1_1 ++ (tables_1_2 ++ (tables_1_3 ++ (tables_1_4 ++ (tables_1_5 ++ tables_1_6)))) := List.forall_mem_cons.mpr ⟨(List.mem_append_right _ (List.mem_append_right _ (List.mem_append_right _ (List.mem_append_left _ (List.mem_of_getElem? (i := 76) rfl))))), List.forall_mem_cons.mpr ⟨(List.mem_append_right _ (List.mem_append_right _ (List.mem_append_right _ (List.mem_append_left _ (List.mem_of_getElem? (i := 78) rfl))))), List.forall_mem_cons.mpr ⟨(List.mem_append_right _ (List.mem_append_right _ (List.mem_append_right _ (List.mem_append_left _ (List.mem_of_getElem? (i := 80) rfl))))), fun _ h => absurd h List.not_mem_nil⟩⟩⟩
theorem lw_in {w : Cond} (h : w ∈ tables_1_1 ++ (tables_1_2 ++ (tables_1_3 ++ (tables_1_4 ++ (tables_1_5 ++ tables_1_6))))) : w ∈ lw_tbl := List.mem_append_right _ h
/-- what the start gives -/
theorem start_facts {s : State} {b L : Nat} {xs : Nat → Int32} (hts : ∀ w ∈ lw_tbl, w.before #[Value.ref b] s = true) (hgv : (Jvm.Cond.and given_1 narrow_1).before #[Value.ref b] s = true) :
    ∃ (D : va_G) (cI sa : Nat), va_K D vwCl [(cI, .int)] s ∧ Nst s ∧ TX sa (fun q => s.heap.size ≤ q) s := by
  have hW : ∀ w ∈ Wall, w.before #[Value.ref b] s = true := fun w h => hts w (List.mem_filter.mp h).1
  obtain ⟨k0, i0, hK0⟩ := u_known (C := RX0) (T := TX0) (N := 7) (n := 7) hW wu_X0 (hW _ win_X0)
  obtain ⟨k1, i1, hK1⟩ := u_known (C := RX1) (T := TX1) (N := 3) (n := 3) hW wu_X1 (hW _ win_X1)
  obtain ⟨k2, i2, hK2⟩ := u_known (C := RX2) (T := TX2) (N := 5) (n := 5) hW wu_X2 (hW _ win_X2)
  obtain ⟨k3, i3, hK3⟩ := u_known (C := RX3) (T := TX3) (N := 13) (n := 13) hW wu_X3 (hW _ win_X3)
  obtain ⟨k4, i4, hK4⟩ := u_known (C := RX4) (T := TX4) (N := 11) (n := 11) hW wu_X4 (hW _ win_X4)
  obtain ⟨k5, i5, hK5⟩ := u_known (C := RX5) (T := TX5) (N := 4) (n := 4) hW wu_X5 (hW _ win_X5)
  obtain ⟨k6, i6, hK6⟩ := u_known (C := RX6) (T := TX6) (N := 11) (n := 11) hW wu_X6 (hW _ win_X6)
  obtain ⟨k7, i7, hK7⟩ := u_known (C := RX7) (T := TX7) (N := 7) (n := 7) hW wu_X7 (hW _ win_X7)
  obtain ⟨k8, i8, hK8⟩ := u_known (C := RX8) (T := TX8) (N := 26) (n := 26) hW wu_X8 (hW _ win_X8)
  obtain ⟨cI, kA, comp, hf, hkA, hkind⟩ := Cond.arrayClass_spec (hW _ wa_I)
  have hflat := flat_of_before _ hgv
  have hU : (Cond.isRef (.static Bundle.tN "UNASSIGNED_STACK" Bundle.steD)).before #[Value.ref b] s = true := hflat _ (by decide +kernel)
  have hS : (Cond.isRef (.static Bundle.tN "SUPPRESSED_SENTINEL" Bundle.listD)).before #[Value.ref b] s = true := hflat _ (by decide +kernel)
  have hE : (Cond.exactly (.string "LoopReducer" 135) "java/lang/String").before #[Value.ref b] s = true := hflat _ (by decide +kernel)
  obtain ⟨sa, cB, cellB, kB, hsa, -⟩ := Cond.exactly_spec hE
  refine ⟨(fun k => if k = 0 then k0 else if k = 1 then k1 else if k = 2 then k2 else if k = 3 then k3 else if k = 4 then k4 else if k = 5 then k5 else if k = 6 then k6 else if k = 7 then k7 else k8, fun k => if k = 0 then i0 else if k = 1 then i1 else if k = 2 then i2 else if k = 3 then i3 else if k = 4 then i4 else if k = 5 then i5 else if k = 6 then i6 else if k = 7 then i7 else i8), cI, sa, ⟨?_, ?_⟩, ⟨fun q hq => va_Nw.of rfl (hts _ (lw_in (nsF_in q hq))), fun q hq => va_Nw.of rfl (hts _ (lw_in (nsM_in q hq)))⟩, fun y hy => va_Nw.of rfl (hts _ (lw_in (xD_in y hy))), va_Nw.of rfl (hts _ (lw_in (List.mem_append_right _ (List.mem_append_right _ (List.mem_append_right _ (List.mem_append_left _ (List.mem_of_getElem? (i := 74) rfl))))))), ?_, vx_Zqof (hts _ (lw_in (List.mem_append_right _ (List.mem_append_right _ (List.mem_append_right _ (List.mem_append_left _ (List.mem_of_getElem? (i := 99) rfl))))))) (hts _ (lw_in (List.mem_append_left _ (List.mem_of_getElem? (i := 11) rfl)))) hU (fun a h => Nat.not_le.mpr h), vx_Zqof (hts _ (lw_in (List.mem_append_right _ (List.mem_append_right _ (List.mem_append_right _ (List.mem_append_left _ (List.mem_of_getElem? (i := 101) rfl))))))) (hts _ (lw_in (List.mem_append_left _ (List.mem_of_getElem? (i := 11) rfl)))) hS (fun a h => Nat.not_le.mpr h)⟩
  · intro k q hq
    match k, hq with
    | 0, hq => cases hq; exact hK0
    | 1, hq => cases hq; exact hK1
    | 2, hq => cases hq; exact hK2
    | 3, hq => cases hq; exact hK3
    | 4, hq => cases hq; exact hK4
    | 5, hq => cases hq; exact hK5
    | 6, hq => cases hq; exact hK6
    | 7, hq => cases hq; exact hK7
    | 8, hq => cases hq; exact hK8
    | k + 9, hq => simp [vwCl] at hq
  · intro k q hq
    match k, hq with
    | 0, hq => cases hq; exact ⟨fun n z => ⟨fun k h => (by cases h), kA, hkA, comp, hkind⟩, hf⟩
    | k + 1, hq => simp at hq
  · exact vk_R.of (A := #[Value.ref b]) (hts _ (lw_in (List.mem_append_right _ (List.mem_append_right _ (List.mem_append_right _ (List.mem_append_left _ (List.mem_of_getElem? (i := 111) rfl))))))) hsa
