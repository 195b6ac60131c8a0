/-! the base after next, test, show, pop -/
theorem BX_next {w n : Nat} {σ : Mem} (h : BX w n σ) {i j : Nat} (hi : i < n) (hj : j < n) (h5 : σ 8 i = 5) : BX w n (nextX σ i (nI j)) := by
  obtain ⟨a1, a2, a3, a4, a5, a6, a7, a8, a9, a10⟩ := h
  have f3 : ∀ k, k ≠ 11 → nextX σ i (nI j) 3 k = σ 3 k := fun k hk => by unfold nextX; rw [up2_col _ _ _ hk, up2_row _ _ _ (by decide)]
  have f8 : nextX σ i (nI j) 8 = σ 8 := by unfold nextX; rw [up2_row _ _ _ (by decide), up2_row _ _ _ (by decide)]
  have f9 : nextX σ i (nI j) 9 = σ 9 := by unfold nextX; rw [up2_row _ _ _ (by decide), up2_row _ _ _ (by decide)]
  have f10 : ∀ k, nextX σ i (nI j) 10 k = if k = i then nI j else σ 10 k := fun k => by unfold nextX; rw [up2_row _ _ _ (by decide), up2_at]
  refine ⟨a1, a2, by rw [f3 4 (by decide)]; exact a3, by rw [f3 0 (by decide)]; exact a4, ?_, by rw [f3 5 (by decide), f8]; exact a6, by rw [f8]; exact a7, by rw [f3 6 (by decide), f8]; exact a8, by rw [f3 7 (by decide)]; exact a9, by rw [f3 8 (by decide), f3 9 (by decide), f3 10 (by decide)]; exact a10⟩
  intro k hk
  rw [f8, f9, f10]
  by_cases ck : k = i
  · subst ck
    rw [if_pos rfl]
    rcases a5 k hk with q | q | ⟨q, -⟩ | ⟨q, a, b, q1, q2, q3, q4, q5⟩
    · exact absurd (h5.symm.trans q.1) (by decide)
    · exact absurd (h5.symm.trans q.1) (by decide)
    · rw [h5] at q; rcases q with q | q | q <;> exact absurd q (by decide)
    · exact Or.inr (Or.inr (Or.inr ⟨q, a, j, q1, hj, q3, rfl, q5⟩))
  · rw [if_neg ck]
    exact a5 k hk
theorem EQ_next {w n : Nat} {σX σM : Mem} (h : EQ w n σX σM) (i : Nat) (b : Int32) : EQ w n (nextX σX i b) (nextM σM i b) := by
  obtain ⟨a1, a2, a3, a4, a5, a6, a7⟩ := h
  unfold nextX nextM
  refine ⟨by rw [up2_col _ _ _ (by decide), up2_row _ _ _ (by decide)]; exact a1, by rw [up2_col _ _ _ (by decide), up2_row _ _ _ (by decide)]; exact a2, ?_, ?_⟩
  · intro k hk
    rw [up2_row _ _ _ (show (2 : Nat) ≠ 0 by decide), up2_row _ _ _ (show (2 : Nat) ≠ 4 by decide), up2_row _ _ _ (show (3 : Nat) ≠ 0 by decide), up2_row _ _ _ (show (3 : Nat) ≠ 4 by decide), up2_row _ _ _ (show (4 : Nat) ≠ 0 by decide), up2_row _ _ _ (show (8 : Nat) ≠ 3 by decide), up2_row _ _ _ (show (8 : Nat) ≠ 10 by decide), up2_row _ _ _ (show (9 : Nat) ≠ 3 by decide), up2_row _ _ _ (show (9 : Nat) ≠ 10 by decide), up2_row _ _ _ (show (10 : Nat) ≠ 3 by decide), up2_at, up2_at]
    refine ⟨(a3 k hk).1, (a3 k hk).2.1, ?_⟩
    rw [(a3 k hk).2.2]
  · have z : ∀ k, k ≠ 11 → up2 (up2 σM 4 i b) 0 11 0 0 k = σM 0 k := fun k hk => by rw [up2_col _ _ _ hk, up2_row _ _ _ (by decide)]
    have y : ∀ k, k ≠ 11 → up2 (up2 σX 10 i b) 3 11 (σX 3 11 + 1) 3 k = σX 3 k := fun k hk => by rw [up2_col _ _ _ hk, up2_row _ _ _ (by decide)]
    rw [z 7 (by decide), z 8 (by decide), z 9 (by decide), z 10 (by decide), y 7 (by decide), y 8 (by decide), y 9 (by decide), y 10 (by decide)]
    exact ⟨a4, a5, a6, a7⟩
theorem BX_3 {w n : Nat} {σ τ : Mem} (h : BX w n σ) (f : FR [3] σ τ) (e4 : τ 3 4 = σ 3 4) (e0 : τ 3 0 = σ 3 0) (e5 : τ 3 5 = σ 3 5) (e6 : τ 3 6 = σ 3 6) (h7 : ∀ i, n ≤ i → bt (τ 3 7) i = false) (h8 : (τ 3 8 = -1 ∧ τ 3 9 = -1 ∧ τ 3 10 = -1) ∨ ((τ 3 8 = 0 ∨ τ 3 8 = 1) ∧ ∃ a b, a < n ∧ b < n ∧ τ 3 9 = nI a ∧ τ 3 10 = nI b)) : BX w n τ := by
  obtain ⟨a1, a2, a3, a4, a5, a6, a7, a8, a9, a10⟩ := h
  have f8 := f 8 (by decide)
  have f9 := f 9 (by decide)
  have f10 := f 10 (by decide)
  refine ⟨a1, a2, e4.trans a3, e0.trans a4, ?_, ?_, ?_, ?_, h7, h8⟩
  · rw [f8, f9, f10]; exact a5
  · rw [e5, f8]; exact a6
  · rw [f8]; exact a7
  · rw [e6, f8]; exact a8
theorem testX_at (σ : Mem) (k a b : Int32) (j : Nat) : testX σ k a b 3 j = if j = 12 then σ 3 12 + 1 else if j = 10 then b else if j = 9 then a else if j = 8 then k else σ 3 j := by
  unfold testX
  rw [up2_at, up2_at, up2_at, up2_at]
theorem testM_at (σ : Mem) (k a b : Int32) (j : Nat) : testM σ k a b 0 j = if j = 10 then b else if j = 9 then a else if j = 8 then k else σ 0 j := by
  unfold testM
  rw [up2_at, up2_at, up2_at]
theorem FR_testX (σ : Mem) (k a b : Int32) : FR [3] σ (testX σ k a b) := FR_trans (FR_up2 _ (by decide) _ _) (FR_trans (FR_up2 _ (by decide) _ _) (FR_trans (FR_up2 _ (by decide) _ _) (FR_up2 _ (by decide) _ _)))
theorem FR_testM (σ : Mem) (k a b : Int32) : FR [0] σ (testM σ k a b) := FR_trans (FR_up2 _ (by decide) _ _) (FR_trans (FR_up2 _ (by decide) _ _) (FR_up2 _ (by decide) _ _))
theorem BX_test {w n : Nat} {σ : Mem} (h : BX w n σ) {k : Int32} (hk : k = 0 ∨ k = 1) {i j : Nat} (hi : i < n) (hj : j < n) : BX w n (testX σ k (nI i) (nI j)) := by
  refine BX_3 h (FR_testX _ _ _ _) (testX_at _ _ _ _ 4) (testX_at _ _ _ _ 0) (testX_at _ _ _ _ 5) (testX_at _ _ _ _ 6) ?_ (Or.inr ⟨?_, i, j, hi, hj, testX_at _ _ _ _ 9, testX_at _ _ _ _ 10⟩)
  · rw [show testX σ k (nI i) (nI j) 3 7 = σ 3 7 from testX_at _ _ _ _ 7]
    exact h.2.2.2.2.2.2.2.2.1
  · rw [show testX σ k (nI i) (nI j) 3 8 = k from testX_at _ _ _ _ 8]
    exact hk
theorem EQ_3 {w n : Nat} {σX σM τX τM : Mem} (h : EQ w n σX σM) (fX : FR [3] σX τX) (fM : FR [0] σM τM) (e6 : τM 0 6 = σM 0 6) (e1 : τM 0 1 = σM 0 1) (h7 : τM 0 7 = τX 3 7) (h8 : τM 0 8 = τX 3 8) (h9 : τM 0 9 = τX 3 9) (h10 : τM 0 10 = τX 3 10) : EQ w n τX τM := by
  obtain ⟨a1, a2, a3, -⟩ := h
  refine ⟨e6.trans a1, e1.trans a2, ?_, h7, h8, h9, h10⟩
  rw [fX 8 (by decide), fX 9 (by decide), fX 10 (by decide), fM 2 (by decide), fM 3 (by decide), fM 4 (by decide)]
  exact a3
theorem EQ_test {w n : Nat} {σX σM : Mem} (h : EQ w n σX σM) (k a b : Int32) : EQ w n (testX σX k a b) (testM σM k a b) := by
  refine EQ_3 h (FR_testX _ _ _ _) (FR_testM _ _ _ _) (testM_at _ _ _ _ 6) (testM_at _ _ _ _ 1) ?_ ?_ ?_ ?_
  · rw [show testM σM k a b 0 7 = σM 0 7 from testM_at _ _ _ _ 7, show testX σX k a b 3 7 = σX 3 7 from testX_at _ _ _ _ 7]; exact h.2.2.2.1
  · rw [show testM σM k a b 0 8 = k from testM_at _ _ _ _ 8, show testX σX k a b 3 8 = k from testX_at _ _ _ _ 8]
  · rw [show testM σM k a b 0 9 = a from testM_at _ _ _ _ 9, show testX σX k a b 3 9 = a from testX_at _ _ _ _ 9]
  · rw [show testM σM k a b 0 10 = b from testM_at _ _ _ _ 10, show testX σX k a b 3 10 = b from testX_at _ _ _ _ 10]
theorem bt_ge (x : Int32) {i : Nat} (h : 32 ≤ i) : bt x i = false := by unfold bt; exact BitVec.getLsbD_of_ge _ _ h
theorem b_xor' (x y : Int32) (i : Nat) : bt (x ^^^ y) i = (bt x i ^^ bt y i) := by unfold bt; rw [Int32.toBitVec_xor, BitVec.getLsbD_xor]
theorem showX_at (σ : Mem) (i j : Nat) : showX σ i 3 j = if j = 12 then σ 3 12 + 1 else if j = 7 then σ 3 7 ^^^ bitI i else σ 3 j := by
  unfold showX
  rw [up2_at, up2_at]
theorem FR_showX (σ : Mem) (i : Nat) : FR [3] σ (showX σ i) := FR_trans (FR_up2 _ (by decide) _ _) (FR_up2 _ (by decide) _ _)
theorem BX_show {w n : Nat} {σ : Mem} (h : BX w n σ) {i : Nat} (hi : i < n) : BX w n (showX σ i) := by
  have h30 := h.2.1
  refine BX_3 h (FR_showX _ _) (showX_at _ _ 4) (showX_at _ _ 0) (showX_at _ _ 5) (showX_at _ _ 6) ?_ ?_
  · intro j hj
    rw [show showX σ i 3 7 = σ 3 7 ^^^ bitI i from showX_at _ _ 7]
    rcases Nat.lt_or_ge j 32 with c | c
    · rw [b_xor', h.2.2.2.2.2.2.2.2.1 j hj, bt_bitI (by omega) c, decide_eq_false (by omega)]; rfl
    · exact bt_ge _ c
  · rw [show showX σ i 3 8 = σ 3 8 from showX_at _ _ 8, show showX σ i 3 9 = σ 3 9 from showX_at _ _ 9, show showX σ i 3 10 = σ 3 10 from showX_at _ _ 10]
    exact h.2.2.2.2.2.2.2.2.2
theorem EQ_show {w n : Nat} {σX σM : Mem} (h : EQ w n σX σM) (i : Nat) : EQ w n (showX σX i) (showM σM i) := by
  unfold showM
  refine EQ_3 h (FR_showX _ _) (FR_up2 _ (by decide) _ _) (up2_col _ _ _ (by decide)) (up2_col _ _ _ (by decide)) ?_ ?_ ?_ ?_
  · rw [up2_eq, show showX σX i 3 7 = σX 3 7 ^^^ bitI i from showX_at _ _ 7, h.2.2.2.1]
  · rw [up2_col _ _ _ (by decide), show showX σX i 3 8 = σX 3 8 from showX_at _ _ 8]; exact h.2.2.2.2.1
  · rw [up2_col _ _ _ (by decide), show showX σX i 3 9 = σX 3 9 from showX_at _ _ 9]; exact h.2.2.2.2.2.1
  · rw [up2_col _ _ _ (by decide), show showX σX i 3 10 = σX 3 10 from showX_at _ _ 10]; exact h.2.2.2.2.2.2
theorem popX_at (σ : Mem) (n j : Nat) : popX σ n 3 j = if j = 4 then nI (n - 1) else if j = 11 then σ 3 11 + 1 else if j = 6 then σ 3 6 - (if σ 8 (n - 1) = 5 then 1 else 0) else if j = 5 then σ 3 5 - (if σ 8 (n - 1) = 1 then 1 else 0) else σ 3 j := by
  unfold popX
  rw [up2_at, up2_at, up2_at, up2_at]
theorem FR_popX (σ : Mem) (n : Nat) : FR [3] σ (popX σ n) := FR_trans (FR_up2 _ (by decide) _ _) (FR_trans (FR_up2 _ (by decide) _ _) (FR_trans (FR_up2 _ (by decide) _ _) (FR_up2 _ (by decide) _ _)))
theorem ct_pop (T : Nat → Int32) (s : Int32) {n : Nat} (h : 0 < n) : nI (fb_ct (isT T s) n) - (if T (n - 1) = s then 1 else 0) = nI (fb_ct (isT T s) (n - 1)) ∧ fb_ct (isT T s) (n - 1) ≤ fb_ct (isT T s) n := by
  obtain ⟨m, rfl⟩ : ∃ m, n = m + 1 := ⟨n - 1, by omega⟩
  rw [Nat.add_sub_cancel, fb_ct_succ]
  by_cases c : T m = s
  · rw [if_pos c, if_pos (show isT T s m = true by simp [isT, c])]
    exact ⟨nI_m1 (by omega), by omega⟩
  · rw [if_neg c, if_neg (show ¬ isT T s m = true by simp [isT, c])]
    exact ⟨by rw [Int32.sub_zero]; rfl, by omega⟩
theorem BX_pop {w n : Nat} {σ : Mem} (h : BX w n σ) (h0 : 0 < n) (ha : ¬ askp n σ) (hu : ¬ usd n σ) : BX w (n - 1) (popX σ n) := by
  obtain ⟨a1, a2, a3, a4, a5, a6, a7, a8, a9, a10⟩ := h
  have f := FR_popX σ n
  have f8 := f 8 (by decide)
  have f9 := f 9 (by decide)
  have f10 := f 10 (by decide)
  have c1 := ct_pop (σ 8) 1 h0
  have c5 := ct_pop (σ 8) 5 h0
  refine ⟨a1, by omega, popX_at _ _ 4, (popX_at _ _ 0).trans a4, ?_, ?_, ?_, ?_, ?_, ?_⟩
  · rw [f8, f9, f10]
    intro i hi
    rcases a5 i (by omega) with q | q | q | ⟨q, a, b, q1, q2, q3, q4, q5⟩
    · exact Or.inl q
    · exact Or.inr (Or.inl q)
    · exact Or.inr (Or.inr (Or.inl q))
    · refine Or.inr (Or.inr (Or.inr ⟨q, a, b, q1, ?_, q3, q4, q5⟩))
      by_cases cb : b = n - 1
      · exact absurd ⟨i, by omega, by omega, by rw [q]; decide, Or.inr (by rw [q4, cb])⟩ hu
      · omega
  · rw [show popX σ n 3 5 = σ 3 5 - (if σ 8 (n - 1) = 1 then 1 else 0) from popX_at _ _ 5, f8, a6]
    exact c1.1
  · rw [f8]; omega
  · rw [show popX σ n 3 6 = σ 3 6 - (if σ 8 (n - 1) = 5 then 1 else 0) from popX_at _ _ 6, f8, a8]
    exact c5.1
  · intro i hi
    rw [show popX σ n 3 7 = σ 3 7 from popX_at _ _ 7]
    by_cases ci : i = n - 1
    · rw [ci]
      exact Bool.eq_false_iff.mpr (fun q => ha (Or.inl q))
    · exact a9 i (by omega)
  · rw [show popX σ n 3 8 = σ 3 8 from popX_at _ _ 8, show popX σ n 3 9 = σ 3 9 from popX_at _ _ 9, show popX σ n 3 10 = σ 3 10 from popX_at _ _ 10]
    rcases a10 with q | ⟨q, x, y, x1, y1, x2, y2⟩
    · exact Or.inl q
    · have qn : σ 3 8 ≠ -1 := by rcases q with q | q <;> rw [q] <;> decide
      refine Or.inr ⟨q, x, y, ?_, ?_, x2, y2⟩
      · by_cases c : x = n - 1
        · exact absurd (Or.inr ⟨qn, Or.inl (by rw [x2, c])⟩) ha
        · omega
      · by_cases c : y = n - 1
        · exact absurd (Or.inr ⟨qn, Or.inr (by rw [y2, c])⟩) ha
        · omega
theorem EQ_pop {w n : Nat} {σX σM : Mem} (h : EQ w n σX σM) (h0 : 0 < n) : EQ w (n - 1) (popX σX n) (popM σM n) := by
  obtain ⟨a1, a2, a3, a4, a5, a6, a7⟩ := h
  have f := FR_popX σX n
  unfold popM
  have z : ∀ k, k ≠ 11 → k ≠ 6 → up2 (up2 σM 0 6 (nI (n - 1))) 0 11 0 0 k = σM 0 k := fun k hk h6 => by rw [up2_col _ _ _ hk, up2_col _ _ _ h6]
  have y : ∀ k, k ≠ 0 → up2 (up2 σM 0 6 (nI (n - 1))) 0 11 0 k = σM k := fun k hk => by rw [up2_row _ _ _ hk, up2_row _ _ _ hk]
  refine ⟨by rw [up2_col _ _ _ (by decide), up2_eq], by rw [z 1 (by decide) (by decide)]; exact a2, ?_, ?_, ?_, ?_, ?_⟩
  · intro i hi
    rw [y 2 (by decide), y 3 (by decide), y 4 (by decide), f 8 (by decide), f 9 (by decide), f 10 (by decide)]
    exact a3 i (by omega)
  · rw [z 7 (by decide) (by decide), show popX σX n 3 7 = σX 3 7 from popX_at _ _ 7]; exact a4
  · rw [z 8 (by decide) (by decide), show popX σX n 3 8 = σX 3 8 from popX_at _ _ 8]; exact a5
  · rw [z 9 (by decide) (by decide), show popX σX n 3 9 = σX 3 9 from popX_at _ _ 9]; exact a6
  · rw [z 10 (by decide) (by decide), show popX σX n 3 10 = σX 3 10 from popX_at _ _ 10]; exact a7
