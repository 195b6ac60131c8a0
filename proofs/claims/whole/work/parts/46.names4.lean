theorem bt_1 : ∀ j, j < 32 → bt 1 j = decide (j = 0) := by decide +kernel
theorem and_1 (x : Int32) : x &&& 1 = if bt x 0 = true then 1 else 0 := by
  by_cases h : bt x 0 = true
  · rw [if_pos h]
    refine b_ext (fun j hj => ?_)
    rw [b_and, bt_1 j hj]
    by_cases e : j = 0
    · subst e; simp [h]
    · simp [e]
  · rw [if_neg h]
    refine b_ext (fun j hj => ?_)
    rw [b_and, bt_1 j hj, b_0]
    by_cases e : j = 0
    · subst e; simp [h]
    · simp [e]
theorem isInE (s : Int32) {i : Nat} (hi : i < 32) (σ : Mem) : fX7_isIn s (nI i) σ = some (if bt s i = true then 1 else 0, σ) := by
  have h : bt (iushrV s (nI i)) 0 = bt s i := by unfold iushrV; rw [b_ushr i hi, Nat.add_zero]
  by_cases c : bt s i = true
  · simp [fX7_isIn, fX7_isIn_L13, and_1, h, c, chk]
  · simp [fX7_isIn, fX7_isIn_L13, and_1, h, c, chk]
theorem hasE (s : Int32) {i : Nat} (hi : i < 32) (σ : Mem) : fX8_has s (nI i) σ = some (if bt s i = true then 1 else 0, σ) := by
  have h : bt (s >>> (nI i &&& 31)) 0 = bt s i := by rw [b_sshr i hi s (by decide), Nat.add_zero, if_pos hi]
  by_cases c : bt s i = true
  · simp [fX8_has, fX8_has_L14, and_1, h, c, chk]
  · simp [fX8_has, fX8_has_L14, and_1, h, c, chk]
def bitI (i : Nat) : Int32 := 1 <<< (nI i &&& 31)
theorem bt_bitI {i : Nat} (hi : i < 32) {j : Nat} (hj : j < 32) : bt (bitI i) j = decide (j = i) := by
  unfold bitI
  rw [b_shl i hi 1 hj]
  by_cases h : i ≤ j
  · rw [bt_1 _ (by omega)]
    by_cases e : j = i
    · subst e; simp
    · have h2 : ¬ j - i = 0 := by omega
      simp [e, h2]
  · have e : ¬ j = i := by omega
    simp [h, e]
def showX (σ : Mem) (i : Nat) : Mem := up2 (up2 σ 3 7 (σ 3 7 ^^^ bitI i)) 3 12 (σ 3 12 + 1)
def showM (σ : Mem) (i : Nat) : Mem := up2 σ 0 7 (σ 0 7 ^^^ bitI i)
theorem showX_def (σ : Mem) (i : Nat) : up2 (up2 σ 3 7 (σ 3 7 ^^^ (1 <<< (nI i &&& 31)))) 3 12 (up2 σ 3 7 (σ 3 7 ^^^ (1 <<< (nI i &&& 31))) 3 12 + 1) = showX σ i := by simp [showX, up2, bitI]
theorem P_show {w n : Nat} {σX σM : Mem} (hB : BX w n σX) (hE : EQ w n σX σM) (a b : Int32) : ∃ (r : Int32) (τX τM : Mem), fX7_show a b σX = some (r, τX) ∧ fX8_show a b σM = some (r, τM) ∧ ((τX = σX ∧ τM = th σM) ∨ ∃ i, i < n ∧ τX = showX σX i ∧ τM = showM (th σM) i) := by
  have hn := hB.2.2.1
  have h30 := hB.2.1
  have hE2 := EQ_th hE
  have e7 : th σM 0 7 = σX 3 7 := hE2.2.2.2.1
  rcases nm_or n h30 a with ⟨i, hi, rfl⟩ | ⟨-, ha⟩
  · have h1 : fX7_isIn (σX 3 7) (nI i) σX = some (if bt (σX 3 7) i = true then 1 else 0, σX) := isInE _ (by omega) _
    have h2 : fX8_has (th σM 0 7) (nI i) (th σM) = some (if bt (σX 3 7) i = true then 1 else 0, th σM) := by rw [hasE _ (by omega), e7]
    by_cases c : (if bt (σX 3 7) i = true then 1 else 0 : Int32) = b
    · refine ⟨0, σX, th σM, ?_, ?_, Or.inl ⟨rfl, rfl⟩⟩
      · unfold fX7_show fX7_show_L26
        rw [has1 hn h30 hi, Option.bind_some]
        dsimp only
        rw [if_neg (by decide), h1, Option.bind_some]
        dsimp only
        rw [if_pos c]
      · unfold fX8_show fX8_show_L25
        rw [th_def, isn1 hE2.1 h30 hi, Option.bind_some]
        dsimp only
        rw [if_neg (by decide), h2, Option.bind_some]
        dsimp only
        rw [if_pos c]
    · refine ⟨1, showX σX i, showM (th σM) i, ?_, ?_, Or.inr ⟨i, hi, rfl, rfl⟩⟩
      · unfold fX7_show
        rw [has1 hn h30 hi, Option.bind_some]
        dsimp only
        rw [if_neg (by decide), h1, Option.bind_some]
        dsimp only
        rw [if_neg c, showX_def]
      · unfold fX8_show
        rw [th_def, isn1 hE2.1 h30 hi, Option.bind_some]
        dsimp only
        rw [if_neg (by decide), h2, Option.bind_some]
        dsimp only
        rw [if_neg c]
        rfl
  · refine ⟨0, σX, th σM, ?_, ?_, Or.inl ⟨rfl, rfl⟩⟩
    · simp [fX7_show, fX7_show_L26, has0 hn ha]
    · simp [fX8_show, fX8_show_L25, th_def, isn0 hE2.1 h30 ha]
theorem P_count {w n : Nat} {σX σM : Mem} (hB : BX w n σX) (hE : EQ w n σX σM) (a : Int32) : ∃ r : Int32, fX7_count a σX = some (r, σX) ∧ fX8_count a σM = some (r, th σM) := by
  obtain ⟨hwd, h30, e4, e0, hnm, e5, h3, e6, hsh, hte⟩ := id hB
  have hE2 := EQ_th hE
  obtain ⟨q6, q1, harr, q7, q8, q9, q10⟩ := id hE2
  have hm1 : fX8_many 1 (th σM) = some (σX 3 5, th σM) := by rw [M_many q6 h30, ct_EQ hE2, e5]
  have hm5 : fX8_many 5 (th σM) = some (σX 3 6, th σM) := by rw [M_many q6 h30, ct_EQ hE2, e6]
  have hM : nI (2 ^ w - 1) + 1 = nI (2 ^ w) := by rw [nI_1, Nat.sub_add_cancel (pw_pos w)]
  unfold fX7_count fX8_count
  rw [th_def]
  by_cases c0 : a = 0
  · exact ⟨nI n, by rw [if_pos c0, e4], by rw [if_pos c0, q6]⟩
  rw [if_neg c0, if_neg c0]
  by_cases c1 : a = 1
  · exact ⟨σX 3 5, by rw [if_pos c1], by rw [if_pos c1, hm1]; rfl⟩
  rw [if_neg c1, if_neg c1]
  by_cases c2 : a = 2
  · exact ⟨σX 3 7, by rw [if_pos c2], by rw [if_pos c2, q7]⟩
  rw [if_neg c2, if_neg c2]
  by_cases c3 : a = 3
  · exact ⟨σX 3 6, by rw [if_pos c3], by rw [if_pos c3, hm5]; rfl⟩
  rw [if_neg c3, if_neg c3]
  by_cases c4 : a = 4
  · exact ⟨σX 3 8, by rw [if_pos c4], by rw [if_pos c4, q8]⟩
  rw [if_neg c4, if_neg c4]
  by_cases c5 : a = 5
  · exact ⟨σX 3 9, by rw [if_pos c5], by rw [if_pos c5, q9]⟩
  rw [if_neg c5, if_neg c5]
  by_cases c6 : a = 6
  · exact ⟨σX 3 10, by rw [if_pos c6], by rw [if_pos c6, q10]⟩
  rw [if_neg c6, if_neg c6]
  by_cases c7 : a = 7
  · exact ⟨nI (2 ^ w), by rw [if_pos c7, e0, hM], by rw [if_pos c7, q1]⟩
  rw [if_neg c7, if_neg c7]
  exact ⟨-1, rfl, rfl⟩
