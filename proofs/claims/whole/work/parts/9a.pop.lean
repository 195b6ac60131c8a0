/-! pop, of -/
def usd (n : Nat) (σ : Mem) : Prop := ∃ j, j < n ∧ j ≠ n - 1 ∧ ¬ (σ 8 j = 0 ∨ σ 8 j = 1) ∧ (σ 9 j = nI (n - 1) ∨ σ 10 j = nI (n - 1))
theorem X_isUsed {w n : Nat} {σ : Mem} (hB : BX w n σ) (h0 : 0 < n) : ∃ r : Int32, fX3_isUsed (nI (n - 1)) σ = some (r, σ) ∧ ((r = 1 ∧ usd n σ) ∨ (r = 0 ∧ ¬ usd n σ)) := by
  have h30 := hB.2.1
  have h4 := hB.2.2.1
  have key : ok (loop (fun a => fX3_isUsed_B2 (nI (n - 1)) a.1 a.2) (0, σ)) (fun b => (b = .inl σ ∧ ¬ usd n σ) ∨ (b = .inr (1, σ) ∧ usd n σ)) := by
    refine ok_for' (enc := fun i (_ : Unit) => (nI i, σ)) n (fun i _ => ∀ j, j < i → j ≠ n - 1 → ¬ (σ 8 j = 0 ∨ σ 8 j = 1) → ¬ (σ 9 j = nI (n - 1) ∨ σ 10 j = nI (n - 1))) (i0 := 0) (s0 := ()) (Nat.zero_le _) (fun j hj => by omega) ?_ ?_
    · intro i _ hi q
      dsimp only
      unfold fX3_isUsed_B2 fX3_isUsed_L26 fX3_usesIt fX3_usesIt_L19 fX3_usesIt_L41 fX3_usesIt_L46
      rw [h4, if_neg (nI_ge hi (by omega)), nI_1]
      have stay : (i ≠ n - 1 → ¬ (σ 8 i = 0 ∨ σ 8 i = 1) → ¬ (σ 9 i = nI (n - 1) ∨ σ 10 i = nI (n - 1))) → ∀ j, j < i + 1 → j ≠ n - 1 → ¬ (σ 8 j = 0 ∨ σ 8 j = 1) → ¬ (σ 9 j = nI (n - 1) ∨ σ 10 j = nI (n - 1)) := by
        intro h j hj
        by_cases cj : j = i
        · rw [cj]; exact h
        · exact q j (by omega)
      by_cases ci : i = n - 1
      · refine ok_pos (by rw [ci]) ?_
        exact ok_some ⟨(), rfl, stay (fun h => absurd ci h)⟩
      · refine ok_neg (fun e => ci ((nI_eq (by omega) (by omega)).mp e)) ?_
        simp (disch := omega) only [chk_in, nI_clamp]
        by_cases c0 : σ 8 i = 0
        · rw [if_pos c0, Option.bind_some]
          exact ok_some ⟨(), rfl, stay (fun _ h => absurd (Or.inl c0) h)⟩
        rw [if_neg c0]
        by_cases c1 : σ 8 i = 1
        · rw [if_pos c1, Option.bind_some]
          exact ok_some ⟨(), rfl, stay (fun _ h => absurd (Or.inr c1) h)⟩
        rw [if_neg c1]
        have ty : ¬ (σ 8 i = 0 ∨ σ 8 i = 1) := fun h => by rcases h with h | h; exact c0 h; exact c1 h
        by_cases c9 : σ 9 i = nI (n - 1)
        · rw [if_pos c9]
          exact ok_some (Or.inr ⟨rfl, i, hi, ci, ty, Or.inl c9⟩)
        rw [if_neg c9]
        by_cases c10 : σ 10 i = nI (n - 1)
        · rw [if_pos c10]
          exact ok_some (Or.inr ⟨rfl, i, hi, ci, ty, Or.inr c10⟩)
        rw [if_neg c10]
        exact ok_some ⟨(), rfl, stay (fun _ _ h => by rcases h with h | h; exact c9 h; exact c10 h)⟩
    · intro _ q
      dsimp only
      unfold fX3_isUsed_B2
      rw [h4, if_pos (Int32.le_refl _)]
      exact ok_some (Or.inl ⟨rfl, fun ⟨j, h1, h2, h3, h4⟩ => q j h1 h2 h3 h4⟩)
  obtain ⟨b, hb, h⟩ := key
  unfold fX3_isUsed fX3_isUsed_L32
  rw [hb, Option.bind_some]
  rcases h with ⟨rfl, h⟩ | ⟨rfl, h⟩
  · exact ⟨0, rfl, Or.inr ⟨rfl, h⟩⟩
  · exact ⟨1, rfl, Or.inl ⟨rfl, h⟩⟩
theorem M_isUsedL {w n : Nat} {σX σM : Mem} (hB : BX w n σX) (hE : EQ w n σX σM) (h0 : 0 < n) : ∃ r : Int32, fX8_isUsed_L37 (nI (n - 1)) σM = some (r, σM) ∧ ((r = 1 ∧ usd n σX) ∨ (r = 0 ∧ ¬ usd n σX)) := by
  have h30 := hB.2.1
  have h4 := hE.1
  have key : ok (loop (fun a => fX8_isUsed_B39 (nI (n - 1)) a.1 a.2) (0, σM)) (fun b => (b = .inl σM ∧ ¬ usd n σX) ∨ (b = .inr (1, σM) ∧ usd n σX)) := by
    refine ok_for' (enc := fun i (_ : Unit) => (nI i, σM)) n (fun i _ => ∀ j, j < i → j ≠ n - 1 → ¬ (σX 8 j = 0 ∨ σX 8 j = 1) → ¬ (σX 9 j = nI (n - 1) ∨ σX 10 j = nI (n - 1))) (i0 := 0) (s0 := ()) (Nat.zero_le _) (fun j hj => by omega) ?_ ?_
    · intro i _ hi q
      dsimp only
      unfold fX8_isUsed_B39 fX8_isUsed_L84 fX8_isUsed_L82
      obtain ⟨e2, e3, e4⟩ := hE.2.2.1 i hi
      rw [h4, if_neg (nI_ge hi (by omega)), nI_1]
      have stay : (i ≠ n - 1 → ¬ (σX 8 i = 0 ∨ σX 8 i = 1) → ¬ (σX 9 i = nI (n - 1) ∨ σX 10 i = nI (n - 1))) → ∀ j, j < i + 1 → j ≠ n - 1 → ¬ (σX 8 j = 0 ∨ σX 8 j = 1) → ¬ (σX 9 j = nI (n - 1) ∨ σX 10 j = nI (n - 1)) := by
        intro h j hj
        by_cases cj : j = i
        · rw [cj]; exact h
        · exact q j (by omega)
      by_cases ci : i = n - 1
      · refine ok_pos (by rw [ci]) ?_
        exact ok_some ⟨(), rfl, stay (fun h => absurd ci h)⟩
      · refine ok_neg (fun e => ci ((nI_eq (by omega) (by omega)).mp e)) ?_
        simp (disch := omega) only [chk_in, nI_clamp, e2, e3, e4]
        by_cases c01 : σX 8 i = 0 ∨ σX 8 i = 1
        · refine ok_pos (by rcases c01 with h | h <;> rw [h] <;> decide) ?_
          exact ok_some ⟨(), rfl, stay (fun _ h => absurd c01 h)⟩
        refine ok_neg (by
          rcases ty6 hB hi with h | h | h | h | h | h
          · exact absurd (Or.inl h) c01
          · exact absurd (Or.inr h) c01
          all_goals (rw [h]; decide)) ?_
        by_cases c9 : σX 9 i = nI (n - 1)
        · refine ok_pos c9 ?_
          exact ok_some (Or.inr ⟨rfl, i, hi, ci, c01, Or.inl c9⟩)
        refine ok_neg c9 ?_
        by_cases c10 : σX 10 i = nI (n - 1)
        · refine ok_pos c10 ?_
          exact ok_some (Or.inr ⟨rfl, i, hi, ci, c01, Or.inr c10⟩)
        refine ok_neg c10 ?_
        exact ok_some ⟨(), rfl, stay (fun _ _ h => by rcases h with h | h; exact c9 h; exact c10 h)⟩
    · intro _ q
      dsimp only
      unfold fX8_isUsed_B39
      rw [h4, if_pos (Int32.le_refl _)]
      exact ok_some (Or.inl ⟨rfl, fun ⟨j, h1, h2, h3, h4⟩ => q j h1 h2 h3 h4⟩)
  obtain ⟨b, hb, h⟩ := key
  unfold fX8_isUsed_L37 fX8_isUsed_L90
  rw [hb, Option.bind_some]
  rcases h with ⟨rfl, h⟩ | ⟨rfl, h⟩
  · exact ⟨0, rfl, Or.inr ⟨rfl, h⟩⟩
  · exact ⟨1, rfl, Or.inl ⟨rfl, h⟩⟩
def popX (σ : Mem) (n : Nat) : Mem := up2 (up2 (up2 (up2 σ 3 5 (σ 3 5 - (if σ 8 (n - 1) = 1 then 1 else 0))) 3 6 (σ 3 6 - (if σ 8 (n - 1) = 5 then 1 else 0))) 3 11 (σ 3 11 + 1)) 3 4 (nI (n - 1))
def popM (σ : Mem) (n : Nat) : Mem := up2 (up2 σ 0 6 (nI (n - 1))) 0 11 0
def askp (n : Nat) (σ : Mem) : Prop := bt (σ 3 7) (n - 1) = true ∨ (σ 3 8 ≠ -1 ∧ (σ 3 9 = nI (n - 1) ∨ σ 3 10 = nI (n - 1)))
theorem X_isAsked {w n : Nat} {σ : Mem} (hB : BX w n σ) (h0 : 0 < n) : ∃ r : Int32, fX3_isAsked (nI (n - 1)) σ = some (r, σ) ∧ ((r = 1 ∧ askp n σ) ∨ (r = 0 ∧ ¬ askp n σ)) := by
  have h30 := hB.2.1
  have e : bt (askd σ) (n - 1) = true ↔ askp n σ := by
    unfold askd askp
    rcases hB.2.2.2.2.2.2.2.2.2 with ⟨q, -, -⟩ | ⟨q, a, b, ha, hb, e9, e10⟩
    · rw [if_pos q]
      constructor
      · exact Or.inl
      · rintro (h | h)
        · exact h
        · exact absurd q h.1
    · have qn : σ 3 8 ≠ -1 := by rcases q with q | q <;> rw [q] <;> decide
      rw [if_neg qn, e9, e10]
      show bt (((σ 3 7) ||| bitI a) ||| bitI b) (n - 1) = true ↔ _
      rw [b_or, b_or, bt_bitI (by omega) (by omega), bt_bitI (by omega) (by omega), nI_eq (by omega) (by omega), nI_eq (by omega) (by omega)]
      simp only [Bool.or_eq_true, decide_eq_true_eq]
      constructor
      · rintro ((h | h) | h)
        · exact Or.inl h
        · exact Or.inr ⟨qn, Or.inl h.symm⟩
        · exact Or.inr ⟨qn, Or.inr h.symm⟩
      · rintro (h | ⟨-, h | h⟩)
        · exact Or.inl (Or.inl h)
        · exact Or.inl (Or.inr h.symm)
        · exact Or.inr h.symm
  unfold fX3_isAsked
  rw [X_asked, Option.bind_some]
  dsimp only
  rw [isInE _ (by omega), Option.bind_some]
  dsimp only
  by_cases c : bt (askd σ) (n - 1) = true
  · rw [if_pos c]
    exact ⟨1, rfl, Or.inl ⟨rfl, e.mp c⟩⟩
  · rw [if_neg c]
    exact ⟨0, rfl, Or.inr ⟨rfl, fun h => c (e.mpr h)⟩⟩
theorem M_isUsed {w n : Nat} {σX σM : Mem} (hB : BX w n σX) (hE : EQ w n σX σM) (h0 : 0 < n) : ∃ r : Int32, fX8_isUsed (nI (n - 1)) σM = some (r, σM) ∧ ((r = 1 ∧ (askp n σX ∨ usd n σX)) ∨ (r = 0 ∧ ¬ askp n σX ∧ ¬ usd n σX)) := by
  have h30 := hB.2.1
  obtain ⟨r, hr, hq⟩ := M_isUsedL hB hE h0
  have last : ¬ askp n σX → ∃ r : Int32, fX8_isUsed_L37 (nI (n - 1)) σM = some (r, σM) ∧ ((r = 1 ∧ (askp n σX ∨ usd n σX)) ∨ (r = 0 ∧ ¬ askp n σX ∧ ¬ usd n σX)) := by
    intro h
    refine ⟨r, hr, ?_⟩
    rcases hq with ⟨q1, q2⟩ | ⟨q1, q2⟩
    · exact Or.inl ⟨q1, Or.inr q2⟩
    · exact Or.inr ⟨q1, h, q2⟩
  obtain ⟨-, -, -, e7, e8, e9, e10⟩ := hE
  unfold fX8_isUsed fX8_isUsed_L35
  rw [hasE _ (by omega), Option.bind_some, e7]
  dsimp only
  by_cases cb : bt (σX 3 7) (n - 1) = true
  · rw [if_pos cb, if_neg (show ¬ (1 : Int32) = 0 by decide)]
    exact ⟨1, rfl, Or.inl ⟨rfl, Or.inl (Or.inl cb)⟩⟩
  rw [if_neg cb, if_pos (show (0 : Int32) = 0 from rfl)]
  by_cases c8 : σX 3 8 = -1
  · rw [if_pos (show σM 0 8 = -1 by rw [e8]; exact c8)]
    exact last (fun h => by rcases h with h | h; exact cb h; exact h.1 c8)
  rw [if_neg (show ¬ σM 0 8 = -1 by rw [e8]; exact c8)]
  by_cases c9 : σX 3 9 = nI (n - 1)
  · rw [if_pos (show σM 0 9 = _ by rw [e9]; exact c9)]
    exact ⟨1, rfl, Or.inl ⟨rfl, Or.inl (Or.inr ⟨c8, Or.inl c9⟩)⟩⟩
  rw [if_neg (show ¬ σM 0 9 = _ by rw [e9]; exact c9)]
  by_cases c10 : σX 3 10 = nI (n - 1)
  · rw [if_pos (show σM 0 10 = _ by rw [e10]; exact c10)]
    exact ⟨1, rfl, Or.inl ⟨rfl, Or.inl (Or.inr ⟨c8, Or.inr c10⟩)⟩⟩
  rw [if_neg (show ¬ σM 0 10 = _ by rw [e10]; exact c10)]
  exact last (fun h => by
    rcases h with h | ⟨-, h | h⟩
    · exact cb h
    · exact c9 h
    · exact c10 h)
theorem P_pop {w n : Nat} {σX σM : Mem} (hB : BX w n σX) (hE : EQ w n σX σM) : ∃ (r : Int32) (τX τM : Mem), fX7_pop σX = some (r, τX) ∧ fX8_pop σM = some (r, τM) ∧ ((τX = σX ∧ τM = th σM) ∨ (0 < n ∧ ¬ askp n σX ∧ ¬ usd n σX ∧ τX = popX σX n ∧ τM = popM (th σM) n)) := by
  have h30 := hB.2.1
  have h4 := hB.2.2.1
  have hE' := EQ_th hE
  rcases Nat.eq_zero_or_pos n with h0 | h0
  · refine ⟨-1, σX, th σM, ?_, ?_, Or.inl ⟨rfl, rfl⟩⟩
    · unfold fX7_pop fX3_takeLast fX3_takeLast_L27
      rw [h4, h0, if_pos (by decide)]; rfl
    · unfold fX8_pop fX8_pop_L25
      rw [th_def, hE'.1, h0, if_pos (by decide)]
  · obtain ⟨ra, ha, qa⟩ := X_isAsked hB h0
    obtain ⟨ru, hu, qu⟩ := X_isUsed hB h0
    obtain ⟨rm, hm, qm⟩ := M_isUsed hB hE' h0
    have no : askp n σX ∨ usd n σX → ∃ (r : Int32) (τX τM : Mem), fX7_pop σX = some (r, τX) ∧ fX8_pop σM = some (r, τM) ∧ ((τX = σX ∧ τM = th σM) ∨ (0 < n ∧ ¬ askp n σX ∧ ¬ usd n σX ∧ τX = popX σX n ∧ τM = popM (th σM) n)) := by
      intro h
      refine ⟨-1, σX, th σM, ?_, ?_, Or.inl ⟨rfl, rfl⟩⟩
      · unfold fX7_pop fX3_takeLast fX3_takeLast_L27
        rw [h4, nI_m1 h0, if_neg (nI_pos (by omega)), ha, Option.bind_some]
        dsimp only
        rcases qa with ⟨rfl, -⟩ | ⟨rfl, qa⟩
        · rw [if_neg (by decide)]; rfl
        · rw [if_pos rfl, hu, Option.bind_some]
          dsimp only
          rcases qu with ⟨rfl, -⟩ | ⟨rfl, qu⟩
          · rw [if_neg (by decide)]; rfl
          · exact absurd h (fun h => by rcases h with h | h; exact qa h; exact qu h)
      · unfold fX8_pop fX8_pop_L25
        rw [th_def, hE'.1, if_neg (fun e => by have := (nI_eq (b := 0) (by omega) (by omega)).mp e; omega), nI_m1 h0, hm, Option.bind_some]
        dsimp only
        rcases qm with ⟨rfl, -⟩ | ⟨rfl, qm⟩
        · rw [if_neg (by decide)]
        · exact absurd h (fun h => by rcases h with h | h; exact qm.1 h; exact qm.2 h)
    rcases qm with ⟨-, qm⟩ | ⟨rfl, qm1, qm2⟩
    · exact no qm
    · refine ⟨nI (n - 1), popX σX n, popM (th σM) n, ?_, ?_, Or.inr ⟨h0, qm1, qm2, rfl, rfl⟩⟩
      · have qa' : ra = 0 := by rcases qa with ⟨-, q⟩ | ⟨q, -⟩; exact absurd q qm1; exact q
        have qu' : ru = 0 := by rcases qu with ⟨-, q⟩ | ⟨q, -⟩; exact absurd q qm2; exact q
        subst qa'
        subst qu'
        unfold fX7_pop fX3_takeLast fX3_takeLast_L49 fX3_takeLast_L73
        rw [h4, nI_m1 h0, if_neg (nI_pos (by omega)), ha, Option.bind_some]
        dsimp only
        rw [if_pos rfl, hu, Option.bind_some]
        dsimp only
        rw [if_pos rfl, chk_in (by omega) (by decide), nI_clamp (by omega)]
        unfold popX
        have r8 : ∀ v, (up2 σX 3 5 v) 8 = σX 8 := fun v => up2_row _ _ _ (by decide)
        have r6 : ∀ v, (up2 σX 3 5 v) 3 6 = σX 3 6 := fun v => up2_col _ _ _ (by decide)
        have r11 : ∀ v v', (up2 (up2 σX 3 5 v) 3 6 v') 3 11 = σX 3 11 := fun v v' => by rw [up2_col _ _ _ (by decide), up2_col _ _ _ (by decide)]
        simp (disch := omega) only [chk_in, r8, r6, r11, up2_eq]
        by_cases c1 : σX 8 (n - 1) = 1
        · rw [if_pos c1, if_pos c1]
          have c5 : ¬ σX 8 (n - 1) = 5 := by rw [c1]; decide
          rw [if_neg c5, if_neg c5]; rfl
        · rw [if_neg c1, if_neg c1]
          by_cases c5 : σX 8 (n - 1) = 5
          · rw [if_pos c5, if_pos c5]; rfl
          · rw [if_neg c5, if_neg c5]; rfl
      · unfold fX8_pop fX8_pop_L25
        rw [th_def, hE'.1, if_neg (fun e => by have := (nI_eq (b := 0) (by omega) (by omega)).mp e; omega), nI_m1 h0, hm, Option.bind_some]
        dsimp only
        rw [if_pos rfl, up2_col _ _ _ (show (6 : Nat) ≠ 11 by decide), up2_eq, hE'.1, nI_m1 h0]
        rfl
theorem P_of {w n : Nat} {σX σM : Mem} (hB : BX w n σX) (hE : EQ w n σX σM) (a b : Int32) : (∃ r, fX7_of a b σX = some (.inl (r, σX)) ∧ fX8_of a b σM = some (r, up2 σM 0 2 0)) ∨ (∃ r, fX7_of a b σX = some (.inr σX) ∧ fX8_of a b σM = some (r, up2 σM 0 2 1)) := by
  have h30 := hB.2.1
  have h4 := hB.2.2.1
  have no : fX7_of a b σX = some (.inr σX) → fX8_of a b σM = fX8_of_L22 a b σM → (∃ r, fX7_of a b σX = some (.inl (r, σX)) ∧ fX8_of a b σM = some (r, up2 σM 0 2 0)) ∨ (∃ r, fX7_of a b σX = some (.inr σX) ∧ fX8_of a b σM = some (r, up2 σM 0 2 1)) := by
    intro h1 h2
    refine Or.inr ⟨0, h1, ?_⟩
    rw [h2]
    unfold fX8_of_L22 fX8_of_L23
    rw [if_pos (up2_eq _ _ _ _)]
  rcases nm_or n h30 a with ⟨i, hi, rfl⟩ | ⟨-, ha⟩
  · have hx := has1 h4 h30 hi
    have hm := isn1 hE.1 h30 hi
    obtain ⟨e2, e3, e4⟩ := hE.2.2.1 i hi
    by_cases c0 : b < 0
    · refine no ?_ ?_
      · unfold fX7_of fX7_of_L20
        rw [hx, Option.bind_some]
        dsimp only
        rw [if_neg (by decide), if_pos c0]
      · unfold fX8_of
        rw [hm, Option.bind_some]
        dsimp only
        rw [if_neg (by decide), show (2 : Int32) = nI 2 from rfl, isInM (by decide), Option.bind_some]
        dsimp only
        rw [if_pos (Or.inl c0), if_pos rfl]
    · by_cases c2 : b ≤ 2
      · left
        obtain ⟨j, hj, rfl⟩ : ∃ j, j ≤ 2 ∧ b = nI j := nI_of2 (M := 2) (n := 2) rfl c0 c2
        have hn : ¬ (nI j < 0 ∨ nI 2 < nI j) := by
          rintro (h | h)
          · exact c0 h
          · exact nI_nlt (by omega) (by omega) h
        have hm2 : fX8_of (nI i) (nI j) σM = fX8_of_L23 (nI i) (nI j) 0 σM := by
          unfold fX8_of
          rw [hm, Option.bind_some]
          dsimp only
          rw [if_neg (show ¬ (1 : Int32) = 0 by decide), show (2 : Int32) = nI 2 from rfl, isInM (by decide), Option.bind_some]
          dsimp only
          rw [if_neg hn, if_neg (show ¬ (1 : Int32) = 0 by decide)]
        have r2 : ∀ k, k ≠ 0 → (up2 σM 0 2 0) k = σM k := fun k hk => up2_row _ _ _ hk
        have hx2 : ∀ v, (if nI j = 0 then some (Sum.inl (σX 8 i, σX)) else if nI j = 1 then some (Sum.inl (σX 9 i, σX)) else some (Sum.inl (σX 10 i, σX)) : Option ((Int32 × Mem) ⊕ Mem)) = v → fX7_of (nI i) (nI j) σX = v := by
          intro v hv
          unfold fX7_of fX7_of_L70
          rw [hx, Option.bind_some]
          dsimp only
          rw [if_neg (show ¬ (1 : Int32) = 0 by decide), if_neg c0, if_pos c2]
          simp (disch := omega) only [chk_in, nI_clamp]
          exact hv
        have hm3 : ∀ v, (if nI j = 0 then some (σM 2 i, up2 σM 0 2 0) else if nI j = 1 then some (σM 3 i, up2 σM 0 2 0) else some (σM 4 i, up2 σM 0 2 0)) = v → fX8_of (nI i) (nI j) σM = v := by
          intro v hv
          rw [hm2]
          unfold fX8_of_L23 fX8_of_L69
          rw [if_neg (show ¬ (up2 σM 0 2 0) 0 2 = 1 by rw [up2_eq]; decide), r2 2 (by decide), r2 3 (by decide), r2 4 (by decide)]
          simp (disch := omega) only [chk_in, nI_clamp]
          exact hv
        rcases (show j = 0 ∨ j = 1 ∨ j = 2 by omega) with rfl | rfl | rfl
        · exact ⟨σX 8 i, hx2 _ (if_pos rfl), hm3 _ (by rw [if_pos (show nI 0 = 0 from rfl), e2])⟩
        · exact ⟨σX 9 i, hx2 _ (by rw [if_neg (show ¬ nI 1 = 0 by decide), if_pos (show nI 1 = 1 from rfl)]), hm3 _ (by rw [if_neg (show ¬ nI 1 = 0 by decide), if_pos (show nI 1 = 1 from rfl), e3])⟩
        · exact ⟨σX 10 i, hx2 _ (by rw [if_neg (show ¬ nI 2 = 0 by decide), if_neg (show ¬ nI 2 = 1 by decide)]), hm3 _ (by rw [if_neg (show ¬ nI 2 = 0 by decide), if_neg (show ¬ nI 2 = 1 by decide), e4])⟩
      · refine no ?_ ?_
        · unfold fX7_of fX7_of_L20
          rw [hx, Option.bind_some]
          dsimp only
          rw [if_neg (by decide), if_neg c0, if_neg c2]
        · unfold fX8_of
          rw [hm, Option.bind_some]
          dsimp only
          rw [if_neg (by decide), show (2 : Int32) = nI 2 from rfl, isInM (by decide), Option.bind_some]
          dsimp only
          rw [if_pos (show b < 0 ∨ nI 2 < b from Or.inr (Int32.not_le.mp c2)), if_pos (show (0 : Int32) = 0 from rfl)]
  · refine no ?_ ?_
    · unfold fX7_of fX7_of_L20
      rw [has0 h4 ha, Option.bind_some]
      dsimp only
      rw [if_pos rfl]
    · unfold fX8_of
      rw [isn0 hE.1 h30 ha, Option.bind_some]
      dsimp only
      rw [if_pos rfl]
