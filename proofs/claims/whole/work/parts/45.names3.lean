theorem isOfX {w n i : Nat} {σ : Mem} (hB : BX w n σ) (hi : i < n) (t : Int32) : fX3_isOf (nI i) t σ = some (if σ 8 i = t then 1 else 0, σ) := by
  have h30 := hB.2.1
  have a1 := inb_nI (i := i) (n := 30) (by omega) (by decide)
  have a2 : (nI i).toNatClampNeg = i := nI_clamp (by omega)
  by_cases c : σ 8 i = t
  · simp [fX3_isOf, fX3_isOf_L22, fX3_isOf_L23, has1 hB.2.2.1 h30 hi, a1, a2, c, chk]
  · simp [fX3_isOf, fX3_isOf_L22, fX3_isOf_L23, has1 hB.2.2.1 h30 hi, a1, a2, c, chk]
theorem isOfN {n : Nat} {σ : Mem} (hn : σ 3 4 = nI n) {a : Int32} (h : a < 0 ∨ nI n ≤ a) (t : Int32) : fX3_isOf a t σ = some (0, σ) := by
  simp [fX3_isOf, fX3_isOf_L22, fX3_isOf_L23, has0 hn h, chk]
/-- the type of a name is one of six -/
theorem ty6 {w n i : Nat} {σ : Mem} (hB : BX w n σ) (hi : i < n) : σ 8 i = 0 ∨ σ 8 i = 1 ∨ σ 8 i = 2 ∨ σ 8 i = 3 ∨ σ 8 i = 4 ∨ σ 8 i = 5 := by
  rcases hB.2.2.2.2.1 i hi with q | q | ⟨q | q | q, -⟩ | q
  · exact Or.inl q.1
  · exact Or.inr (Or.inl q.1)
  · exact Or.inr (Or.inr (Or.inl q))
  · exact Or.inr (Or.inr (Or.inr (Or.inl q)))
  · exact Or.inr (Or.inr (Or.inr (Or.inr (Or.inl q))))
  · exact Or.inr (Or.inr (Or.inr (Or.inr (Or.inr q.1))))
theorem th_def (σ : Mem) : up2 σ 0 2 0 = th σ := rfl
theorem P_carried {w n : Nat} {σX σM : Mem} (hB : BX w n σX) (hE : EQ w n σX σM) (a : Int32) : ∃ (r : Int32) (τX τM : Mem), fX7_carried a σX = some (r, τX) ∧ fX8_carried a σM = some (r, τM) ∧ Out1 w n σX σM τX τM := by
  have hn := hB.2.2.1
  have h30 := hB.2.1
  have hE2 := EQ_th hE
  rcases nm_or n h30 a with ⟨i, hi, rfl⟩ | ⟨-, ha⟩
  · have eT : th σM 2 i = σX 8 i := (hE2.2.2.1 i hi).1
    have a1 := inb_nI (i := i) (n := 30) (by omega) (by decide)
    have a2 : (nI i).toNatClampNeg = i := nI_clamp (by omega)
    by_cases c : σX 8 i = 0 ∨ σX 8 i = 1
    · obtain ⟨r, τX, τM, h1, h2, h3⟩ := add_both hB hE (t := 5) (o := nI i) (u := nI n) (fun _ => Or.inr (Or.inr (Or.inr ⟨rfl, i, n, hi, by omega, rfl, rfl, c⟩)))
      refine ⟨r, τX, τM, ?_, ?_, h3⟩
      · rcases c with c | c <;> simp [fX7_carried, fX7_carried_L26, isOfX hB hi, c, hn, h1]
      · rcases c with c | c <;> simp [fX8_carried, fX8_carried_L36, fX8_carried_L37, th_def, isn1 hE2.1 h30 hi, a1, a2, chk, eT, c, hE2.1, h2]
    · refine ⟨-1, σX, th σM, ?_, ?_, Or.inl ⟨rfl, rfl⟩⟩
      · have cA : ¬ σX 8 i = 0 := fun e => c (Or.inl e)
        have cB : ¬ σX 8 i = 1 := fun e => c (Or.inr e)
        simp [fX7_carried, fX7_carried_L26, isOfX hB hi, cA, cB]
      · have h1 : 1 < σX 8 i := by
          rcases ty6 hB hi with e | e | e | e | e | e
          · exact absurd (Or.inl e) c
          · exact absurd (Or.inr e) c
          all_goals (rw [e]; decide)
        simp [fX8_carried, fX8_carried_L36, fX8_carried_L37, th_def, isn1 hE2.1 h30 hi, a1, a2, chk, eT, h1]
  · refine ⟨-1, σX, th σM, ?_, ?_, Or.inl ⟨rfl, rfl⟩⟩
    · simp [fX7_carried, fX7_carried_L26, isOfN hn ha]
    · simp [fX8_carried, fX8_carried_L36, fX8_carried_L37, th_def, isn0 hE2.1 h30 ha]
def nextX (σ : Mem) (i : Nat) (b : Int32) : Mem := up2 (up2 σ 10 i b) 3 11 (σ 3 11 + 1)
def nextM (σ : Mem) (i : Nat) (b : Int32) : Mem := up2 (up2 σ 4 i b) 0 11 0
theorem nextX_def (σ : Mem) (i : Nat) (b : Int32) : up2 (up2 σ 10 i b) 3 11 (up2 σ 10 i b 3 11 + 1) = nextX σ i b := by simp [nextX, up2]
theorem P_next {w n : Nat} {σX σM : Mem} (hB : BX w n σX) (hE : EQ w n σX σM) (a b : Int32) : ∃ (r : Int32) (τX τM : Mem), fX7_next a b σX = some (r, τX) ∧ fX8_next a b σM = some (r, τM) ∧ ((τX = σX ∧ τM = th σM) ∨ ∃ i j, i < n ∧ j < n ∧ σX 8 i = 5 ∧ τX = nextX σX i (nI j) ∧ τM = nextM (th σM) i (nI j)) := by
  have hn := hB.2.2.1
  have h30 := hB.2.1
  have hE2 := EQ_th hE
  rcases nm_or n h30 a with ⟨i, hi, rfl⟩ | ⟨-, ha⟩
  · have eT : th σM 2 i = σX 8 i := (hE2.2.2.1 i hi).1
    have eW : th σM 4 i = σX 10 i := (hE2.2.2.1 i hi).2.2
    have a1 := inb_nI (i := i) (n := 30) (by omega) (by decide)
    have a2 : (nI i).toNatClampNeg = i := nI_clamp (by omega)
    rcases nm_or n h30 b with ⟨j, hj, rfl⟩ | ⟨-, hb⟩
    · by_cases c5 : σX 8 i = 5
      · by_cases cw : σX 10 i = nI j
        · refine ⟨0, σX, th σM, ?_, ?_, Or.inl ⟨rfl, rfl⟩⟩
          · simp [fX7_next, fX7_next_L36, isOfX hB hi, c5, has1 hn h30 hj, a1, a2, chk, cw]
          · simp [fX8_next, fX8_next_L41, th_def, isn1 hE2.1 h30 hi, isn1 hE2.1 h30 hj, a1, a2, chk, eT, eW, c5, cw]
        · refine ⟨1, nextX σX i (nI j), nextM (th σM) i (nI j), ?_, ?_, Or.inr ⟨i, j, hi, hj, c5, rfl, rfl⟩⟩
          · simp [fX7_next, fX7_next_L36, isOfX hB hi, c5, has1 hn h30 hj, a1, a2, chk, cw, nextX_def]
          · simp [fX8_next, fX8_next_L41, th_def, isn1 hE2.1 h30 hi, isn1 hE2.1 h30 hj, a1, a2, chk, eT, eW, c5, cw, nextM]
      · refine ⟨0, σX, th σM, ?_, ?_, Or.inl ⟨rfl, rfl⟩⟩
        · simp [fX7_next, fX7_next_L36, isOfX hB hi, c5]
        · simp [fX8_next, fX8_next_L41, th_def, isn1 hE2.1 h30 hi, isn1 hE2.1 h30 hj, a1, a2, chk, eT, c5]
    · refine ⟨0, σX, th σM, ?_, ?_, Or.inl ⟨rfl, rfl⟩⟩
      · by_cases c5 : σX 8 i = 5 <;> simp [fX7_next, fX7_next_L36, isOfX hB hi, c5, has0 hn hb]
      · simp [fX8_next, fX8_next_L41, th_def, isn1 hE2.1 h30 hi, isn0 hE2.1 h30 hb]
  · refine ⟨0, σX, th σM, ?_, ?_, Or.inl ⟨rfl, rfl⟩⟩
    · simp [fX7_next, fX7_next_L36, isOfN hn ha]
    · simp [fX8_next, fX8_next_L41, th_def, isn0 hE2.1 h30 ha]
def testX (σ : Mem) (k a b : Int32) : Mem := up2 (up2 (up2 (up2 σ 3 8 k) 3 9 a) 3 10 b) 3 12 (σ 3 12 + 1)
def testM (σ : Mem) (k a b : Int32) : Mem := up2 (up2 (up2 σ 0 8 k) 0 9 a) 0 10 b
theorem testX_def (σ : Mem) (k a b : Int32) : up2 (up2 (up2 (up2 σ 3 8 k) 3 9 a) 3 10 b) 3 12 ((up2 (up2 (up2 σ 3 8 k) 3 9 a) 3 10 b) 3 12 + 1) = testX σ k a b := by simp [testX, up2]
theorem P_test {w n : Nat} {σX σM : Mem} (hB : BX w n σX) (hE : EQ w n σX σM) (k a b : Int32) : ∃ (r : Int32) (τX τM : Mem), fX7_test k a b σX = some (r, τX) ∧ fX8_test k a b σM = some (r, τM) ∧ ((τX = σX ∧ τM = th σM) ∨ ∃ i j, i < n ∧ j < n ∧ (k = 0 ∨ k = 1) ∧ τX = testX σX k (nI i) (nI j) ∧ τM = testM (th σM) k (nI i) (nI j)) := by
  have hn := hB.2.2.1
  have h30 := hB.2.1
  have hE2 := EQ_th hE
  have e8 : th σM 0 8 = σX 3 8 := hE2.2.2.2.2.1
  have e9 : th σM 0 9 = σX 3 9 := hE2.2.2.2.2.2.1
  have e10 : th σM 0 10 = σX 3 10 := hE2.2.2.2.2.2.2
  have eI : ∀ σ : Mem, fX8_isIn k 0 1 σ = some (if k = 0 ∨ k = 1 then 1 else 0, σ) := by
    intro σ
    by_cases k0 : k < 0
    · have : ¬ (k = 0 ∨ k = 1) := by
        rintro (e | e) <;> rw [e] at k0 <;> exact absurd k0 (by decide)
      simp [fX8_isIn, fX8_isIn_L14, fX8_isIn_L15, k0, this, chk]
    · by_cases k1 : 1 < k
      · have : ¬ (k = 0 ∨ k = 1) := by
          rintro (e | e) <;> rw [e] at k1 <;> exact absurd k1 (by decide)
        simp [fX8_isIn, fX8_isIn_L14, fX8_isIn_L15, k0, k1, this, chk]
      · have : k = 0 ∨ k = 1 := by
          obtain ⟨z, hz, rfl⟩ := nI_of k0
          have h2 : z ≤ 1 := Nat.not_lt.mp (fun q => k1 (nI_lt (a := 1) q hz))
          rcases (show z = 0 ∨ z = 1 by omega) with rfl | rfl
          · exact Or.inl rfl
          · exact Or.inr rfl
        simp [fX8_isIn, fX8_isIn_L14, fX8_isIn_L15, k0, k1, this, chk]
  by_cases hk : k = 0 ∨ k = 1
  · have eX : fX7_test k a b σX = fX7_test_L9 k a b σX := by rcases hk with e | e <;> simp [fX7_test, e]
    rw [eX]
    rcases nm_or n h30 a with ⟨i, hi, rfl⟩ | ⟨-, ha⟩
    · rcases nm_or n h30 b with ⟨j, hj, rfl⟩ | ⟨-, hb⟩
      · by_cases c : σX 3 8 = k ∧ σX 3 9 = nI i ∧ σX 3 10 = nI j
        · refine ⟨0, σX, th σM, ?_, ?_, Or.inl ⟨rfl, rfl⟩⟩
          · simp [fX7_test_L9, has1 hn h30 hi, has1 hn h30 hj, c]
          · simp [fX8_test, fX8_test_L54, th_def, eI, hk, isn1 hE2.1 h30 hi, isn1 hE2.1 h30 hj, e8, e9, e10, c]
        · refine ⟨1, testX σX k (nI i) (nI j), testM (th σM) k (nI i) (nI j), ?_, ?_, Or.inr ⟨i, j, hi, hj, hk, rfl, rfl⟩⟩
          · have e : fX7_test_L9 k (nI i) (nI j) σX = fX7_test_L68 k (nI i) (nI j) σX := by
              unfold fX7_test_L9
              rw [has1 hn h30 hi, Option.bind_some, has1 hn h30 hj, Option.bind_some]
              dsimp only
              rw [if_neg (by decide), if_neg (by decide)]
              by_cases c1 : σX 3 8 = k
              · rw [if_pos c1]
                by_cases c2 : σX 3 9 = nI i
                · rw [if_pos c2, if_neg (fun c3 => c ⟨c1, c2, c3⟩)]
                · rw [if_neg c2]
              · rw [if_neg c1]
            rw [e]
            unfold fX7_test_L68
            rw [testX_def]
          · have e : fX8_test k (nI i) (nI j) σM = fX8_test_L56 k (nI i) (nI j) (th σM) := by
              unfold fX8_test
              rw [th_def, eI, if_pos hk, Option.bind_some]
              dsimp only
              rw [if_neg (by decide), isn1 hE2.1 h30 hi, Option.bind_some]
              dsimp only
              rw [if_neg (by decide), isn1 hE2.1 h30 hj, Option.bind_some]
              dsimp only
              rw [if_neg (by decide)]
              by_cases c1 : th σM 0 8 = k
              · rw [if_pos c1]
                by_cases c2 : th σM 0 9 = nI i
                · rw [if_pos c2, if_neg (fun c3 => c ⟨e8 ▸ c1, e9 ▸ c2, e10 ▸ c3⟩)]
                · rw [if_neg c2]
              · rw [if_neg c1]
            rw [e]
            rfl
      · refine ⟨0, σX, th σM, ?_, ?_, Or.inl ⟨rfl, rfl⟩⟩
        · simp [fX7_test_L9, fX7_test_L31, has1 hn h30 hi, has0 hn hb]
        · simp [fX8_test, fX8_test_L54, th_def, eI, hk, isn1 hE2.1 h30 hi, isn0 hE2.1 h30 hb]
    · refine ⟨0, σX, th σM, ?_, ?_, Or.inl ⟨rfl, rfl⟩⟩
      · simp [fX7_test_L9, fX7_test_L31, has0 hn ha]
      · simp [fX8_test, fX8_test_L54, th_def, eI, hk, isn0 hE2.1 h30 ha]
  · refine ⟨0, σX, th σM, ?_, ?_, Or.inl ⟨rfl, rfl⟩⟩
    · have kA : ¬ k = 0 := fun e => hk (Or.inl e)
      have kB : ¬ k = 1 := fun e => hk (Or.inr e)
      simp [fX7_test, fX7_test_L31, kA, kB]
    · simp [fX8_test, fX8_test_L54, th_def, eI, hk]
