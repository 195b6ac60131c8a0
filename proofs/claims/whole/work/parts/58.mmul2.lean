def cmI (a b : Nat → Nat) (m n x : Nat) : Nat := fb_sm (fun k => if m + k = x then a m * b k else 0) n
def cmO (a b : Nat → Nat) (m x : Nat) : Nat := fb_sm (fun k => if k ≤ x then a k * b (x - k) else 0) m
theorem cmI_end {w : Nat} {a b : Nat → Nat} (hb : OkP w b) (m x : Nat) : cmI a b m 343 x = if m ≤ x then a m * b (x - m) else 0 := by
  unfold cmI
  by_cases c : m ≤ x
  · rw [if_pos c]
    have e : ∀ k, k < 343 → (if m + k = x then a m * b k else 0) = if k = x - m then a m * b (x - m) else 0 := by
      intro k _
      by_cases q : k = x - m
      · rw [if_pos q, if_pos (by omega), q]
      · rw [if_neg q, if_neg (by omega)]
    rw [fb_sm_cong e, sm_ind]
    by_cases q : x - m < 343
    · rw [if_pos q]
    · rw [if_neg q]
      have : b (x - m) = 0 := Decidable.byContradiction (fun z => q (hb.2 _ z).1)
      rw [this, Nat.mul_zero]
  · rw [if_neg c]
    exact sm_0 (fun k _ => if_neg (by omega))
def curM (w : Nat) (C : Nat → Nat → Nat) (i j : Nat) (a b : Nat → Nat) (m n : Nat) : Nat → Nat → Nat := fun k x => (C k x + cf i j k * (cmO a b m x + cmI a b m n x)) % 2 ^ w
theorem curM_lt (w : Nat) (C : Nat → Nat → Nat) (i j : Nat) (a b : Nat → Nat) (m n k x : Nat) : curM w C i j a b m n k x < 2 ^ w := Nat.mod_lt _ (pw_pos w)
theorem curM_0 {w : Nat} (C : Nat → Nat → Nat) (i j : Nat) (a b : Nat → Nat) (m n : Nat) (h : a m * b n = 0) : curM w C i j a b m (n + 1) = curM w C i j a b m n := by
  funext k x
  show (C k x + cf i j k * (cmO a b m x + (cmI a b m n x + if m + n = x then a m * b n else 0))) % 2 ^ w = _
  rw [h, show (if m + n = x then 0 else 0) = 0 by split <;> rfl]
  rfl
theorem curM_st {w : Nat} (C : Nat → Nat → Nat) (i j : Nat) (a b : Nat → Nat) (m n : Nat) : cst w (curM w C i j a b m n) i j (m + n) (a m * b n) = curM w C i j a b m (n + 1) := by
  funext k x
  show (if x = m + n then (curM w C i j a b m n k x + cf i j k * (a m * b n)) % 2 ^ w else curM w C i j a b m n k x) = (C k x + cf i j k * (cmO a b m x + (cmI a b m n x + if m + n = x then a m * b n else 0))) % 2 ^ w
  by_cases q : x = m + n
  · rw [if_pos q, if_pos q.symm]
    unfold curM
    rw [Nat.mod_add_mod]
    congr 1
    rw [Nat.mul_add, Nat.mul_add, Nat.mul_add]
    omega
  · rw [if_neg q, if_neg (fun z => q z.symm), Nat.add_zero]
    rfl
theorem curM_row {w : Nat} (C : Nat → Nat → Nat) (i j : Nat) {a b : Nat → Nat} (hb : OkP w b) (m : Nat) : curM w C i j a b m 343 = curM w C i j a b (m + 1) 0 := by
  funext k x
  show (C k x + cf i j k * (cmO a b m x + cmI a b m 343 x)) % 2 ^ w = (C k x + cf i j k * ((cmO a b m x + if m ≤ x then a m * b (x - m) else 0) + 0)) % 2 ^ w
  rw [cmI_end hb, Nat.add_zero]
theorem curM_z {w : Nat} (C : Nat → Nat → Nat) (i j : Nat) {a b : Nat → Nat} (hb : OkP w b) (m : Nat) (h : a m = 0) : curM w C i j a b m 0 = curM w C i j a b (m + 1) 0 := by
  rw [← curM_row C i j hb m]
  funext k x
  show (C k x + cf i j k * (cmO a b m x + 0)) % 2 ^ w = (C k x + cf i j k * (cmO a b m x + cmI a b m 343 x)) % 2 ^ w
  rw [cmI_end hb, h, Nat.zero_mul, show (if m ≤ x then 0 else 0) = 0 by split <;> rfl]
theorem M_mulN {w : Nat} {σ : Mem} {s r1 r2 : Nat} {A B C : Nat → Nat → Nat} (h : MB w σ) (hs : s < 124) (hr2 : r2 < 124) (n2 : r2 ≠ s) (fB : fm w σ r2 B) (hA : ∀ c, OkP w (A c)) {i j m : Nat} (hj : j < 4) (hm : m < 343) (hij : i + j ≤ 3 ∨ (A i = fun _ => 0) ∨ B j = fun _ => 0) :
    ok (loop (fun a => fX8_multiplies__B35 (nI s) (nI r1) (nI i) (nI r2) (nI j) (nI m) (nI (A i m)) a.1 a.2) (0, mset σ s (curM w C i j (A i) (B j) m 0))) (fun r => (r = .inl (mset σ s (curM w C i j (A i) (B j) (m + 1) 0)) ∧ ∀ n, A i m ≠ 0 → B j n ≠ 0 → ex m + ex n ≤ 6) ∨ (∃ C' : Nat → Nat → Nat, r = .inr (0, mset σ s C') ∧ ∃ n, A i m ≠ 0 ∧ B j n ≠ 0 ∧ ¬ ex m + ex n ≤ 6)) := by
  have hw := h.1.2
  have hpw := pw_le hw
  have hb := fB.1.1 j
  have hv := (hA i).1 m
  by_cases v0 : A i m = 0
  · refine ⟨.inl (mset σ s (curM w C i j (A i) (B j) m 0)), loop_out ?_, Or.inl ⟨by rw [curM_z C i j hb m v0], fun n q => absurd v0 q⟩⟩
    dsimp only
    unfold fX8_multiplies__B35
    rw [if_neg (show ¬ (343 : Int32) ≤ 0 by decide), if_pos (by rw [v0]; rfl)]
  · refine ok_for' (enc := fun n (_ : Unit) => (nI n, mset σ s (curM w C i j (A i) (B j) m n))) 343 (fun n _ => ∀ k, k < n → B j k ≠ 0 → ex m + ex k ≤ 6) (i0 := 0) (s0 := ()) (Nat.zero_le _) (fun k hk => absurd hk (Nat.not_lt_zero k)) ?_ ?_
    · intro n _ hn hI
      dsimp only
      obtain ⟨D, hD⟩ : ∃ D, D = curM w C i j (A i) (B j) m n := ⟨_, rfl⟩
      have hDl : ∀ k x, D k x < 2 ^ w := by rw [hD]; exact fun k x => curM_lt _ _ _ _ _ _ _ _ _ _
      have eB := fm_at (fm_ne (A := D) fB n2) hj hn
      have hbn := hb.1 n
      unfold fX8_multiplies__B35 fX8_multiplies__L183
      rw [← hD, if_neg (n343 hn), if_neg (by rw [nI_z16 hw hv]; exact v0)]
      simp (disch := omega) only [chk_in, nI_clamp, ixG, eB]
      by_cases b0 : B j n = 0
      · rw [if_pos (by rw [b0]; rfl), nI_1]
        refine ok_some ⟨(), by rw [curM_0 C i j (A i) (B j) m n (by rw [b0, Nat.mul_zero]), hD], fun k hk => ?_⟩
        rcases Nat.lt_or_ge k n with h1 | h1
        · exact hI k h1
        · have : k = n := by omega
          rw [this]; exact fun q => absurd b0 q
      · have hij' : i + j ≤ 3 := by
          rcases hij with q | q | q
          · exact q
          · exact absurd (by rw [q]) v0
          · exact absurd (by rw [q]) b0
        rw [if_neg (by rw [nI_z16 hw hbn]; exact b0), M_exponents (by omega), Option.bind_some]
        dsimp only
        rw [M_exponents (by omega), Option.bind_some]
        dsimp only
        rw [nI_add]
        by_cases c6 : ex m + ex n ≤ 6
        · have hmn := ex_add c6
          rw [if_pos (show nI _ ≤ 6 from nI_le (b := 6) c6 (by decide)), nI_max (by omega) (by omega)]
          obtain ⟨τ, hτ, rfl⟩ := M_mulK (r1 := r1) (r2 := r2) (i := i) (j := j) (m := m) (n := n) h hs hDl hij' hmn.2 hv hbn
          rw [hτ, Option.bind_some, nI_1]
          refine ok_some ⟨(), by rw [hD, curM_st], fun k hk => ?_⟩
          rcases Nat.lt_or_ge k n with h1 | h1
          · exact hI k h1
          · have : k = n := by omega
            rw [this]; exact fun _ => c6
        · have l1 : ex m ≤ 18 := by unfold ex; omega
          have l2 : ex n ≤ 18 := by unfold ex; omega
          rw [if_neg (show ¬ nI _ ≤ 6 from nI_ge (a := 6) (by omega) (by omega))]
          exact ok_some (Or.inr ⟨D, rfl, n, v0, b0, c6⟩)
    · intro _ hI
      dsimp only
      unfold fX8_multiplies__B35
      rw [if_pos n343']
      refine ok_some (Or.inl ⟨by rw [curM_row C i j hb], fun n _ hn => hI n (hb.2 n hn).1 hn⟩)
theorem M_mul1 {w : Nat} {σ : Mem} {s r1 r2 : Nat} {A B C : Nat → Nat → Nat} (h : MB w σ) (hs : s < 124) (hr1 : r1 < 124) (hr2 : r2 < 124) (n1 : r1 ≠ s) (n2 : r2 ≠ s) (fA : fm w σ r1 A) (fB : fm w σ r2 B) (hC : ∀ k x, C k x < 2 ^ w) {i j : Nat} (hi : i < 4) (hj : j < 4) (hij : i + j ≤ 3 ∨ (A i = fun _ => 0) ∨ B j = fun _ => 0) :
    ok (fX8_multiplies_ (nI s) (nI r1) (nI i) (nI r2) (nI j) (mset σ s C)) (fun o => (okM (A i) (B j) ∧ o = (1, mset σ s (mstep w A B i j C))) ∨ (¬ okM (A i) (B j) ∧ ∃ C' : Nat → Nat → Nat, o = (0, mset σ s C'))) := by
  have e0 : C = curM w C i j (A i) (B j) 0 0 := by
    funext k x
    show C k x = (C k x + cf i j k * (0 + 0)) % 2 ^ w
    rw [Nat.add_zero, Nat.mul_zero, Nat.add_zero, Nat.mod_eq_of_lt (hC k x)]
  have eE : curM w C i j (A i) (B j) 343 0 = mstep w A B i j C := by
    funext k x
    show (C k x + cf i j k * (cmO (A i) (B j) 343 x + 0)) % 2 ^ w = _
    rw [Nat.add_zero]; rfl
  have key : ok (loop (fun a => fX8_multiplies__B3 (nI s) (nI r1) (nI i) (nI r2) (nI j) a.1 a.2) (0, mset σ s C)) (fun r => (okM (A i) (B j) ∧ r = .inl (mset σ s (mstep w A B i j C))) ∨ (¬ okM (A i) (B j) ∧ ∃ C' : Nat → Nat → Nat, r = .inr (0, mset σ s C'))) := by
    refine ok_for' (enc := fun m (_ : Unit) => (nI m, mset σ s (curM w C i j (A i) (B j) m 0))) 343 (fun m _ => ∀ k n, k < m → A i k ≠ 0 → B j n ≠ 0 → ex k + ex n ≤ 6) (i0 := 0) (s0 := ()) (Nat.zero_le _) (fun k n hk => absurd hk (Nat.not_lt_zero k)) ?_ ?_ |> fun hh => by rw [← e0] at hh; exact hh
    · intro m _ hm hI
      dsimp only
      unfold fX8_multiplies__B3 fX8_multiplies__L189
      have eA := fm_at (fm_ne (A := curM w C i j (A i) (B j) m 0) fA n1) hi hm
      rw [if_neg (n343 hm)]
      simp (disch := omega) only [chk_in, nI_clamp, ixG, eA]
      refine ok_bind (ok_mono (M_mulN (r1 := r1) (A := A) (C := C) h hs hr2 n2 fB fA.1.1 hj hm hij) ?_)
      rintro r (⟨rfl, hr⟩ | ⟨C', rfl, n, q1, q2, q3⟩)
      · refine ok_some ⟨(), by rw [nI_1], fun k n hk => ?_⟩
        rcases Nat.lt_or_ge k m with h1 | h1
        · exact hI k n h1
        · have : k = m := by omega
          rw [this]; exact hr n
      · exact ok_some (Or.inr ⟨fun hM => q3 (hM _ _ q1 q2), C', rfl⟩)
    · intro _ hI
      dsimp only
      unfold fX8_multiplies__B3
      rw [if_pos n343']
      exact ok_some (Or.inl ⟨fun m n hm hn => hI m n (fA.1.1 i |>.2 m hm).1 hm hn, by rw [eE]⟩)
  unfold fX8_multiplies_ fX8_multiplies__L195
  refine ok_bind (ok_mono key ?_)
  rintro r (⟨hM, rfl⟩ | ⟨hM, C', rfl⟩)
  · exact ok_some (Or.inl ⟨hM, rfl⟩)
  · exact ok_some (Or.inr ⟨hM, C', rfl⟩)
theorem M_multiplies {w : Nat} {σ : Mem} {s r1 r2 : Nat} {A B : Nat → Nat → Nat} (h : MB w σ) (hs : s < 124) (hr1 : r1 < 124) (hr2 : r2 < 124) (n1 : r1 ≠ s) (n2 : r2 ≠ s) (fA : fm w σ r1 A) (fB : fm w σ r2 B) :
    ok (fX8_multiplies (nI s) (nI r1) (nI r2) σ) (fun o => (okF A B ∧ o = (1, mset σ s (fMul w A B))) ∨ (¬ okF A B ∧ o.1 = 0 ∧ MW s σ o.2)) := by
  have hw := h.1.2
  have dA := fdeg_le A
  have dB := fdeg_le B
  unfold fX8_multiplies fX8_multiplies_L68
  rw [M_degreeOf hw hr1 fA, Option.bind_some]
  dsimp only
  rw [M_degreeOf hw hr2 fB, Option.bind_some]
  dsimp only
  rw [nI_add]
  by_cases hd : fdeg A + fdeg B ≤ 3
  · rw [if_pos (show nI _ ≤ 3 from nI_le (b := 3) hd (by decide)), M_empties hs, Option.bind_some]
    have pd := pair_deg fA.1 fB.1 hd
    refine ok_bind (ok_mono (?_ : ok _ (fun r => (okF A B ∧ r = .inl (mset σ s (fMul w A B))) ∨ (¬ okF A B ∧ ∃ C : Nat → Nat → Nat, r = .inr (0, mset σ s C)))) ?_)
    · refine ok_for' (enc := fun i (_ : Unit) => (nI i, mset σ s (mall w A B i))) 4 (fun i _ => (∀ k x, mall w A B i k x < 2 ^ w) ∧ ∀ i' j, i' < i → j < 4 → okM (A i') (B j)) (i0 := 0) (s0 := ()) (Nat.zero_le _) ⟨fun _ _ => pw_pos w, fun i' j hi' => absurd hi' (Nat.not_lt_zero _)⟩ ?_ ?_
      · intro i _ hi ⟨hk, hI⟩
        dsimp only
        unfold fX8_multiplies_B25 fX8_multiplies_L62
        rw [if_neg (n4 hi)]
        refine ok_bind (ok_mono (?_ : ok _ (fun r => (r = .inl (mset σ s (mrow w A B i 4 (mall w A B i))) ∧ (∀ k x, mrow w A B i 4 (mall w A B i) k x < 2 ^ w) ∧ ∀ j, j < 4 → okM (A i) (B j)) ∨ (∃ C : Nat → Nat → Nat, r = .inr (0, mset σ s C) ∧ ∃ j, j < 4 ∧ ¬ okM (A i) (B j)))) ?_)
        · refine ok_for' (enc := fun j (_ : Unit) => (nI j, mset σ s (mrow w A B i j (mall w A B i)))) 4 (fun j _ => (∀ k x, mrow w A B i j (mall w A B i) k x < 2 ^ w) ∧ ∀ j', j' < j → okM (A i) (B j')) (i0 := 0) (s0 := ()) (Nat.zero_le _) ⟨hk, fun j' hj' => absurd hj' (Nat.not_lt_zero _)⟩ ?_ ?_
          · intro j _ hj ⟨hk2, hI2⟩
            dsimp only
            unfold fX8_multiplies_B34
            rw [if_neg (n4 hj)]
            refine ok_bind (ok_mono (M_mul1 h hs hr1 hr2 n1 n2 fA fB hk2 hi hj (pd i j)) ?_)
            rintro o (⟨hM, rfl⟩ | ⟨hM, C', rfl⟩)
            · dsimp only
              rw [if_neg (by decide), nI_1]
              refine ok_some ⟨(), rfl, fun k x => Nat.mod_lt _ (pw_pos w), fun j' hj' => ?_⟩
              rcases Nat.lt_or_ge j' j with h1 | h1
              · exact hI2 j' h1
              · have : j' = j := by omega
                rw [this]; exact hM
            · dsimp only
              rw [if_pos rfl]
              exact ok_some (Or.inr ⟨C', rfl, j, hj, hM⟩)
          · intro _ ⟨hk2, hI2⟩
            dsimp only
            unfold fX8_multiplies_B34
            rw [if_pos n4']
            exact ok_some (Or.inl ⟨rfl, hk2, hI2⟩)
        · rintro r (⟨rfl, hk', hI'⟩ | ⟨C', rfl, j, hj, hM⟩)
          · refine ok_some ⟨(), by rw [nI_1]; rfl, hk', fun i' j hi' hj => ?_⟩
            rcases Nat.lt_or_ge i' i with h1 | h1
            · exact hI i' j h1 hj
            · have : i' = i := by omega
              rw [this]; exact hI' j hj
          · exact ok_some (Or.inr ⟨fun hF => hM (hF.2 i j hi hj), C', rfl⟩)
      · intro _ ⟨hk, hI⟩
        dsimp only
        unfold fX8_multiplies_B25
        rw [if_pos n4']
        exact ok_some (Or.inl ⟨⟨hd, fun i j hi hj => hI i j hi hj⟩, rfl⟩)
    · rintro r (⟨hF, rfl⟩ | ⟨hF, C', rfl⟩)
      · exact ok_some (Or.inl ⟨hF, rfl⟩)
      · exact ok_some (Or.inr ⟨hF, rfl, MW_mset s σ C'⟩)
  · rw [if_neg (show ¬ nI _ ≤ 3 from nI_ge (a := 3) (by omega) (by omega))]
    exact ok_some (Or.inr ⟨fun hF => hd hF.1, rfl, MW_refl s σ⟩)
