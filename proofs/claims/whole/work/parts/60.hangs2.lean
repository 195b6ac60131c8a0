theorem bt_hgv {E : Nat → Nat → Bool} {n : Nat} (hn : n ≤ 30) (hE : ∀ i j, i < n → E i j = true → j < n) {k : Nat} (hk : k < n) {j : Nat} (hj : j < 32) : bt (hgv E n k) j = via E n k j := by
  unfold hgv
  rw [bt_bs _ (by omega) hj]
  by_cases c : via E n k j = true
  · have := via_lt hE (Nat.le_refl n) hk c
    simp [this]
  · simp at c; simp [c]
theorem Cy_lt {E : Nat → Nat → Bool} {n : Nat} (hE : ∀ i j, i < n → E i j = true → j < n) {k : Nat} (hk : k < n) {j : Nat} (h : Cy E n k j = true) : j < n := by
  unfold Cy at h
  simp only [Bool.or_eq_true, Bool.and_eq_true, decide_eq_true_eq] at h
  rcases h with h | h
  · omega
  · exact via_lt hE (Nat.le_refl n) hk h.1
theorem bt_cyv {E : Nat → Nat → Bool} {n : Nat} (hn : n ≤ 30) (hE : ∀ i j, i < n → E i j = true → j < n) {k : Nat} (hk : k < n) {j : Nat} (hj : j < 32) : bt (cyv E n k) j = Cy E n k j := by
  unfold cyv
  rw [bt_bs _ (by omega) hj]
  by_cases c : Cy E n k j = true
  · have := Cy_lt hE hk c
    simp [this]
  · simp at c; simp [c]
theorem b_all {x : Int32} {P : Nat → Bool} {y : Int32} (h1 : ∀ j, j < 32 → bt x j = P j) (h2 : ∀ j, j < 32 → bt y j = P j) : x = y := b_ext (fun j hj => (h1 j hj).trans (h2 j hj).symm)
theorem eg_E {w n : Nat} {t o u : Nat → Nat} (h : WF w n t o u) : ∀ i j, i < n → eg t o u i j = true → j < n := fun _ _ hi he => eg_lt h hi he
theorem up2_at (σ : Mem) (k j : Nat) (v : Int32) (j' : Nat) : up2 σ k j v k j' = if j' = j then v else σ k j' := by simp [up2]
theorem X_findMembers {w n : Nat} {t o u : Nat → Nat} {σ : Mem} (hW : WF w n t o u) (hN : NX n t o u σ) : ok (fX0_findMembers σ) (fun τ => FR [18, 19] σ τ ∧ ∀ k, k < n → τ 18 k = hgv (eg t o u) n k ∧ τ 19 k = cyv (eg t o u) n k) := by
  have h30 := hN.1
  have hE := eg_E hW
  have hNf : ∀ {τ : Mem}, FR [18, 19] σ τ → NX n t o u τ := fun hf => NX_FR hN hf (by decide) (by decide) (by decide) (by decide)
  unfold fX0_findMembers
  refine ok_bind (ok_mono (?_ : ok _ (fun τ => FR [18, 19] σ τ ∧ ∀ k, k < n → τ 18 k = dr t o u k)) ?_)
  · refine ok_for' (enc := fun i (τ : Mem) => (nI i, τ)) n (fun i τ => FR [18, 19] σ τ ∧ ∀ k, k < i → τ 18 k = dr t o u k) (i0 := 0) (s0 := σ) (Nat.zero_le _) ⟨FR_refl _ _, fun k hk => absurd hk (Nat.not_lt_zero k)⟩ ?_ ?_
    · intro i τ hi ⟨hf, hI⟩
      dsimp only
      unfold fX0_findMembers_B2
      rw [(hNf hf).2.1, if_neg (nI_ge hi (by omega)), X_parts hW (hNf hf) hi, Option.bind_some]
      dsimp only
      rw [chk_in (by omega) (by decide), nI_clamp (by omega), nI_1]
      refine ok_some ⟨_, rfl, FR_trans hf (FR_up2 _ (by decide) _ _), fun k hk => ?_⟩
      rw [up2_at]
      by_cases e : k = i
      · rw [if_pos e, e]
      · rw [if_neg e]; exact hI k (by omega)
    · intro τ ⟨hf, hI⟩
      dsimp only
      unfold fX0_findMembers_B2
      rw [(hNf hf).2.1, if_pos (Int32.le_refl _)]
      exact ok_some ⟨hf, hI⟩
  rintro τ1 ⟨hf1, hd1⟩
  unfold fX0_findMembers_L33
  refine ok_bind (ok_mono (?_ : ok _ (fun τ => FR [18, 19] σ τ ∧ ∀ k, k < n → ∀ j, j < 32 → bt (τ 18 k) j = via (eg t o u) n k j)) ?_)
  · refine ok_for' (enc := fun v (τ : Mem) => (nI v, τ)) n (fun v τ => FR [18, 19] σ τ ∧ ∀ k, k < n → ∀ j, j < 32 → bt (τ 18 k) j = via (eg t o u) v k j) (i0 := 0) (s0 := τ1) (Nat.zero_le _) ⟨hf1, fun k hk j hj => by rw [hd1 k hk, bt_dr hW h30 hk hj]; rfl⟩ ?_ ?_
    · intro v τ hv ⟨hf, hI⟩
      dsimp only
      unfold fX0_findMembers_B35 fX0_findMembers_L93
      rw [(hNf hf).2.1, if_neg (nI_ge hv (by omega))]
      refine ok_bind (ok_mono (?_ : ok _ (fun τ => FR [18, 19] σ τ ∧ ∀ k, k < n → ∀ j, j < 32 → bt (τ 18 k) j = via (eg t o u) (v + 1) k j)) ?_)
      · refine ok_for' (enc := fun i (τ : Mem) => (nI i, τ)) n (fun i τ => FR [18, 19] σ τ ∧ (∀ k, k < i → ∀ j, j < 32 → bt (τ 18 k) j = via (eg t o u) (v + 1) k j) ∧ ∀ k, i ≤ k → k < n → ∀ j, j < 32 → bt (τ 18 k) j = via (eg t o u) v k j) (i0 := 0) (s0 := τ) (Nat.zero_le _) ⟨hf, fun k hk => absurd hk (Nat.not_lt_zero k), fun k _ => hI k⟩ ?_ ?_
        · intro i τ2 hi ⟨hf2, hI1, hI2⟩
          dsimp only
          unfold fX0_findMembers_B48 fX0_findMembers_L87
          rw [(hNf hf2).2.1, if_neg (nI_ge hi (by omega)), chk_in (by omega) (by decide), nI_clamp (by omega), isInE _ (by omega), Option.bind_some]
          dsimp only
          have ei := hI2 i (Nat.le_refl _) hi
          have ev : ∀ j, j < 32 → bt (τ2 18 v) j = via (eg t o u) v v j := by
            intro j hj
            rcases Nat.lt_or_ge v i with q | q
            · rw [hI1 v q j hj]
              show (_ || (_ && _)) = _
              cases via (eg t o u) v v j <;> simp
            · exact hI2 v q hv j hj
          by_cases c : bt (τ2 18 i) v = true
          · rw [if_pos c, if_neg (by decide), chk_in (by omega) (by decide), chk_in (by omega) (by decide), chk_in (by omega) (by decide), nI_clamp (by omega), nI_1]
            refine ok_some ⟨_, rfl, FR_trans hf2 (FR_up2 _ (by decide) _ _), fun k hk j hj => ?_, fun k hk hkn j hj => ?_⟩
            · rw [up2_at]
              by_cases e : k = i
              · subst e
                rw [if_pos rfl, b_or, ei j hj, ev j hj]
                rw [ei v (by omega)] at c
                show _ = (_ || (_ && _))
                rw [c, Bool.true_and]
              · rw [if_neg e]; exact hI1 k (by omega) j hj
            · rw [up2_at, if_neg (by omega)]; exact hI2 k (by omega) hkn j hj
          · rw [if_neg c, if_pos rfl, nI_1]
            refine ok_some ⟨_, rfl, hf2, fun k hk j hj => ?_, fun k hk hkn j hj => hI2 k (by omega) hkn j hj⟩
            by_cases e : k = i
            · subst e
              rw [ei j hj]
              rw [ei v (by omega)] at c
              simp only [Bool.not_eq_true] at c
              show _ = (_ || (_ && _))
              rw [c, Bool.false_and, Bool.or_false]
            · exact hI1 k (by omega) j hj
        · intro τ2 ⟨hf2, hI1, hI2⟩
          dsimp only
          unfold fX0_findMembers_B48
          rw [(hNf hf2).2.1, if_pos (Int32.le_refl _)]
          exact ok_some ⟨hf2, hI1⟩
      · rintro τ2 ⟨hf2, hI2⟩
        rw [nI_1]
        exact ok_some ⟨_, rfl, hf2, hI2⟩
    · intro τ ⟨hf, hI⟩
      dsimp only
      unfold fX0_findMembers_B35
      rw [(hNf hf).2.1, if_pos (Int32.le_refl _)]
      exact ok_some ⟨hf, hI⟩
  rintro τ2 ⟨hf2, hh2⟩
  have hg2 : ∀ k, k < n → τ2 18 k = hgv (eg t o u) n k := fun k hk => b_all (hh2 k hk) (fun j hj => bt_hgv h30 hE hk hj)
  unfold fX0_findMembers_L99 fX0_findMembers_L184
  refine ok_bind (ok_mono (?_ : ok _ (fun τ => FR [18, 19] σ τ ∧ τ 18 = τ2 18 ∧ ∀ k, k < n → ∀ j, j < 32 → bt (τ 19 k) j = Cy (eg t o u) n k j)) ?_)
  · refine ok_for' (enc := fun i (τ : Mem) => (nI i, τ)) n (fun i τ => FR [18, 19] σ τ ∧ τ 18 = τ2 18 ∧ ∀ k, k < i → ∀ j, j < 32 → bt (τ 19 k) j = Cy (eg t o u) n k j) (i0 := 0) (s0 := τ2) (Nat.zero_le _) ⟨hf2, rfl, fun k hk => absurd hk (Nat.not_lt_zero k)⟩ ?_ ?_
    · intro i τ hi ⟨hf, h18, hI⟩
      dsimp only
      unfold fX0_findMembers_B101 fX0_findMembers_L178
      rw [(hNf hf).2.1, if_neg (nI_ge hi (by omega)), chk_in (by omega) (by decide), nI_clamp (by omega)]
      refine ok_bind (ok_mono (?_ : ok _ (fun τ => FR [18, 19] σ τ ∧ τ 18 = τ2 18 ∧ (∀ k, k < i → ∀ j, j < 32 → bt (τ 19 k) j = Cy (eg t o u) n k j) ∧ ∀ j, j < 32 → bt (τ 19 i) j = (decide (j = i) || (decide (j < n) && (via (eg t o u) n i j && via (eg t o u) n j i))))) ?_)
      · refine ok_for' (enc := fun m (τ : Mem) => (nI m, τ)) n (fun m τ => FR [18, 19] σ τ ∧ τ 18 = τ2 18 ∧ (∀ k, k < i → ∀ j, j < 32 → bt (τ 19 k) j = Cy (eg t o u) n k j) ∧ ∀ j, j < 32 → bt (τ 19 i) j = (decide (j = i) || (decide (j < m) && (via (eg t o u) n i j && via (eg t o u) n j i)))) (i0 := 0) (s0 := up2 τ 19 i (bitI i)) (Nat.zero_le _) ⟨FR_trans hf (FR_up2 _ (by decide) _ _), by rw [up2_row _ _ _ (by decide)]; exact h18, fun k hk j hj => ?_, fun j hj => ?_⟩ ?_ ?_
        · rw [up2_at, if_neg (by omega)]; exact hI k hk j hj
        · rw [up2_eq, bt_bitI (by omega) hj]; simp
        · intro m τ3 hm ⟨hf3, h183, hI3, hi3⟩
          dsimp only
          unfold fX0_findMembers_B123 fX0_findMembers_L172
          rw [(hNf hf3).2.1, if_neg (nI_ge hm (by omega)), chk_in (by omega) (by decide), nI_clamp (by omega), isInE _ (by omega), Option.bind_some]
          dsimp only
          rw [h183]
          have e1 : bt (τ2 18 i) m = via (eg t o u) n i m := hh2 i hi m (by omega)
          have e2 : bt (τ2 18 m) i = via (eg t o u) n m i := hh2 m hm i (by omega)
          have hd : ∀ j, decide (j < m + 1) = (decide (j < m) || decide (j = m)) := by
            intro j
            by_cases q : j < m
            · have : j < m + 1 := by omega
              simp [q, this]
            · by_cases q2 : j = m
              · simp [q2]
              · have : ¬ j < m + 1 := by omega
                simp [q, q2, this]
          have hno : (via (eg t o u) n i m && via (eg t o u) n m i) = false → ∀ j, j < 32 → bt (τ3 19 i) j = (decide (j = i) || (decide (j < m + 1) && (via (eg t o u) n i j && via (eg t o u) n j i))) := by
            intro hz j hj
            rw [hi3 j hj, hd j]
            by_cases q2 : j = m
            · subst q2; rw [hz]; simp
            · simp [q2]
          by_cases c1 : bt (τ2 18 i) m = true
          · rw [if_pos c1, if_neg (by decide), chk_in (by omega) (by decide), isInE _ (by omega), Option.bind_some]
            dsimp only
            rw [nI_clamp (by omega)]
            by_cases c2 : bt (τ2 18 m) i = true
            · rw [if_pos c2, if_neg (by decide), chk_in (by omega) (by decide), chk_in (by omega) (by decide), nI_1]
              refine ok_some ⟨_, rfl, FR_trans hf3 (FR_up2 _ (by decide) _ _), by rw [up2_row _ _ _ (by decide)]; exact h183, fun k hk j hj => ?_, fun j hj => ?_⟩
              · rw [up2_at, if_neg (by omega)]; exact hI3 k hk j hj
              · rw [up2_eq, b_or, hi3 j hj]
                show (_ || bt (bitI m) j) = _
                rw [bt_bitI (by omega) hj, hd j]
                by_cases q2 : j = m
                · subst q2; rw [← e1, ← e2, c1, c2]; simp
                · simp [q2]
            · rw [if_neg c2, if_pos rfl, nI_1]
              refine ok_some ⟨_, rfl, hf3, h183, hI3, hno ?_⟩
              rw [← e2]; simp only [Bool.not_eq_true] at c2; rw [c2, Bool.and_false]
          · rw [if_neg c1, if_pos rfl, nI_1]
            refine ok_some ⟨_, rfl, hf3, h183, hI3, hno ?_⟩
            rw [← e1]; simp only [Bool.not_eq_true] at c1; rw [c1, Bool.false_and]
        · intro τ3 ⟨hf3, h183, hI3, hi3⟩
          dsimp only
          unfold fX0_findMembers_B123
          rw [(hNf hf3).2.1, if_pos (Int32.le_refl _)]
          exact ok_some ⟨hf3, h183, hI3, hi3⟩
      · rintro τ3 ⟨hf3, h183, hI3, hi3⟩
        rw [nI_1]
        refine ok_some ⟨_, rfl, hf3, h183, fun k hk j hj => ?_⟩
        by_cases e : k = i
        · subst e
          rw [hi3 j hj]
          unfold Cy
          by_cases q : via (eg t o u) n k j = true
          · have := via_lt hE (Nat.le_refl n) hi q
            simp [this]
          · simp only [Bool.not_eq_true] at q; simp [q]
        · exact hI3 k (by omega) j hj
    · intro τ ⟨hf, h18, hI⟩
      dsimp only
      unfold fX0_findMembers_B101
      rw [(hNf hf).2.1, if_pos (Int32.le_refl _)]
      exact ok_some ⟨hf, h18, hI⟩
  rintro τ3 ⟨hf3, h183, hI3⟩
  exact ok_some ⟨hf3, fun k hk => ⟨by rw [h183]; exact hg2 k hk, b_all (hI3 k hk) (fun j hj => bt_cyv h30 hE hk hj)⟩⟩
