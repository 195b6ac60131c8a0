theorem M_laysHangs {w n : Nat} {t o u : Nat → Nat} {σ : Mem} (hW : WF w n t o u) (hN : NM n t o u σ) : ok (fX8_laysHangs σ) (fun τ => FR [5] σ τ ∧ ∀ k, k < n → τ 5 k = hgv (eg t o u) n k) := by
  have h30 := hN.1
  have hE := eg_E hW
  have hNf : ∀ {τ : Mem}, FR [5] σ τ → NM n t o u τ := fun hf => NM_FR hN hf (by decide) (by decide) (by decide) (by decide)
  unfold fX8_laysHangs
  refine ok_bind (ok_mono (?_ : ok _ (fun τ => FR [5] σ τ ∧ ∀ k, k < n → τ 5 k = dr t o u k)) ?_)
  · refine ok_for' (enc := fun i (τ : Mem) => (nI i, τ)) n (fun i τ => FR [5] σ τ ∧ ∀ k, k < i → τ 5 k = dr t o u k) (i0 := 0) (s0 := σ) (Nat.zero_le _) ⟨FR_refl _ _, fun k hk => absurd hk (Nat.not_lt_zero k)⟩ ?_ ?_
    · intro i τ hi ⟨hf, hI⟩
      dsimp only
      unfold fX8_laysHangs_B2
      rw [(hNf hf).2.1, if_neg (nI_ge hi (by omega)), M_direct hW (hNf hf) hi, Option.bind_some]
      dsimp only
      rw [chk_in (by omega) (by decide), nI_clamp (by omega), nI_1]
      refine ok_some ⟨_, rfl, FR_trans hf (FR_up2 _ (by decide) _ _), fun k hk => ?_⟩
      rw [up2_at]
      by_cases e : k = i
      · rw [if_pos e, e]
      · rw [if_neg e]; exact hI k (by omega)
    · intro τ ⟨hf, hI⟩
      dsimp only
      unfold fX8_laysHangs_B2
      rw [(hNf hf).2.1, if_pos (Int32.le_refl _)]
      exact ok_some ⟨hf, hI⟩
  rintro τ1 ⟨hf1, hd1⟩
  unfold fX8_laysHangs_L27 fX8_laysHangs_L107
  obtain ⟨lo, hlo⟩ : ∃ lo : Mem → Nat → Nat → Prop, lo = fun τ v k => ∀ j, j < 32 → via (eg t o u) v k j = true → bt (τ 5 k) j = true := ⟨_, rfl⟩
  obtain ⟨up, hup⟩ : ∃ up : Mem → Prop, up = fun τ => ∀ k j, k < n → j < 32 → bt (τ 5 k) j = true → via (eg t o u) n k j = true := ⟨_, rfl⟩
  refine ok_bind (ok_mono (?_ : ok _ (fun τ => FR [5] σ τ ∧ up τ ∧ ∀ k, k < n → lo τ n k)) ?_)
  · refine ok_for' (enc := fun r (τ : Mem) => (nI r, τ)) n (fun r τ => FR [5] σ τ ∧ up τ ∧ ∀ k, k < n → lo τ r k) (i0 := 0) (s0 := τ1) (Nat.zero_le _) ⟨hf1, ?_, ?_⟩ ?_ ?_
    · rw [hup]
      intro k j hk hj hb
      rw [hd1 k hk, bt_dr hW h30 hk hj] at hb
      exact via_up _ (Nat.zero_le n) (v := 0) hb
    · rw [hlo]
      intro k hk j hj hb
      rw [hd1 k hk, bt_dr hW h30 hk hj]; exact hb
    · intro r τ hr ⟨hf, hu, hI⟩
      dsimp only
      unfold fX8_laysHangs_B29 fX8_laysHangs_L101
      rw [(hNf hf).2.1, if_neg (nI_ge hr (by omega))]
      refine ok_bind (ok_mono (?_ : ok _ (fun τ => FR [5] σ τ ∧ up τ ∧ ∀ k, k < n → lo τ (r + 1) k)) ?_)
      · refine ok_for' (enc := fun k (τ : Mem) => (nI k, τ)) n (fun i τ => FR [5] σ τ ∧ up τ ∧ (∀ k, k < n → lo τ r k) ∧ ∀ k, k < i → lo τ (r + 1) k) (i0 := 0) (s0 := τ) (Nat.zero_le _) ⟨hf, hu, hI, fun k hk => absurd hk (Nat.not_lt_zero k)⟩ ?_ ?_
        · intro i τ2 hi ⟨hf2, hu2, hI2, hJ2⟩
          dsimp only
          unfold fX8_laysHangs_B39 fX8_laysHangs_L95
          rw [(hNf hf2).2.1, if_neg (nI_ge hi (by omega))]
          refine ok_bind (ok_mono (?_ : ok _ (fun τ => FR [5] σ τ ∧ up τ ∧ (∀ k, k < n → lo τ r k) ∧ (∀ k, k < i → lo τ (r + 1) k) ∧ ∀ j, j < 32 → r < n → via (eg t o u) r i r = true → via (eg t o u) r r j = true → bt (τ 5 i) j = true)) ?_)
          · refine ok_for' (enc := fun m (τ : Mem) => (nI m, τ)) n (fun m τ => FR [5] σ τ ∧ up τ ∧ (∀ k, k < n → lo τ r k) ∧ (∀ k, k < i → lo τ (r + 1) k) ∧ ∀ j, j < 32 → r < m → via (eg t o u) r i r = true → via (eg t o u) r r j = true → bt (τ 5 i) j = true) (i0 := 0) (s0 := τ2) (Nat.zero_le _) ⟨hf2, hu2, hI2, hJ2, fun j _ hr0 => absurd hr0 (Nat.not_lt_zero _)⟩ ?_ ?_
            · intro m τ3 hm ⟨hf3, hu3, hI3, hJ3, hK3⟩
              dsimp only
              unfold fX8_laysHangs_B49 fX8_laysHangs_L87
              rw [(hNf hf3).2.1, if_neg (nI_ge hm (by omega)), chk_in (by omega) (by decide), chk_in (by omega) (by decide), nI_clamp (by omega), hasE _ (by omega), Option.bind_some]
              dsimp only
              rw [hlo] at hI3 hJ3
              rw [hup] at hu3
              have mono : ∀ x : Int32, (∀ j, j < 32 → bt x j = true → via (eg t o u) n i j = true) → FR [5] σ (up2 τ3 5 i (τ3 5 i ||| x)) ∧ up (up2 τ3 5 i (τ3 5 i ||| x)) ∧ (∀ k, k < n → lo (up2 τ3 5 i (τ3 5 i ||| x)) r k) ∧ (∀ k, k < i → lo (up2 τ3 5 i (τ3 5 i ||| x)) (r + 1) k) := by
                intro x hx
                rw [hlo, hup]
                refine ⟨FR_trans hf3 (FR_up2 _ (by decide) _ _), fun k j hk hj hb => ?_, fun k hk j hj hb => ?_, fun k hk j hj hb => ?_⟩
                · rw [up2_at] at hb
                  by_cases e : k = i
                  · rw [if_pos e, b_or, Bool.or_eq_true] at hb
                    rw [e]
                    rcases hb with hb | hb
                    · exact hu3 i j hi hj hb
                    · exact hx j hj hb
                  · rw [if_neg e] at hb; exact hu3 k j hk hj hb
                · rw [up2_at]
                  by_cases e : k = i
                  · rw [if_pos e, b_or, Bool.or_eq_true]; exact Or.inl (hI3 i hi j hj (by rw [← e]; exact hb))
                  · rw [if_neg e]; exact hI3 k hk j hj hb
                · rw [up2_at, if_neg (by omega)]; exact hJ3 k hk j hj hb
              by_cases c : bt (τ3 5 i) m = true
              · rw [if_pos c, if_neg (by decide), chk_in (by omega) (by decide), chk_in (by omega) (by decide), nI_clamp (by omega), nI_1]
                have hx : ∀ j, j < 32 → bt (τ3 5 m) j = true → via (eg t o u) n i j = true := fun j hj hb => via_mid _ n i m j hm (hu3 i m hi (by omega) c) (hu3 m j hm hj hb)
                obtain ⟨q1, q2, q3, q4⟩ := mono (τ3 5 m) hx
                refine ok_some ⟨_, rfl, q1, q2, q3, q4, fun j hj hrm h1 h2 => ?_⟩
                rw [up2_eq, b_or, Bool.or_eq_true]
                rcases Nat.lt_or_ge r m with q | q
                · exact Or.inl (hK3 j hj q h1 h2)
                · have : r = m := by omega
                  subst this
                  exact Or.inr (hI3 r hm j hj h2)
              · rw [if_neg c, if_pos rfl, chk_in (by omega) (by decide), nI_1]
                obtain ⟨q1, q2, q3, q4⟩ := mono 0 (fun j _ hb => by rw [b_0] at hb; exact absurd hb (by decide))
                refine ok_some ⟨_, rfl, q1, q2, q3, q4, fun j hj hrm h1 h2 => ?_⟩
                rw [up2_eq, b_or, Bool.or_eq_true]
                rcases Nat.lt_or_ge r m with q | q
                · exact Or.inl (hK3 j hj q h1 h2)
                · have : r = m := by omega
                  subst this
                  exact absurd (hI3 i hi r (by omega) h1) c
            · intro τ3 ⟨hf3, hu3, hI3, hJ3, hK3⟩
              dsimp only
              unfold fX8_laysHangs_B49
              rw [(hNf hf3).2.1, if_pos (Int32.le_refl _)]
              exact ok_some ⟨hf3, hu3, hI3, hJ3, hK3⟩
          · rintro τ3 ⟨hf3, hu3, hI3, hJ3, hK3⟩
            rw [nI_1]
            refine ok_some ⟨_, rfl, hf3, hu3, hI3, fun k hk => ?_⟩
            by_cases e : k = i
            · subst e
              rw [hlo] at hI3 ⊢
              intro j hj hb
              simp only [via, Bool.or_eq_true, Bool.and_eq_true] at hb
              rcases hb with hb | hb
              · exact hI3 k hi j hj hb
              · exact hK3 j hj hr hb.1 hb.2
            · exact hJ3 k (by omega)
        · intro τ2 ⟨hf2, hu2, hI2, hJ2⟩
          dsimp only
          unfold fX8_laysHangs_B39
          rw [(hNf hf2).2.1, if_pos (Int32.le_refl _)]
          exact ok_some ⟨hf2, hu2, hJ2⟩
      · rintro τ2 ⟨hf2, hu2, hI2⟩
        rw [nI_1]
        exact ok_some ⟨_, rfl, hf2, hu2, hI2⟩
    · intro τ ⟨hf, hu, hI⟩
      dsimp only
      unfold fX8_laysHangs_B29
      rw [(hNf hf).2.1, if_pos (Int32.le_refl _)]
      exact ok_some ⟨hf, hu, hI⟩
  rintro τ ⟨hf, hu, hI⟩
  refine ok_some ⟨hf, fun k hk => b_ext (fun j hj => ?_)⟩
  rw [bt_hgv h30 hE hk hj]
  rw [hlo] at hI
  rw [hup] at hu
  have h1 := hI k hk j hj
  have h2 := hu k j hk hj
  cases hx : bt (τ 5 k) j
  · rw [hx] at h1
    cases hy : via (eg t o u) n k j
    · rfl
    · exact absurd (h1 hy) (by decide)
  · exact (h2 hx).symm
theorem M_cycleOf {w n : Nat} {t o u : Nat → Nat} {σ : Mem} (hW : WF w n t o u) (hN : NM n t o u σ) (hh : ∀ k, k < n → σ 5 k = hgv (eg t o u) n k) {i : Nat} (hi : i < n) : fX8_cycleOf (nI i) σ = some (cyv (eg t o u) n i, σ) := by
  have h30 := hN.1
  have hE := eg_E hW
  have key : ok (loop (fun a => fX8_cycleOf_B6 (nI i) a.1 a.2.1 a.2.2) (bitI i, 0, σ)) (fun b => b = (cyv (eg t o u) n i, σ)) := by
    refine ok_for' (enc := fun m (x : Int32) => (x, nI m, σ)) n (fun m x => ∀ j, j < 32 → bt x j = (decide (j = i) || (decide (j < m) && (via (eg t o u) n i j && via (eg t o u) n j i)))) (i0 := 0) (s0 := bitI i) (Nat.zero_le _) (fun j hj => by rw [bt_bitI (by omega) hj]; simp) ?_ ?_
    · intro m x hm hI
      dsimp only
      unfold fX8_cycleOf_B6 fX8_cycleOf_L47 fX8_cycleOf_L48
      have e1 : bt (σ 5 i) m = via (eg t o u) n i m := by rw [hh i hi, bt_hgv h30 hE hi (by omega)]
      have e2 : bt (σ 5 m) i = via (eg t o u) n m i := by rw [hh m hm, bt_hgv h30 hE hm (by omega)]
      have hd : ∀ j, decide (j < m + 1) = (decide (j < m) || decide (j = m)) := by
        intro j
        by_cases q : j < m
        · have : j < m + 1 := by omega
          simp [q, this]
        · by_cases q2 : j = m
          · simp [q2]
          · have : ¬ j < m + 1 := by omega
            simp [q, q2, this]
      have hno : (via (eg t o u) n i m && via (eg t o u) n m i) = false → ∀ j, j < 32 → bt (x ||| 0) j = (decide (j = i) || (decide (j < m + 1) && (via (eg t o u) n i j && via (eg t o u) n j i))) := by
        intro hz j hj
        rw [b_or, b_0, Bool.or_false, hI j hj, hd j]
        by_cases q2 : j = m
        · subst q2; rw [hz]; simp
        · simp [q2]
      rw [hN.2.1, if_neg (nI_ge hm (by omega)), chk_in (by omega) (by decide), nI_clamp (by omega), hasE _ (by omega), Option.bind_some]
      dsimp only
      by_cases c1 : bt (σ 5 i) m = true
      · rw [if_pos c1, if_neg (by decide), chk_in (by omega) (by decide), nI_clamp (by omega), hasE _ (by omega), Option.bind_some]
        dsimp only
        by_cases c2 : bt (σ 5 m) i = true
        · rw [if_pos c2, if_neg (by decide), nI_1]
          refine ok_some ⟨_, rfl, fun j hj => ?_⟩
          rw [b_or, hI j hj]
          show (_ || bt (bitI m) j) = _
          rw [bt_bitI (by omega) hj, hd j]
          by_cases q2 : j = m
          · subst q2; rw [← e1, ← e2, c1, c2]; simp
          · simp [q2]
        · rw [if_neg c2, if_pos rfl, nI_1]
          refine ok_some ⟨_, rfl, hno ?_⟩
          rw [← e2]; simp only [Bool.not_eq_true] at c2; rw [c2, Bool.and_false]
      · rw [if_neg c1, if_pos rfl, nI_1]
        refine ok_some ⟨_, rfl, hno ?_⟩
        rw [← e1]; simp only [Bool.not_eq_true] at c1; rw [c1, Bool.false_and]
    · intro x hI
      dsimp only
      unfold fX8_cycleOf_B6
      rw [hN.2.1, if_pos (Int32.le_refl _)]
      have ex : x = cyv (eg t o u) n i := b_ext (fun j hj => by
        rw [hI j hj, bt_cyv h30 hE hi hj]
        unfold Cy
        by_cases q : via (eg t o u) n i j = true
        · have := via_lt hE (Nat.le_refl n) hi q
          simp [this]
        · simp only [Bool.not_eq_true] at q; simp [q])
      exact ok_some (by rw [ex]; rfl)
  obtain ⟨b, hb, rfl⟩ := key
  unfold fX8_cycleOf fX8_cycleOf_L56
  show (loop _ (bitI i, 0, σ)).bind _ = _
  rw [hb, Option.bind_some]
