theorem nI_min {a b : Nat} (ha : a < 2 ^ 31) (hb : b < 2 ^ 31) : (if nI b < nI a then nI b else nI a) = nI (min a b) := by
  by_cases c : b < a
  · rw [if_pos (nI_lt c ha), Nat.min_eq_right (by omega)]
  · rw [if_neg (nI_nlt (by omega) hb), Nat.min_eq_left (by omega)]
theorem XS_set {w s k : Nat} {C C' : Nat → Nat → Nat} {σ τ : Mem} (hX : XS w s C σ τ) (hs : s < 31) (hk : k < 4) (h1 : OkP w (C' k)) (h2 : ∀ c, c < 4 → c ≠ k → C' c = C c) : XS w s C' σ (pset τ (4 * s + k) (C' k)) := by
  refine ⟨PI_pset hX.1 (by omega), fun c hc => ?_, FR_trans hX.2.2.1 (FR_psz _ _ _ _), fun q b hq hp => px_pset_ne (hX.2.2.2 q b hq hp) (by omega)⟩
  by_cases e : c = k
  · subst e; exact px_pset _ _ h1
  · rw [h2 c hc e]; exact px_pset_ne (hX.2.1 c hc) (by omega)
theorem XW_psz {w s k z : Nat} {c : Nat → Nat} {σ τ : Mem} (hX : XW w s σ τ) (hs : s < 31) (hk : k < 4) (hg : gz c z) : XW w s σ (psz τ (4 * s + k) c z) :=
  ⟨PI_psz hX.1 (by omega) hg.1 hg.2, FR_trans hX.2.1 (FR_psz _ _ _ _), fun q b hq hp => px_psz_ne (hX.2.2 q b hq hp) (by omega)⟩
theorem mI_sm {w n : Nat} (h : 4 ≤ w ∧ w ≤ 16) (hn : n < 16) : mI w (nI n) = n := by
  rw [mI_nI h.2, Nat.mod_eq_of_lt]
  exact Nat.lt_of_lt_of_le hn (show 16 ≤ 2 ^ w from Nat.pow_le_pow_right (n := 2) (by decide) h.1)
theorem cf_hi0 {i j : Nat} (h : min i j = 0) : cf i j (max i j) = 1 := by
  unfold cf; rw [if_pos rfl, if_neg (by omega)]
theorem cf_hi1 {i j : Nat} (h : 0 < min i j) : cf i j (max i j) = max i j := by
  unfold cf; rw [if_pos rfl, if_pos h]
theorem cf_hi2 {i j : Nat} (h : 0 < min i j) : cf i j (max i j + 1) = max i j + 1 := by
  unfold cf; rw [if_neg (by omega), if_pos ⟨rfl, h⟩]
theorem cf_no {i j k : Nat} (h1 : k ≠ max i j) (h2 : min i j = 0 ∨ k ≠ max i j + 1) : cf i j k = 0 := by
  unfold cf; rw [if_neg h1, if_neg (by omega)]
theorem X_pstep {w : Nat} {σ τ : Mem} {s s1 s2 : Nat} {A B C : Nat → Nat → Nat} (hX : XS w s C σ τ) (hs : s < 31) (hs1 : s1 < 31) (hs2 : s2 < 31) (n1 : s1 ≠ s) (n2 : s2 ≠ s) (fA : fx w σ s1 A) (fB : fx w σ s2 B) (hC : ∀ k, OkP w (C k)) {i j dA dB : Nat} (hij : i + j ≤ 3) (hj : j ≤ dB) (hd : dB ≤ 3) :
    ok (fX1_putProduct_B43 (nI s) (nI s1) (nI s2) (nI dA) (nI dB) (nI i) (nI j) τ) (fun r => (okM (A i) (B j) ∧ ∃ τ', r = .inl (nI (j + 1), τ') ∧ XS w s (mstep w A B i j C) σ τ') ∨ (¬ okM (A i) (B j) ∧ ∃ τ', r = .inr (.inr (0, τ')) ∧ XW w s σ τ')) := by
  have hw := hX.1.1.1
  have pA : px w τ (4 * s1 + i) (A i) := XS_fx hX n1 fA i (by omega)
  have pB : px w τ (4 * s2 + j) (B j) := XS_fx hX n2 fB j (by omega)
  have pC : px w τ (4 * s + max i j) (C (max i j)) := hX.2.1 _ (by omega)
  unfold fX1_putProduct_B43 fX1_putProduct_L82 fX1_putProduct_L113 fX1_putProduct_L160
  rw [if_neg (nI_nlt hj (by omega))]
  simp (disch := omega) only [nI_max, nI_min, ix4]
  by_cases hb : min i j = 0
  · rw [if_pos (show nI (min i j) ≤ 0 from nI_le (b := 0) (by omega) (by decide)), if_pos trivial]
    refine ok_bind (ok_mono (X_addProduct hX.1 (by omega) (by omega) (by omega) (by omega) (by omega) pC pA pB 1) ?_)
    rintro o (⟨hM, rfl⟩ | ⟨hM, c', z, hg, rfl⟩)
    · dsimp only
      rw [if_neg (by decide), if_pos trivial, nI_1]
      refine ok_some (Or.inl ⟨hM, _, rfl, ?_⟩)
      have e : mac w (C (max i j)) (mI w 1) (A i) (B j) = mstep w A B i j C (max i j) := by
        unfold mstep; rw [cf_hi0 hb, mI_1 hw]
      rw [e]
      exact XS_set hX hs (by omega) (OkP_mstep hC hM _) (fun c hc hne => mac_0 (hC c) (Or.inl (cf_no hne (Or.inl hb))))
    · dsimp only
      rw [if_pos rfl]
      exact ok_some (Or.inr ⟨hM, _, rfl, XW_psz (XS_W hX) hs (by omega) hg⟩)
  · have hb' : 0 < min i j := by omega
    rw [if_neg (nI_nle hb' (by omega)), if_neg (by decide)]
    refine ok_bind (ok_mono (X_addProduct hX.1 (by omega) (by omega) (by omega) (by omega) (by omega) pC pA pB (nI (max i j))) ?_)
    rintro o (⟨hM, rfl⟩ | ⟨hM, c', z, hg, rfl⟩)
    · dsimp only
      rw [if_neg (by decide), if_neg (by decide), if_neg (show ¬ (3 : Int32) ≤ nI (max i j) from nI_ge (b := 3) (by omega) (by decide)), nI_1, nI_1, nI_1]
      obtain ⟨C1, hC1⟩ : ∃ C1 : Nat → Nat → Nat, C1 = fun c => if c = max i j then mac w (C (max i j)) (max i j) (A i) (B j) else C c := ⟨_, rfl⟩
      have c1h : C1 (max i j) = mac w (C (max i j)) (max i j) (A i) (B j) := by rw [hC1]; exact if_pos rfl
      have c1n : ∀ c, c ≠ max i j → C1 c = C c := fun c hc => by rw [hC1]; exact if_neg hc
      have hC1k : ∀ k, OkP w (C1 k) := by
        intro k
        by_cases e : k = max i j
        · rw [e, c1h]; exact OkP_mac (hC _) hM _
        · rw [c1n k e]; exact hC k
      have hX1 : XS w s C1 σ (pset τ (4 * s + max i j) (C1 (max i j))) := XS_set hX hs (by omega) (hC1k _) (fun c _ hne => c1n c hne)
      have e1 : mac w (C (max i j)) (mI w (nI (max i j))) (A i) (B j) = C1 (max i j) := by rw [c1h, mI_sm hw (by omega)]
      rw [e1]
      have pA1 : px w (pset τ (4 * s + max i j) (C1 (max i j))) (4 * s1 + i) (A i) := XS_fx hX1 n1 fA i (by omega)
      have pB1 : px w (pset τ (4 * s + max i j) (C1 (max i j))) (4 * s2 + j) (B j) := XS_fx hX1 n2 fB j (by omega)
      have pC1 : px w (pset τ (4 * s + max i j) (C1 (max i j))) (4 * s + max i j + 1) (C1 (max i j + 1)) := hX1.2.1 (max i j + 1) (by omega)
      refine ok_bind (ok_mono (X_addProduct hX1.1 (by omega) (by omega) (by omega) (by omega) (by omega) pC1 pA1 pB1 (nI (max i j + 1))) ?_)
      rintro o (⟨hM2, rfl⟩ | ⟨hM2, -⟩)
      · refine ok_some (Or.inl ⟨hM, _, rfl, ?_⟩)
        have e : mac w (C1 (max i j + 1)) (mI w (nI (max i j + 1))) (A i) (B j) = mstep w A B i j C (max i j + 1) := by
          unfold mstep; rw [cf_hi2 hb', mI_sm hw (by omega), c1n _ (by omega)]
        rw [e, Nat.add_assoc]
        refine XS_set hX1 hs (by omega) (OkP_mstep hC hM _) (fun c hc hne => ?_)
        by_cases e2 : c = max i j
        · rw [e2, c1h]; unfold mstep; rw [cf_hi1 hb']
        · rw [c1n c e2]
          exact mac_0 (hC c) (Or.inl (cf_no e2 (Or.inr hne)))
      · exact absurd hM hM2
    · dsimp only
      rw [if_pos rfl]
      exact ok_some (Or.inr ⟨hM, _, rfl, XW_psz (XS_W hX) hs (by omega) hg⟩)
theorem XS_refl {w s : Nat} {A : Nat → Nat → Nat} {σ : Mem} (h : PI w σ) (hA : fx w σ s A) : XS w s A σ σ := ⟨h, hA, FR_refl _ _, fun _ _ _ hp => hp⟩
theorem X1_putProduct {w : Nat} {σ : Mem} {s s1 s2 : Nat} {A B : Nat → Nat → Nat} (h : PI w σ) (hs : s < 31) (hs1 : s1 < 31) (hs2 : s2 < 31) (n1 : s1 ≠ s) (n2 : s2 ≠ s) (hA : OkF w A) (hB : OkF w B) (fA : fx w σ s1 A) (fB : fx w σ s2 B) :
    ok (fX1_putProduct (nI s) (nI s1) (nI s2) σ) (fun o => (okF A B ∧ o.1 = 1 ∧ XS w s (fMul w A B) σ o.2) ∨ (¬ okF A B ∧ o.1 = 0 ∧ XW w s σ o.2)) := by
  have h0 := XS_psets (σ := σ) h hs (OkF_0 w).1
  have dA := fdeg_le A
  have dB := fdeg_le B
  unfold fX1_putProduct fX1_putProduct_L172
  rw [X1_clear h hs, Option.bind_some, X1_degree hs1 (XS_fx h0 n1 fA), Option.bind_some]
  dsimp only
  rw [X1_degree hs2 (XS_fx h0 n2 fB), Option.bind_some]
  dsimp only
  rw [nI_add]
  by_cases hd : fdeg A + fdeg B ≤ 3
  · rw [if_pos (show nI _ ≤ 3 from nI_le (b := 3) hd (by decide))]
    refine ok_bind (ok_mono (?_ : ok _ (fun r => (okF A B ∧ ∃ τ, r = .inl τ ∧ XS w s (fMul w A B) σ τ) ∨ (¬ okF A B ∧ ∃ τ, r = .inr (0, τ) ∧ XW w s σ τ))) ?_)
    · refine ok_for' (enc := fun i τ => (nI i, τ)) (fdeg A + 1) (fun i τ => XS w s (mall w A B i) σ τ ∧ (∀ k, OkP w (mall w A B i k)) ∧ ∀ i' j, i' < i → j < 4 → okM (A i') (B j)) (i0 := 0) (s0 := psets σ s f0 4) (Nat.zero_le _) ⟨h0, (OkF_0 w).1, fun i' j hi' => absurd hi' (Nat.not_lt_zero _)⟩ ?_ ?_
      · intro i τ hi ⟨hX, hk, hI⟩
        dsimp only
        unfold fX1_putProduct_B33 fX1_putProduct_L166
        rw [if_neg (nI_nlt (by omega) (by omega))]
        refine ok_bind (ok_mono (?_ : ok _ (fun r => (∃ τ, r = .inl τ ∧ XS w s (mrow w A B i (fdeg B + 1) (mall w A B i)) σ τ ∧ (∀ k, OkP w (mrow w A B i (fdeg B + 1) (mall w A B i) k)) ∧ ∀ j, j < fdeg B + 1 → okM (A i) (B j)) ∨ (∃ τ, r = .inr (0, τ) ∧ XW w s σ τ ∧ ∃ j, j < 4 ∧ ¬ okM (A i) (B j)))) ?_)
        · refine ok_for' (enc := fun j τ => (nI j, τ)) (fdeg B + 1) (fun j τ => XS w s (mrow w A B i j (mall w A B i)) σ τ ∧ (∀ k, OkP w (mrow w A B i j (mall w A B i) k)) ∧ ∀ j', j' < j → okM (A i) (B j')) (i0 := 0) (s0 := τ) (Nat.zero_le _) ⟨hX, hk, fun j' hj' => absurd hj' (Nat.not_lt_zero _)⟩ ?_ ?_
          · intro j τ2 hj ⟨hX2, hk2, hI2⟩
            dsimp only
            refine ok_mono (X_pstep hX2 hs hs1 hs2 n1 n2 fA fB hk2 (i := i) (j := j) (by omega) (by omega) dB) ?_
            rintro r (⟨hM, τ', rfl, hX'⟩ | ⟨hM, τ', rfl, hX'⟩)
            · refine ⟨τ', rfl, hX', OkP_mstep hk2 hM, fun j' hj' => ?_⟩
              rcases Nat.lt_or_ge j' j with h1 | h1
              · exact hI2 j' h1
              · have : j' = j := by omega
                rw [this]; exact hM
            · exact Or.inr ⟨τ', rfl, hX', j, by omega, hM⟩
          · intro τ2 ⟨hX2, hk2, hI2⟩
            dsimp only
            unfold fX1_putProduct_B43
            rw [if_pos (nI_lt (by omega) (by omega))]
            exact ok_some (Or.inl ⟨τ2, rfl, hX2, hk2, hI2⟩)
        · rintro r (⟨τ', rfl, hX', hk', hI'⟩ | ⟨τ', rfl, hX', j, hj, hM⟩)
          · have hall : ∀ j, j < 4 → okM (A i) (B j) := by
              intro j hj
              rcases Nat.lt_or_ge j (fdeg B + 1) with h1 | h1
              · exact hI' j h1
              · exact okM_0 (Or.inr (fdeg_beh hB (by omega)))
            have he := mrow_end (w := w) (A := A) (B := B) (C := mall w A B i) (i := i) hk hall (d := fdeg B + 1) (fun j hj _ => Or.inr (fdeg_beh hB (by omega))) (4 - (fdeg B + 1)) (by omega)
            rw [show fdeg B + 1 + (4 - (fdeg B + 1)) = 4 by omega] at he
            rw [← he] at hX' hk'
            refine ok_some ⟨τ', by rw [nI_1], hX', hk', fun i' j hi' hj => ?_⟩
            rcases Nat.lt_or_ge i' i with h1 | h1
            · exact hI i' j h1 hj
            · have : i' = i := by omega
              rw [this]; exact hall j hj
          · exact ok_some (Or.inr ⟨fun hF => hM (hF.2 i j (by omega) hj), τ', rfl, hX'⟩)
      · intro τ ⟨hX, hk, hI⟩
        dsimp only
        unfold fX1_putProduct_B33
        rw [if_pos (nI_lt (by omega) (by omega))]
        have hall : ∀ i j, i < 4 → j < 4 → okM (A i) (B j) := by
          intro i j hi hj
          rcases Nat.lt_or_ge i (fdeg A + 1) with h1 | h1
          · exact hI i j h1 hj
          · exact okM_0 (Or.inl (fdeg_beh hA (by omega)))
        have he := mall_end (w := w) (A := A) (B := B) hall (d := fdeg A + 1) (fun i hi _ => fdeg_beh hA (by omega)) (4 - (fdeg A + 1)) (by omega)
        rw [show fdeg A + 1 + (4 - (fdeg A + 1)) = 4 by omega] at he
        rw [← he] at hX
        exact ok_some (Or.inl ⟨⟨hd, hall⟩, τ, rfl, hX⟩)
    · rintro r (⟨hF, τ, rfl, hX⟩ | ⟨hF, τ, rfl, hX⟩)
      · exact ok_some (Or.inl ⟨hF, rfl, hX⟩)
      · exact ok_some (Or.inr ⟨hF, rfl, hX⟩)
  · rw [if_neg (show ¬ nI _ ≤ 3 from nI_ge (a := 3) (by omega) (by omega))]
    exact ok_some (Or.inr ⟨fun hF => hd hF.1, rfl, XS_W h0⟩)
