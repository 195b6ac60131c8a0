/-! the reduced run, class -/
theorem X_step1 {w n : Nat} {t o u g : Nat → Nat} {S : Int32} {σ : Mem} (hW : WF w n t o u) (hn : n ≤ 30) (hC : XC w n t o u σ) (hX : XP w n t o u S σ) (h3 : σ 3 0 = nI (2 ^ w - 1)) {T e : Nat} (he : 0 < e) (he3 : e ≤ 3) (h30 : ∀ c, c < (cll w n t o u S).1 → σ 30 c = nI (ev w g (cfm (Rs w n t o u).2.1 (cll w n t o u S) c 1))) (h29 : ∀ c, c < (cll w n t o u S).1 → σ 29 c = nI (cfv w g (if e < fdeg (cfm (Rs w n t o u).2.1 (cll w n t o u S) c) then T + 1 else T) (cfm (Rs w n t o u).2.1 (cll w n t o u S) c))) :
    ok (loop (fun a => fX6_stepCells_B8 (nI e) a.1 a.2) (0, σ)) (fun τ => FR [29] σ τ ∧ ∀ c, c < (cll w n t o u S).1 → τ 29 c = nI (cfv w g (if e - 1 < fdeg (cfm (Rs w n t o u).2.1 (cll w n t o u S) c) then T + 1 else T) (cfm (Rs w n t o u).2.1 (cll w n t o u S) c))) := by
  have hw := hC.1.1.1
  have hCI : CI (pcl w n t o u S) (Rs w n t o u).2.1 n (cll w n t o u S) := CI_N n (Nat.le_refl n)
  have h90 : (cll w n t o u S).1 ≤ 3 * n := clN_le (pcl w n t o u S) (Rs w n t o u).2.1 n
  obtain ⟨s, hs⟩ : ∃ s, s = cll w n t o u S := ⟨_, rfl⟩
  obtain ⟨F, hF⟩ : ∃ F, F = (Rs w n t o u).2.1 := ⟨_, rfl⟩
  have hdg : ∀ τ, FR [29] σ τ → ∀ c, c < s.1 → fX4_degree (nI c) τ = some (nI (fdeg (cfm F s c)), τ) := by
    intro τ f c hc
    rw [hs, hF]
    exact X_cdeg hW hn (XC_FR hC f (by decide)) (XP_FR hX f (by decide)) (by rw [← hs]; exact hc)
  have hok : ∀ c, c < s.1 → OkF w (cfm F s c) ∧ 0 < fdeg (cfm F s c) := by
    intro c hc
    rw [hs] at hc ⊢
    rw [hF]
    have := cfm_ok hW hn hw.1 hCI hc
    exact ⟨this.1, this.2.2⟩
  have hgd : ∀ c, c < s.1 → gd F s (σ 24) c := by
    intro c hc
    rw [hs, hF]
    exact hX.2.2.1 c (by rw [← hs]; exact hc)
  have h44 : σ 4 4 = nI s.1 := by rw [hs]; exact hX.2.1.1
  rw [← hs] at h30 h29 h90 ⊢
  rw [← hF] at h30 h29 ⊢
  refine ok_for' (enc := fun i (τ : Mem) => (nI i, τ)) s.1 (fun i τ => FR [29] σ τ ∧ ∀ c, c < s.1 → τ 29 c = nI (cfv w g (if e < fdeg (cfm F s c) ∨ (fdeg (cfm F s c) = e ∧ c < i) then T + 1 else T) (cfm F s c))) (i0 := 0) (s0 := σ) (Nat.zero_le _) ⟨FR_refl _ _, fun c hc => ?_⟩ ?_ ?_
  · rw [h29 c hc]
    by_cases c1 : e < fdeg (cfm F s c)
    · rw [if_pos c1, if_pos (Or.inl c1)]
    · rw [if_neg c1, if_neg (by omega)]
  · rintro i τ hi ⟨f, q⟩
    have hd3 := fdeg_le (cfm F s i)
    dsimp only
    unfold fX6_stepCells_B8 fX6_stepCells_L60 fX6_stepCells_L85
    rw [f 4 (by decide), h44, if_neg (nI_ge hi (by omega)), hdg τ f i hi, Option.bind_some, nI_1]
    dsimp only
    by_cases cd' : fdeg (cfm F s i) = e
    · refine ok_pos (by rw [cd']) ?_
      have fin : ∀ v, v = cfv w g (T + 1) (cfm F s i) → ok (some (Sum.inl (nI (i + 1), up2 τ 29 i (nI v))) : Option ((Int32 × Mem) ⊕ Mem)) (Sum.elim (fun a' => ∃ s', a' = (nI (i + 1), s') ∧ FR [29] σ s' ∧ ∀ c, c < s.1 → s' 29 c = nI (cfv w g (if e < fdeg (cfm F s c) ∨ (fdeg (cfm F s c) = e ∧ c < i + 1) then T + 1 else T) (cfm F s c))) (fun τ => FR [29] σ τ ∧ ∀ c, c < s.1 → τ 29 c = nI (cfv w g (if e - 1 < fdeg (cfm F s c) then T + 1 else T) (cfm F s c)))) := by
        intro v hv
        refine ok_some ⟨_, rfl, FR_trans f (FR_up2 _ (by decide) _ _), fun c hc => ?_⟩
        rw [up2_at]
        by_cases cc : c = i
        · rw [if_pos cc, cc, if_pos (Or.inr ⟨cd', by omega⟩), hv]
        · rw [if_neg cc, q c hc]
          by_cases c2 : e < fdeg (cfm F s c) ∨ (fdeg (cfm F s c) = e ∧ c < i)
          · rw [if_pos c2, if_pos (by omega)]
          · rw [if_neg c2, if_neg (by omega)]
      have qi := q i hi
      rw [if_neg (by omega)] at qi
      rw [chk_in (by omega) (by decide), nI_clamp (by omega)]
      have f24 : τ 24 = σ 24 := f 24 (by decide)
      by_cases c1 : e = 1
      · have g1 := (hgd i hi).1 (by omega)
        refine ok_pos (by rw [f24, g1]; decide) ?_
        rw [chk_in (by omega) (by decide), chk_in (by omega) (by decide), chk_in (by omega) (by decide), qi, f 30 (by decide), h30 i hi, f 3 (by decide), h3, i_mask, mI_add hw.2, mI_lt16 hw.2 (cfv_lt _ _ _ _), mI_lt16 hw.2 (ev_lt _ _ _)]
        refine fin _ ?_
        unfold cfv
        rw [if_pos (by omega)]
        cases T <;> rfl
      · obtain ⟨c', hc', g2, g3⟩ := (hgd i hi).2 (by omega)
        refine ok_neg (by rw [f24, g2]; exact nI_pos (by omega)) ?_
        have hd' : fdeg (cfm F s c') = e - 1 := by rw [g3, fdeg_sh (hok i hi).1 (by omega), cd']
        have qc := q c' hc'
        rw [if_neg (by omega), g3] at qc
        rw [f24, g2, chk_in (by omega) (by decide), chk_in (by omega) (by decide), chk_in (by omega) (by decide), nI_clamp (by omega), qi, qc, f 3 (by decide), h3, i_mask, mI_add hw.2, mI_lt16 hw.2 (cfv_lt _ _ _ _), mI_lt16 hw.2 (cfv_lt _ _ _ _)]
        refine fin _ ?_
        show _ = (cfv w g T (cfm F s i) + (if fdeg (cfm F s i) = 1 then ev w g (cfm F s i 1) else cfv w g T (fSh (cfm F s i) 1))) % 2 ^ w
        rw [if_neg (by omega)]
    · refine ok_neg (fun h => cd' ((nI_eq (by omega) (by omega)).mp h)) ?_
      refine ok_some ⟨τ, rfl, f, fun c hc => ?_⟩
      rw [q c hc]
      by_cases c2 : e < fdeg (cfm F s c) ∨ (fdeg (cfm F s c) = e ∧ c < i)
      · rw [if_pos c2, if_pos (by omega)]
      · rw [if_neg c2, if_neg (fun h => by
          rcases h with h | ⟨h, h'⟩
          · exact c2 (Or.inl h)
          · by_cases cc : c = i
            · subst cc; exact cd' h
            · exact c2 (Or.inr ⟨h, by omega⟩))]
  · rintro τ ⟨f, q⟩
    dsimp only
    unfold fX6_stepCells_B8
    rw [f 4 (by decide), h44, if_pos (Int32.le_refl _)]
    refine ok_some ⟨f, fun c hc => ?_⟩
    rw [q c hc]
    by_cases c1 : e - 1 < fdeg (cfm F s c)
    · rw [if_pos c1, if_pos (by omega)]
    · rw [if_neg c1, if_neg (by omega)]
theorem X_stepCells {w n : Nat} {t o u g : Nat → Nat} {S : Int32} {σ : Mem} (hW : WF w n t o u) (hn : n ≤ 30) (hC : XC w n t o u σ) (hX : XP w n t o u S σ) (h3 : σ 3 0 = nI (2 ^ w - 1)) {T : Nat} (h30 : ∀ c, c < (cll w n t o u S).1 → σ 30 c = nI (ev w g (cfm (Rs w n t o u).2.1 (cll w n t o u S) c 1))) (h29 : ∀ c, c < (cll w n t o u S).1 → σ 29 c = nI (cfv w g T (cfm (Rs w n t o u).2.1 (cll w n t o u S) c))) :
    ok (fX6_stepCells σ) (fun τ => FR [29] σ τ ∧ ∀ c, c < (cll w n t o u S).1 → τ 29 c = nI (cfv w g (T + 1) (cfm (Rs w n t o u).2.1 (cll w n t o u S) c))) := by
  have hw := hC.1.1.1
  have hCI : CI (pcl w n t o u S) (Rs w n t o u).2.1 n (cll w n t o u S) := CI_N n (Nat.le_refl n)
  have hpos : ∀ c, c < (cll w n t o u S).1 → 0 < fdeg (cfm (Rs w n t o u).2.1 (cll w n t o u S) c) := fun c hc => (cfm_ok hW hn hw.1 hCI hc).2.2
  have key : ok (loop (fun a => fX6_stepCells_B2 a.1 a.2) (3, σ)) (fun τ => FR [29] σ τ ∧ ∀ c, c < (cll w n t o u S).1 → τ 29 c = nI (cfv w g (T + 1) (cfm (Rs w n t o u).2.1 (cll w n t o u S) c))) := by
    refine ok_for' (enc := fun j (τ : Mem) => (nI (3 - j), τ)) 3 (fun j τ => FR [29] σ τ ∧ ∀ c, c < (cll w n t o u S).1 → τ 29 c = nI (cfv w g (if 3 - j < fdeg (cfm (Rs w n t o u).2.1 (cll w n t o u S) c) then T + 1 else T) (cfm (Rs w n t o u).2.1 (cll w n t o u S) c))) (i0 := 0) (s0 := σ) (Nat.zero_le _) ⟨FR_refl _ _, fun c hc => ?_⟩ ?_ ?_
    · rw [h29 c hc, if_neg (by have := fdeg_le (cfm (Rs w n t o u).2.1 (cll w n t o u S) c); omega)]
    · rintro j τ hj ⟨f, q⟩
      dsimp only
      unfold fX6_stepCells_B2 fX6_stepCells_L91
      refine ok_neg (show ¬ nI (3 - j) ≤ nI 0 from nI_ge (by omega) (by omega)) ?_
      refine ok_bind (ok_mono (X_step1 (g := g) (T := T) (e := 3 - j) hW hn (XC_FR hC f (by decide)) (XP_FR hX f (by decide)) (by rw [f 3 (by decide)]; exact h3) (by omega) (by omega) (fun c hc => by rw [f 30 (by decide)]; exact h30 c hc) q) ?_)
      rintro ρ ⟨f2, q2⟩
      have e1 : nI (3 - j) + (-1) = nI (3 - (j + 1)) := by
        rcases (show j = 0 ∨ j = 1 ∨ j = 2 by omega) with rfl | rfl | rfl <;> decide
      rw [e1]
      exact ok_some ⟨ρ, rfl, FR_trans f f2, fun c hc => by rw [q2 c hc, show 3 - j - 1 = 3 - (j + 1) by omega]⟩
    · rintro τ ⟨f, q⟩
      dsimp only
      unfold fX6_stepCells_B2
      refine ok_pos (show nI (3 - 3) ≤ nI 0 from Int32.le_refl _) ?_
      exact ok_some ⟨f, fun c hc => by rw [q c hc, if_pos (hpos c hc)]⟩
  unfold fX6_stepCells fX6_stepCells_L97
  refine ok_bind (ok_mono key ?_)
  intro τ h
  exact ok_some h
theorem X_isReckoned {w n : Nat} {t o u : Nat → Nat} {σ : Mem} (hW : WF w n t o u) (hn : n ≤ 30) (hC : XC w n t o u σ) {k : Nat} (hk : k < n) : fX6_isReckoned (nI k) σ = some (if bt (σ 4 3) k = true ∧ (Rs w n t o u).2.2 k ≠ 0 then 1 else 0, σ) := by
  have k4 := K_le (w := w) hW hn hk
  have e20 := (hC.2.2 k hk).2.1
  unfold fX6_isReckoned fX6_isReckoned_L30 fX6_isReckoned_L31
  rw [isInE _ (by omega), Option.bind_some]
  dsimp only
  by_cases cb : bt (σ 4 3) k = true
  · rw [if_pos cb, if_neg (by decide), chk_in (by omega) (by decide), nI_clamp (by omega)]
    by_cases c0 : (Rs w n t o u).2.2 k = 0
    · rw [if_pos (show σ 20 k = 0 by rw [e20, c0]; rfl), if_neg (fun e => e.2 c0)]; rfl
    · rw [if_neg (show ¬ σ 20 k = 0 by rw [e20]; exact fun e => c0 ((nI_eq (b := 0) (by omega) (by decide)).mp e)), if_pos ⟨cb, c0⟩]; rfl
  · rw [if_neg cb, if_pos rfl, if_neg (fun e => cb e.1)]; rfl
theorem X_reckonNeeded {w n : Nat} {t o u g : Nat → Nat} {S : Int32} {σ : Mem} (hW : WF w n t o u) (hN : NX n t o u σ) (hC : XC w n t o u σ) (hX : XP w n t o u S σ) (hS : lowb n S) (h3 : σ 3 0 = nI (2 ^ w - 1)) (hg : ∀ k, g k < 2 ^ w) {T : Nat} (h29 : ∀ c, c < (cll w n t o u S).1 → σ 29 c = nI (cfv w g T (cfm (Rs w n t o u).2.1 (cll w n t o u S) c)))
    (hV : ∀ k, k < n → bt (ndd w n t o u S) k = true → (t k = 5 ∨ (Rs w n t o u).2.2 k = 0) → σ 27 k = nI (vrd w n t o u g T k)) : ok (fX6_reckonNeeded σ) (fun τ => FR [27] σ τ ∧ ∀ k, k < n → bt (ndd w n t o u S) k = true → τ 27 k = nI (vrd w n t o u g T k)) := by
  have h30 := hN.1
  have hw := hC.1.1.1
  have h90 : (cll w n t o u S).1 ≤ 3 * n := clN_le (pcl w n t o u S) (Rs w n t o u).2.1 n
  have key : ok (loop (fun a => fX6_reckonNeeded_B2 a.1 a.2) (0, σ)) (fun τ => FR [27] σ τ ∧ ∀ k, k < n → bt (ndd w n t o u S) k = true → τ 27 k = nI (vrd w n t o u g T k)) := by
    refine ok_for' (enc := fun i (τ : Mem) => (nI i, τ)) n (fun i τ => FR [27] σ τ ∧ ∀ k, k < n → bt (ndd w n t o u S) k = true → (k < i ∨ t k = 5 ∨ (Rs w n t o u).2.2 k = 0) → τ 27 k = nI (vrd w n t o u g T k)) (i0 := 0) (s0 := σ) (Nat.zero_le _) ⟨FR_refl _ _, fun k hk h1 h => hV k hk h1 (by omega)⟩ ?_ ?_
    · rintro i τ hi ⟨f, q⟩
      have hNτ := NX_F4 hN f (by decide)
      have hCτ := XC_FR hC f (by decide)
      have t5 := WF_t hW hi
      have stay : (bt (ndd w n t o u S) i = true → t i = 5 ∨ (Rs w n t o u).2.2 i = 0) → ∀ k, k < n → bt (ndd w n t o u S) k = true → (k < i + 1 ∨ t k = 5 ∨ (Rs w n t o u).2.2 k = 0) → τ 27 k = nI (vrd w n t o u g T k) := by
        intro hc k hk h1 h2
        refine q k hk h1 ?_
        by_cases ck : k = i
        · subst ck; exact Or.inr (hc h1)
        · omega
      have fin : ∀ v, v = nI (vrd w n t o u g T i) → FR [27] σ (up2 τ 27 i v) ∧ ∀ k, k < n → bt (ndd w n t o u S) k = true → (k < i + 1 ∨ t k = 5 ∨ (Rs w n t o u).2.2 k = 0) → up2 τ 27 i v 27 k = nI (vrd w n t o u g T k) := by
        intro v hv
        refine ⟨FR_trans f (FR_up2 _ (by decide) _ _), fun k hk h1 h2 => ?_⟩
        rw [up2_at]
        by_cases ck : k = i
        · rw [if_pos ck, hv, ck]
        · rw [if_neg ck]; exact q k hk h1 (by omega)
      dsimp only
      unfold fX6_reckonNeeded_B2 fX6_reckonNeeded_L77 fX6_reckonNeeded_L78
      rw [hNτ.2.1, if_neg (nI_ge hi (by omega)), X_isMade hW hNτ hi, Option.bind_some, nI_1]
      dsimp only
      by_cases cm : 2 ≤ t i ∧ t i ≤ 4
      · refine ok_neg (by rw [if_pos cm]; decide) ?_
        rw [X_isReckoned hW h30 hCτ hi, Option.bind_some, f 4 (by decide), hX.1]
        dsimp only
        by_cases cr : bt (ndd w n t o u S) i = true ∧ (Rs w n t o u).2.2 i ≠ 0
        · refine ok_neg (by rw [if_pos cr]; decide) ?_
          rw [X_isOfCells hW hNτ hCτ hi, Option.bind_some]
          dsimp only
          by_cases cc : t i = 4 ∧ (Rs w n t o u).2.2 i = 1
          · refine ok_neg (by rw [if_pos cc]; decide) ?_
            obtain ⟨c, hc, e25, ef⟩ := hX.2.2.2 i hi (pcl_iff.mpr ⟨cr.1, cc⟩)
            rw [chk_in (by omega) (by decide), nI_clamp (by omega), f 25 (by decide), e25, chk_in (by omega) (by decide), chk_in (by omega) (by decide), nI_clamp (by omega), f 29 (by decide), h29 c hc, ef]
            exact ok_some ⟨_, rfl, fin _ (by rw [vrd_c cc.1 cc.2])⟩
          · refine ok_pos (by rw [if_neg cc]) ?_
            have hnk := nk_t cr.2 cc
            obtain ⟨qq, qe⟩ := vrd_m (g := g) (T := T) hW hi cm hnk
            have no := nd_closed hW h30 hS hi cr.1 hnk ((eg_made cm.1 (by omega) (o i)).mpr (Or.inl rfl)) (by omega)
            have nu := nd_closed hW h30 hS hi cr.1 hnk ((eg_made cm.1 (by omega) (u i)).mpr (Or.inr rfl)) (by omega)
            rw [X_reckon hW hNτ hw.2 (by rw [f 3 (by decide)]; exact h3) hi cm (q _ (by omega) no (by omega)) (q _ (by omega) nu (by omega)) (vrd_lt hW hg _ _ (by omega)) (vrd_lt hW hg _ _ (by omega)), Option.bind_some]
            dsimp only
            rw [chk_in (by omega) (by decide), nI_clamp (by omega)]
            exact ok_some ⟨_, rfl, fin _ (by rw [qe])⟩
        · refine ok_pos (by rw [if_neg cr]) ?_
          refine ok_some ⟨τ, rfl, f, stay (fun h1 => Or.inr ?_)⟩
          by_cases c0 : (Rs w n t o u).2.2 i = 0
          · exact c0
          · exact absurd ⟨h1, c0⟩ cr
      · refine ok_pos (by rw [if_neg cm]) ?_
        refine ok_some ⟨τ, rfl, f, stay (fun h1 => ?_)⟩
        by_cases c5 : t i = 5
        · exact Or.inl c5
        · exact Or.inr (K_given hW h30 hw.1 hi (by omega))
    · rintro τ ⟨f, q⟩
      dsimp only
      unfold fX6_reckonNeeded_B2
      rw [f 3 (by decide), hN.2.1, if_pos (Int32.le_refl _)]
      exact ok_some ⟨f, fun k hk h1 => q k hk h1 (Or.inl hk)⟩
  unfold fX6_reckonNeeded fX6_reckonNeeded_L84
  refine ok_bind (ok_mono key ?_)
  intro τ h
  exact ok_some h
