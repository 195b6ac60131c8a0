/-! the reduced run, reference -/
theorem MP_FR {w n : Nat} {t o u : Nat → Nat} {S : Int32} {L : List Nat} {σ τ : Mem} (h : MP w n t o u S σ) (f : FR L σ τ) (hL : ∀ x, x ∈ [1, 10, 11] → x ∉ L) (e17 : τ 0 17 = σ 0 17) (e20 : τ 0 20 = σ 0 20) : MP w n t o u S τ := by
  refine ⟨by rw [e20]; exact h.1, ⟨by rw [e17]; exact h.2.1.1, fun c hc => ⟨fm_FR (h.2.1.2 c hc).1 f (hL _ (by decide)), by rw [f 10 (hL _ (by decide))]; exact (h.2.1.2 c hc).2⟩⟩, ?_⟩
  rw [f 11 (hL _ (by decide))]
  exact h.2.2
theorem n34 (c : Nat) : (34 : Int32) + nI c = nI (34 + c) := nI_add 34 c
theorem M_add1 {w n : Nat} {t o u g : Nat → Nat} {S : Int32} {σ : Mem} (hW : WF w n t o u) (hn : n ≤ 30) (hB : MB w σ) (hG : MG w g σ) (hX : MP w n t o u S σ) {T e : Nat} (he : 0 < e) (he3 : e ≤ 3) (h29 : ∀ c, c < (cll w n t o u S).1 → σ 14 c = nI (cfv w g (if e < fdeg (cfm (Rs w n t o u).2.1 (cll w n t o u S) c) then T + 1 else T) (cfm (Rs w n t o u).2.1 (cll w n t o u S) c))) :
    ok (loop (fun a => fX8_addsCells_B8 (nI e) a.1 a.2) (0, σ)) (fun τ => FR [14] σ τ ∧ ∀ c, c < (cll w n t o u S).1 → τ 14 c = nI (cfv w g (if e - 1 < fdeg (cfm (Rs w n t o u).2.1 (cll w n t o u S) c) then T + 1 else T) (cfm (Rs w n t o u).2.1 (cll w n t o u S) c))) := by
  have hw := hB.1
  have hCI : CI (pcl w n t o u S) (Rs w n t o u).2.1 n (cll w n t o u S) := CI_N n (Nat.le_refl n)
  have h90 : (cll w n t o u S).1 ≤ 3 * n := clN_le (pcl w n t o u S) (Rs w n t o u).2.1 n
  obtain ⟨s, hs⟩ : ∃ s, s = cll w n t o u S := ⟨_, rfl⟩
  obtain ⟨F, hF⟩ : ∃ F, F = (Rs w n t o u).2.1 := ⟨_, rfl⟩
  have hfm : ∀ τ, FR [14] σ τ → ∀ c, c < s.1 → fm w τ (34 + c) (cfm F s c) := by
    intro τ f c hc
    rw [hs, hF]
    exact fm_FR (hX.2.1.2 c (by rw [← hs]; exact hc)).1 f (by decide)
  have hok : ∀ c, c < s.1 → OkF w (cfm F s c) ∧ 0 < fdeg (cfm F s c) := by
    intro c hc
    rw [hs] at hc ⊢
    rw [hF]
    have := cfm_ok hW hn hw.1 hCI hc
    exact ⟨this.1, this.2.2⟩
  have hgd : ∀ c, c < s.1 → gd F s (σ 11) c := by
    intro c hc
    rw [hs, hF]
    exact hX.2.2 c (by rw [← hs]; exact hc)
  have h44 : σ 0 17 = nI s.1 := by rw [hs]; exact hX.2.1.1
  rw [← hs] at h29 h90 ⊢
  rw [← hF] at h29 ⊢
  refine ok_for' (enc := fun i (τ : Mem) => (nI i, τ)) s.1 (fun i τ => FR [14] σ τ ∧ ∀ c, c < s.1 → τ 14 c = nI (cfv w g (if e < fdeg (cfm F s c) ∨ (fdeg (cfm F s c) = e ∧ c < i) then T + 1 else T) (cfm F s c))) (i0 := 0) (s0 := σ) (Nat.zero_le _) ⟨FR_refl _ _, fun c hc => ?_⟩ ?_ ?_
  · rw [h29 c hc]
    by_cases c1 : e < fdeg (cfm F s c)
    · rw [if_pos c1, if_pos (Or.inl c1)]
    · rw [if_neg c1, if_neg (by omega)]
  · rintro i τ hi ⟨f, q⟩
    have hd3 := fdeg_le (cfm F s i)
    have hBτ := MB_FR hB f (by decide)
    dsimp only
    unfold fX8_addsCells_B8 fX8_addsCells_L74 fX8_addsCells_L80
    rw [f 0 (by decide), h44, if_neg (nI_ge hi (by omega)), n34, M_degreeOf hw.2 (by omega) (hfm τ f i hi), Option.bind_some, nI_1]
    dsimp only
    by_cases cd' : fdeg (cfm F s i) = e
    · refine ok_pos (by rw [cd']) ?_
      have fin : ∀ v, v = cfv w g (T + 1) (cfm F s i) → ok (some (Sum.inl (nI (i + 1), up2 τ 14 i (nI v))) : Option ((Int32 × Mem) ⊕ Mem)) (Sum.elim (fun a' => ∃ s', a' = (nI (i + 1), s') ∧ FR [14] σ s' ∧ ∀ c, c < s.1 → s' 14 c = nI (cfv w g (if e < fdeg (cfm F s c) ∨ (fdeg (cfm F s c) = e ∧ c < i + 1) then T + 1 else T) (cfm F s c))) (fun τ => FR [14] σ τ ∧ ∀ c, c < s.1 → τ 14 c = nI (cfv w g (if e - 1 < fdeg (cfm F s c) then T + 1 else T) (cfm F s c)))) := by
        intro v hv
        refine ok_some ⟨_, rfl, FR_trans f (FR_up2 _ (by decide) _ _), fun c hc => ?_⟩
        rw [up2_at]
        by_cases cc : c = i
        · rw [if_pos cc, cc, if_pos (Or.inr ⟨cd', by omega⟩), hv]
        · rw [if_neg cc, q c hc]
          by_cases c2 : e < fdeg (cfm F s c) ∨ (fdeg (cfm F s c) = e ∧ c < i)
          · rw [if_pos c2, if_pos (by omega)]
          · rw [if_neg c2, if_neg (by omega)]
      have qi := q i hi
      rw [if_neg (by omega)] at qi
      rw [chk_in (by omega) (by decide), chk_in (by omega) (by decide), nI_clamp (by omega)]
      have f24 : τ 11 = σ 11 := f 11 (by decide)
      by_cases c1 : e = 1
      · have g1 := (hgd i hi).1 (by omega)
        refine ok_pos (by rw [f24, g1]) ?_
        rw [show (1 : Int32) = nI 1 from rfl, M_valueOf hBτ (MG_F hG f (by decide)) (by omega) (by decide) (hfm τ f i hi), Option.bind_some]
        dsimp only
        rw [cutE hw.2 hBτ.2, Option.bind_some]
        dsimp only
        rw [chk_in (by omega) (by decide), qi, mI_64 hw.2, mI_add hw.2, mI_lt16 hw.2 (cfv_lt _ _ _ _), mI_lt16 hw.2 (ev_lt _ _ _)]
        refine fin _ ?_
        show _ = (cfv w g T (cfm F s i) + (if fdeg (cfm F s i) = 1 then ev w g (cfm F s i 1) else cfv w g T (fSh (cfm F s i) 1))) % 2 ^ w
        rw [if_pos (by omega)]
      · obtain ⟨c', hc', g2, g3⟩ := (hgd i hi).2 (by omega)
        refine ok_neg (by rw [f24, g2]; exact fun h => nI_pos (n := c') (by omega) (by rw [h]; decide)) ?_
        have hd' : fdeg (cfm F s c') = e - 1 := by rw [g3, fdeg_sh (hok i hi).1 (by omega), cd']
        have qc := q c' hc'
        rw [if_neg (by omega), g3] at qc
        rw [f24, g2, chk_in (by omega) (by decide), chk_in (by omega) (by decide), nI_clamp (by omega), qi, qc, cutE hw.2 hBτ.2, Option.bind_some]
        dsimp only
        rw [chk_in (by omega) (by decide), mI_64 hw.2, mI_add hw.2, mI_lt16 hw.2 (cfv_lt _ _ _ _), mI_lt16 hw.2 (cfv_lt _ _ _ _)]
        refine fin _ ?_
        show _ = (cfv w g T (cfm F s i) + (if fdeg (cfm F s i) = 1 then ev w g (cfm F s i 1) else cfv w g T (fSh (cfm F s i) 1))) % 2 ^ w
        rw [if_neg (by omega)]
    · refine ok_neg (fun h => cd' ((nI_eq (by omega) (by omega)).mp h)) ?_
      refine ok_some ⟨τ, rfl, f, fun c hc => ?_⟩
      rw [q c hc]
      by_cases c2 : e < fdeg (cfm F s c) ∨ (fdeg (cfm F s c) = e ∧ c < i)
      · rw [if_pos c2, if_pos (by omega)]
      · rw [if_neg c2, if_neg (fun h => by
          rcases h with h | ⟨h, h'⟩
          · exact c2 (Or.inl h)
          · by_cases cc : c = i
            · subst cc; exact cd' h
            · exact c2 (Or.inr ⟨h, by omega⟩))]
  · rintro τ ⟨f, q⟩
    dsimp only
    unfold fX8_addsCells_B8
    rw [f 0 (by decide), h44, if_pos (Int32.le_refl _)]
    refine ok_some ⟨f, fun c hc => ?_⟩
    rw [q c hc]
    by_cases c1 : e - 1 < fdeg (cfm F s c)
    · rw [if_pos c1, if_pos (by omega)]
    · rw [if_neg c1, if_neg (by omega)]
theorem M_addsCells {w n : Nat} {t o u g : Nat → Nat} {S : Int32} {σ : Mem} (hW : WF w n t o u) (hn : n ≤ 30) (hB : MB w σ) (hG : MG w g σ) (hX : MP w n t o u S σ) {T : Nat} (h29 : ∀ c, c < (cll w n t o u S).1 → σ 14 c = nI (cfv w g T (cfm (Rs w n t o u).2.1 (cll w n t o u S) c))) :
    ok (fX8_addsCells σ) (fun τ => FR [14] σ τ ∧ ∀ c, c < (cll w n t o u S).1 → τ 14 c = nI (cfv w g (T + 1) (cfm (Rs w n t o u).2.1 (cll w n t o u S) c))) := by
  have hw := hB.1
  have hCI : CI (pcl w n t o u S) (Rs w n t o u).2.1 n (cll w n t o u S) := CI_N n (Nat.le_refl n)
  have hpos : ∀ c, c < (cll w n t o u S).1 → 0 < fdeg (cfm (Rs w n t o u).2.1 (cll w n t o u S) c) := fun c hc => (cfm_ok hW hn hw.1 hCI hc).2.2
  have key : ok (loop (fun a => fX8_addsCells_B2 a.1 a.2) (3, σ)) (fun τ => FR [14] σ τ ∧ ∀ c, c < (cll w n t o u S).1 → τ 14 c = nI (cfv w g (T + 1) (cfm (Rs w n t o u).2.1 (cll w n t o u S) c))) := by
    refine ok_for' (enc := fun j (τ : Mem) => (nI (3 - j), τ)) 3 (fun j τ => FR [14] σ τ ∧ ∀ c, c < (cll w n t o u S).1 → τ 14 c = nI (cfv w g (if 3 - j < fdeg (cfm (Rs w n t o u).2.1 (cll w n t o u S) c) then T + 1 else T) (cfm (Rs w n t o u).2.1 (cll w n t o u S) c))) (i0 := 0) (s0 := σ) (Nat.zero_le _) ⟨FR_refl _ _, fun c hc => ?_⟩ ?_ ?_
    · rw [h29 c hc, if_neg (by have := fdeg_le (cfm (Rs w n t o u).2.1 (cll w n t o u S) c); omega)]
    · rintro j τ hj ⟨f, q⟩
      dsimp only
      unfold fX8_addsCells_B2 fX8_addsCells_L86
      refine ok_neg (show ¬ nI (3 - j) ≤ nI 0 from nI_ge (by omega) (by omega)) ?_
      refine ok_bind (ok_mono (M_add1 (g := g) (T := T) (e := 3 - j) hW hn (MB_FR hB f (by decide)) (MG_F hG f (by decide)) (MP_FR hX f (by decide) (by rw [f 0 (by decide)]) (by rw [f 0 (by decide)])) (by omega) (by omega) q) ?_)
      rintro ρ ⟨f2, q2⟩
      have e1 : nI (3 - j) + (-1) = nI (3 - (j + 1)) := by
        rcases (show j = 0 ∨ j = 1 ∨ j = 2 by omega) with rfl | rfl | rfl <;> decide
      rw [e1]
      exact ok_some ⟨ρ, rfl, FR_trans f f2, fun c hc => by rw [q2 c hc, show 3 - j - 1 = 3 - (j + 1) by omega]⟩
    · rintro τ ⟨f, q⟩
      dsimp only
      unfold fX8_addsCells_B2
      refine ok_pos (show nI (3 - 3) ≤ nI 0 from Int32.le_refl _) ?_
      exact ok_some ⟨f, fun c hc => by rw [q c hc, if_pos (hpos c hc)]⟩
  unfold fX8_addsCells fX8_addsCells_L92
  refine ok_bind (ok_mono key ?_)
  intro τ h
  exact ok_some h
theorem M_fillCells {w n : Nat} {t o u g : Nat → Nat} {S : Int32} {σ : Mem} (hn : n ≤ 30) (hB : MB w σ) (hG : MG w g σ) (hX : MP w n t o u S σ) (l1 : Int32) : ok (loop (fun a => fX8_runs_B20 l1 a.1 a.2) (0, σ)) (fun τ => FR [14] σ τ ∧ ∀ c, c < (cll w n t o u S).1 → τ 14 c = nI (ev w g (cfm (Rs w n t o u).2.1 (cll w n t o u S) c 0))) := by
  have h90 : (cll w n t o u S).1 ≤ 3 * n := clN_le (pcl w n t o u S) (Rs w n t o u).2.1 n
  refine ok_for' (enc := fun i (τ : Mem) => (nI i, τ)) (cll w n t o u S).1 (fun i τ => FR [14] σ τ ∧ ∀ c, c < i → τ 14 c = nI (ev w g (cfm (Rs w n t o u).2.1 (cll w n t o u S) c 0))) (i0 := 0) (s0 := σ) (Nat.zero_le _) ⟨FR_refl _ _, fun k hk => by omega⟩ ?_ ?_
  · rintro i τ hi ⟨f, q⟩
    dsimp only
    unfold fX8_runs_B20
    rw [f 0 (by decide), hX.2.1.1, if_neg (nI_ge hi (by omega)), n34, show (0 : Int32) = nI 0 from rfl, M_valueOf (MB_FR hB f (by decide)) (MG_F hG f (by decide)) (by omega) (by decide) (fm_FR (hX.2.1.2 i hi).1 f (by decide)), Option.bind_some]
    dsimp only
    rw [chk_in (by omega) (by decide), nI_clamp (by omega), nI_1]
    refine ok_some ⟨_, rfl, FR_trans f (FR_up2 _ (by decide) _ _), fun c hc => ?_⟩
    rw [up2_at]
    by_cases cc : c = i
    · rw [if_pos cc, cc]
    · rw [if_neg cc]; exact q c (by omega)
  · rintro τ ⟨f, q⟩
    dsimp only
    unfold fX8_runs_B20
    rw [f 0 (by decide), hX.2.1.1, if_pos (Int32.le_refl _)]
    exact ok_some ⟨f, q⟩
theorem M_cellFor {w n : Nat} {t o u : Nat → Nat} {S : Int32} {σ : Mem} (hn : n ≤ 30) (hB : MB w σ) (hX : MP w n t o u S σ) {i : Nat} (hi : i < n) {A : Fo} (fA : fm w σ i A) (hex : ∃ c, c < (cll w n t o u S).1 ∧ cfm (Rs w n t o u).2.1 (cll w n t o u S) c = A) : ok (fX8_cellFor (nI i) σ) (fun p => p.2 = σ ∧ ∃ c, c < (cll w n t o u S).1 ∧ p.1 = nI c ∧ cfm (Rs w n t o u).2.1 (cll w n t o u S) c = A) := by
  have h90 : (cll w n t o u S).1 ≤ 3 * n := clN_le (pcl w n t o u S) (Rs w n t o u).2.1 n
  obtain ⟨c0, c1, c2⟩ := hex
  have same : ∀ c, c < (cll w n t o u S).1 → fX8_areAlike (nI (34 + c)) (nI i) σ = some (bI (cfm (Rs w n t o u).2.1 (cll w n t o u S) c = A), σ) := fun c hc => M_areAlike hB.1.2 (by omega) (by omega) (hX.2.1.2 c hc).1 fA
  have key : ok (loop (fun a => fX8_cellFor_B2 (nI i) a.1 a.2) (0, σ)) (fun p => p.2 = σ ∧ ∃ c, c < (cll w n t o u S).1 ∧ p.1 = nI c ∧ cfm (Rs w n t o u).2.1 (cll w n t o u S) c = A) := by
    refine ok_for' (enc := fun i (_ : Unit) => (nI i, σ)) c0 (fun _ _ => True) (i0 := 0) (s0 := ()) (Nat.zero_le _) trivial ?_ ?_
    · intro c _ hc _
      dsimp only
      unfold fX8_cellFor_B2
      rw [n34, same c (by omega), Option.bind_some]
      dsimp only
      by_cases d : cfm (Rs w n t o u).2.1 (cll w n t o u S) c = A
      · rw [bI_t d, if_neg (by decide)]
        exact ok_some ⟨rfl, c, by omega, rfl, d⟩
      · rw [bI_f d, if_pos rfl, nI_1]
        exact ok_some ⟨(), rfl, trivial⟩
    · intro _ _
      dsimp only
      unfold fX8_cellFor_B2
      rw [n34, same c0 c1, Option.bind_some]
      dsimp only
      rw [bI_t c2, if_neg (by decide)]
      exact ok_some ⟨rfl, c0, c1, rfl, c2⟩
  unfold fX8_cellFor fX8_cellFor_L20
  refine ok_bind (ok_mono key ?_)
  intro p h
  exact ok_some h
