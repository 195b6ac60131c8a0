/-! the reduced run, reference: its turns -/
theorem M_reckonsNeeded {w n : Nat} {t o u g : Nat → Nat} {S : Int32} {σ : Mem} (hW : WF w n t o u) (hN : NM n t o u σ) (hC : MC w n t o u σ) (hg : ∀ k, g k < 2 ^ w) (hG : MG w g σ) (hX : MP w n t o u S σ) (hS : lowb n S) (hex : ∀ i, i < n → pcl w n t o u S i = true → ∃ c, c < (cll w n t o u S).1 ∧ cfm (Rs w n t o u).2.1 (cll w n t o u S) c = (Rs w n t o u).2.1 i) {T : Nat} (h29 : ∀ c, c < (cll w n t o u S).1 → σ 14 c = nI (cfv w g T (cfm (Rs w n t o u).2.1 (cll w n t o u S) c))) (hP : 0 < T → ∀ k, k < n → bt (ndd w n t o u S) k = true → σ 12 k = nI (vrd w n t o u g (T - 1) k)) (l : Int32) (hl : l = if T = 0 then 1 else 0) : ok (fX8_reckonsNeeded l σ) (fun τ => FR [12, 13] σ τ ∧ ∀ k, k < n → bt (ndd w n t o u S) k = true → τ 12 k = nI (vrd w n t o u g T k)) := by
  have h30 := hN.1
  have hw := hC.1.1
  have h90 : (cll w n t o u S).1 ≤ 3 * n := clN_le (pcl w n t o u S) (Rs w n t o u).2.1 n
  unfold fX8_reckonsNeeded fX8_reckonsNeeded_L28 fX8_reckonsNeeded_L181
  refine ok_bind (ok_mono (M_copy hN (body := fX8_reckonsNeeded_B2) (fun _ _ _ => rfl) l) ?_)
  rintro ρ ⟨f0, q0⟩
  have key : ok (loop (fun a => fX8_reckonsNeeded_B30 l a.1 a.2) (0, ρ)) (fun τ => FR [12] ρ τ ∧ ∀ k, k < n → bt (ndd w n t o u S) k = true → τ 12 k = nI (vrd w n t o u g T k)) := by
    refine ok_for' (enc := fun i (τ : Mem) => (nI i, τ)) n (fun i τ => FR [12] ρ τ ∧ ∀ k, k < i → bt (ndd w n t o u S) k = true → τ 12 k = nI (vrd w n t o u g T k)) (i0 := 0) (s0 := ρ) (Nat.zero_le _) ⟨FR_refl _ _, fun k hk => by omega⟩ ?_ ?_
    · rintro i τ hi ⟨f, q⟩
      have F : FR [12, 13] σ τ := FR_trans (FR_mono f0 (by decide)) (FR_mono f (by decide))
      have hNτ := NM_F4 hN F (by decide)
      have hBτ := MB_FR hC.1 F (by decide)
      have hGτ := MG_F hG F (by decide)
      have F0 : τ 0 = σ 0 := F 0 (by decide)
      have hCτ := MC_FR hC F (by rw [F0]) (by decide) (by decide) (by decide) (by decide)
      have hXτ := MP_FR hX F (by decide) (by rw [F0]) (by rw [F0])
      obtain ⟨e2, e3, e4⟩ := hNτ.2.2 i hi
      have k4 := K_le (w := w) hW h30 hi
      have e7 := (hCτ.2.2 i hi).2.1
      have fin : ∀ v, (bt (ndd w n t o u S) i = true → v = nI (vrd w n t o u g T i)) → ok (some (Sum.inl (nI (i + 1), up2 τ 12 i v)) : Option ((Int32 × Mem) ⊕ Mem)) (Sum.elim (fun a' => ∃ s', a' = (nI (i + 1), s') ∧ FR [12] ρ s' ∧ ∀ k, k < i + 1 → bt (ndd w n t o u S) k = true → s' 12 k = nI (vrd w n t o u g T k)) (fun τ => FR [12] ρ τ ∧ ∀ k, k < n → bt (ndd w n t o u S) k = true → τ 12 k = nI (vrd w n t o u g T k))) := by
        intro v hv
        refine ok_some ⟨_, rfl, FR_trans f (FR_up2 _ (by decide) _ _), fun k hk h1 => ?_⟩
        rw [up2_at]
        by_cases ck : k = i
        · rw [if_pos ck, hv (by rw [← ck]; exact h1), ck]
        · rw [if_neg ck]; exact q k (by omega) h1
      have t5 := WF_t hW hi
      dsimp only
      unfold fX8_reckonsNeeded_B30 fX8_reckonsNeeded_L121 fX8_reckonsNeeded_L164 fX8_reckonsNeeded_L175
      rw [hNτ.2.1, if_neg (nI_ge hi (by omega)), hasE _ (by omega), Option.bind_some, hXτ.1, nI_1]
      dsimp only
      by_cases cb : bt (ndd w n t o u S) i = true
      · refine ok_neg (by rw [if_pos cb]; decide) ?_
        rw [chk_in (by omega) (by decide), nI_clamp (by omega)]
        by_cases c0 : (Rs w n t o u).2.2 i = 0
        · refine ok_pos (by rw [e7, c0]; rfl) ?_
          have kf := K_form (w := w) hW h30 hi (by omega)
          rw [show (0 : Int32) = nI 0 from rfl, M_valueOf hBτ hGτ (by omega) (by decide) ((hCτ.2.2 i hi).2.2 (by omega)), Option.bind_some]
          dsimp only
          rw [chk_in (by omega) (by decide)]
          exact fin _ (fun _ => by rw [vrd_s c0])
        refine ok_neg (by rw [e7]; exact fun e => c0 ((nI_eq (b := 0) (by omega) (by omega)).mp e)) ?_
        rw [chk_in (by omega) (by decide)]
        have ct2 : ¬ t i ≤ 1 := fun h => c0 (K_given hW h30 hw.1 hi h)
        by_cases c5 : t i = 5
        · refine ok_pos (by rw [e2, c5]; rfl) ?_
          have un : u i < n := by have := hW i hi; omega
          have hnk : nk t (Rs w n t o u).2.2 i = true := nk_t c0 (by omega)
          have e5 : vrd w n t o u g T i = if T = 0 then gn t o g (o i) else vrd w n t o u g (T - 1) (u i) := rv_5 (ix := fun k => !nk t (Rs w n t o u).2.2 k) (by rw [hnk]; rfl) c5
          by_cases cT : T = 0
          · refine ok_neg (by rw [hl, if_pos cT]; decide) ?_
            rw [M_startOf hW hNτ hGτ hi c5, Option.bind_some]
            dsimp only
            rw [chk_in (by omega) (by decide)]
            exact fin _ (fun _ => by rw [e5, if_pos cT])
          · refine ok_pos (by rw [hl, if_neg cT]) ?_
            rw [chk_in (by omega) (by decide), e4 (by omega), chk_in (by omega) (by decide), chk_in (by omega) (by decide), nI_clamp (by omega), f 13 (by decide), q0 _ un, hP (by omega) _ un (nd_closed hW h30 hS hi cb hnk ((eg_carr c5 (u i)).mpr rfl) (by omega))]
            exact fin _ (fun _ => by rw [e5, if_neg cT])
        refine ok_neg (by rw [e2]; exact t_n5 hW hi c5) ?_
        rw [chk_in (by omega) (by decide)]
        have cm : 2 ≤ t i ∧ t i ≤ 4 := by omega
        have work : ¬ (t i = 4 ∧ (Rs w n t o u).2.2 i = 1) → ok ((fX8_worked (nI i) τ).bind fun o3 => chk (inb (nI i) 30) (some (Sum.inl (nI (i + 1), up2 o3.2 12 i o3.1)))) (Sum.elim (fun a' => ∃ s', a' = (nI (i + 1), s') ∧ FR [12] ρ s' ∧ ∀ k, k < i + 1 → bt (ndd w n t o u S) k = true → s' 12 k = nI (vrd w n t o u g T k)) (fun τ => FR [12] ρ τ ∧ ∀ k, k < n → bt (ndd w n t o u S) k = true → τ 12 k = nI (vrd w n t o u g T k))) := by
          intro cc
          have hnk := nk_t c0 cc
          obtain ⟨qq, qe⟩ := vrd_m (g := g) (T := T) hW hi cm hnk
          have no := nd_closed hW h30 hS hi cb hnk ((eg_made cm.1 (by omega) (o i)).mpr (Or.inl rfl)) (by omega)
          have nu := nd_closed hW h30 hS hi cb hnk ((eg_made cm.1 (by omega) (u i)).mpr (Or.inr rfl)) (by omega)
          rw [M_worked hW hNτ hBτ hi cm (q _ qq.1 no) (q _ qq.2 nu) (vrd_lt hW hg _ _ (by omega)) (vrd_lt hW hg _ _ (by omega)), Option.bind_some]
          dsimp only
          rw [chk_in (by omega) (by decide)]
          exact fin _ (fun _ => by rw [qe])
        by_cases c4 : t i = 4
        · refine ok_pos (by rw [e2, c4]; rfl) ?_
          rw [chk_in (by omega) (by decide)]
          by_cases c1 : (Rs w n t o u).2.2 i = 1
          · refine ok_pos (by rw [e7, c1]; rfl) ?_
            have kf := K_form (w := w) hW h30 hi (by omega)
            refine ok_bind (ok_mono (M_cellFor h30 hBτ hXτ hi ((hCτ.2.2 i hi).2.2 (by omega)) (hex i hi (pcl_iff.mpr ⟨cb, c4, c1⟩))) ?_)
            rintro ⟨r, ρ'⟩ ⟨h1, c, hc, h2, h3⟩
            dsimp only at h1 h2
            subst h1
            subst h2
            dsimp only
            rw [chk_in (by omega) (by decide), chk_in (by omega) (by decide), nI_clamp (by omega), F 14 (by decide), h29 c hc, h3]
            exact fin _ (fun _ => by rw [vrd_c c4 c1])
          · refine ok_neg (by rw [e7]; exact fun e => c1 ((nI_eq (b := 1) (by omega) (by omega)).mp e)) ?_
            exact work (fun e => c1 e.2)
        · refine ok_neg (by rw [e2]; exact t_n4 hW hi c4) ?_
          exact work (fun e => c4 e.1)
      · refine ok_pos (by rw [if_neg cb]) ?_
        rw [chk_in (by omega) (by decide), nI_clamp (by omega)]
        exact fin _ (fun h => absurd h cb)
    · rintro τ ⟨f, q⟩
      dsimp only
      unfold fX8_reckonsNeeded_B30
      rw [f 0 (by decide), f0 0 (by decide), hN.2.1, if_pos (Int32.le_refl _)]
      exact ok_some ⟨f, q⟩
  refine ok_bind (ok_mono key ?_)
  rintro τ ⟨f, q⟩
  exact ok_some ⟨FR_trans (FR_mono f0 (by decide)) (FR_mono f (by decide)), q⟩
theorem M_goReduced {w n : Nat} {t o u g : Nat → Nat} {S : Int32} {σ : Mem} (hW : WF w n t o u) (hN : NM n t o u σ) (hC : MC w n t o u σ) (hg : ∀ k, g k < 2 ^ w) (hG : MG w g σ) (hX : MP w n t o u S σ) (hS : lowb n S) (hex : ∀ i, i < n → pcl w n t o u S i = true → ∃ c, c < (cll w n t o u S).1 ∧ cfm (Rs w n t o u).2.1 (cll w n t o u S) c = (Rs w n t o u).2.1 i) (h29 : ∀ c, c < (cll w n t o u S).1 → σ 14 c = nI (ev w g (cfm (Rs w n t o u).2.1 (cll w n t o u S) c 0))) {a b : Nat} (ha : a < n) (hb : b < n) (e9 : σ 0 9 = nI a) (e10 : σ 0 10 = nI b) (na : bt (ndd w n t o u S) a = true) (nb : bt (ndd w n t o u S) b = true) (nsh : ∀ k, k < n → bt (σ 0 7) k = true → bt (ndd w n t o u S) k = true) :
    ok (fX8_runs_L49 1 σ) (fun p => p.1 = (grd w n t o u g (σ 0 7) (σ 0 8) a b).1 ∧ FR [0, 12, 13, 14, 15] σ p.2 ∧ (∀ j, j ≠ 25 → p.2 0 j = σ 0 j) ∧ SM p.2 (grd w n t o u g (σ 0 7) (σ 0 8) a b).2) := by
  have h30 := hN.1
  have hB := hC.1
  have hw := hB.1.2
  have turn := go_rule (body := fun x => fX8_runs_B56 1 x.1 x.2) (tb := fun T => tsb (σ 0 8) (vrd w n t o u g T a) (vrd w n t o u g T b)) (Se := fun T s => seN (σ 0 7) (vrd w n t o u g T) n s)
    (fun T τ s => FR [0, 12, 13, 14, 15] σ τ ∧ (∀ j, j ≠ 25 → τ 0 j = σ 0 j) ∧ (0 < T → ∀ k, k < n → bt (ndd w n t o u S) k = true → τ 12 k = nI (vrd w n t o u g (T - 1) k)) ∧ (∀ c, c < (cll w n t o u S).1 → τ 14 c = nI (cfv w g (T - 1) (cfm (Rs w n t o u).2.1 (cll w n t o u S) c))) ∧ SM τ s)
    (fun τ s => FR [0, 12, 13, 14, 15] σ τ ∧ (∀ j, j ≠ 25 → τ 0 j = σ 0 j) ∧ SM τ s) (by
      rintro T τ0 s hT ⟨f', f0', q2', qc', q3'⟩
      have L89 : ∀ (τ : Mem) (l : Int32), FR [0, 12, 13, 14, 15] σ τ → (∀ j, j ≠ 25 → τ 0 j = σ 0 j) → (0 < T → ∀ k, k < n → bt (ndd w n t o u S) k = true → τ 12 k = nI (vrd w n t o u g (T - 1) k)) → (∀ c, c < (cll w n t o u S).1 → τ 14 c = nI (cfv w g T (cfm (Rs w n t o u).2.1 (cll w n t o u S) c))) → SM τ s → l = (if T = 0 then 1 else 0) → ok (fX8_runs_L89 1 (nI T) l τ) (Sum.elim (fun a' => tsb (σ 0 8) (vrd w n t o u g T a) (vrd w n t o u g T b) = true ∧ ∃ σ', a' = (nI (T + 1), σ') ∧ FR [0, 12, 13, 14, 15] σ σ' ∧ (∀ j, j ≠ 25 → σ' 0 j = σ 0 j) ∧ (0 < T + 1 → ∀ k, k < n → bt (ndd w n t o u S) k = true → σ' 12 k = nI (vrd w n t o u g (T + 1 - 1) k)) ∧ (∀ c, c < (cll w n t o u S).1 → σ' 14 c = nI (cfv w g (T + 1 - 1) (cfm (Rs w n t o u).2.1 (cll w n t o u S) c))) ∧ SM σ' (seN (σ 0 7) (vrd w n t o u g T) n s)) (Sum.elim (fun _ => False) (fun p => tsb (σ 0 8) (vrd w n t o u g T a) (vrd w n t o u g T b) = false ∧ p.1 = nI T ∧ FR [0, 12, 13, 14, 15] σ p.2 ∧ (∀ j, j ≠ 25 → p.2 0 j = σ 0 j) ∧ SM p.2 s))) := by
        intro τ l f f0 q2 qc q3 hl
        have hNτ := NM_of hN f (f0 6 (by decide)) (by decide) (by decide) (by decide)
        have hCτ := MC_FR hC f (f0 1 (by decide)) (by decide) (by decide) (by decide) (by decide)
        have hGτ := MG_F hG f (by decide)
        have hXτ := MP_FR hX f (by decide) (f0 17 (by decide)) (f0 20 (by decide))
        unfold fX8_runs_L89 fX8_runs_L108 fX8_runs_L182
        refine ok_bind (ok_mono (M_reckonsNeeded hW hNτ hCτ hg hGτ hXτ hS hex qc q2 l hl) ?_)
        rintro ρ ⟨f1, q4⟩
        have m0 : ∀ j, j ≠ 25 → ρ 0 j = σ 0 j := by intro j hj; rw [f1 0 (by decide)]; exact f0 j hj
        have hNρ := NM_F4 hNτ f1 (by decide)
        rw [M_test (w := w) hw (by omega) (by omega) (by rw [m0 9 (by decide)]; exact e9) (by rw [m0 10 (by decide)]; exact e10) (vrd_lt hW hg T a ha) (vrd_lt hW hg T b hb) (q4 a ha na) (q4 b hb nb), Option.bind_some, m0 8 (by decide)]
        dsimp only
        have F2 : FR [0, 12, 13, 14, 15] σ ρ := FR_trans f (FR_mono f1 (by decide))
        have S2 : SM ρ s := by
          refine ⟨q3.1, ?_, ?_⟩
          · rw [f1 0 (by decide)]; exact q3.2.1
          · rw [f1 15 (by decide)]; exact q3.2.2
        by_cases ct : tsb (σ 0 8) (vrd w n t o u g T a) (vrd w n t o u g T b) = true
        · refine ok_neg (by rw [if_pos ct]; decide) ?_
          refine ok_bind (ok_mono (M_see hNρ (V := vrd w n t o u g T) (fun k hk hb => q4 k hk (nsh k hk (by rw [← m0 7 (by decide)]; exact hb))) S2 _ _) ?_)
          rintro ρ3 ⟨f4, f5, q6⟩
          rw [nI_1]
          rw [m0 7 (by decide)] at q6
          refine ok_some ⟨ct, ρ3, rfl, FR_trans F2 (FR_mono f4 (by decide)), fun j hj => (f5 j hj).trans (m0 j hj), ?_, ?_, q6⟩
          · intro _ k hk hA
            rw [f4 12 (by decide), q4 k hk hA]; rfl
          · intro c hc
            rw [f4 14 (by decide), f1 14 (by decide), qc c hc]; rfl
        · refine ok_pos (by rw [if_neg ct]) ?_
          exact ok_some ⟨Bool.eq_false_iff.mpr ct, rfl, F2, m0, S2⟩
      dsimp only
      unfold fX8_runs_B56 fX8_runs_L75
      refine ok_neg (show ¬ nI 300 ≤ nI T from nI_ge (by omega) (by omega)) ?_
      refine ok_neg (by decide) ?_
      by_cases cT : T = 0
      · subst cT
        refine ok_pos (show nI 0 ≤ nI 0 from Int32.le_refl _) ?_
        refine ok_neg (by decide) ?_
        refine ok_pos (show nI 0 = 0 from rfl) ?_
        exact L89 τ0 1 f' f0' q2' qc' q3' rfl
      · refine ok_neg (show ¬ nI T ≤ nI 0 from nI_ge (by omega) (by omega)) ?_
        refine ok_bind (ok_mono (M_addsCells (g := g) (T := T - 1) hW h30 ⟨hB.1, by rw [f0' 1 (by decide)]; exact hB.2⟩ (MG_F hG f' (by decide)) (MP_FR hX f' (by decide) (f0' 17 (by decide)) (f0' 20 (by decide))) qc') ?_)
        rintro τ1 ⟨f1, q1⟩
        rw [show T - 1 + 1 = T by omega] at q1
        refine ok_neg (by decide) ?_
        refine ok_neg (show ¬ nI T = 0 from fun e => cT ((nI_eq (b := 0) (by omega) (by omega)).mp e)) ?_
        refine L89 τ1 0 (FR_trans f' (FR_mono f1 (by decide))) (fun j hj => by rw [f1 0 (by decide)]; exact f0' j hj) (fun h0 k hk hA => by rw [f1 12 (by decide)]; exact q2' h0 k hk hA) q1 ⟨q3'.1, by rw [f1 0 (by decide)]; exact q3'.2.1, by rw [f1 15 (by decide)]; exact q3'.2.2⟩ (by rw [if_neg cT])) (by
      rintro τ s ⟨f, f0, -, -, q3⟩
      dsimp only
      unfold fX8_runs_B56
      refine ok_pos (show nI 300 ≤ nI 300 from Int32.le_refl _) ?_
      exact ok_some ⟨f, f0, q3⟩)
  unfold fX8_runs_L49 fX8_runs_L188
  refine ok_mono (turn 300 0 (up2 σ 0 25 0) (0, fun _ => 0) rfl ⟨FR_up2 _ (by decide) _ _, fun j hj => up2_col _ _ _ hj, fun h => absurd h (by decide), ?_, by decide, by rw [up2_eq]; rfl, fun i hi => absurd hi (Nat.not_lt_zero _)⟩) ?_
  · intro c hc
    rw [up2_row _ _ _ (show (14 : Nat) ≠ 0 by decide)]
    exact h29 c hc
  rintro ⟨r, ρ⟩ ⟨h1, h2, h4⟩
  exact ⟨h1, h2, h4⟩
