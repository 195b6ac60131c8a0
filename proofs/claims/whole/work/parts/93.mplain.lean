/-! the plain run, reference -/
theorem M_copy {n : Nat} {t o u : Nat → Nat} {σ : Mem} (hN : NM n t o u σ) {body : Int32 → Int32 → Mem → Option ((Int32 × Mem) ⊕ Mem)} (hb : ∀ l1 l2 σ, body l1 l2 σ = if (σ 0 6) ≤ l2 then some (.inr σ) else chk (inb l2 30) (chk (inb l2 30) (some (.inl (l2 + 1, up2 σ 13 l2.toNatClampNeg (σ 12 l2.toNatClampNeg)))))) (l1 : Int32) : ok (loop (fun a => body l1 a.1 a.2) (0, σ)) (fun τ => FR [13] σ τ ∧ ∀ k, k < n → τ 13 k = σ 12 k) := by
  have h30 := hN.1
  refine ok_for' (enc := fun i (τ : Mem) => (nI i, τ)) n (fun i τ => FR [13] σ τ ∧ ∀ k, k < i → τ 13 k = σ 12 k) (i0 := 0) (s0 := σ) (Nat.zero_le _) ⟨FR_refl _ _, fun k hk => by omega⟩ ?_ ?_
  · rintro i τ hi ⟨f, q⟩
    dsimp only
    rw [hb, f 0 (by decide), hN.2.1, if_neg (nI_ge hi (by omega)), chk_in (by omega) (by decide), chk_in (by omega) (by decide), nI_clamp (by omega), nI_1, f 12 (by decide)]
    refine ok_some ⟨_, rfl, FR_trans f (FR_up2 _ (by decide) _ _), fun k hk => ?_⟩
    rw [up2_at]
    by_cases ck : k = i
    · rw [if_pos ck, ck]
    · rw [if_neg ck]; exact q k (by omega)
  · rintro τ ⟨f, q⟩
    dsimp only
    rw [hb, f 0 (by decide), hN.2.1, if_pos (Int32.le_refl _)]
    exact ok_some ⟨f, q⟩
theorem NM_F4 {n : Nat} {t o u : Nat → Nat} {L : List Nat} {σ τ : Mem} (h : NM n t o u σ) (f : FR L σ τ) (hL : ∀ x, x ∈ [0, 2, 3, 4] → x ∉ L) : NM n t o u τ := NM_FR h f (hL _ (by decide)) (hL _ (by decide)) (hL _ (by decide)) (hL _ (by decide))
theorem MG_F {w : Nat} {g : Nat → Nat} {L : List Nat} {σ τ : Mem} (h : MG w g σ) (f : FR L σ τ) (h9 : 9 ∉ L) : MG w g τ := by
  intro k hk
  rw [f 9 h9]; exact h k hk
theorem M_reckons {w n : Nat} {t o u g : Nat → Nat} {σ : Mem} (hW : WF w n t o u) (hN : NM n t o u σ) (hB : MB w σ) (hg : ∀ k, g k < 2 ^ w) (hG : MG w g σ) {T : Nat} (hP : 0 < T → ∀ k, k < n → σ 12 k = nI (vpl w t o u g (T - 1) k)) (l : Int32) (hl : l = if T = 0 then 1 else 0) : ok (fX8_reckons l σ) (fun τ => FR [12, 13] σ τ ∧ ∀ k, k < n → τ 12 k = nI (vpl w t o u g T k)) := by
  have h30 := hN.1
  unfold fX8_reckons fX8_reckons_L28 fX8_reckons_L164
  refine ok_bind (ok_mono (M_copy hN (body := fX8_reckons_B2) (fun _ _ _ => rfl) l) ?_)
  rintro ρ ⟨f0, q0⟩
  have key : ok (loop (fun a => fX8_reckons_B30 l a.1 a.2) (0, ρ)) (fun τ => FR [12] ρ τ ∧ ∀ k, k < n → τ 12 k = nI (vpl w t o u g T k)) := by
    refine ok_for' (enc := fun i (τ : Mem) => (nI i, τ)) n (fun i τ => FR [12] ρ τ ∧ ∀ k, k < i → τ 12 k = nI (vpl w t o u g T k)) (i0 := 0) (s0 := ρ) (Nat.zero_le _) ⟨FR_refl _ _, fun k hk => by omega⟩ ?_ ?_
    · rintro i τ hi ⟨f, q⟩
      have hNτ := NM_F4 (NM_F4 hN f0 (by decide)) f (by decide)
      have hBτ := MB_FR (MB_FR hB f0 (by decide)) f (by decide)
      have hGτ := MG_F (MG_F hG f0 (by decide)) f (by decide)
      obtain ⟨e2, e3, e4⟩ := hNτ.2.2 i hi
      have fin : ∀ v, v = nI (vpl w t o u g T i) → FR [12] ρ (up2 τ 12 i v) ∧ ∀ k, k < i + 1 → up2 τ 12 i v 12 k = nI (vpl w t o u g T k) := by
        intro v hv
        refine ⟨FR_trans f (FR_up2 _ (by decide) _ _), fun k hk => ?_⟩
        rw [up2_at]
        by_cases ck : k = i
        · rw [if_pos ck, hv, ck]
        · rw [if_neg ck]; exact q k (by omega)
      have t5 := WF_t hW hi
      dsimp only
      unfold fX8_reckons_B30 fX8_reckons_L143 fX8_reckons_L158
      rw [hNτ.2.1, if_neg (nI_ge hi (by omega)), chk_in (by omega) (by decide), nI_clamp (by omega), nI_1]
      have c2 := e2
      by_cases c0 : t i = 0
      · refine ok_pos (by rw [e2, c0]; rfl) ?_
        rw [chk_in (by omega) (by decide), chk_in (by omega) (by decide), e3]
        refine ok_some ⟨_, rfl, fin _ ?_⟩
        rw [vpl_g (by omega)]
        unfold gn
        rw [if_neg (by omega)]
      refine ok_neg (by rw [e2]; exact t_n0 hW hi c0) ?_
      by_cases c1 : t i = 1
      · refine ok_pos (by rw [e2, c1]; rfl) ?_
        have o3 : o i < 3 := by have := hW i hi; omega
        rw [chk_in (by omega) (by decide), e3, chk_in (by omega) (by decide), chk_in (by omega) (by decide), nI_clamp (by omega), (hGτ _ o3).1]
        refine ok_some ⟨_, rfl, fin _ ?_⟩
        rw [vpl_g (by omega)]
        unfold gn
        rw [if_pos c1]
      refine ok_neg (by rw [e2]; exact t_n1 hW hi c1) ?_
      by_cases c5 : t i = 5
      · refine ok_pos (by rw [e2, c5]; rfl) ?_
        have un : u i < n := by have := hW i hi; omega
        have e5 : vpl w t o u g T i = if T = 0 then gn t o g (o i) else vpl w t o u g (T - 1) (u i) := rv_5 (ix := fun k => decide (t k ≤ 1)) (decide_eq_false (by omega)) c5
        by_cases cT : T = 0
        · refine ok_neg (by rw [hl, if_pos cT]; decide) ?_
          rw [M_startOf hW hNτ hGτ hi c5, Option.bind_some]
          dsimp only
          rw [chk_in (by omega) (by decide)]
          refine ok_some ⟨_, rfl, fin _ ?_⟩
          rw [e5, if_pos cT]
        · refine ok_pos (by rw [hl, if_neg cT]) ?_
          rw [chk_in (by omega) (by decide), e4 (by omega), chk_in (by omega) (by decide), chk_in (by omega) (by decide), nI_clamp (by omega), f 13 (by decide), q0 _ un, hP (by omega) _ un]
          refine ok_some ⟨_, rfl, fin _ ?_⟩
          rw [e5, if_neg cT]
      refine ok_neg (by rw [e2]; exact t_n5 hW hi c5) ?_
      have cm : 2 ≤ t i ∧ t i ≤ 4 := by omega
      obtain ⟨qq, qe⟩ := vpl_m (g := g) (T := T) hW hi cm
      rw [M_worked hW hNτ hBτ hi cm (q _ qq.1) (q _ qq.2) (vpl_lt hW hg _ _ (by omega)) (vpl_lt hW hg _ _ (by omega)), Option.bind_some]
      dsimp only
      rw [chk_in (by omega) (by decide)]
      exact ok_some ⟨_, rfl, fin _ (by rw [qe])⟩
    · rintro τ ⟨f, q⟩
      dsimp only
      unfold fX8_reckons_B30
      rw [f 0 (by decide), f0 0 (by decide), hN.2.1, if_pos (Int32.le_refl _)]
      exact ok_some ⟨f, q⟩
  refine ok_bind (ok_mono key ?_)
  rintro τ ⟨f, q⟩
  exact ok_some ⟨FR_trans (FR_mono f0 (by decide)) (FR_mono f (by decide)), q⟩
theorem M_goPlain {w n : Nat} {t o u g : Nat → Nat} {σ : Mem} (hW : WF w n t o u) (hN : NM n t o u σ) (hB : MB w σ) (hg : ∀ k, g k < 2 ^ w) (hG : MG w g σ) {a b : Nat} (ha : a < n) (hb : b < n) (e9 : σ 0 9 = nI a) (e10 : σ 0 10 = nI b) :
    ok (fX8_runs_L49 0 σ) (fun p => p.1 = (gpl w n t o u g (σ 0 7) (σ 0 8) a b).1 ∧ FR [0, 12, 13, 15] σ p.2 ∧ (∀ j, j ≠ 25 → p.2 0 j = σ 0 j) ∧ SM p.2 (gpl w n t o u g (σ 0 7) (σ 0 8) a b).2) := by
  have h30 := hN.1
  have hw := hB.1.2
  have turn := go_rule (body := fun x => fX8_runs_B56 0 x.1 x.2) (tb := fun T => tsb (σ 0 8) (vpl w t o u g T a) (vpl w t o u g T b)) (Se := fun T s => seN (σ 0 7) (vpl w t o u g T) n s)
    (fun T τ s => FR [0, 12, 13, 15] σ τ ∧ (∀ j, j ≠ 25 → τ 0 j = σ 0 j) ∧ (0 < T → ∀ k, k < n → τ 12 k = nI (vpl w t o u g (T - 1) k)) ∧ SM τ s)
    (fun τ s => FR [0, 12, 13, 15] σ τ ∧ (∀ j, j ≠ 25 → τ 0 j = σ 0 j) ∧ SM τ s) (by
      rintro T τ s hT ⟨f, f0, q2, q3⟩
      have hNτ := NM_of hN f (f0 6 (by decide)) (by decide) (by decide) (by decide)
      have hBτ : MB w τ := ⟨hB.1, by rw [f0 1 (by decide)]; exact hB.2⟩
      have hGτ := MG_F hG f (by decide)
      have L105 : ∀ l : Int32, l = (if T = 0 then 1 else 0) → ok (fX8_runs_L105 0 (nI T) l τ) (Sum.elim (fun a' => tsb (σ 0 8) (vpl w t o u g T a) (vpl w t o u g T b) = true ∧ ∃ σ', a' = (nI (T + 1), σ') ∧ FR [0, 12, 13, 15] σ σ' ∧ (∀ j, j ≠ 25 → σ' 0 j = σ 0 j) ∧ (0 < T + 1 → ∀ k, k < n → σ' 12 k = nI (vpl w t o u g (T + 1 - 1) k)) ∧ SM σ' (seN (σ 0 7) (vpl w t o u g T) n s)) (Sum.elim (fun _ => False) (fun p => tsb (σ 0 8) (vpl w t o u g T a) (vpl w t o u g T b) = false ∧ p.1 = nI T ∧ FR [0, 12, 13, 15] σ p.2 ∧ (∀ j, j ≠ 25 → p.2 0 j = σ 0 j) ∧ SM p.2 s))) := by
        intro l hl
        unfold fX8_runs_L105 fX8_runs_L108 fX8_runs_L182
        refine ok_bind (ok_mono (M_reckons hW hNτ hBτ hg hGτ q2 l hl) ?_)
        rintro ρ ⟨f1, q4⟩
        have m0 : ∀ j, j ≠ 25 → ρ 0 j = σ 0 j := by intro j hj; rw [f1 0 (by decide)]; exact f0 j hj
        have hNρ := NM_F4 hNτ f1 (by decide)
        rw [M_test (w := w) hw (by omega) (by omega) (by rw [m0 9 (by decide)]; exact e9) (by rw [m0 10 (by decide)]; exact e10) (vpl_lt hW hg T a ha) (vpl_lt hW hg T b hb) (q4 a ha) (q4 b hb), Option.bind_some, m0 8 (by decide)]
        dsimp only
        have F2 : FR [0, 12, 13, 15] σ ρ := FR_trans f (FR_mono f1 (by decide))
        have S2 : SM ρ s := by
          refine ⟨q3.1, ?_, ?_⟩
          · rw [f1 0 (by decide)]; exact q3.2.1
          · rw [f1 15 (by decide)]; exact q3.2.2
        by_cases ct : tsb (σ 0 8) (vpl w t o u g T a) (vpl w t o u g T b) = true
        · refine ok_neg (by rw [if_pos ct]; decide) ?_
          refine ok_bind (ok_mono (M_see hNρ (V := vpl w t o u g T) (fun k hk _ => q4 k hk) S2 _ _) ?_)
          rintro ρ3 ⟨f4, f5, q6⟩
          rw [nI_1]
          rw [m0 7 (by decide)] at q6
          refine ok_some ⟨ct, ρ3, rfl, FR_trans F2 (FR_mono f4 (by decide)), fun j hj => (f5 j hj).trans (m0 j hj), ?_, q6⟩
          intro _ k hk
          rw [f4 12 (by decide), q4 k hk]; rfl
        · refine ok_pos (by rw [if_neg ct]) ?_
          exact ok_some ⟨Bool.eq_false_iff.mpr ct, rfl, F2, m0, S2⟩
      dsimp only
      unfold fX8_runs_B56 fX8_runs_L75
      refine ok_neg (show ¬ nI 300 ≤ nI T from nI_ge (by omega) (by omega)) ?_
      refine ok_pos rfl ?_
      refine ok_pos rfl ?_
      by_cases cT : T = 0
      · subst cT
        refine ok_pos (show nI 0 = 0 from rfl) ?_
        exact L105 1 rfl
      · refine ok_neg (show ¬ nI T = 0 from fun e => cT ((nI_eq (b := 0) (by omega) (by omega)).mp e)) ?_
        exact L105 0 (by rw [if_neg cT])) (by
      rintro τ s ⟨f, f0, -, q3⟩
      dsimp only
      unfold fX8_runs_B56
      refine ok_pos (show nI 300 ≤ nI 300 from Int32.le_refl _) ?_
      exact ok_some ⟨f, f0, q3⟩)
  unfold fX8_runs_L49 fX8_runs_L188
  refine ok_mono (turn 300 0 (up2 σ 0 25 0) (0, fun _ => 0) rfl ⟨FR_up2 _ (by decide) _ _, fun j hj => up2_col _ _ _ hj, fun h => absurd h (by decide), by decide, by rw [up2_eq]; rfl, fun i hi => absurd hi (Nat.not_lt_zero _)⟩) ?_
  rintro ⟨r, ρ⟩ ⟨h1, h2, h4⟩
  exact ⟨h1, h2, h4⟩
theorem KX_FR {w n : Nat} {t o u : Nat → Nat} {L : List Nat} {σ τ : Mem} (hX : CX w n t o u σ) (hp : PXc w n t o u σ) (f : FR L σ τ) (hL : ∀ x, x ∈ L → x ∈ [6, 14, 26, 27, 28, 29, 30, 31]) : KX w n t o u σ τ := by
  have f2 := FR_mono f hL
  have e3 := f2 3 (by decide)
  refine ⟨FR_mono f2 (by decide), ⟨NX_F4 hX.1 f2 (by decide), PI_FR hX.2.1 f2 (by decide) (by decide) (by decide) (by decide) (by decide) (by decide) (by decide) (by decide), by rw [e3]; exact hX.2.2.1, ?_⟩, PXc_FR hp f2 (by decide), Or.inl (by rw [f2 0 (by decide)]), Or.inl ⟨by rw [f2 4 (by decide)], by rw [f2 4 (by decide)]⟩⟩
  rw [f2 0 (by decide), e3]
  intro h
  exact XC_FR (hX.2.2.2 h) f2 (by decide)
theorem KX_trans {w n : Nat} {t o u : Nat → Nat} {σ τ ρ : Mem} (h : KX w n t o u σ τ) (h2 : KX w n t o u τ ρ) : KX w n t o u σ ρ := by
  have e3 : τ 3 = σ 3 := h.1 3 (by decide)
  refine ⟨FR_trans h.1 h2.1, h2.2.1, h2.2.2.1, ?_, ?_⟩
  · rcases h2.2.2.2.1 with q | q
    · rw [q]; exact h.2.2.2.1
    · rw [q, e3]; exact Or.inr rfl
  · rcases h2.2.2.2.2 with ⟨q, q'⟩ | ⟨q, q'⟩
    · rw [q, q']; exact h.2.2.2.2
    · rw [q, q', e3]; exact Or.inr ⟨rfl, rfl⟩
theorem KM_FR {w n : Nat} {t o u : Nat → Nat} {L : List Nat} {σ τ : Mem} (hM : CM w n t o u σ) (f : FR L σ τ) (hL : ∀ x, x ∈ L → x ∈ [0, 9, 10, 12, 13, 14, 15]) (f0 : ∀ j, j ≠ 2 → j ≠ 17 → j ≠ 20 → j ≠ 25 → τ 0 j = σ 0 j) : KM w n t o u σ τ := by
  have f2 := FR_mono f hL
  refine ⟨FR_mono f2 (by decide), ⟨NM_of hM.1 f2 (f0 6 (by decide) (by decide) (by decide) (by decide)) (by decide) (by decide) (by decide), ⟨hM.2.1.1, by rw [f0 1 (by decide) (by decide) (by decide) (by decide)]; exact hM.2.1.2⟩, ?_⟩, fun j h2 _ h17 h20 h25 => f0 j h2 h17 h20 h25⟩
  rw [f0 11 (by decide) (by decide) (by decide) (by decide)]
  intro h
  exact MC_FR (hM.2.2 h) f2 (f0 1 (by decide) (by decide) (by decide) (by decide)) (by decide) (by decide) (by decide) (by decide)
theorem KM_trans {w n : Nat} {t o u : Nat → Nat} {σ τ ρ : Mem} (h : KM w n t o u σ τ) (h2 : KM w n t o u τ ρ) : KM w n t o u σ ρ := ⟨FR_trans h.1 h2.1, h2.2.1, fun j a b c d e => (h2.2.2 j a b c d e).trans (h.2.2 j a b c d e)⟩
theorem seen_of {σX σM : Mem} {s : Sn} (h1 : SX σX s) (h2 : SM σM s) : seenEq σX σM := ⟨s.1, h1.1, h1.2.1, h2.2.1, fun i hi => by rw [h1.2.2 i hi, h2.2.2 i hi]⟩
theorem P_run {w n : Nat} {t o u : Nat → Nat} {σX σM : Mem} (hW : WF w n t o u) (hX : CX w n t o u σX) (hM : CM w n t o u σM) (hp : PXc w n t o u σX) (he : askEq σX σM) (ho : askOk n σX) (hs : seenEq σX σM) (a b c : Int32) : Same2 w n t o u σX σM (fX7_run a b c σX) (fX8_run a b c σM) := by
  have hw := hX.2.1.1.1
  by_cases c1 : σX 3 8 = -1
  · refine Same2_of (-1) hs ?_ ?_
    · unfold fX7_run
      rw [if_pos c1]
      exact ok_some ⟨rfl, KX_Q (QX_refl hX) hp, rfl, rfl⟩
    · unfold fX8_run fX8_runs
      have hT := CM_th hM
      rw [th_def]
      refine ok_bind (ok_mono (CM_gives hT.2.1 a b c) ?_)
      rintro τ ⟨q1, -⟩
      have q := QM_trans hT q1
      rw [if_pos (show τ 0 8 = -1 by rw [q.2.2 8 (by decide) (by decide), he.2.1]; exact c1), Option.bind_some]
      exact ok_some ⟨rfl, KM_Q q, q.2.2 25 (by decide) (by decide), q.1 15 (by decide)⟩
  · obtain ⟨x, y, hx, hy, e9, e10⟩ : ∃ x y, x < n ∧ y < n ∧ σX 3 9 = nI x ∧ σX 3 10 = nI y := by
      rcases ho.2 with q | ⟨-, q⟩
      · exact absurd q c1
      · exact q
    have hX1 : ok (fX7_run a b c σX) (fun p => p.1 = (gpl w n t o u (gv w a b c) (σX 3 7) (σX 3 8) x y).1 ∧ KX w n t o u σX p.2 ∧ SX p.2 (gpl w n t o u (gv w a b c) (σX 3 7) (σX 3 8) x y).2) := by
      unfold fX7_run
      rw [if_neg c1]
      refine ok_bind (ok_mono (X_give6 hw.2 hX.2.2.1 a b c) ?_)
      rintro τ ⟨f, q⟩
      have m3 : τ 3 = σX 3 := f 3 (by decide)
      refine ok_bind (ok_mono (X_goPlain hW (NX_F4 hX.1 f (by decide)) hw.2 (by rw [m3]; exact hX.2.2.1) (gv_lt w a b c) q hx hy (by rw [m3]; exact e9) (by rw [m3]; exact e10)) ?_)
      rw [m3]
      rintro ⟨r, ρ⟩ ⟨q1, f2, q2⟩
      exact ok_some ⟨q1, KX_FR hX hp (FR_trans (FR_mono f (S' := [26, 6, 27, 28, 31]) (by decide)) (FR_mono f2 (by decide))) (by decide), q2⟩
    have hM1 : ok (fX8_run a b c σM) (fun p => p.1 = (gpl w n t o u (gv w a b c) (σX 3 7) (σX 3 8) x y).1 ∧ KM w n t o u σM p.2 ∧ SM p.2 (gpl w n t o u (gv w a b c) (σX 3 7) (σX 3 8) x y).2) := by
      unfold fX8_run fX8_runs
      have hT := CM_th hM
      rw [th_def]
      refine ok_bind (ok_mono (CM_gives hT.2.1 a b c) ?_)
      rintro τ ⟨q1, q2⟩
      have q := QM_trans hT q1
      have m : ∀ j, j ≠ 11 → j ≠ 2 → τ 0 j = σM 0 j := q.2.2
      rw [if_neg (show ¬ τ 0 8 = -1 by rw [m 8 (by decide) (by decide), he.2.1]; exact c1), if_pos rfl]
      refine ok_bind (ok_mono (M_goPlain hW q.2.1.1 q.2.1.2.1 (gv_lt w a b c) q2 hx hy (by rw [m 9 (by decide) (by decide), he.2.2.1]; exact e9) (by rw [m 10 (by decide) (by decide), he.2.2.2]; exact e10)) ?_)
      rw [m 7 (by decide) (by decide), m 8 (by decide) (by decide), he.1, he.2.1]
      rintro ⟨r, ρ⟩ ⟨q3, f2, f3, q4⟩
      exact ok_some ⟨q3, KM_trans (KM_Q q) (KM_FR q.2.1 f2 (by decide) (fun j _ _ _ h25 => f3 j h25)), q4⟩
    obtain ⟨⟨rX, τX⟩, ex, x1, x2, x3⟩ := hX1
    obtain ⟨⟨rM, τM⟩, em, m1, m2, m3⟩ := hM1
    dsimp only at x1 x2 x3 m1 m2 m3
    exact ⟨rX, τX, τM, ex, by rw [em, m1, x1], x2, m2, seen_of x3 m3⟩
