theorem M_count {w n : Nat} {t o u : Nat → Nat} {σ : Mem} {c : Int32} {m : Nat → Bool} (hW : WF w n t o u) (hN : NM n t o u σ) (hb : ∀ i, i < n → bt c i = m i) :
    ok (loop (fun a => fX8_laysCycle_B10 c a.1 a.2.1 a.2.2.1 a.2.2.2.1 a.2.2.2.2) ((-1), 0, 0, 0, σ)) (fun r => ∃ y, r = (y, nI (fb_ct (isC t m) n), nI (fb_ct m n), σ) ∧ (fb_ct (isC t m) n ≠ 0 → y = nI (lc t m n)) ∧ (fb_ct (isC t m) n = 0 → fb_ct m n ≠ 0 → ∃ j, j < n ∧ m j = true ∧ y = nI j)) := by
  have h30 := hN.1
  refine ok_for' (enc := fun i (y : Int32) => (y, nI (fb_ct (isC t m) i), nI (fb_ct m i), nI i, σ)) n (fun i y => (fb_ct (isC t m) i ≠ 0 → y = nI (lc t m i)) ∧ (fb_ct (isC t m) i = 0 → fb_ct m i = 0 → y = -1) ∧ (fb_ct (isC t m) i = 0 → fb_ct m i ≠ 0 → ∃ j, j < i ∧ m j = true ∧ y = nI j)) (i0 := 0) (s0 := -1) (Nat.zero_le _) ⟨fun q => absurd rfl q, fun _ _ => rfl, fun _ q => absurd rfl q⟩ ?_ ?_
  · intro i y hi ⟨h1, h2, h3⟩
    dsimp only
    have e2 := (hN.2.2 i hi).1
    unfold fX8_laysCycle_B10 fX8_laysCycle_L51 fX8_laysCycle_L69 fX8_laysCycle_L75 fX8_laysCycle_L76
    rw [hN.2.1, if_neg (nI_ge hi (by omega)), hasE _ (by omega), Option.bind_some]
    dsimp only
    rw [hb i hi]
    by_cases cm : m i = true
    · have hct : fb_ct m (i + 1) = fb_ct m i + 1 := by rw [fb_ct_succ, if_pos cm]
      rw [if_pos cm, if_neg (by decide), chk_in (by omega) (by decide), nI_clamp (by omega)]
      by_cases c5 : t i = 5
      · have hc : isC t m i = true := by unfold isC; simp [cm, c5]
        have hc1 : fb_ct (isC t m) (i + 1) = fb_ct (isC t m) i + 1 := by rw [fb_ct_succ, if_pos hc]
        have e5 : σ 2 i = 5 := by rw [e2, c5]; rfl
        refine ok_pos e5 ?_
        rw [chk_in (by omega) (by decide)]
        refine ok_pos e5 ?_
        refine ok_some ⟨nI i, by rw [hct, hc1, nI_1, nI_1, nI_1], fun _ => ?_, fun q => by omega, fun q => by omega⟩
        show nI i = nI (if isC t m i = true then i else lc t m i)
        rw [if_pos hc]
      · have hc : ¬ isC t m i = true := fun q => c5 (isC_m q).2
        have hc1 : fb_ct (isC t m) (i + 1) = fb_ct (isC t m) i := by rw [fb_ct_succ, if_neg hc, Nat.add_zero]
        have hlc : lc t m (i + 1) = lc t m i := by
          show (if isC t m i = true then i else lc t m i) = _
          rw [if_neg hc]
        have e5 : ¬ σ 2 i = 5 := by rw [e2]; exact t_n5 hW hi c5
        refine ok_neg e5 ?_
        rw [chk_in (by omega) (by decide)]
        refine ok_neg e5 ?_
        rw [Int32.add_zero, nI_1, nI_1]
        by_cases cy : y = -1
        · rw [if_pos cy]
          have z : fb_ct (isC t m) i = 0 := by
            rcases Nat.eq_zero_or_pos (fb_ct (isC t m) i) with q | q
            · exact q
            · exfalso
              have h4 := h1 (by omega)
              have h5 := lc_ok (fb_ct_pos.mp q)
              rw [cy] at h4
              exact nI_nm1 (n := lc t m i) (by omega) h4.symm
          refine ok_some ⟨nI i, by rw [hct, hc1], fun q => absurd (by omega) q, fun _ q => by omega, fun _ _ => ⟨i, by omega, cm, rfl⟩⟩
        · rw [if_neg cy]
          refine ok_some ⟨y, by rw [hct, hc1], fun q => by rw [hlc]; exact h1 (by omega), fun _ q => by omega, fun q _ => ?_⟩
          rcases Nat.eq_zero_or_pos (fb_ct m i) with z | z
          · exact absurd (h2 (by omega) z) cy
          · obtain ⟨j, j1, j2, j3⟩ := h3 (by omega) (by omega)
            exact ⟨j, by omega, j2, j3⟩
    · have hc : ¬ isC t m i = true := fun q => cm (isC_m q).1
      have h0 : fb_ct m (i + 1) = fb_ct m i := by rw [fb_ct_succ, if_neg cm, Nat.add_zero]
      have hc1 : fb_ct (isC t m) (i + 1) = fb_ct (isC t m) i := by rw [fb_ct_succ, if_neg hc, Nat.add_zero]
      have hlc : lc t m (i + 1) = lc t m i := by
        show (if isC t m i = true then i else lc t m i) = _
        rw [if_neg hc]
      rw [if_neg cm, if_pos rfl, nI_1]
      refine ok_some ⟨y, by rw [h0, hc1], fun q => by rw [hlc]; exact h1 (by omega), fun q z => h2 (by omega) (by omega), fun q z => ?_⟩
      obtain ⟨j, j1, j2, j3⟩ := h3 (by omega) (by omega)
      exact ⟨j, by omega, j2, j3⟩
  · intro y ⟨h1, h2, h3⟩
    dsimp only
    unfold fX8_laysCycle_B10
    rw [hN.2.1, if_pos (Int32.le_refl _)]
    exact ok_some ⟨y, rfl, h1, h3⟩
theorem Cy_self {E : Nat → Nat → Bool} {n k i : Nat} (hE : ∀ i j, i < n → E i j = true → j < n) (hk : k < n) (hv : via E n k k = true) (h : Cy E n k i = true) : via E n i i = true := by
  rcases Cy_iff.mp h with e | ⟨e1, e2⟩
  · rw [e]; exact hv
  · exact via_mid E n i k i hk e2 e1
theorem M_laysCycle {w n : Nat} {t o u : Nat → Nat} {σ : Mem} {k : Nat} {dn : Int32} {S : AS} (hW : WF w n t o u) (hN : NM n t o u σ) (hB : MB w σ) (hk : k < n) (hd : DNv (eg t o u) n dn) (hm : may (eg t o u) n dn k) (hA : AI w n t o dn S) (hh : ∀ i, i < n → σ 5 i = hgv (eg t o u) n i) (hX : SMr w n dn S σ) :
    ok (fX8_laysCycle (cyv (eg t o u) n k) σ) (fun τ => FR [1, 6, 7, 8] σ τ ∧ SMr w n (dn ||| cyv (eg t o u) n k) (stl w n t o u S k) τ) := by
  have h30 := hN.1
  have hE := eg_E hW
  have hw := hB.1
  have hAI := AI_st hW h30 hw.1 hk hd hm hA
  obtain ⟨hm1, hm2⟩ := (may_iff h30 hE hk).mp hm
  obtain ⟨c, hce⟩ : ∃ c, c = cyv (eg t o u) n k := ⟨_, rfl⟩
  have hbb : ∀ i, i < 32 → bt c i = Cy (eg t o u) n k i := fun i hi => by rw [hce]; exact bt_cyv h30 hE hk hi
  have hmk : Cy (eg t o u) n k k = true := Cy_iff.mpr (Or.inl rfl)
  rw [← hce] at hAI ⊢
  obtain ⟨m, hme⟩ : ∃ m, m = Cy (eg t o u) n k := ⟨_, rfl⟩
  have hb : ∀ i, i < n → bt c i = m i := fun i hi => by rw [hme]; exact hbb i (by omega)
  have hmk' : m k = true := by rw [hme]; exact hmk
  have hmn : ∀ i, m i = true → i < n := fun i hi => by rw [hme] at hi; exact Cy_lt hE hk hi
  have hdm : ∀ i, i < n → bt dn i = true → m i = false := fun i hi hbi => by
    cases q : m i
    · rfl
    · exfalso
      rw [hme] at q
      rcases Cy_iff.mp q with e | ⟨e1, e2⟩
      · rw [e, hm1] at hbi; exact absurd hbi (by decide)
      · have := hd.2 i k hi hbi e2
        rw [hm1] at this; exact absurd this (by decide)
  have lM := fb_ct_le m n
  have lC := fb_ct_le (isC t m) n
  -- the end
  have asm : ∀ (τ : Mem) (d : Nat → Nat) (f : Nat → Fo) (z : Nat), FR [1, 6, 7, 8] σ τ → (∀ i, i < n → m i = false → τ 6 i = σ 6 i ∧ τ 7 i = σ 7 i) → (∀ i A, i < 30 → m i = false → fm w σ i A → fm w τ i A) → (∀ i, m i = true → τ 6 i = nI (d i) ∧ τ 7 i = nI (kd (d i) (f i) z) ∧ (d i ≠ 9 → fm w τ i (f i))) → FR [1, 6, 7, 8] σ τ ∧ SMr w n (dn ||| c) (aset S m d f z) τ := by
    intro τ d f z hf h67 hfm hmm
    refine ⟨hf, fun i hi hbi => ?_⟩
    unfold aset
    dsimp only
    by_cases cm : m i = true
    · rw [if_pos cm, if_pos cm, if_pos cm]; exact hmm i cm
    · have cm' : m i = false := by simpa using cm
      rw [if_neg cm, if_neg cm, if_neg cm]
      rw [b_or, hb i hi, cm', Bool.or_false] at hbi
      obtain ⟨q1, q2, q3⟩ := hX i hi hbi
      obtain ⟨z1, z2⟩ := h67 i hi cm'
      exact ⟨by rw [z1]; exact q1, by rw [z2]; exact q2, fun q => hfm i _ (by omega) cm' (q3 q)⟩
  have fin : ∀ (τ : Mem) (d : Nat → Nat) (f : Nat → Fo), FR [1, 6, 8] σ τ → (∀ i, m i = false → τ 6 i = σ 6 i) → (∀ i A, i < 30 → m i = false → fm w σ i A → fm w τ i A) → (∀ i, m i = true → τ 6 i = nI (d i) ∧ (d i = 9 ∨ d i ≤ 3) ∧ (d i ≠ 9 → fm w τ i (f i))) → ok (fX8_laysCycle_L201 c τ) (fun ρ => FR [1, 6, 7, 8] σ ρ ∧ SMr w n (dn ||| c) (aset S m d f 4) ρ) := by
    intro τ d f hf h6 hfm hmm
    have hNτ : NM n t o u τ := NM_FR hN hf (by decide) (by decide) (by decide) (by decide)
    refine ok_mono (M_kinds (w := w) (D := d) (F := f) hw.2 hNτ (fun i hi hbi => hmm i (by rw [hb i hi] at hbi; exact hbi))) ?_
    rintro ρ ⟨hf2, h7⟩
    refine asm ρ d f 4 (FR_trans (FR_mono hf (by decide)) (FR_mono hf2 (by decide))) (fun i hi hmi => ⟨?_, ?_⟩) (fun i A hi hmi hA => fm_FR (hfm i A hi hmi hA) hf2 (by decide)) (fun i hi => ⟨?_, ?_, fun q => fm_FR ((hmm i hi).2.2 q) hf2 (by decide)⟩)
    · rw [hf2 6 (by decide)]; exact h6 i hmi
    · rw [h7 i hi, hb i hi, hmi, if_neg (by decide), hf 7 (by decide)]
    · rw [hf2 6 (by decide)]; exact (hmm i hi).1
    · rw [h7 i (hmn i hi), hb i (hmn i hi), hi, if_pos rfl]
  unfold fX8_laysCycle
  refine ok_bind (ok_mono (M_count hW hN hb) ?_)
  rintro r ⟨y, rfl, hy1, hy2⟩
  dsimp only
  unfold fX8_laysCycle_L82
  by_cases hv : via (eg t o u) n k k = true
  · -- a cycle
    have hC : CF n t o u m dn := by rw [hme]; exact CF_of hW h30 hk hd hm hv
    have hs : stl w n t o u S k = cyc w n t o u S m := by unfold stl; rw [if_pos hv, hme]
    rw [hs] at hAI ⊢
    unfold cyc
    have hpos : 0 < fb_ct (isC t m) n := by
      obtain ⟨x, q1, q2⟩ := CF_carr hW hC (k + 1) k (by omega) hmk'
      exact fb_ct_pos.mpr ⟨x, hmn x (isC_m q2).1, q2⟩
    by_cases c1 : fb_ct (isC t m) n = 1
    · obtain ⟨x1, x2, x3, x4, x5⟩ := CF_x hW hC c1
      rw [if_pos (show nI (fb_ct (isC t m) n) ≤ 1 by rw [c1]; decide), if_pos c1, hy1 (by omega), chk_in (by omega) (by decide), nI_clamp (by omega)]
      have e2 := (hN.2.2 _ x1).1
      have e5 : σ 2 (lc t m n) = 5 := by rw [e2, x3]; rfl
      rw [e5, if_pos (show (1 : Int32) < 5 by decide), chk_in (by omega) (by decide), if_pos rfl, chk_in (by omega) (by decide), hasE _ (by omega), Option.bind_some]
      dsimp only
      have hvx : via (eg t o u) n (lc t m n) (lc t m n) = true := Cy_self hE hk hv (by rw [← hme]; exact x2)
      rw [hh _ x1, bt_hgv h30 hE x1 (by omega), hvx, if_pos rfl, if_neg (by decide)]
      refine ok_bind (ok_mono (M_laysCarried hW hN hB hb hC hA hX c1) ?_)
      rintro ⟨r, τ⟩ ⟨⟨p1, p2, p3⟩, hq⟩
      dsimp only at p1 p2 p3 hq ⊢
      rcases hq with ⟨hq, q1⟩ | ⟨q, hq, q1, qm⟩
      · rw [q1, if_pos rfl, hq]
        have hNτ : NM n t o u τ := NM_FR hN p1 (by decide) (by decide) (by decide) (by decide)
        refine ok_bind (ok_mono (M_laysNone (c := c) (z := 4) hNτ) ?_)
        rintro ρ ⟨hf, h67⟩
        have hfr : FR [1, 6, 7, 8] σ ρ := FR_trans (FR_mono p1 (by decide)) (FR_mono hf (by decide))
        have hNρ : NM n t o u ρ := NM_FR hN hfr (by decide) (by decide) (by decide) (by decide)
        refine ok_mono (M_kinds (w := w) (c := c) (D := fun _ => 9) (F := fun _ => f0) hw.2 hNρ (fun i hi hbi => ⟨by rw [(h67 i hi).1, if_pos hbi]; rfl, Or.inl rfl, fun q => absurd rfl q⟩)) ?_
        rintro ρ2 ⟨hf2, h7⟩
        refine asm ρ2 _ _ 4 (FR_trans hfr (FR_mono hf2 (by decide))) (fun i hi hmi => ⟨?_, ?_⟩) (fun i A hi hmi hA => fm_FR (fm_FR (p3 i A hi hmi hA) hf (by decide)) hf2 (by decide)) (fun i hi => ⟨?_, ?_, fun q => absurd rfl q⟩)
        · rw [hf2 6 (by decide), (h67 i hi).1, hb i hi, hmi, if_neg (by decide)]; exact p2 i hmi
        · rw [h7 i hi, hb i hi, hmi, if_neg (by decide), (h67 i hi).2, hb i hi, hmi, if_neg (by decide), p1 7 (by decide)]
        · rw [hf2 6 (by decide), (h67 i (hmn i hi)).1, hb i (hmn i hi), hi, if_pos rfl]; rfl
        · rw [h7 i (hmn i hi), hb i (hmn i hi), hi, if_pos rfl]
      · rw [q1, if_neg (by decide), hq]
        exact fin τ (fun _ => q.1) q.2 p1 p2 p3 (fun i hi => ⟨(qm i hi).1, (trn_ok hW hw.1 hC hA c1 hq).1, fun _ => (qm i hi).2⟩)
    · rw [if_neg (show ¬ nI _ ≤ 1 from nI_ge (a := 1) (by omega) (by omega)), if_neg c1]
      have hno : ∀ z, ok (fX8_laysCycle_L100 c (nI z) σ) (fun ρ => FR [1, 6, 7, 8] σ ρ ∧ SMr w n (dn ||| c) (aset S m (fun _ => 9) (fun _ => f0) z) ρ) := by
        intro z
        unfold fX8_laysCycle_L100
        refine ok_bind (ok_mono (M_laysNone (c := c) (z := z) hN) ?_)
        rintro ρ ⟨hf, h67⟩
        refine ok_some (asm ρ _ _ z (FR_mono hf (by decide)) (fun i hi hmi => ⟨?_, ?_⟩) (fun i A hi hmi hA => fm_FR hA hf (by decide)) (fun i hi => ⟨?_, ?_, fun q => absurd rfl q⟩))
        · rw [(h67 i hi).1, hb i hi, hmi, if_neg (by decide)]
        · rw [(h67 i hi).2, hb i hi, hmi, if_neg (by decide)]
        · rw [(h67 i (hmn i hi)).1, hb i (hmn i hi), hi, if_pos rfl]; rfl
        · rw [(h67 i (hmn i hi)).2, hb i (hmn i hi), hi, if_pos rfl]; rfl
      by_cases ca : fb_ct (isC t m) n = fb_ct m n
      · rw [if_pos (by rw [ca]), if_pos ca]
        exact hno 3
      · rw [if_neg (show ¬ nI _ = nI _ from fun e => ca ((nI_eq (by omega) (by omega)).mp e)), if_neg ca]
        exact hno 4
  · -- a name that stands alone
    have hma : ∀ i, m i = decide (i = k) := fun i => by rw [hme]; exact Cy_alone hE hk hv i
    have hmek : ∀ i, m i = true → i = k := fun i hi => by rw [hma] at hi; simpa using hi
    have hmne : ∀ i, m i = false → i ≠ k := fun i hi e => by rw [e, hmk'] at hi; exact absurd hi (by decide)
    obtain ⟨p, hp⟩ : ∃ p, p = aDF w t o u S.1 S.2.1 k := ⟨_, rfl⟩
    have hs : stl w n t o u S k = aset S m (fun _ => p.1) (fun _ => p.2) 4 := by
      unfold stl
      rw [if_neg hv, hp]
      have : m = fun i => decide (i = k) := funext hma
      rw [this]
    have hkb : bt (dn ||| c) k = true := by rw [b_or, hb k hk, hmk', Bool.or_true]
    have hpk := hAI k hk hkb
    rw [hs] at hpk ⊢
    have hp1 : (aset S m (fun _ => p.1) (fun _ => p.2) 4).1 k = p.1 := by unfold aset; simp [hmk']
    rw [hp1] at hpk
    have hpd : p.1 = 9 ∨ p.1 ≤ 3 := by rcases hpk.1 with q | q; exact Or.inl q; exact Or.inr q.1
    have hpart : ∀ j, eg t o u k j = true → j < n ∧ bt dn j = true := by
      intro j he
      have hj := eg_lt hW hk he
      refine ⟨hj, hm2 j hj (eg_via he) ?_⟩
      rw [Cy_alone hE hk hv]
      simp only [decide_eq_false_iff_not]
      intro e
      rw [e] at he
      exact hv (eg_via he)
    have hyk : y = nI k := by
      rcases Nat.eq_zero_or_pos (fb_ct (isC t m) n) with q | q
      · have : fb_ct m n ≠ 0 := fun z => by
          have := fb_ct_zero.mp z k hk
          rw [hmk'] at this; exact absurd this (by decide)
        obtain ⟨j, j1, j2, j3⟩ := hy2 q this
        rw [j3, hmek j j2]
      · rw [hy1 (by omega), hmek _ (isC_m (lc_ok (fb_ct_pos.mp q)).2).1]
    have hle1 : fb_ct (isC t m) n ≤ 1 := by
      have q1 : fb_ct (isC t m) n ≤ fb_ct (fun i => if i = k then true else false) n := fb_ct_sub (fun i _ h => by rw [hmek i (isC_m h).1]; simp)
      have q2 := fb_ct_upd (fun _ => false) true hk
      have q3 : fb_ct (fun _ => false) n = 0 := fb_ct_zero.mpr (fun _ _ => rfl)
      rw [q3, if_neg (show ¬ (false = true) by decide), if_pos (show true = true from rfl)] at q2
      omega
    rw [if_pos (show nI (fb_ct (isC t m) n) ≤ 1 from nI_le (b := 1) hle1 (by decide)), hyk, chk_in (by omega) (by decide), nI_clamp (by omega)]
    have e2 := (hN.2.2 k hk).1
    have t5 := WF_t hW hk
    -- one slot has changed
    have fin1 : ∀ τ, MD w k σ τ → τ 6 k = nI p.1 → (p.1 ≠ 9 → fm w τ k p.2) → ok (fX8_laysCycle_L201 c τ) (fun ρ => FR [1, 6, 7, 8] σ ρ ∧ SMr w n (dn ||| c) (aset S m (fun _ => p.1) (fun _ => p.2) 4) ρ) := by
      intro τ hD h6 hfm
      refine fin τ _ _ (FR_mono hD.1 (by decide)) (fun i hi => hD.2.1 i (hmne i hi)) (fun i A hi30 hi hA => hD.2.2 i A hi30 (hmne i hi) hA) (fun i hi => ?_)
      rw [hmek i hi]
      exact ⟨h6, hpd, hfm⟩
    by_cases c1 : t k ≤ 1
    · rw [if_neg (show ¬ (1 : Int32) < σ 2 k by rw [e2]; exact nI_nlt (b := t k) (a := 1) c1 (by decide)), M_laysGiven hW hN hw.2 (by omega) hk (by omega), Option.bind_some, chk_in (by omega) (by decide)]
      have hp2 : p = (0, fGiv t o k) := by rw [hp]; unfold aDF; rw [if_pos c1]
      refine fin1 _ (MD_trans (MD_mset (Or.inl rfl)) (MD_up6 w k _ 0)) (by rw [up2_eq, hp2]; rfl) (fun _ => ?_)
      rw [hp2]
      exact fm_up (fm_mset σ k (OkF_giv hW hk (by omega) hw.1)) _ _ _ (by decide)
    · rw [if_pos (show (1 : Int32) < σ 2 k by rw [e2]; exact nI_lt (a := 1) (by omega) (by omega)), chk_in (by omega) (by decide)]
      by_cases c5 : t k = 5
      · rw [if_pos (show σ 2 k = 5 by rw [e2, c5]; rfl), chk_in (by omega) (by decide), hasE _ (by omega), Option.bind_some]
        dsimp only
        rw [hh k hk, bt_hgv h30 hE hk (by omega), if_neg hv, if_pos rfl, chk_in (by omega) (by decide), chk_in (by omega) (by decide), (hN.2.2 k hk).2.2 (by omega)]
        obtain ⟨u1, u2⟩ := hpart (u k) ((eg_carr c5 _).mpr rfl)
        obtain ⟨q1, q2, q3⟩ := hX (u k) u1 u2
        have hAu := (hA (u k) u1 u2).1
        rw [chk_in (by omega) (by decide), nI_clamp (by omega), q1]
        have hp2 : p = ltr w (S.1 (u k)) (S.2.1 (u k)) (fGiv t o (o k)) := by rw [hp]; unfold aDF; rw [if_neg c1, if_pos c5]
        refine ok_bind (ok_mono (M_carries hW hN hB hk u1 c5 (by rcases hAu with q | q; exact Or.inl q; exact Or.inr q.1) q3) ?_)
        rintro τ ⟨hD, h6, hfm⟩
        rw [← hp2] at h6 hfm
        exact fin1 τ hD h6 hfm
      · rw [if_neg (show ¬ σ 2 k = 5 by rw [e2]; exact t_n5 hW hk c5)]
        refine ok_bind (ok_mono (M_laysOp (S := S) hW hN hB hk (by omega) c5 (fun i hi => ?_)) ?_)
        · obtain ⟨u1, u2⟩ := hpart i ((eg_made (by omega) c5 _).mpr hi)
          obtain ⟨q1, q2, q3⟩ := hX i u1 u2
          exact ⟨q1, (hA i u1 u2).1, q3⟩
        · rintro τ ⟨hD, h6, hfm⟩
          rw [← hp] at h6 hfm
          exact fin1 τ hD h6 hfm
