theorem M_spread {w n : Nat} {t o u : Nat → Nat} {τ : Mem} {x : Nat} {c : Int32} {m : Nat → Bool} {s : WS} {X : Fo} {d : Nat} (hN : NM n t o u τ) (hB : MB w τ) (hb : ∀ i, i < n → bt c i = m i) (hmn : ∀ i, m i = true → i < n) (hxn : x < n) (hs : ∀ i, OkF w (s.2 i) ∧ s.1 i < 2 ^ w) (fX : fm w τ x X) (e6 : τ 6 x = nI d) (hm : ∀ i, m i = true → i ≠ x → fm w τ i (s.2 i) ∧ τ 8 i = nI (s.1 i)) :
    ok (fX8_laysCarried_L207 c (nI x) τ) (fun r => r.1 = 1 ∧ FR [1, 6] τ r.2 ∧ (∀ i, m i = false → r.2 6 i = τ 6 i) ∧ (∀ i A, i < 30 → m i = false → fm w τ i A → fm w r.2 i A) ∧ ∀ i, m i = true → r.2 6 i = nI d ∧ fm w r.2 i (spread w s x X i)) := by
  have h30 := hN.1
  have hw := hB.1
  unfold fX8_laysCarried_L207 fX8_laysCarried_L273
  refine ok_bind (ok_mono (?_ : ok _ (fun ρ => FR [1, 6] τ ρ ∧ (∀ i, m i = false → ρ 6 i = τ 6 i) ∧ (∀ i A, i < 30 → m i = false → fm w τ i A → fm w ρ i A) ∧ ∀ i, m i = true → ρ 6 i = nI d ∧ fm w ρ i (spread w s x X i))) (fun ρ h => ok_some ⟨rfl, h⟩))
  refine ok_for' (enc := fun k (ρ : Mem) => (nI k, ρ)) n (fun k ρ => FR [1, 6] τ ρ ∧ (∀ i, m i = false → ρ 6 i = τ 6 i) ∧ (∀ i A, i < 30 → m i = false → fm w τ i A → fm w ρ i A) ∧ fm w ρ x X ∧ ρ 6 x = nI d ∧ (∀ i, m i = true → i < k → ρ 6 i = nI d ∧ fm w ρ i (spread w s x X i)) ∧ ∀ i, m i = true → k ≤ i → i ≠ x → fm w ρ i (s.2 i)) (i0 := 0) (s0 := τ) (Nat.zero_le _) ⟨FR_refl _ _, fun _ _ => rfl, fun _ _ _ _ q => q, fX, e6, fun i _ hi => absurd hi (Nat.not_lt_zero i), fun i hi _ hx => (hm i hi hx).1⟩ ?_ ?_
  · intro k ρ hk ⟨hf, h6, hfm, fX', e6', hdo, hto⟩
    dsimp only
    unfold fX8_laysCarried_B210 fX8_laysCarried_L267
    have f0' : ρ 0 6 = nI n := by rw [hf 0 (by decide)]; exact hN.2.1
    rw [f0', if_neg (nI_ge hk (by omega)), hasE _ (by omega), Option.bind_some]
    dsimp only
    rw [hb k hk]
    by_cases cm : m k = true
    · rw [if_pos cm, if_neg (by decide)]
      by_cases cx : k = x
      · rw [if_pos (by rw [cx]), nI_1]
        refine ok_some ⟨_, rfl, hf, h6, hfm, fX', e6', fun i hi hik => ?_, fun i hi hik hx => hto i hi (by omega) hx⟩
        by_cases e : i = k
        · rw [e, cx]
          refine ⟨e6', ?_⟩
          unfold spread; rw [if_pos rfl]; exact fX'
        · exact hdo i hi (by omega)
      · rw [if_neg (fun e => cx ((nI_eq (by omega) (by omega)).mp e)), chk_in (by omega) (by decide), nI_clamp (by omega)]
        have e8 : ρ 8 k = nI (s.1 k) := by rw [hf 8 (by decide)]; exact (hm k cm cx).2
        rw [e8, M_joins (MB_FR hB hf (by decide)) (by omega) (by omega) (by omega) (hto k cm (Nat.le_refl _) cx) fX' 1 (nI (s.1 k)), Option.bind_some, mI_1 hw, mI_lt16 hw.2 (hs k).2, fJoin_1, chk_in (by omega) (by decide), chk_in (by omega) (by decide), nI_clamp (by omega), FR_mset ρ k _ 6 (by decide), e6', nI_1]
        have hM : MD w k ρ (up2 (mset ρ k (fLin w (s.2 k) (s.1 k) X)) 6 k (nI d)) := MD_trans (MD_mset (Or.inl rfl)) (MD_up6 w k _ _)
        refine ok_some ⟨_, rfl, FR_trans hf hM.1, fun i hi => ?_, fun i A hi30 hi hA => ?_, hM.2.2 x X (by omega) (fun e => cx e.symm) fX', ?_, fun i hi hik => ?_, fun i hi hik hx => hM.2.2 i _ (by have := hmn i hi; omega) (by omega) (hto i hi (by omega) hx)⟩
        · have : i ≠ k := fun e => by rw [e, cm] at hi; exact absurd hi (by decide)
          rw [hM.2.1 i this]; exact h6 i hi
        · have : i ≠ k := fun e => by rw [e, cm] at hi; exact absurd hi (by decide)
          exact hM.2.2 i A hi30 this (hfm i A hi30 hi hA)
        · rw [hM.2.1 x (fun e => cx e.symm)]; exact e6'
        · by_cases e : i = k
          · subst e
            refine ⟨up2_eq _ _ _ _, ?_⟩
            unfold spread; rw [if_neg cx]
            exact fm_up (fm_mset ρ i (OkF_lin (hs i).1 fX.1 _)) _ _ _ (by decide)
          · obtain ⟨q1, q2⟩ := hdo i hi (by omega)
            exact ⟨by rw [hM.2.1 i e]; exact q1, hM.2.2 i _ (by have := hmn i hi; omega) e q2⟩
    · rw [if_neg cm, if_pos rfl, nI_1]
      refine ok_some ⟨_, rfl, hf, h6, hfm, fX', e6', fun i hi hik => hdo i hi ?_, fun i hi hik hx => hto i hi (by omega) hx⟩
      by_cases e : i = k
      · rw [e] at hi; exact absurd hi cm
      · omega
  · intro ρ ⟨hf, h6, hfm, fX', e6', hdo, hto⟩
    dsimp only
    unfold fX8_laysCarried_B210
    have f0' : ρ 0 6 = nI n := by rw [hf 0 (by decide)]; exact hN.2.1
    rw [f0', if_pos (Int32.le_refl _)]
    exact ok_some ⟨hf, h6, hfm, fun i hi => hdo i hi (hmn i hi)⟩
/-- rows 0 to 2 of a slot become rows 1 to 3 of the slot aside -/
theorem M_shift {w : Nat} {σ : Mem} {r : Nat} {A G : Fo} {l1 l2 : Int32} (hr : r < 30) (fA : fm w σ r A) : ok (loop (fun a => fX8_laysCarried_B125 l1 l2 (nI r) a.1 a.2) (0, mset σ 30 G)) (fun τ => τ = mset σ 30 (fAdd G A)) := by
  obtain ⟨H, hH⟩ : ∃ H : Nat → Nat → Fo, H = fun i m c j => if 0 < c ∧ (c - 1 < i ∨ (c - 1 = i ∧ j < m)) then A (c - 1) j else G c j := ⟨_, rfl⟩
  have hrow : ∀ i, mset σ 30 (H i 343) = mset σ 30 (H (i + 1) 0) := fun i => mset_cong (fun c j hc hj => by
    rw [hH]
    dsimp only
    by_cases q : 0 < c ∧ (c - 1 < i ∨ (c - 1 = i ∧ j < 343))
    · rw [if_pos q, if_pos (by omega)]
    · rw [if_neg q, if_neg (by omega)])
  have h0 : mset σ 30 G = mset σ 30 (H 0 0) := mset_cong (fun c j hc hj => by
    rw [hH]
    dsimp only
    rw [if_neg (by omega)])
  rw [h0]
  refine ok_for' (enc := fun i (_ : Unit) => (nI i, mset σ 30 (H i 0))) 3 (fun _ _ => True) (i0 := 0) (s0 := ()) (Nat.zero_le _) trivial ?_ ?_
  · intro i _ hi _
    dsimp only
    unfold fX8_laysCarried_B125 fX8_laysCarried_L187
    rw [if_neg (show ¬ (3 : Int32) ≤ nI i from nI_ge (b := 3) hi (by decide))]
    refine ok_bind (ok_mono (?_ : ok _ (fun τ => τ = mset σ 30 (H i 343))) ?_)
    · refine ok_for' (enc := fun m (_ : Unit) => (nI m, mset σ 30 (H i m))) 343 (fun _ _ => True) (i0 := 0) (s0 := ()) (Nat.zero_le _) trivial ?_ ?_
      · intro m _ hm _
        dsimp only
        unfold fX8_laysCarried_B134
        have e1 : (41160 : Int32) + 343 * (nI i + 1) + nI m = nI (1372 * 30 + 343 * (i + 1) + m) := by
          rw [nI_1]
          show nI 41160 + nI 343 * nI (i + 1) + nI m = _
          rw [pk_mul, nI_add, nI_add]
        rw [if_neg (n343 hm), ixG, e1, chk_in (by omega) (by decide), chk_in (by omega) (by decide), nI_clamp (by omega), nI_clamp (by omega), fm_at (fm_ne (A := H i m) fA (by omega)) (by omega) hm, nI_1]
        refine ok_some ⟨(), ?_, trivial⟩
        rw [mset_up σ 30 (A' := H i (m + 1)) (by omega) hm]
        intro c j hc hj
        rw [hH]
        dsimp only
        by_cases q : c = i + 1 ∧ j = m
        · rw [if_pos q, if_pos (by omega), q.1, q.2, Nat.add_sub_cancel]
        · rw [if_neg q]
          by_cases q2 : 0 < c ∧ (c - 1 < i ∨ (c - 1 = i ∧ j < m))
          · rw [if_pos q2, if_pos (by omega)]
          · rw [if_neg q2, if_neg (by omega)]
      · intro _ _
        dsimp only
        unfold fX8_laysCarried_B134
        rw [if_pos n343']
        exact ok_some rfl
    · intro τ hτ
      subst hτ
      rw [nI_1, hrow]
      exact ok_some ⟨(), rfl, trivial⟩
  · intro _ _
    dsimp only
    unfold fX8_laysCarried_B125
    rw [if_pos (show (3 : Int32) ≤ nI 3 from Int32.le_refl _)]
    refine ok_some (mset_cong (fun c j hc hj => ?_))
    rw [hH]
    unfold fAdd
    dsimp only
    by_cases q : c = 0
    · subst q; rw [if_neg (by omega), if_pos rfl]
    · rw [if_pos (by omega), if_neg q, if_pos hc]
def TRm (w : Nat) (m : Nat → Bool) (σ τ : Mem) : Prop := FR [1, 6, 8] σ τ ∧ (∀ i, m i = false → τ 6 i = σ 6 i) ∧ ∀ i A, i < 30 → m i = false → fm w σ i A → fm w τ i A
theorem M_laysCarried {w n : Nat} {t o u : Nat → Nat} {σ : Mem} {c dn : Int32} {m : Nat → Bool} {S : AS} (hW : WF w n t o u) (hN : NM n t o u σ) (hB : MB w σ) (hb : ∀ i, i < n → bt c i = m i) (hC : CF n t o u m dn) (hA : AI w n t o dn S) (hX : SMr w n dn S σ) (h1 : fb_ct (isC t m) n = 1) :
    ok (fX8_laysCarried c (nI (lc t m n)) σ) (fun r => TRm w m σ r.2 ∧ ((trn w n t o u S.1 S.2.1 m (lc t m n) = none ∧ r.1 = 0) ∨ ∃ q, trn w n t o u S.1 S.2.1 m (lc t m n) = some q ∧ r.1 = 1 ∧ ∀ i, m i = true → r.2 6 i = nI q.1 ∧ fm w r.2 i (q.2 i))) := by
  have h30 := hN.1
  have hw := hB.1
  obtain ⟨x1, x2, x3, x4, x5⟩ := CF_x hW hC h1
  obtain ⟨x, hxe⟩ : ∃ x, x = lc t m n := ⟨_, rfl⟩
  rw [← hxe] at x1 x2 x3 x4 x5 ⊢
  have hmn : ∀ i, m i = true → i < n := fun i hi => (hC.1 i hi).1
  have hCFF := CF_F hW hC hA x4
  obtain ⟨g1, g2, g4⟩ : o x < x ∧ u x < n ∧ (t (o x) = 0 ∨ t (o x) = 1) := by
    rcases hW x x1 with ⟨q, -⟩ | ⟨q, -⟩ | ⟨q, -⟩ | ⟨-, q1, q2, q3⟩
    · omega
    · omega
    · omega
    · exact ⟨q1, q2, q3⟩
  have oG : OkF w (fGiv t o (o x)) := OkF_giv hW (by omega) g4 hw.1
  have hux : m (u x) = true := by
    obtain ⟨s, q1, q2⟩ := hC.2.2 x x2
    rw [(eg_carr x3 s).mp q1] at q2; exact q2
  have hmx : ∀ i, m i = false → i ≠ x := fun i hi e => by rw [e, x2] at hi; exact absurd hi (by decide)
  unfold fX8_laysCarried
  rw [M_empties (by omega), Option.bind_some, chk_in (by omega) (by decide), nI_clamp (by omega)]
  refine ok_bind (ok_mono (?_ : ok _ (fun r => (∃ τ s, r = .inl τ ∧ wf w t o u S.1 S.2.1 m x n = some s ∧ WIm w m σ τ s n) ∨ (∃ τ, r = .inr (0, τ) ∧ wf w t o u S.1 S.2.1 m x n = none ∧ WNm w m σ τ))) ?_)
  · refine ok_for' (enc := fun k (τ : Mem) => (nI k, τ)) n (fun k τ => ∃ s, wf w t o u S.1 S.2.1 m x k = some s ∧ WIm w m σ τ s k ∧ fm w τ x (s.2 x) ∧ τ 8 x = nI (s.1 x)) (i0 := 0) (s0 := up2 (mset σ x f0) 8 x 1) (by omega) ⟨_, rfl, ⟨FR_trans (FR_mono (FR_mset σ x f0) (by decide)) (FR_up2 _ (by decide) _ _), fun i A hi hm hf => fm_up (fm_ne hf (hmx i hm)) _ _ _ (by decide), fun i _ hi => absurd hi (Nat.not_lt_zero i)⟩, fm_up (fm_mset σ x (OkF_0 w)) _ _ _ (by decide), by rw [up2_eq]; rfl⟩ ?_ ?_
    · intro k τ hk ⟨s, hs, hI, hfx, h8x⟩
      dsimp only
      unfold fX8_laysCarried_B14 fX8_laysCarried_L46
      have f0' : τ 0 6 = nI n := by rw [hI.1 0 (by decide)]; exact hN.2.1
      rw [f0', if_neg (nI_ge hk (by omega)), hasE _ (by omega), Option.bind_some]
      dsimp only
      rw [hb k hk]
      have hsucc : ∀ r, (if m k = true ∧ k ≠ x then wst w t o u S.1 S.2.1 m k s else some s) = r → wf w t o u S.1 S.2.1 m x (k + 1) = r := fun r hr => by
        show (wf w t o u S.1 S.2.1 m x k).bind _ = r
        rw [hs]; exact hr
      by_cases cm : m k = true
      · rw [if_pos cm, if_neg (by decide)]
        by_cases cx : k = x
        · rw [if_pos (by rw [cx]), nI_1]
          refine ok_some ⟨_, rfl, s, hsucc _ (if_neg (fun q => q.2 cx)), ⟨hI.1, hI.2.1, fun i hi hik => ?_⟩, hfx, h8x⟩
          by_cases e : i = k
          · rw [e, cx]; exact ⟨hfx, h8x⟩
          · exact hI.2.2 i hi (by omega)
        · rw [if_neg (fun e => cx ((nI_eq (by omega) (by omega)).mp e))]
          refine ok_bind (ok_mono (M_laysPart hW hN hB hb hC hA hX x4 cm cx (wf_ok (n := n) hw.1 hCFF k hs) hI) ?_)
          rintro ⟨r, τ2⟩ (⟨s', q1, q2, q3, -⟩ | ⟨q1, q2, q3⟩)
          · dsimp only at q2 q3 ⊢
            rw [q2, if_neg (by decide), nI_1]
            have hxk : x < k + 1 := by have := x5 k cm; omega
            exact ok_some ⟨_, rfl, s', hsucc _ (by rw [if_pos ⟨cm, cx⟩]; exact q1), q3, (q3.2.2 x x2 hxk).1, (q3.2.2 x x2 hxk).2⟩
          · dsimp only at q2 q3 ⊢
            rw [q2, if_pos rfl]
            refine ok_some (Or.inr ⟨τ2, rfl, ?_, q3⟩)
            have := wf_none (hsucc none (by rw [if_pos ⟨cm, cx⟩]; exact q1)) (n - (k + 1))
            rw [show k + 1 + (n - (k + 1)) = n by omega] at this
            exact this
      · rw [if_neg cm, if_pos rfl, nI_1]
        refine ok_some ⟨_, rfl, s, hsucc _ (if_neg (fun q => cm q.1)), ⟨hI.1, hI.2.1, fun i hi hik => hI.2.2 i hi ?_⟩, hfx, h8x⟩
        by_cases e : i = k
        · rw [e] at hi; exact absurd hi cm
        · omega
    · intro τ ⟨s, hs, hI, _, _⟩
      dsimp only
      unfold fX8_laysCarried_B14
      have f0' : τ 0 6 = nI n := by rw [hI.1 0 (by decide)]; exact hN.2.1
      rw [f0', if_pos (Int32.le_refl _)]
      exact ok_some (Or.inl ⟨τ, s, rfl, hs, hI⟩)
  · rintro r (⟨τ, s, rfl, hs, hI⟩ | ⟨τ, rfl, hs, hI⟩)
    · show ok (fX8_laysCarried_L52 c (nI x) τ) _
      have hok := wf_ok (n := n) hw.1 hCFF n hs
      have hsx := wf_x n hs
      have hNτ : NM n t o u τ := NM_FR hN hI.1 (by decide) (by decide) (by decide) (by decide)
      have hBτ : MB w τ := MB_FR hB hI.1 (by decide)
      obtain ⟨e2, e3, e4⟩ := hNτ.2.2 x x1
      have f6 : τ 6 = σ 6 := hI.1 6 (by decide)
      obtain ⟨fn, e8⟩ := hI.2.2 (u x) hux g2
      have dn3 := fdeg_le (s.2 (u x))
      have hpw := pw_le hw.2
      have hlt := (hok (u x)).2
      have htrn : ∀ r, (if s.1 (u x) = 1 ∧ fdeg (s.2 (u x)) ≤ 2 then some (0, spread w s x (fAdd (fGiv t o (o x)) (s.2 (u x)))) else if s.1 (u x) = 0 then some ((ltr w 0 (s.2 (u x)) (fGiv t o (o x))).1, spread w s x (fLater w (s.2 (u x)))) else none) = r → trn w n t o u S.1 S.2.1 m x = r := fun r hr => by
        unfold trn; rw [hs]; exact hr
      have hTR0 : TRm w m σ τ := ⟨FR_mono hI.1 (by decide), fun i _ => by rw [f6], hI.2.1⟩
      have hfin : ∀ (ρ : Mem) (X : Fo) (d : Nat), fm w ρ x X → ρ 6 x = nI d → MD w x τ ρ → trn w n t o u S.1 S.2.1 m x = some (d, spread w s x X) → ok (fX8_laysCarried_L207 c (nI x) ρ) (fun r => TRm w m σ r.2 ∧ ((trn w n t o u S.1 S.2.1 m x = none ∧ r.1 = 0) ∨ ∃ q, trn w n t o u S.1 S.2.1 m x = some q ∧ r.1 = 1 ∧ ∀ i, m i = true → r.2 6 i = nI q.1 ∧ fm w r.2 i (q.2 i))) := by
        intro ρ X d fX r6 hD hq
        refine ok_mono (M_spread (NM_D hNτ hD) (MB_D hBτ hD) hb hmn x1 hok fX r6 (fun i hi hix => ?_)) ?_
        · obtain ⟨q1, q2⟩ := hI.2.2 i hi (hmn i hi)
          exact ⟨hD.2.2 i _ (by have := hmn i hi; omega) hix q1, by rw [hD.1 8 (by decide)]; exact q2⟩
        · rintro ⟨r, ρ2⟩ ⟨p1, p2, p3, p4, p5⟩
          refine ⟨⟨FR_trans (FR_mono hI.1 (by decide)) (FR_trans (FR_mono hD.1 (by decide)) (FR_mono p2 (by decide))), fun i hi => ?_, fun i A hi30 hi hA => p4 i A hi30 hi (hD.2.2 i A hi30 (hmx i hi) (hI.2.1 i A hi30 hi hA))⟩, Or.inr ⟨_, hq, p1, p5⟩⟩
          dsimp only at p3 ⊢
          rw [p3 i hi, hD.2.1 i (hmx i hi), f6]
      unfold fX8_laysCarried_L52 fX8_laysCarried_L93 fX8_laysCarried_L78 fX8_laysCarried_L95 fX8_laysCarried_L193 fX8_laysCarried_L93
      rw [chk_in (by omega) (by decide), nI_clamp (by omega), e4 (by omega), chk_in (by omega) (by decide), nI_clamp (by omega), e8]
      by_cases c0 : s.1 (u x) = 0
      · have z0 : nI (s.1 (u x)) = 0 := by rw [c0]; rfl
        rw [if_pos z0, if_neg (show ¬ nI (s.1 (u x)) = 1 by rw [c0]; decide), if_pos z0]
        have hca := M_carries (k := x) (r := u x) (d := 0) (A := s.2 (u x)) hW hNτ hBτ x1 g2 x3 (Or.inr (Nat.zero_le _)) (fun _ => fn)
        refine ok_bind (ok_mono hca ?_)
        rintro ρ ⟨hD, q6, qfm⟩
        have hl : (ltr w 0 (s.2 (u x)) (fGiv t o (o x))).2 = fLater w (s.2 (u x)) := by unfold ltr; rw [if_neg (by omega)]
        have hl9 : (ltr w 0 (s.2 (u x)) (fGiv t o (o x))).1 ≠ 9 := by
          unfold ltr
          rw [if_neg (by omega)]
          dsimp only
          by_cases q : (0 = 0 ∧ fLater w (s.2 (u x)) 0 = fGiv t o (o x) 0)
          · rw [pif_t q]; decide
          · rw [pif_f q]; decide
        rw [hl] at qfm
        exact hfin ρ _ _ (qfm hl9) q6 hD (htrn _ (by rw [if_neg (fun q => by omega), if_pos c0]))
      · have z0 : ¬ nI (s.1 (u x)) = 0 := nI_ne0 (by omega) (by omega)
        rw [if_neg z0]
        by_cases c1 : s.1 (u x) = 1
        · have z1 : nI (s.1 (u x)) = 1 := by rw [c1]; rfl
          rw [if_pos z1, if_pos z1, M_degreeOf hw.2 (by omega) fn, Option.bind_some]
          dsimp only
          by_cases cg : fdeg (s.2 (u x)) ≤ 2
          · rw [if_pos (show nI _ ≤ 2 from nI_le (b := 2) cg (by decide)), if_neg z0, chk_in (by omega) (by decide), e3]
            have hG : fX8_laysGiven 30 (nI (o x)) τ = some (mset τ 30 (fGiv t o (o x))) := M_laysGiven (s := 30) hW hNτ hw.2 (by decide) (by omega) g4
            rw [hG, Option.bind_some]
            refine ok_bind (ok_mono (M_shift (by omega) fn) ?_)
            intro ρ hρ
            subst hρ
            have oX := OkF_add oG (hok (u x)).1
            have hcp : fX8_copies 30 (nI x) (mset τ 30 (fAdd (fGiv t o (o x)) (s.2 (u x)))) = some (mset (mset τ 30 (fAdd (fGiv t o (o x)) (s.2 (u x)))) x (fAdd (fGiv t o (o x)) (s.2 (u x)))) := M_copies (r := 30) (by decide) (by omega) (fm_mset τ 30 oX)
            rw [hcp, Option.bind_some, chk_in (by omega) (by decide)]
            have hD : MD w x τ (up2 (mset (mset τ 30 (fAdd (fGiv t o (o x)) (s.2 (u x)))) x (fAdd (fGiv t o (o x)) (s.2 (u x)))) 6 x 0) := MD_trans (MD_mset (Or.inr (by omega))) (MD_trans (MD_mset (Or.inl rfl)) (MD_up6 w x _ _))
            exact hfin _ _ 0 (fm_up (fm_mset _ x oX) _ _ _ (by decide)) (by rw [up2_eq]; rfl) hD (htrn _ (by rw [if_pos ⟨c1, cg⟩]))
          · rw [if_neg (show ¬ nI _ ≤ 2 from nI_ge (a := 2) (by omega) (by omega))]
            exact ok_some ⟨hTR0, Or.inl ⟨htrn _ (by rw [if_neg (fun q => cg q.2), if_neg c0]), rfl⟩⟩
        · rw [if_neg (show ¬ nI (s.1 (u x)) = 1 from fun e => c1 ((nI_eq (b := 1) (by omega) (by decide)).mp e))]
          exact ok_some ⟨hTR0, Or.inl ⟨htrn _ (by rw [if_neg (fun q => c1 q.1), if_neg c0]), rfl⟩⟩
    · have f6 : τ 6 = σ 6 := hI.1 6 (by decide)
      exact ok_some ⟨⟨FR_mono hI.1 (by decide), fun i _ => by show τ 6 i = σ 6 i; rw [f6], hI.2⟩, Or.inl ⟨by unfold trn; rw [hs]; rfl, rfl⟩⟩
