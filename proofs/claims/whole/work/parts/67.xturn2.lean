theorem X_spread {w n : Nat} {t o u : Nat → Nat} {τ : Mem} {x : Nat} {c : Int32} {m : Nat → Bool} {s : WS} {X : Fo} (hN : NX n t o u τ) (h : PI w τ) (hb : ∀ i, i < n → bt c i = m i) (hmn : ∀ i, m i = true → i < n) (hxn : x < n) (hmx : m x = true) (hx : ∀ i, m i = true → x ≤ i) (hs : ∀ i, OkF w (s.2 i) ∧ s.1 i < 2 ^ w) (hX : OkF w X) (fX : fx w τ x X) (hm : ∀ i, m i = true → i ≠ x → fx w τ i (s.2 i) ∧ τ 21 i = nI (s.1 i)) :
    ok (fX0_settleTurning_L146 c (nI x) τ) (fun ρ => PI w ρ ∧ FR [15, 16, 17] τ ρ ∧ (∀ i, m i = false → ρ 17 i = τ 17 i) ∧ (∀ i B, m i = false → fx w τ i B → fx w ρ i B) ∧ ∀ i, m i = true → ρ 17 i = τ 17 x ∧ fx w ρ i (spread w s x X i)) := by
  have h30 := hN.1
  have hw := h.1.1
  unfold fX0_settleTurning_L146 fX0_settleTurning_L216
  refine ok_bind (ok_mono (?_ : ok _ (fun ρ => PI w ρ ∧ FR [15, 16, 17] τ ρ ∧ (∀ i, m i = false → ρ 17 i = τ 17 i) ∧ (∀ i B, m i = false → fx w τ i B → fx w ρ i B) ∧ ∀ i, m i = true → ρ 17 i = τ 17 x ∧ fx w ρ i (spread w s x X i))) (fun ρ h => ok_some h))
  rw [nI_1]
  refine ok_for' (enc := fun k (ρ : Mem) => (nI k, ρ)) n (fun k ρ => x + 1 ≤ k ∧ PI w ρ ∧ FR [15, 16, 17] τ ρ ∧ (∀ i, m i = false → ρ 17 i = τ 17 i) ∧ (∀ i B, m i = false → fx w τ i B → fx w ρ i B) ∧ (∀ i, m i = true → (i < k ∨ i = x) → ρ 17 i = τ 17 x ∧ fx w ρ i (spread w s x X i)) ∧ ∀ i, m i = true → k ≤ i → fx w ρ i (s.2 i)) (i0 := x + 1) (s0 := τ) (by omega) ⟨Nat.le_refl _, h, FR_refl _ _, fun _ _ => rfl, fun _ _ _ q => q, fun i hi hix => ?_, fun i hi hk => (hm i hi (by omega)).1⟩ ?_ ?_
  · have e : i = x := by have := hx i hi; omega
    subst e
    refine ⟨rfl, ?_⟩
    unfold spread; rw [if_pos rfl]; exact fX
  · intro k ρ hk ⟨hxk, hP, hf, h17, hfx, hdo, hto⟩
    dsimp only
    unfold fX0_settleTurning_B151 fX0_settleTurning_L210
    have f3 : ρ 3 4 = nI n := by rw [hf 3 (by decide)]; exact hN.2.1
    rw [f3, if_neg (nI_ge hk (by omega)), isInE _ (by omega), Option.bind_some]
    dsimp only
    rw [hb k hk]
    by_cases cm : m k = true
    · have hkx : k ≠ x := by omega
      have e21 : ρ 21 k = nI (s.1 k) := by rw [hf 21 (by decide)]; exact (hm k cm hkx).2
      obtain ⟨dx1, dx2⟩ := hdo x hmx (Or.inr rfl)
      have fX' : fx w ρ x X := by unfold spread at dx2; rw [if_pos rfl] at dx2; exact dx2
      rw [if_pos cm, if_neg (by decide), chk_in (by omega) (by decide), nI_clamp (by omega), e21]
      refine ok_bind (ok_mono (X1_putSum hP (by omega) (by omega) (by omega) (hs k).1 hX (hto k cm (Nat.le_refl _)) fX' (nI (s.1 k))) ?_)
      intro ρ2 hS
      rw [mI_lt16 hw.2 (hs k).2] at hS
      have hD := XD_of (XS_W hS) (ρ2 17 x)
      have e17 : ρ2 17 = ρ 17 := hS.2.2.1 17 (by decide)
      rw [chk_in (by omega) (by decide), chk_in (by omega) (by decide), nI_clamp (by omega), nI_1]
      refine ok_some ⟨_, rfl, by omega, hD.1, FR_trans hf hD.2.1, fun i hi => ?_, fun i B hi hB => ?_, fun i hi hik => ?_, fun i hi hik => ?_⟩
      · have : i ≠ k := fun e => by rw [e, cm] at hi; exact absurd hi (by decide)
        rw [hD.2.2.1 i this]; exact h17 i hi
      · have : i ≠ k := fun e => by rw [e, cm] at hi; exact absurd hi (by decide)
        exact XD_fx hD this (hfx i B hi hB)
      · by_cases e : i = k
        · subst e
          rw [up2_eq, e17, dx1]
          refine ⟨rfl, ?_⟩
          unfold spread; rw [if_neg hkx]
          exact fx_up hS.2.1 _ _ _ (by decide) (by decide)
        · obtain ⟨q1, q2⟩ := hdo i hi (by omega)
          rw [hD.2.2.1 i e]
          exact ⟨q1, XD_fx hD e q2⟩
      · exact XD_fx hD (by omega) (hto i hi (by omega))
    · rw [if_neg cm, if_pos rfl, nI_1]
      refine ok_some ⟨_, rfl, by omega, hP, hf, h17, hfx, fun i hi hik => hdo i hi ?_, fun i hi hik => hto i hi (by omega)⟩
      rcases hik with q | q
      · by_cases e : i = k
        · rw [e] at hi; exact absurd hi cm
        · exact Or.inl (by omega)
      · exact Or.inr q
  · intro ρ ⟨hxk, hP, hf, h17, hfx, hdo, hto⟩
    dsimp only
    unfold fX0_settleTurning_B151
    have f3 : ρ 3 4 = nI n := by rw [hf 3 (by decide)]; exact hN.2.1
    rw [f3, if_pos (Int32.le_refl _)]
    exact ok_some ⟨hP, hf, h17, hfx, fun i hi => hdo i hi (Or.inl (hmn i hi))⟩
/-- behind a turning cycle -/
def TR (w : Nat) (m : Nat → Bool) (σ τ : Mem) : Prop := PI w τ ∧ FR [15, 16, 17, 21] σ τ ∧ (∀ i, m i = false → τ 17 i = σ 17 i) ∧ ∀ i B, m i = false → fx w σ i B → fx w τ i B
theorem X_settleTurning {w n : Nat} {t o u : Nat → Nat} {σ : Mem} {c dn : Int32} {m : Nat → Bool} {S : AS} (hW : WF w n t o u) (hN : NX n t o u σ) (h : PI w σ) (h3 : σ 3 0 = nI (2 ^ w - 1)) (hb : ∀ i, i < n → bt c i = m i) (hC : CF n t o u m dn) (hA : AI w n t o dn S) (hX : SXr w n dn S σ) (h1 : fb_ct (isC t m) n = 1) (hm17 : ∀ i, m i = true → σ 17 i = -1) (hst : bt dn (o (lc t m n)) = true) :
    ok (fX0_settleTurning c (nI (lc t m n)) σ) (fun τ => TR w m σ τ ∧ ((trn w n t o u S.1 S.2.1 m (lc t m n) = none ∧ ∀ i, m i = true → τ 17 i = -1) ∨ ∃ q, trn w n t o u S.1 S.2.1 m (lc t m n) = some q ∧ ∀ i, m i = true → τ 17 i = dlX q.1 ∧ fx w τ i (q.2 i))) := by
  have h30 := hN.1
  have hw := h.1.1
  obtain ⟨x1, x2, x3, x4, x5⟩ := CF_x hW hC h1
  obtain ⟨x, hxe⟩ : ∃ x, x = lc t m n := ⟨_, rfl⟩
  rw [← hxe] at x1 x2 x3 x4 x5 hst ⊢
  have hmn : ∀ i, m i = true → i < n := fun i hi => (hC.1 i hi).1
  have hCFF := CF_F hW hC hA x4
  -- the start's form
  obtain ⟨g1, g2, g3, g4⟩ : o x < x ∧ u x < n ∧ t (o x) ≤ 1 ∧ (t (o x) = 0 ∨ t (o x) = 1) := by
    rcases hW x x1 with ⟨q, -⟩ | ⟨q, -⟩ | ⟨q, -⟩ | ⟨-, q1, q2, q3⟩
    · omega
    · omega
    · omega
    · exact ⟨q1, q2, by omega, q3⟩
  have hom : m (o x) = false := by
    cases q : m (o x)
    · rfl
    · have := x5 _ q; omega
  have fG : fx w σ (o x) (fGiv t o (o x)) := by
    obtain ⟨z1, z2⟩ := (hA (o x) (by omega) hst).2 g3
    have := (hX (o x) (by omega) hst).2.2 (by omega)
    rw [z2] at this; exact this
  have oG : OkF w (fGiv t o (o x)) := OkF_giv hW (by omega) g4 hw.1
  have hux : m (u x) = true := by
    obtain ⟨s, q1, q2⟩ := hC.2.2 x x2
    rw [(eg_carr x3 s).mp q1] at q2; exact q2
  have hS0 := XS_psets (σ := σ) h (s := x) (by omega) (OkF_0 w).1
  unfold fX0_settleTurning
  rw [X1_clear h (by omega), Option.bind_some, chk_in (by omega) (by decide), nI_clamp (by omega), nI_1]
  refine ok_bind (ok_mono (?_ : ok _ (fun r => (∃ τ s, r = .inl τ ∧ wf w t o u S.1 S.2.1 m x n = some s ∧ WI w m σ τ s n) ∨ (∃ τ, r = .inr τ ∧ wf w t o u S.1 S.2.1 m x n = none ∧ WN w m σ τ))) ?_)
  · refine ok_for' (enc := fun k (τ : Mem) => (nI k, τ)) n (fun k τ => x + 1 ≤ k ∧ ∃ s, wf w t o u S.1 S.2.1 m x k = some s ∧ WI w m σ τ s k) (i0 := x + 1) (s0 := up2 (psets σ x f0 4) 21 x 1) (by omega) ⟨Nat.le_refl _, _, wf_start x5 (x + 1) (Nat.le_refl _), PI_up hS0.1 _ _ _ (by decide), FR_trans (FR_mono hS0.2.2.1 (by decide)) (FR_up2 _ (by decide) _ _), fun i B hi hB => ?_, fun i hi hik => ?_⟩ ?_ ?_
    · have : i ≠ x := fun e => by rw [e, x2] at hi; exact absurd hi (by decide)
      exact fx_up (XS_fx hS0 this hB) _ _ _ (by decide) (by decide)
    · have e : i = x := by have := x5 i hi; omega
      subst e
      exact ⟨fx_up hS0.2.1 _ _ _ (by decide) (by decide), by rw [up2_eq]; rfl⟩
    · intro k τ hk ⟨hxk, s, hs, hI⟩
      dsimp only
      unfold fX0_settleTurning_B19 fX0_settleTurning_L48
      have f3 : τ 3 4 = nI n := by rw [hI.2.1 3 (by decide)]; exact hN.2.1
      rw [f3, if_neg (nI_ge hk (by omega)), isInE _ (by omega), Option.bind_some]
      dsimp only
      rw [hb k hk]
      have hsucc : ∀ r, (if m k = true ∧ k ≠ x then wst w t o u S.1 S.2.1 m k s else some s) = r → wf w t o u S.1 S.2.1 m x (k + 1) = r := fun r hr => by
        show (wf w t o u S.1 S.2.1 m x k).bind _ = r
        rw [hs]; exact hr
      by_cases cm : m k = true
      · have hkx : k ≠ x := by omega
        rw [if_pos cm, if_neg (by decide)]
        refine ok_bind (ok_mono (X_weigh hW hN h3 hb hC hA hX x4 cm hkx (wf_ok (n := n) hw.1 hCFF k hs) hI) ?_)
        rintro ⟨r, τ2⟩ (⟨s', q1, q2, q3⟩ | ⟨q1, q2, q3⟩)
        · dsimp only at q2 q3 ⊢
          rw [q2, if_neg (by decide), nI_1]
          exact ok_some ⟨_, rfl, by omega, s', hsucc _ (by rw [if_pos ⟨cm, hkx⟩]; exact q1), q3⟩
        · dsimp only at q2 q3 ⊢
          rw [q2, if_pos rfl]
          refine ok_some (Or.inr ⟨τ2, rfl, ?_, q3⟩)
          have := wf_none (hsucc none (by rw [if_pos ⟨cm, hkx⟩]; exact q1)) (n - (k + 1))
          rw [show k + 1 + (n - (k + 1)) = n by omega] at this
          exact this
      · rw [if_neg cm, if_pos rfl, nI_1]
        refine ok_some ⟨_, rfl, by omega, s, hsucc _ (if_neg (fun q => cm q.1)), hI.1, hI.2.1, hI.2.2.1, fun i hi hik => hI.2.2.2 i hi ?_⟩
        by_cases e : i = k
        · rw [e] at hi; exact absurd hi cm
        · omega
    · intro τ ⟨hxk, s, hs, hI⟩
      dsimp only
      unfold fX0_settleTurning_B19
      have f3 : τ 3 4 = nI n := by rw [hI.2.1 3 (by decide)]; exact hN.2.1
      rw [f3, if_pos (Int32.le_refl _)]
      exact ok_some (Or.inl ⟨τ, s, rfl, hs, hI⟩)
  · rintro r (⟨τ, s, rfl, hs, hI⟩ | ⟨τ, rfl, hs, hI⟩)
    · -- all are weighed
      show ok (fX0_settleTurning_L54 c (nI x) τ) _
      have hok := wf_ok (n := n) hw.1 hCFF n hs
      have hsx := wf_x n hs
      have hNτ : NX n t o u τ := NX_FR hN hI.2.1 (by decide) (by decide) (by decide) (by decide)
      obtain ⟨e8, e9, e10⟩ := hNτ.2.2 x x1
      have f17 : τ 17 = σ 17 := hI.2.1 17 (by decide)
      obtain ⟨fn, e21⟩ := hI.2.2.2 (u x) hux g2
      have fGτ := hI.2.2.1 (o x) _ hom fG
      have dn3 := fdeg_le (s.2 (u x))
      have hpw := pw_le hw.2
      have hlt := (hok (u x)).2
      have htrn : ∀ r, (if s.1 (u x) = 1 ∧ fdeg (s.2 (u x)) ≤ 2 then some (0, spread w s x (fAdd (fGiv t o (o x)) (s.2 (u x)))) else if s.1 (u x) = 0 then some ((ltr w 0 (s.2 (u x)) (fGiv t o (o x))).1, spread w s x (fLater w (s.2 (u x)))) else none) = r → trn w n t o u S.1 S.2.1 m x = r := fun r hr => by
        unfold trn; rw [hs]; exact hr
      have hTR0 : TR w m σ τ := ⟨hI.1, FR_mono hI.2.1 (by decide), fun i _ => by rw [f17], hI.2.2.1⟩
      have hnone : trn w n t o u S.1 S.2.1 m x = none → TR w m σ τ ∧ ((trn w n t o u S.1 S.2.1 m x = none ∧ ∀ i, m i = true → τ 17 i = -1) ∨ ∃ q, trn w n t o u S.1 S.2.1 m x = some q ∧ ∀ i, m i = true → τ 17 i = dlX q.1 ∧ fx w τ i (q.2 i)) := fun hq => ⟨hTR0, Or.inl ⟨hq, fun i hi => by rw [f17]; exact hm17 i hi⟩⟩
      -- the carried one has its form: the others get theirs
      have hfin : ∀ (ρ : Mem) (X : Fo) (d : Nat), OkF w X → fx w ρ x X → ρ 17 x = dlX d → PI w ρ → FR [15, 16, 17] τ ρ → (∀ i, m i = false → ρ 17 i = τ 17 i) → (∀ i B, i ≠ x → fx w τ i B → fx w ρ i B) → trn w n t o u S.1 S.2.1 m x = some (d, spread w s x X) → ok (fX0_settleTurning_L146 c (nI x) ρ) (fun τ => TR w m σ τ ∧ ((trn w n t o u S.1 S.2.1 m x = none ∧ ∀ i, m i = true → τ 17 i = -1) ∨ ∃ q, trn w n t o u S.1 S.2.1 m x = some q ∧ ∀ i, m i = true → τ 17 i = dlX q.1 ∧ fx w τ i (q.2 i))) := by
        intro ρ X d oX fX r17 hP hf hn17 hnf hq
        have hNρ : NX n t o u ρ := NX_FR hNτ hf (by decide) (by decide) (by decide) (by decide)
        refine ok_mono (X_spread hNρ hP hb hmn x1 x2 x5 hok oX fX (fun i hi hix => ?_)) ?_
        · obtain ⟨q1, q2⟩ := hI.2.2.2 i hi (hmn i hi)
          exact ⟨hnf i _ hix q1, by rw [hf 21 (by decide)]; exact q2⟩
        · rintro ρ2 ⟨p1, p2, p3, p4, p5⟩
          have hmx : ∀ i, m i = false → i ≠ x := fun i hi e => by rw [e, x2] at hi; exact absurd hi (by decide)
          refine ⟨⟨p1, FR_trans (FR_mono hI.2.1 (by decide)) (FR_trans (FR_mono hf (by decide)) (FR_mono p2 (by decide))), fun i hi => ?_, fun i B hi hB => p4 i B hi (hnf i B (hmx i hi) (hI.2.2.1 i B hi hB))⟩, Or.inr ⟨_, hq, fun i hi => ?_⟩⟩
          · rw [p3 i hi, hn17 i hi, f17]
          · obtain ⟨q1, q2⟩ := p5 i hi
            exact ⟨by rw [q1, r17], q2⟩
      unfold fX0_settleTurning_L54
      rw [chk_in (by omega) (by decide), nI_clamp (by omega), e10 (by omega), chk_in (by omega) (by decide), nI_clamp (by omega), e21]
      have e17n : fX0_settleTurning_L117 c (nI x) (nI (u x)) τ = if s.1 (u x) = 0 then (fX0_settleLater (nI x) (nI (u x)) (up2 τ 17 (u x) 0)).bind (fun o5 => fX0_settleTurning_L146 c (nI x) o5) else some τ := by
        unfold fX0_settleTurning_L117
        rw [chk_in (by omega) (by decide), nI_clamp (by omega), e21, chk_in (by omega) (by decide)]
        by_cases z : s.1 (u x) = 0
        · rw [if_pos z, if_pos (by rw [z]; rfl)]
        · rw [if_neg z, if_neg (nI_ne0 (by omega) (by omega))]
      by_cases c1 : s.1 (u x) = 1
      · rw [if_pos (by rw [c1]; rfl), X1_degree (by omega) fn, Option.bind_some]
        dsimp only
        by_cases cg : fdeg (s.2 (u x)) ≤ 2
        · rw [if_neg (show ¬ (3 : Int32) ≤ nI _ from nI_ge (b := 3) (by omega) (by decide)), chk_in (by omega) (by decide), e9]
          refine ok_bind (ok_mono (X1_putAddedUp hI.1 (by omega) (by omega) (by omega) (by omega) oG (hok (u x)).1 fGτ fn) ?_)
          intro ρ hS
          rw [chk_in (by omega) (by decide)]
          have hD := XD_of (XS_W hS) 0
          exact hfin _ _ 0 (OkF_add oG (hok (u x)).1) (fx_up hS.2.1 _ _ _ (by decide) (by decide)) (by rw [up2_eq]; rfl) hD.1 hD.2.1 (fun i hi => hD.2.2.1 i (fun e => by rw [e, x2] at hi; exact absurd hi (by decide))) (fun i B hix hB => XD_fx hD hix hB) (htrn _ (by rw [if_pos ⟨c1, cg⟩]))
        · rw [if_pos (show (3 : Int32) ≤ nI _ from nI_le (a := 3) (by omega) (by omega)), e17n, if_neg (by omega)]
          exact ok_some (hnone (htrn _ (by rw [if_neg (fun q => cg q.2), if_neg (by omega)])))
      · rw [if_neg (show ¬ nI (s.1 (u x)) = 1 from fun e => c1 ((nI_eq (b := 1) (by omega) (by decide)).mp e)), e17n]
        by_cases c0 : s.1 (u x) = 0
        · rw [if_pos c0]
          have hne : u x ≠ x := fun e => by rw [e, hsx.1] at c0; exact absurd c0 (by decide)
          have hP1 : PI w (up2 τ 17 (u x) 0) := PI_up hI.1 _ _ _ (by decide)
          have ek : up2 τ 17 (u x) 0 17 x = -1 := by rw [up2_col _ _ _ (fun e => hne e.symm), f17]; exact hm17 x x2
          refine ok_bind (ok_mono (X_settleLater (d := 0) (A := s.2 (u x)) (G := fGiv t o (o x)) hP1 (by omega) (by omega) (by omega) hne (by omega) (by rw [up2_row _ _ _ (by decide)]; exact e9) (by rw [up2_eq]; rfl) ek (Or.inr (Nat.zero_le _)) (fun _ => ⟨(hok (u x)).1, fx_up fn _ _ _ (by decide) (by decide)⟩) (fx_up fGτ _ _ _ (by decide) (by decide))) ?_)
          rintro ρ ⟨hD, q17, qfx⟩
          have hl : (ltr w 0 (s.2 (u x)) (fGiv t o (o x))).2 = fLater w (s.2 (u x)) := by unfold ltr; rw [if_neg (by omega)]
          have hl9 : (ltr w 0 (s.2 (u x)) (fGiv t o (o x))).1 ≠ 9 := by
            unfold ltr
            rw [if_neg (by omega)]
            dsimp only
            by_cases q : (0 = 0 ∧ fLater w (s.2 (u x)) 0 = fGiv t o (o x) 0)
            · rw [pif_t q]; decide
            · rw [pif_f q]; decide
          rw [hl] at qfx
          refine hfin ρ _ _ (OkF_later (hok (u x)).1) (qfx hl9) q17 hD.1 (FR_trans (FR_up2 _ (by decide) _ _) hD.2.1) (fun i hi => ?_) (fun i B hix hB => XD_fx hD hix (fx_up hB _ _ _ (by decide) (by decide))) (htrn _ (by rw [if_neg (fun q => c1 q.1), if_pos c0]))
          have i1 : i ≠ x := fun e => by rw [e, x2] at hi; exact absurd hi (by decide)
          have i2 : i ≠ u x := fun e => by rw [e, hux] at hi; exact absurd hi (by decide)
          rw [hD.2.2.1 i i1, up2_col _ _ _ i2]
        · rw [if_neg c0]
          exact ok_some (hnone (htrn _ (by rw [if_neg (fun q => c1 q.1), if_neg c0])))
    · have f17 : τ 17 = σ 17 := hI.2.1 17 (by decide)
      exact ok_some ⟨⟨hI.1, FR_mono hI.2.1 (by decide), fun i _ => by rw [f17], hI.2.2⟩, Or.inl ⟨by unfold trn; rw [hs]; rfl, fun i hi => by rw [f17]; exact hm17 i hi⟩⟩
