theorem ct_isC_le {t : Nat → Nat} {m : Nat → Bool} (n : Nat) : fb_ct (isC t m) n ≤ fb_ct m n := fb_ct_sub (fun i _ h => (isC_m h).1)
def cvX (t : Nat → Nat) (m : Nat → Bool) (i : Nat) : Int32 := if fb_ct (isC t m) i = 0 then -1 else nI (lc t m i)
theorem X_settleCycle {w n : Nat} {t o u : Nat → Nat} {σ : Mem} {k : Nat} {dn : Int32} {S : AS} (hW : WF w n t o u) (hN : NX n t o u σ) (h : PI w σ) (h3 : σ 3 0 = nI (2 ^ w - 1)) (hk : k < n) (hd : DNv (eg t o u) n dn) (hm : may (eg t o u) n dn k) (hA : AI w n t o dn S) (hv : via (eg t o u) n k k = true) (hX : SXr w n dn S σ) (hst : ∀ i, i < k → t i ≤ 1 → bt dn i = true) :
    ok (fX0_settleCycle (cyv (eg t o u) n k) σ) (fun τ => PI w τ ∧ FR [15, 16, 17, 20, 21] σ τ ∧ SXr w n (dn ||| cyv (eg t o u) n k) (stl w n t o u S k) τ) := by
  have h30 := hN.1
  have hE := eg_E hW
  have hw := h.1.1
  have hC := CF_of hW h30 hk hd hm hv
  have hs : stl w n t o u S k = cyc w n t o u S (Cy (eg t o u) n k) := by unfold stl; rw [if_pos hv]
  rw [hs]
  obtain ⟨c, hce⟩ : ∃ c, c = cyv (eg t o u) n k := ⟨_, rfl⟩
  have hbb : ∀ i, i < 32 → bt c i = Cy (eg t o u) n k i := fun i hi => by rw [hce]; exact bt_cyv h30 hE hk hi
  have hmk : Cy (eg t o u) n k k = true := Cy_iff.mpr (Or.inl rfl)
  rw [← hce]
  obtain ⟨m, hme⟩ : ∃ m, m = Cy (eg t o u) n k := ⟨_, rfl⟩
  rw [← hme] at hC hbb hmk ⊢
  have hb : ∀ i, i < n → bt c i = m i := fun i hi => hbb i (by omega)
  have hmn : ∀ i, m i = true → i < n := fun i hi => (hC.1 i hi).1
  have hmd : ∀ i, m i = true → bt dn i = false := fun i hi => (hC.1 i hi).2.2
  have hdm : ∀ i, bt dn i = true → m i = false := fun i hi => by
    cases q : m i
    · rfl
    · rw [hmd i q] at hi; exact absurd hi (by decide)
  have fin : ∀ (τ : Mem) (d : Nat) (f : Nat → Fo) (z : Nat), PI w τ → FR [15, 16, 17, 21] σ τ → (∀ i, m i = false → τ 17 i = σ 17 i) → (∀ i B, m i = false → fx w σ i B → fx w τ i B) → (d = 9 ∨ d ≤ 3) → (∀ i, m i = true → τ 17 i = dlX d ∧ (d ≠ 9 → fx w τ i (f i))) → ok (fX0_settleCycle_L101 c (nI z) τ) (fun ρ => PI w ρ ∧ FR [15, 16, 17, 20, 21] σ ρ ∧ SXr w n (dn ||| c) (aset S m (fun _ => d) f z) ρ) := by
    intro τ d f z hP hf h17 hfx hd9 hmm
    unfold fX0_settleCycle_L101
    have hNτ : NX n t o u τ := NX_FR hN hf (by decide) (by decide) (by decide) (by decide)
    refine ok_bind (ok_mono (X_setKinds (w := w) (c := c) (z := z) (D := fun _ => d) (F := f) hNτ (fun i hi hbi => ?_)) ?_)
    · rw [hb i hi] at hbi
      exact ⟨(hmm i hbi).1, hd9, (hmm i hbi).2⟩
    · rintro ρ ⟨hf2, hk20⟩
      refine ok_some ⟨PI_FR hP hf2 (by decide) (by decide) (by decide) (by decide) (by decide) (by decide) (by decide) (by decide), FR_trans (FR_mono hf (by decide)) (FR_mono hf2 (by decide)), fun i hi hbi => ?_⟩
      have f17 : ρ 17 = τ 17 := hf2 17 (by decide)
      unfold aset
      dsimp only
      rw [f17, hk20 i hi, hb i hi]
      by_cases cm : m i = true
      · rw [if_pos cm, if_pos cm, if_pos cm, if_pos cm]
        exact ⟨(hmm i cm).1, rfl, fun q => fx_FR ((hmm i cm).2 q) hf2 (by decide) (by decide)⟩
      · have cm' : m i = false := by simpa using cm
        rw [if_neg cm, if_neg cm, if_neg cm, if_neg cm]
        rw [b_or, hb i hi, cm', Bool.or_false] at hbi
        obtain ⟨q1, q2, q3⟩ := hX i hi hbi
        exact ⟨by rw [h17 i cm']; exact q1, by rw [hf 20 (by decide)]; exact q2, fun q => fx_FR (hfx i _ cm' (q3 q)) hf2 (by decide) (by decide)⟩
  unfold fX0_settleCycle
  refine ok_bind (ok_mono (?_ : ok _ (fun r => ∃ τ, r = (nI (fb_ct m n), nI (fb_ct (isC t m) n), cvX t m n, τ) ∧ FR [17] σ τ ∧ ∀ j, τ 17 j = if m j = true then -1 else σ 17 j)) ?_)
  · refine ok_for' (enc := fun i (τ : Mem) => (nI (fb_ct m i), nI (fb_ct (isC t m) i), cvX t m i, nI i, τ)) n (fun i τ => FR [17] σ τ ∧ ∀ j, τ 17 j = if m j = true ∧ j < i then -1 else σ 17 j) (i0 := 0) (s0 := σ) (Nat.zero_le _) ⟨FR_refl _ _, fun j => by rw [if_neg (by omega)]⟩ ?_ ?_
    · intro i τ hi ⟨hf, h17⟩
      dsimp only
      unfold fX0_settleCycle_B10 fX0_settleCycle_L66
      have f3 : τ 3 4 = nI n := by rw [hf 3 (by decide)]; exact hN.2.1
      have e8 : τ 8 i = nI (t i) := by rw [hf 8 (by decide)]; exact (hN.2.2 i hi).1
      rw [f3, if_neg (nI_ge hi (by omega)), isInE _ (by omega), Option.bind_some]
      dsimp only
      rw [hb i hi]
      by_cases cm : m i = true
      · have h17' : ∀ j, up2 τ 17 i (-1) 17 j = if m j = true ∧ j < i + 1 then -1 else σ 17 j := by
          intro j
          rw [up2_at]
          by_cases e : j = i
          · rw [if_pos e, if_pos ⟨by rw [e]; exact cm, by omega⟩]
          · rw [if_neg e, h17 j]
            by_cases q : m j = true ∧ j < i
            · rw [if_pos q, if_pos ⟨q.1, by omega⟩]
            · rw [if_neg q, if_neg (fun z => q ⟨z.1, by omega⟩)]
        have hct : fb_ct m (i + 1) = fb_ct m i + 1 := by rw [fb_ct_succ, if_pos cm]
        rw [if_pos cm, if_neg (by decide), chk_in (by omega) (by decide), chk_in (by omega) (by decide), nI_clamp (by omega)]
        by_cases c5 : t i = 5
        · have hc : isC t m i = true := by unfold isC; simp [cm, c5]
          refine ok_pos (show up2 τ 17 i (-1) 8 i = 5 by rw [up2_row _ _ _ (by decide), e8, c5]; rfl) ?_
          refine ok_some ⟨_, ?_, FR_trans hf (FR_up2 _ (by decide) _ _), h17'⟩
          have h1 : fb_ct (isC t m) (i + 1) = fb_ct (isC t m) i + 1 := by rw [fb_ct_succ, if_pos hc]
          have h2 : cvX t m (i + 1) = nI i := by
            unfold cvX lc
            rw [if_neg (by omega), if_pos hc]
          rw [hct, h1, h2, nI_1, nI_1, nI_1]
        · have hc : ¬ isC t m i = true := fun q => c5 (isC_m q).2
          refine ok_neg (show ¬ up2 τ 17 i (-1) 8 i = 5 by rw [up2_row _ _ _ (by decide), e8]; exact t_n5 hW hi c5) ?_
          refine ok_some ⟨_, ?_, FR_trans hf (FR_up2 _ (by decide) _ _), h17'⟩
          have h1 : fb_ct (isC t m) (i + 1) = fb_ct (isC t m) i := by rw [fb_ct_succ, if_neg hc, Nat.add_zero]
          have h2 : cvX t m (i + 1) = cvX t m i := by
            unfold cvX
            rw [h1]
            show (if _ then _ else nI (if isC t m i = true then i else lc t m i)) = _
            rw [if_neg hc]
          rw [hct, h1, h2, nI_1, nI_1]
      · rw [if_neg cm, if_pos rfl]
        have hc : ¬ isC t m i = true := fun q => cm (isC_m q).1
        have h0 : fb_ct m (i + 1) = fb_ct m i := by rw [fb_ct_succ, if_neg cm, Nat.add_zero]
        have h1 : fb_ct (isC t m) (i + 1) = fb_ct (isC t m) i := by rw [fb_ct_succ, if_neg hc, Nat.add_zero]
        have h2 : cvX t m (i + 1) = cvX t m i := by
          unfold cvX
          rw [h1]
          show (if _ then _ else nI (if isC t m i = true then i else lc t m i)) = _
          rw [if_neg hc]
        refine ok_some ⟨τ, by rw [h0, h1, h2, nI_1], hf, fun j => ?_⟩
        rw [h17 j]
        by_cases q : m j = true ∧ j < i
        · rw [if_pos q, if_pos ⟨q.1, by omega⟩]
        · rw [if_neg q, if_neg]
          intro z
          by_cases e : j = i
          · rw [e] at z; exact cm z.1
          · exact q ⟨z.1, by omega⟩
    · intro τ ⟨hf, h17⟩
      dsimp only
      unfold fX0_settleCycle_B10
      have f3 : τ 3 4 = nI n := by rw [hf 3 (by decide)]; exact hN.2.1
      rw [f3, if_pos (Int32.le_refl _)]
      refine ok_some ⟨τ, rfl, hf, fun j => ?_⟩
      rw [h17 j]
      by_cases cm : m j = true
      · rw [if_pos ⟨cm, hmn j cm⟩, if_pos cm]
      · rw [if_neg (fun q => cm q.1), if_neg cm]
  rintro r ⟨τ, rfl, hf, h17⟩
  dsimp only
  have hNτ : NX n t o u τ := NX_FR hN hf (by decide) (by decide) (by decide) (by decide)
  have hPτ : PI w τ := PI_FR h hf (by decide) (by decide) (by decide) (by decide) (by decide) (by decide) (by decide) (by decide)
  have h17m : ∀ i, m i = true → τ 17 i = -1 := fun i hi => by rw [h17 i, if_pos hi]
  have h17n : ∀ i, m i = false → τ 17 i = σ 17 i := fun i hi => by rw [h17 i, if_neg (by rw [hi]; decide)]
  have hXτ : SXr w n dn S τ := by
    intro i hi hbi
    obtain ⟨q1, q2, q3⟩ := hX i hi hbi
    exact ⟨by rw [h17n i (hdm i hbi)]; exact q1, by rw [hf 20 (by decide)]; exact q2, fun q => fx_FR (q3 q) hf (by decide) (by decide)⟩
  have lM := fb_ct_le m n
  have lC := fb_ct_le (isC t m) n
  unfold fX0_settleCycle_L72 cyc
  by_cases c1 : fb_ct (isC t m) n = 1
  · obtain ⟨x1, x2, x3, x4, x5⟩ := CF_x hW hC c1
    have hcv : cvX t m n = nI (lc t m n) := by unfold cvX; rw [if_neg (by omega)]
    have hox : bt dn (o (lc t m n)) = true := by
      have hle := x5 k hmk
      rcases hW _ x1 with ⟨q, -⟩ | ⟨q, -⟩ | ⟨q, -⟩ | ⟨-, q1, q2, q3⟩
      · omega
      · omega
      · omega
      · exact hst _ (by omega) (by omega)
    rw [if_pos (by rw [c1]; rfl), if_pos c1, hcv]
    refine ok_bind (ok_mono (X_settleTurning hW hNτ hPτ (by rw [hf 3 (by decide)]; exact h3) hb hC hA hXτ c1 h17m hox) ?_)
    rintro ρ ⟨⟨p1, p2, p3, p4⟩, hq⟩
    unfold fX0_settleCycle_L84 fX0_settleCycle_L100
    rw [if_pos (by rw [c1]; decide)]
    have e4 : (4 : Int32) = nI 4 := rfl
    rw [e4]
    rcases hq with ⟨hq, q17⟩ | ⟨q, hq, qm⟩
    · rw [hq]
      exact fin ρ 9 (fun _ => f0) 4 p1 (FR_trans (FR_mono hf (by decide)) p2) (fun i hi => by rw [p3 i hi]; exact h17n i hi) (fun i B hi hB => p4 i B hi (fx_FR hB hf (by decide) (by decide))) (Or.inl rfl) (fun i hi => ⟨q17 i hi, fun z => absurd rfl z⟩)
    · rw [hq]
      exact fin ρ q.1 q.2 4 p1 (FR_trans (FR_mono hf (by decide)) p2) (fun i hi => by rw [p3 i hi]; exact h17n i hi) (fun i B hi hB => p4 i B hi (fx_FR hB hf (by decide) (by decide))) (trn_ok hW hw.1 hC hA c1 hq).1 (fun i hi => ⟨(qm i hi).1, fun _ => (qm i hi).2⟩)
  · have hpos : 0 < fb_ct (isC t m) n := by
      obtain ⟨x, q1, q2⟩ := CF_carr hW hC (k + 1) k (by omega) hmk
      exact fb_ct_pos.mpr ⟨x, hmn x (isC_m q2).1, q2⟩
    rw [if_neg (show ¬ nI _ = 1 from fun e => c1 ((nI_eq (b := 1) (by omega) (by decide)).mp e)), if_neg c1]
    unfold fX0_settleCycle_L84 fX0_settleCycle_L100
    rw [if_neg (show ¬ nI _ ≤ 1 from nI_ge (a := 1) (by omega) (by omega))]
    have hf2 := fun z => fin τ 9 (fun _ => f0) z hPτ (FR_mono hf (by decide)) h17n (fun i B hi hB => fx_FR hB hf (by decide) (by decide)) (Or.inl rfl) (fun i hi => ⟨h17m i hi, fun z => absurd rfl z⟩)
    by_cases ca : fb_ct (isC t m) n = fb_ct m n
    · rw [if_pos (by rw [ca]), if_pos ca]
      exact hf2 3
    · rw [if_neg (show ¬ nI _ = nI _ from fun e => ca ((nI_eq (by omega) (by omega)).mp e)), if_neg ca]
      exact hf2 4
/-- what the class's cycles hold when they are fresh -/
def XC (w n : Nat) (t o u : Nat → Nat) (σ : Mem) : Prop := PI w σ ∧ (∀ k, k < n → σ 18 k = hgv (eg t o u) n k ∧ σ 19 k = cyv (eg t o u) n k) ∧ ∀ i, i < n → σ 17 i = dlX ((Rs w n t o u).1 i) ∧ σ 20 i = nI ((Rs w n t o u).2.2 i) ∧ ((Rs w n t o u).1 i ≠ 9 → fx w σ i ((Rs w n t o u).2.1 i))
theorem via_no {w n : Nat} {t o u : Nat → Nat} {k : Nat} (h : t k ≤ 1) (j : Nat) : via (eg t o u) n k j = false := by
  cases q : via (eg t o u) n k j
  · rfl
  · obtain ⟨s, h1, -⟩ := via_first q
    have := eg_t h1
    omega
/-- the state of a sweep: the class -/
def SwX (w n : Nat) (t o u : Nat → Nat) (σ : Mem) (q : Int32 × AS) (k : Nat) (τ : Mem) : Prop := PI w τ ∧ FR [15, 16, 17, 20, 21] σ τ ∧ SXr w n q.1 q.2 τ ∧ AI w n t o q.1 q.2 ∧ DNv (eg t o u) n q.1 ∧ ∀ i, i < k → t i ≤ 1 → bt q.1 i = true
theorem X_sweep {w n : Nat} {t o u : Nat → Nat} {σ : Mem} (hW : WF w n t o u) (hN : NX n t o u σ) (h3 : σ 3 0 = nI (2 ^ w - 1)) (hh : ∀ k, k < n → σ 18 k = hgv (eg t o u) n k ∧ σ 19 k = cyv (eg t o u) n k) {q : Int32 × AS} {τ : Mem} (hI : SwX w n t o u σ q 0 τ) (p : Int32) :
    ok (loop (fun a => fX0_refresh_B62 a.1 p a.2.1 a.2.2) (q.1, 0, τ)) (fun r => r.1 = (sw w n t o u n q).1 ∧ SwX w n t o u σ (sw w n t o u n q) n r.2) := by
  have h30 := hN.1
  have hE := eg_E hW
  have hw := hI.1.1.1
  refine ok_for' (enc := fun k (τ : Mem) => ((sw w n t o u k q).1, nI k, τ)) n (fun k τ => SwX w n t o u σ (sw w n t o u k q) k τ) (i0 := 0) (s0 := τ) (Nat.zero_le _) hI ?_ ?_
  · intro k τ hk ⟨hP, hf, hX, hA, hD, hst⟩
    dsimp only
    obtain ⟨q2, hq2⟩ : ∃ q2, q2 = sw w n t o u k q := ⟨_, rfl⟩
    have hsucc : sw w n t o u (k + 1) q = st1 w n t o u k q2 := by rw [hq2]; rfl
    rw [← hq2] at hX hA hD hst ⊢
    have hNτ : NX n t o u τ := NX_FR hN hf (by decide) (by decide) (by decide) (by decide)
    obtain ⟨e18, e19⟩ := hh k hk
    have e18' : τ 18 k = hgv (eg t o u) n k := by rw [hf 18 (by decide)]; exact e18
    have e19' : τ 19 k = cyv (eg t o u) n k := by rw [hf 19 (by decide)]; exact e19
    -- given names behind this one
    have hgiv : ∀ q3 : Int32, (∀ i, bt q2.1 i = true → bt q3 i = true) → (t k ≤ 1 → bt q3 k = true) → ∀ i, i < k + 1 → t i ≤ 1 → bt q3 i = true := by
      intro q3 hq hk1 i hi hti
      by_cases e : i = k
      · rw [e] at hti ⊢; exact hk1 hti
      · exact hq i (hst i (by omega) hti)
    unfold fX0_refresh_B62 fX0_refresh_L138 fX0_refresh_L147
    rw [hNτ.2.1, if_neg (nI_ge hk (by omega)), chk_in (by omega) (by decide), chk_in (by omega) (by decide), isInE _ (by omega), Option.bind_some]
    dsimp only
    rw [nI_clamp (by omega)]
    by_cases cb : bt q2.1 k = true
    · rw [if_pos cb, if_neg (by decide), nI_1]
      have hno : st1 w n t o u k q2 = q2 := by
        unfold st1; rw [pif_f]
        intro z; rw [z.1] at cb; exact absurd cb (by decide)
      refine ok_some ⟨τ, by rw [hsucc, hno], ?_⟩
      rw [hsucc, hno]
      exact ⟨hP, hf, hX, hA, hD, hgiv q2.1 (fun _ q => q) (fun _ => cb)⟩
    · have cb' : bt q2.1 k = false := by simpa using cb
      rw [if_neg cb, if_pos rfl, e18', e19']
      by_cases cm : (hgv (eg t o u) n k &&& (cyv (eg t o u) n k ^^^ (-1))) &&& (q2.1 ^^^ (-1)) = 0
      · have hmay : may (eg t o u) n q2.1 k := ⟨cb', cm⟩
        have hyes : st1 w n t o u k q2 = (q2.1 ||| cyv (eg t o u) n k, stl w n t o u q2.2 k) := by unfold st1; rw [pif_t hmay]
        rw [if_pos cm, chk_in (by omega) (by decide), isInE _ (by omega), Option.bind_some]
        dsimp only
        rw [bt_hgv h30 hE hk (by omega)]
        have hend : ∀ ρ : Mem, PI w ρ → FR [15, 16, 17, 20, 21] τ ρ → SXr w n (q2.1 ||| cyv (eg t o u) n k) (stl w n t o u q2.2 k) ρ → ok (chk (inb (nI k) 30) (some (Sum.inl (q2.1 ||| ρ 19 k, nI k + 1, ρ)))) (Sum.elim (fun a' => ∃ s', a' = ((sw w n t o u (k + 1) q).1, nI (k + 1), s') ∧ SwX w n t o u σ (sw w n t o u (k + 1) q) (k + 1) s') (fun r : Int32 × Mem => r.1 = (sw w n t o u n q).1 ∧ SwX w n t o u σ (sw w n t o u n q) n r.2)) := by
          intro ρ hPρ hfρ hXρ
          have e19ρ : ρ 19 k = cyv (eg t o u) n k := by rw [hfρ 19 (by decide)]; exact e19'
          rw [chk_in (by omega) (by decide), e19ρ, nI_1]
          refine ok_some ⟨ρ, by rw [hsucc, hyes], ?_⟩
          rw [hsucc, hyes]
          refine ⟨hPρ, FR_trans hf hfρ, hXρ, AI_st hW h30 hw.1 hk hD hmay hA, DNv_st h30 hE hk hD hmay, hgiv _ (fun i q => ?_) (fun _ => ?_)⟩
          · show bt (_ ||| _) i = true
            rw [b_or, q, Bool.true_or]
          · show bt (_ ||| _) k = true
            rw [b_or, bt_cyv h30 hE hk (by omega), Cy_iff.mpr (Or.inl rfl), Bool.or_true]
        by_cases cv : via (eg t o u) n k k = true
        · rw [if_pos cv, if_neg (by decide), chk_in (by omega) (by decide), e19']
          refine ok_bind (ok_mono (X_settleCycle hW hNτ hP (by rw [hf 3 (by decide)]; exact h3) hk hD hmay hA cv hX hst) ?_)
          rintro ρ ⟨p1, p2, p3⟩
          exact hend ρ p1 p2 p3
        · rw [if_neg cv, if_pos rfl]
          refine ok_bind (ok_mono (X_settleAlone hW hNτ hP hk hD hmay hA cv hX (fun h5 => ?_)) ?_)
          · rcases hW k hk with ⟨q, -⟩ | ⟨q, -⟩ | ⟨q, -⟩ | ⟨-, q1, q2, q3⟩
            · omega
            · omega
            · omega
            · exact hst _ q1 (by omega)
          · rintro ρ ⟨p1, p2, p3⟩
            exact hend ρ p1 p2 p3
      · have hno : st1 w n t o u k q2 = q2 := by
          unfold st1; rw [pif_f]
          intro z; exact cm z.2
        rw [if_neg cm, nI_1]
        refine ok_some ⟨τ, by rw [hsucc, hno], ?_⟩
        rw [hsucc, hno]
        refine ⟨hP, hf, hX, hA, hD, hgiv q2.1 (fun _ q => q) (fun hk1 => ?_)⟩
        exfalso
        apply cm
        rw [b_sub0]
        intro j hj h1 _
        rw [bt_hgv h30 hE hk hj, via_no (w := w) hk1] at h1
        exact absurd h1 (by decide)
  · intro τ hI2
    dsimp only
    unfold fX0_refresh_B62
    have f3 : τ 3 4 = nI n := by rw [hI2.2.1 3 (by decide)]; exact hN.2.1
    rw [f3, if_pos (Int32.le_refl _)]
    exact ok_some ⟨rfl, hI2⟩
theorem X_refresh0 {w n : Nat} {t o u : Nat → Nat} {σ : Mem} (hW : WF w n t o u) (hN : NX n t o u σ) (h : PI w σ) (h3 : σ 3 0 = nI (2 ^ w - 1)) (hne : ¬ σ 0 6 = σ 3 11) :
    ok (fX0_refresh σ) (fun τ => XC w n t o u τ ∧ FR [0, 15, 16, 17, 18, 19, 20, 21] σ τ ∧ τ 0 6 = σ 3 11) := by
  have h30 := hN.1
  unfold fX0_refresh fX0_refresh_L159
  rw [if_neg hne]
  obtain ⟨σ1, hσ1⟩ : ∃ s, s = up2 σ 0 6 (σ 3 11) := ⟨_, rfl⟩
  rw [← hσ1]
  have hf1 : FR [0] σ σ1 := by rw [hσ1]; exact FR_up2 _ (by decide) _ _
  have hv1 : σ1 0 6 = σ 3 11 := by rw [hσ1, up2_eq]
  have hN1 : NX n t o u σ1 := NX_FR hN hf1 (by decide) (by decide) (by decide) (by decide)
  refine ok_bind (ok_mono (X_findMembers hW hN1) ?_)
  rintro σ2 ⟨hf2, hh⟩
  have hN2 : NX n t o u σ2 := NX_FR hN1 hf2 (by decide) (by decide) (by decide) (by decide)
  have hP2 : PI w σ2 := PI_FR (PI_FR h hf1 (by decide) (by decide) (by decide) (by decide) (by decide) (by decide) (by decide) (by decide)) hf2 (by decide) (by decide) (by decide) (by decide) (by decide) (by decide) (by decide) (by decide)
  have h32 : σ2 3 0 = nI (2 ^ w - 1) := by rw [hf2 3 (by decide), hf1 3 (by decide)]; exact h3
  refine ok_bind (ok_mono (?_ : ok _ (fun τ => PI w τ ∧ FR [15, 16, 17, 20, 21] σ2 τ ∧ SXr w n (pss w n t o u n (0, S0)).1 (pss w n t o u n (0, S0)).2 τ)) ?_)
  · refine ok_for' (enc := fun p (τ : Mem) => ((pss w n t o u p (0, S0)).1, nI p, τ)) n (fun p τ => SwX w n t o u σ2 (pss w n t o u p (0, S0)) 0 τ) (i0 := 0) (s0 := σ2) (Nat.zero_le _) ⟨hP2, FR_refl _ _, fun i _ hb => ?_, fun i _ hb => ?_, pss_DN hW h30 0, fun i hi => absurd hi (Nat.not_lt_zero i)⟩ ?_ ?_
    · have : bt 0 i = true := hb
      rw [b_0] at this; exact absurd this (by decide)
    · have : bt 0 i = true := hb
      rw [b_0] at this; exact absurd this (by decide)
    · intro p τ hp hI
      dsimp only
      unfold fX0_refresh_B34 fX0_refresh_L153
      have f3 : τ 3 4 = nI n := by rw [hI.2.1 3 (by decide)]; exact hN2.2.1
      rw [f3, if_neg (nI_ge hp (by omega)), all_X n (by omega)]
      by_cases ca : (pss w n t o u p (0, S0)).1 = bs (fun _ => true) n
      · rw [if_pos ca]
        have hall := (DN_all h30 (pss_DN hW h30 p)).mp ca
        have := pss_stay hall (n - p)
        rw [show p + (n - p) = n by omega] at this
        rw [this]
        exact ok_some ⟨hI.1, hI.2.1, hI.2.2.1⟩
      · rw [if_neg ca]
        refine ok_bind (ok_mono (X_sweep hW hN2 h32 hh hI (nI p)) ?_)
        rintro ⟨d, ρ⟩ ⟨q1, q2⟩
        dsimp only at q1 q2 ⊢
        rw [q1, nI_1]
        exact ok_some ⟨ρ, rfl, q2.1, q2.2.1, q2.2.2.1, q2.2.2.2.1, q2.2.2.2.2.1, fun i hi => absurd hi (Nat.not_lt_zero i)⟩
    · intro τ hI
      dsimp only
      unfold fX0_refresh_B34
      have f3 : τ 3 4 = nI n := by rw [hI.2.1 3 (by decide)]; exact hN2.2.1
      rw [f3, if_pos (Int32.le_refl _)]
      exact ok_some ⟨hI.1, hI.2.1, hI.2.2.1⟩
  · rintro τ ⟨hP, hf, hX⟩
    refine ok_some ⟨⟨hP, fun k hk => ⟨by rw [hf 18 (by decide)]; exact (hh k hk).1, by rw [hf 19 (by decide)]; exact (hh k hk).2⟩, fun i hi => hX i hi (pss_done hW h30 i hi)⟩, FR_trans (FR_mono hf1 (by decide)) (FR_trans (FR_mono hf2 (by decide)) (FR_mono hf (by decide))), ?_⟩
    rw [hf 0 (by decide), hf2 0 (by decide)]; exact hv1
