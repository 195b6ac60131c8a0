/-- what lies outside a cycle, step by step -/
def outP (E : Nat → Nat → Bool) (n k i j : Nat) : Prop := ∃ r, r < i ∧ Cy E n k r = true ∧ E r j = true ∧ Cy E n k j = false
theorem M_outside {w n : Nat} {t o u : Nat → Nat} {σ : Mem} (hW : WF w n t o u) (hN : NM n t o u σ) {k : Nat} (hk : k < n) (l1 l2 : Int32) :
    ok (loop (fun a => fX8_lays_B54 l1 l2 (cyv (eg t o u) n k) a.1 a.2.1 a.2.2) (0, 0, σ)) (fun r => r.2 = σ ∧ ∀ j, j < 32 → (bt r.1 j = true ↔ outP (eg t o u) n k n j)) := by
  have h30 := hN.1
  have hE := eg_E hW
  refine ok_for' (enc := fun i (x : Int32) => (x, nI i, σ)) n (fun i x => ∀ j, j < 32 → (bt x j = true ↔ outP (eg t o u) n k i j)) (i0 := 0) (s0 := 0) (Nat.zero_le _) (fun j hj => ⟨fun q => by rw [b_0] at q; exact absurd q (by decide), fun ⟨r, hr, _⟩ => absurd hr (Nat.not_lt_zero r)⟩) ?_ ?_
  · intro i x hi hI
    dsimp only
    unfold fX8_lays_B54 fX8_lays_L88
    rw [hN.2.1, if_neg (nI_ge hi (by omega)), hasE _ (by omega), Option.bind_some]
    dsimp only
    rw [bt_cyv h30 hE hk (by omega)]
    have hsplit : ∀ j, outP (eg t o u) n k (i + 1) j ↔ outP (eg t o u) n k i j ∨ (Cy (eg t o u) n k i = true ∧ eg t o u i j = true ∧ Cy (eg t o u) n k j = false) := by
      intro j
      constructor
      · rintro ⟨r, h1, h2, h3, h4⟩
        by_cases e : r = i
        · rw [e] at h2 h3; exact Or.inr ⟨h2, h3, h4⟩
        · exact Or.inl ⟨r, by omega, h2, h3, h4⟩
      · rintro (⟨r, h1, h2, h3, h4⟩ | ⟨h2, h3, h4⟩)
        · exact ⟨r, by omega, h2, h3, h4⟩
        · exact ⟨i, by omega, h2, h3, h4⟩
    by_cases cm : Cy (eg t o u) n k i = true
    · rw [if_pos cm, if_neg (by decide), M_direct hW hN hi, Option.bind_some]
      dsimp only
      rw [nI_1]
      refine ok_some ⟨_, rfl, fun j hj => ?_⟩
      rw [hsplit j, b_or, Bool.or_eq_true, hI j hj, b_and, b_xor, b_m1 j hj, Bool.xor_true, bt_dr hW h30 hi hj, bt_cyv h30 hE hk hj, Bool.and_eq_true]
      constructor
      · rintro (q | ⟨q1, q2⟩)
        · exact Or.inl q
        · exact Or.inr ⟨cm, q1, by simpa using q2⟩
      · rintro (q | ⟨-, q1, q2⟩)
        · exact Or.inl q
        · exact Or.inr ⟨q1, by simpa using q2⟩
    · rw [if_neg cm, if_pos rfl, nI_1]
      refine ok_some ⟨_, rfl, fun j hj => ?_⟩
      rw [hsplit j, b_or, b_0, Bool.or_false, hI j hj]
      exact ⟨Or.inl, fun q => by rcases q with q | q; exact q; exact absurd q.1 cm⟩
  · intro x hI
    dsimp only
    unfold fX8_lays_B54
    rw [hN.2.1, if_pos (Int32.le_refl _)]
    exact ok_some ⟨rfl, hI⟩
theorem b_sub1 (a c : Int32) : a &&& (c ^^^ (-1)) = 0 ↔ ∀ j, j < 32 → bt a j = true → bt c j = true := by
  have hb : ∀ j, j < 32 → bt (a &&& (c ^^^ (-1))) j = (bt a j && !bt c j) := by
    intro j hj
    rw [b_and, b_xor, b_m1 j hj, Bool.xor_true]
  constructor
  · intro h j hj h1
    have := hb j hj
    rw [h, b_0, h1] at this
    cases hc : bt c j
    · rw [hc] at this; exact absurd this (by decide)
    · rfl
  · intro h
    refine b_ext (fun j hj => ?_)
    rw [hb j hj, b_0]
    cases h1 : bt a j
    · rfl
    · rw [h j hj h1]; rfl
/-- the reference's condition is the class's -/
theorem out_may {w n : Nat} {t o u : Nat → Nat} (hW : WF w n t o u) (hn : n ≤ 30) {dn x : Int32} {k : Nat} (hk : k < n) (hd : DNv (eg t o u) n dn) (hx : ∀ j, j < 32 → (bt x j = true ↔ outP (eg t o u) n k n j)) : x &&& (dn ^^^ (-1)) = 0 ↔ ∀ j, j < n → via (eg t o u) n k j = true → Cy (eg t o u) n k j = false → bt dn j = true := by
  have hE := eg_E hW
  rw [b_sub1]
  constructor
  · intro h j hj hv hc
    have hP : ∀ i j, (i < n ∧ (Cy (eg t o u) n k i = true ∨ bt dn i = true)) → eg t o u i j = true → (j < n ∧ (Cy (eg t o u) n k j = true ∨ bt dn j = true)) := by
      rintro i j ⟨hi, hq⟩ he
      have hj := eg_lt hW hi he
      refine ⟨hj, ?_⟩
      rcases hq with q | q
      · cases hc : Cy (eg t o u) n k j
        · exact Or.inr (h j (by omega) ((hx j (by omega)).mpr ⟨i, hi, q, he, hc⟩))
        · exact Or.inl rfl
      · exact Or.inr (hd.2 i j hi q (eg_via he))
    have := via_closed (n := n) (P := fun i => i < n ∧ (Cy (eg t o u) n k i = true ∨ bt dn i = true)) hP ⟨hk, Or.inl (Cy_iff.mpr (Or.inl rfl))⟩ hv
    rcases this.2 with q | q
    · rw [hc] at q; exact absurd q (by decide)
    · exact q
  · intro h j hj hb
    obtain ⟨r, h1, h2, h3, h4⟩ := (hx j hj).mp hb
    have hkj : via (eg t o u) n k j = true := by
      rcases Cy_iff.mp h2 with e | ⟨e, -⟩
      · rw [← e]; exact eg_via h3
      · exact via_mid _ n k r j h1 e (eg_via h3)
    exact h j (eg_lt hW h1 h3) hkj h4
/-- what the reference holds when it is laid -/
def MC (w n : Nat) (t o u : Nat → Nat) (σ : Mem) : Prop := MB w σ ∧ (∀ k, k < n → σ 5 k = hgv (eg t o u) n k) ∧ ∀ i, i < n → σ 6 i = nI ((Rs w n t o u).1 i) ∧ σ 7 i = nI ((Rs w n t o u).2.2 i) ∧ ((Rs w n t o u).1 i ≠ 9 → fm w σ i ((Rs w n t o u).2.1 i))
def SwM (w n : Nat) (t o u : Nat → Nat) (σ : Mem) (q : Int32 × AS) (τ : Mem) : Prop := FR [1, 6, 7, 8] σ τ ∧ SMr w n q.1 q.2 τ ∧ AI w n t o q.1 q.2 ∧ DNv (eg t o u) n q.1
theorem M_sweep {w n : Nat} {t o u : Nat → Nat} {σ : Mem} (hW : WF w n t o u) (hN : NM n t o u σ) (hB : MB w σ) (hh : ∀ k, k < n → σ 5 k = hgv (eg t o u) n k) {q : Int32 × AS} {τ : Mem} (hI : SwM w n t o u σ q τ) :
    ok (loop (fun a => fX8_lays_B34 a.1 a.2.1 a.2.2) (q.1, 0, τ)) (fun r => r.1 = (sw w n t o u n q).1 ∧ SwM w n t o u σ (sw w n t o u n q) r.2) := by
  have h30 := hN.1
  have hE := eg_E hW
  have hw := hB.1
  refine ok_for' (enc := fun k (τ : Mem) => ((sw w n t o u k q).1, nI k, τ)) n (fun k τ => SwM w n t o u σ (sw w n t o u k q) τ) (i0 := 0) (s0 := τ) (Nat.zero_le _) hI ?_ ?_
  · intro k τ hk ⟨hf, hX, hA, hD⟩
    dsimp only
    obtain ⟨q2, hq2⟩ : ∃ q2, q2 = sw w n t o u k q := ⟨_, rfl⟩
    have hsucc : sw w n t o u (k + 1) q = st1 w n t o u k q2 := by rw [hq2]; rfl
    rw [← hq2] at hX hA hD ⊢
    have hNτ : NM n t o u τ := NM_FR hN hf (by decide) (by decide) (by decide) (by decide)
    have hBτ : MB w τ := MB_FR hB hf (by decide)
    have hhτ : ∀ i, i < n → τ 5 i = hgv (eg t o u) n i := fun i hi => by rw [hf 5 (by decide)]; exact hh i hi
    unfold fX8_lays_B34 fX8_lays_L97 fX8_lays_L126
    rw [hNτ.2.1, if_neg (nI_ge hk (by omega)), M_cycleOf hW hNτ hhτ hk, Option.bind_some]
    dsimp only
    refine ok_bind (ok_mono (M_outside hW hNτ hk q2.1 (nI k)) ?_)
    rintro ⟨x, τ'⟩ ⟨e, hx⟩
    dsimp only at e hx ⊢
    subst e
    rw [hasE _ (by omega), Option.bind_some]
    dsimp only
    by_cases cb : bt q2.1 k = true
    · rw [if_pos cb, if_neg (by decide), nI_1]
      have hno : st1 w n t o u k q2 = q2 := by
        unfold st1; rw [pif_f]
        intro z; rw [z.1] at cb; exact absurd cb (by decide)
      refine ok_some ⟨τ', by rw [hsucc, hno], ?_⟩
      rw [hsucc, hno]
      exact ⟨hf, hX, hA, hD⟩
    · have cb' : bt q2.1 k = false := by simpa using cb
      rw [if_neg cb, if_pos rfl]
      by_cases cm : x &&& (q2.1 ^^^ (-1)) = 0
      · have hmay : may (eg t o u) n q2.1 k := (may_iff h30 hE hk).mpr ⟨cb', (out_may hW h30 hk hD hx).mp cm⟩
        have hyes : st1 w n t o u k q2 = (q2.1 ||| cyv (eg t o u) n k, stl w n t o u q2.2 k) := by unfold st1; rw [pif_t hmay]
        rw [if_pos cm]
        refine ok_bind (ok_mono (M_laysCycle hW hNτ hBτ hk hD hmay hA hhτ hX) ?_)
        rintro ρ ⟨p1, p2⟩
        rw [nI_1]
        refine ok_some ⟨ρ, by rw [hsucc, hyes], ?_⟩
        rw [hsucc, hyes]
        exact ⟨FR_trans hf p1, p2, AI_st hW h30 hw.1 hk hD hmay hA, DNv_st h30 hE hk hD hmay⟩
      · have hno : st1 w n t o u k q2 = q2 := by
          unfold st1; rw [pif_f]
          intro z
          exact cm ((out_may hW h30 hk hD hx).mpr ((may_iff h30 hE hk).mp z).2)
        rw [if_neg cm, nI_1]
        refine ok_some ⟨τ', by rw [hsucc, hno], ?_⟩
        rw [hsucc, hno]
        exact ⟨hf, hX, hA, hD⟩
  · intro τ hI2
    dsimp only
    unfold fX8_lays_B34
    have f0' : τ 0 6 = nI n := by rw [hI2.1 0 (by decide)]; exact hN.2.1
    rw [f0', if_pos (Int32.le_refl _)]
    exact ok_some ⟨rfl, hI2⟩
theorem M_lays0 {w n : Nat} {t o u : Nat → Nat} {σ : Mem} (hW : WF w n t o u) (hN : NM n t o u σ) (hB : MB w σ) (hz : σ 0 11 = 0) :
    ok (fX8_lays σ) (fun τ => MC w n t o u τ ∧ FR [0, 1, 5, 6, 7, 8] σ τ ∧ τ 0 = up2 σ 0 11 1 0) := by
  have h30 := hN.1
  unfold fX8_lays fX8_lays_L135
  rw [if_pos hz]
  obtain ⟨σ1, hσ1⟩ : ∃ s, s = up2 σ 0 11 1 := ⟨_, rfl⟩
  rw [← hσ1]
  have hf1 : FR [0] σ σ1 := by rw [hσ1]; exact FR_up2 _ (by decide) _ _
  have hN1 : NM n t o u σ1 := by
    refine ⟨h30, ?_, fun i hi => ?_⟩
    · rw [hσ1, up2_col _ _ _ (by decide)]; exact hN.2.1
    · rw [hf1 2 (by decide), hf1 3 (by decide), hf1 4 (by decide)]; exact hN.2.2 i hi
  have hB1 : MB w σ1 := ⟨hB.1, by rw [hσ1, up2_col _ _ _ (by decide)]; exact hB.2⟩
  refine ok_bind (ok_mono (M_laysHangs hW hN1) ?_)
  rintro σ2 ⟨hf2, hh⟩
  have hN2 : NM n t o u σ2 := NM_FR hN1 hf2 (by decide) (by decide) (by decide) (by decide)
  have hB2 : MB w σ2 := MB_FR hB1 hf2 (by decide)
  refine ok_bind (ok_mono (?_ : ok _ (fun τ => FR [1, 6, 7, 8] σ2 τ ∧ SMr w n (pss w n t o u n (0, S0)).1 (pss w n t o u n (0, S0)).2 τ)) ?_)
  · refine ok_loop (fun a : Int32 × Mem => ∃ p, a.1 = (pss w n t o u p (0, S0)).1 ∧ SwM w n t o u σ2 (pss w n t o u p (0, S0)) a.2) (fun a => n - fb_ct (bt a.1) n) ⟨0, rfl, FR_refl _ _, fun i _ hb => ?_, fun i _ hb => ?_, pss_DN hW h30 0⟩ ?_
    · have : bt 0 i = true := hb
      rw [b_0] at this; exact absurd this (by decide)
    · have : bt 0 i = true := hb
      rw [b_0] at this; exact absurd this (by decide)
    · rintro ⟨d, τ⟩ ⟨p, hdp, hI⟩
      dsimp only at hdp hI ⊢
      subst hdp
      unfold fX8_lays_B19 fX8_lays_L132
      have f0' : τ 0 6 = nI n := by rw [hI.1 0 (by decide)]; exact hN2.2.1
      rw [f0', all_M n (by omega)]
      by_cases ca : (pss w n t o u p (0, S0)).1 = bs (fun _ => true) n
      · rw [if_pos ca]
        have hall := (DN_all h30 (pss_DN hW h30 p)).mp ca
        have e : pss w n t o u n (0, S0) = pss w n t o u p (0, S0) := by
          rcases Nat.le_total p n with hle | hle
          · have := pss_stay hall (n - p)
            rw [show p + (n - p) = n by omega] at this
            exact this
          · have := pss_stay (pss_done hW h30) (p - n)
            rw [show n + (p - n) = p by omega] at this
            exact this.symm
        rw [e]
        exact ok_some ⟨hI.1, hI.2.1⟩
      · rw [if_neg ca]
        refine ok_bind (ok_mono (M_sweep hW hN2 hB2 hh hI) ?_)
        rintro ⟨d, ρ⟩ ⟨q1, q2⟩
        dsimp only at q1 q2 ⊢
        have hex : ∃ i, i < n ∧ bt (pss w n t o u p (0, S0)).1 i = false := by
          apply Classical.byContradiction
          intro hno
          apply ca
          refine (DN_all h30 (pss_DN hW h30 p)).mpr (fun i hi => ?_)
          cases q : bt (pss w n t o u p (0, S0)).1 i
          · exact absurd ⟨i, hi, q⟩ hno
          · rfl
        have hmore := sw_more hW h30 hex
        have hle := fb_ct_le (bt (sw w n t o u n (pss w n t o u p (0, S0))).1) n
        refine ok_some ⟨⟨p + 1, q1, q2⟩, ?_⟩
        show n - fb_ct (bt d) n < n - fb_ct (bt (pss w n t o u p (0, S0)).1) n
        rw [q1]
        omega
  · rintro τ ⟨hf, hX⟩
    refine ok_some ⟨⟨MB_FR hB2 hf (by decide), fun k hk => by rw [hf 5 (by decide)]; exact hh k hk, fun i hi => hX i hi (pss_done hW h30 i hi)⟩, FR_trans (FR_mono hf1 (by decide)) (FR_trans (FR_mono hf2 (by decide)) (FR_mono hf (by decide))), ?_⟩
    rw [hf 0 (by decide), hf2 0 (by decide), hσ1]
