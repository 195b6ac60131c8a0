/-! the reference settles a cycle -/
def WIm (w : Nat) (m : Nat → Bool) (σ τ : Mem) (s : WS) (j : Nat) : Prop := FR [1, 8] σ τ ∧ (∀ i A, i < 30 → m i = false → fm w σ i A → fm w τ i A) ∧ ∀ i, m i = true → i < j → fm w τ i (s.2 i) ∧ τ 8 i = nI (s.1 i)
def WNm (w : Nat) (m : Nat → Bool) (σ τ : Mem) : Prop := FR [1, 8] σ τ ∧ ∀ i A, i < 30 → m i = false → fm w σ i A → fm w τ i A
theorem WIm_N {w : Nat} {m : Nat → Bool} {σ τ : Mem} {s : WS} {j : Nat} (h : WIm w m σ τ s j) : WNm w m σ τ := ⟨h.1, h.2.1⟩
theorem M_partOf {m : Nat → Bool} {τ : Mem} {c : Int32} {a d : Nat} (ha : a < 30) (hc : bt c a = m a) (h6 : m a = false → τ 6 a = nI d) (hd : d = 9 ∨ d ≤ 3) (D : Nat → Nat) (hD : D a = d) : fX8_partOf c (nI a) τ = some (pif (wok m D a) (nI a) (-1), if m a = true then τ else up2 τ 8 a 0) := by
  unfold fX8_partOf fX8_partOf_L31
  rw [hasE _ (by omega), Option.bind_some]
  dsimp only
  rw [hc]
  by_cases cm : m a = true
  · rw [if_pos cm, if_neg (by decide), if_pos cm, pif_t (show wok m D a from Or.inl cm)]
  · have cm' : m a = false := by simpa using cm
    have e6 : up2 τ 8 a 0 6 a = nI d := by rw [up2_row _ _ _ (by decide)]; exact h6 cm'
    rw [if_neg cm, if_pos rfl, if_neg cm, chk_in (by omega) (by decide), chk_in (by omega) (by decide), nI_clamp (by omega)]
    by_cases c0 : d = 0
    · rw [if_pos (show up2 τ 8 a 0 6 a = 0 by rw [e6, c0]; rfl), pif_t (show wok m D a from Or.inr (by omega))]
    · rw [if_neg (show ¬ up2 τ 8 a 0 6 a = 0 by rw [e6]; exact nI_ne0 (by omega) (by omega)), pif_f (show ¬ wok m D a from fun q => by rcases q with q | q; exact cm q; omega)]
theorem M_laysPart {w n : Nat} {t o u : Nat → Nat} {σ τ : Mem} {k x : Nat} {c dn : Int32} {m : Nat → Bool} {S : AS} {s : WS} (hW : WF w n t o u) (hN : NM n t o u σ) (hB : MB w σ) (hb : ∀ i, i < n → bt c i = m i) (hC : CF n t o u m dn) (hA : AI w n t o dn S) (hX : SMr w n dn S σ) (hx : ∀ i, m i = true → t i = 5 → i = x) (hk : m k = true) (hkx : k ≠ x) (hs : ∀ i, OkF w (s.2 i) ∧ s.1 i < 2 ^ w) (hI : WIm w m σ τ s k) :
    ok (fX8_laysPart c (nI k) τ) (fun r => (∃ s', wst w t o u S.1 S.2.1 m k s = some s' ∧ r.1 = 1 ∧ WIm w m σ r.2 s' (k + 1) ∧ (m x = true → x ≤ k → τ 8 x = nI (s.1 x) → fm w τ x (s.2 x) → True)) ∨ (wst w t o u S.1 S.2.1 m k s = none ∧ r.1 = 0 ∧ WNm w m σ r.2)) := by
  have h30 := hN.1
  obtain ⟨kn, k2, -⟩ := hC.1 k hk
  have k5 : t k ≠ 5 := fun e => hkx (hx k hk e)
  obtain ⟨ko, ku⟩ := WF_made hW kn k2 k5
  have hNτ : NM n t o u τ := NM_FR hN hI.1 (by decide) (by decide) (by decide) (by decide)
  obtain ⟨e2, e3, e4⟩ := hNτ.2.2 k kn
  have hw := hB.1
  have hpw := pw_le hw.2
  have f6 : τ 6 = σ 6 := hI.1 6 (by decide)
  have part : ∀ a, (a = o k ∨ a = u k) → a < n ∧ a < k ∧ (m a = false → bt dn a = true) := by
    intro a ha
    have he := (eg_made (o := o) (u := u) k2 k5 a).mpr ha
    refine ⟨eg_lt hW kn he, by rcases ha with q | q <;> omega, fun hm => ?_⟩
    rcases hC.2.1 k a hk he with q | q
    · rw [hm] at q; exact absurd q (by decide)
    · exact q
  -- one of the parts is of the cycle; numbers are not
  have hnum : ∀ a, t a = 0 → m a = false := by
    intro a ha
    cases q : m a
    · rfl
    · have := (hC.1 a q).2.1; omega
  have hone : m (o k) = true ∨ m (u k) = true := by
    obtain ⟨r, q1, q2⟩ := hC.2.2 k hk
    rcases (eg_made k2 k5 r).mp q1 with e | e
    · rw [e] at q2; exact Or.inl q2
    · rw [e] at q2; exact Or.inr q2
  have pof : ∀ (τ' : Mem) a, (a = o k ∨ a = u k) → τ' 6 = τ 6 → fX8_partOf c (nI a) τ' = some (pif (wok m S.1 a) (nI a) (-1), if m a = true then τ' else up2 τ' 8 a 0) := by
    intro τ' a ha h6
    obtain ⟨p1, p2, p3⟩ := part a ha
    by_cases cm : m a = true
    · have := M_partOf (m := m) (τ := τ') (c := c) (a := a) (d := 0) (by omega) (hb a p1) (fun q => by rw [cm] at q; exact absurd q (by decide)) (Or.inr (Nat.zero_le _)) (fun i => if i = a then 0 else S.1 i) (if_pos rfl)
      rw [this, pif_t (show wok m (fun i => if i = a then 0 else S.1 i) a from Or.inl cm), pif_t (show wok m S.1 a from Or.inl cm)]
    · have cm' : m a = false := by simpa using cm
      have hAa := (hA a p1 (p3 cm')).1
      exact M_partOf (d := S.1 a) (by omega) (hb a p1) (fun _ => by rw [h6, f6]; exact (hX a p1 (p3 cm')).1) (by rcases hAa with q | q; exact Or.inl q; exact Or.inr q.1) S.1 rfl
  obtain ⟨τ1, hτ1⟩ : ∃ s, s = if m (o k) = true then τ else up2 τ 8 (o k) 0 := ⟨_, rfl⟩
  obtain ⟨τ2, hτ2⟩ : ∃ s, s = if m (u k) = true then τ1 else up2 τ1 8 (u k) 0 := ⟨_, rfl⟩
  have hf1 : FR [8] τ τ1 := by
    rw [hτ1]; split
    · exact FR_refl _ _
    · exact FR_up2 _ (by decide) _ _
  have hf2 : FR [8] τ1 τ2 := by
    rw [hτ2]; split
    · exact FR_refl _ _
    · exact FR_up2 _ (by decide) _ _
  have hf12 : FR [8] τ τ2 := FR_trans hf1 hf2
  have h8m : ∀ i, m i = true → τ2 8 i = τ 8 i := by
    intro i hi
    have q2 : τ2 8 i = τ1 8 i := by
      rw [hτ2]; split
      · rfl
      · rename_i q
        rw [up2_col]; intro e; rw [e] at hi; exact q hi
    have q1 : τ1 8 i = τ 8 i := by
      rw [hτ1]; split
      · rfl
      · rename_i q
        rw [up2_col]; intro e; rw [e] at hi; exact q hi
    rw [q2, q1]
  have h8 : ∀ a, (a = o k ∨ a = u k) → τ2 8 a = nI (wA m s a) := by
    intro a ha
    obtain ⟨p1, p2, p3⟩ := part a ha
    unfold wA
    by_cases cm : m a = true
    · rw [if_pos cm, h8m a cm]; exact (hI.2.2 a cm p2).2
    · rw [if_neg cm]
      by_cases eu : a = u k
      · rw [hτ2, ← eu, if_neg cm, up2_eq]; rfl
      · have eo : a = o k := by rcases ha with q | q; exact q; exact absurd q eu
        have : τ2 8 a = τ1 8 a := by
          rw [hτ2]; split
          · rfl
          · rw [up2_col _ _ _ eu]
        rw [this, hτ1, ← eo, if_neg cm, up2_eq]; rfl
  have hI2 : WIm w m σ τ2 s k := ⟨FR_trans hI.1 (FR_mono hf12 (by decide)), fun i A hi hm hf => fm_FR (hI.2.1 i A hi hm hf) hf12 (by decide), fun i hi hik => ⟨fm_FR (hI.2.2 i hi hik).1 hf12 (by decide), by rw [h8m i hi]; exact (hI.2.2 i hi hik).2⟩⟩
  have hN2 : NM n t o u τ2 := NM_FR hNτ hf12 (by decide) (by decide) (by decide) (by decide)
  have hB2 : MB w τ2 := MB_FR hB hI2.1 (by decide)
  have pfm : ∀ a, (a = o k ∨ a = u k) → wok m S.1 a → fm w τ2 a (wS m S.2.1 s a) := by
    intro a ha hok
    obtain ⟨p1, p2, p3⟩ := part a ha
    unfold wS
    by_cases cm : m a = true
    · rw [if_pos cm]; exact (hI2.2.2 a cm p2).1
    · have cm' : m a = false := by simpa using cm
      rw [if_neg cm]
      have h0 : S.1 a = 0 := by rcases hok with q | q; exact absurd q cm; exact q
      exact hI2.2.1 a _ (by omega) cm' ((hX a p1 (p3 cm')).2.2 (by omega))
  have fin : ∀ (a : Nat) (f : Fo), OkF w f → WIm w m σ (mset (up2 τ2 8 k (nI a)) k f) (wput s k a f) (k + 1) := by
    intro a f hf
    have hfr : FR [1, 8] τ2 (mset (up2 τ2 8 k (nI a)) k f) := FR_trans (FR_up2 _ (by decide) _ _) (FR_mono (FR_mset _ k f) (by decide))
    refine ⟨FR_trans hI2.1 hfr, fun i A hi hm hfm => ?_, fun i hmi hik => ?_⟩
    · have : i ≠ k := fun e => by rw [e, hk] at hm; exact absurd hm (by decide)
      exact fm_ne (fm_up (hI2.2.1 i A hi hm hfm) _ _ _ (by decide)) this
    · unfold wput
      dsimp only
      rw [FR_mset _ k f 8 (by decide), up2_at]
      by_cases e : i = k
      · subst e
        rw [if_pos rfl, if_pos rfl, if_pos rfl]
        exact ⟨fm_mset _ i hf, rfl⟩
      · rw [if_neg e, if_neg e, if_neg e]
        have := hI2.2.2 i hmi (by omega)
        exact ⟨fm_ne (fm_up this.1 _ _ _ (by decide)) e, this.2⟩
  unfold fX8_laysPart fX8_laysPart_L36
  rw [chk_in (by omega) (by decide), nI_clamp (by omega), e3, pof τ (o k) (Or.inl rfl) rfl, Option.bind_some]
  dsimp only
  rw [chk_in (by omega) (by decide), ← hτ1, hf1 4 (by decide), e4 k2, pof τ1 (u k) (Or.inr rfl) (hf1 6 (by decide)), Option.bind_some]
  dsimp only
  rw [← hτ2]
  obtain ⟨g2, g3, g4⟩ := hN2.2.2 k kn
  unfold wst
  by_cases ca : wok m S.1 (o k)
  · rw [pif_t ca, if_neg (nI_nm1 (by omega))]
    by_cases cb : wok m S.1 (u k)
    · rw [pif_t cb, if_neg (nI_nm1 (by omega)), pif_t ⟨ca, cb⟩, chk_in (by omega) (by decide)]
      have fA := pfm _ (Or.inl rfl) ca
      have fB := pfm _ (Or.inr rfl) cb
      have wAl : ∀ a, wA m s a < 2 ^ w := by
        intro a; unfold wA; split
        · exact (hs a).2
        · exact pw_pos w
      by_cases c4 : t k = 4
      · rw [if_neg (show ¬ (t k ≠ 4) by simp [c4])]
        refine ok_pos (show τ2 2 k = 4 by rw [g2, c4]; rfl) ?_
        have times : ∀ (a b : Nat), (a = o k ∨ a = u k) → wok m S.1 a → t b = 0 → b < n → ok (fX8_laysPart_L204 (nI k) (nI (o b)) (nI a) τ2) (fun r => ∃ s', some (wput s k ((o b * wA m s a) % 2 ^ w) (fLin w f0 (o b) (wS m S.2.1 s a))) = some s' ∧ r.1 = 1 ∧ WIm w m σ r.2 s' (k + 1)) := by
          intro a b ha hok hb0 hbn
          obtain ⟨p1, p2, p3⟩ := part a ha
          have fP := pfm a ha hok
          have hv : o b < 2 ^ w := by rcases hW b hbn with ⟨-, q⟩ | ⟨q, -⟩ | ⟨q, -⟩ | ⟨q, -⟩ <;> omega
          unfold fX8_laysPart_L204
          rw [chk_in (by omega) (by decide), nI_clamp (by omega), h8 a ha, cutE hw.2 hB2.2, Option.bind_some]
          dsimp only
          have e1 : mL w ((nI (o b)).toInt64 * (nI (wA m s a)).toInt64) = (o b * wA m s a) % 2 ^ w := by
            rw [mL_mul hw.2, mI_64 hw.2, mI_64 hw.2, mI_nI hw.2, mI_nI hw.2, Nat.mul_mod_mod, Nat.mod_mul_mod]
          rw [chk_in (by omega) (by decide), nI_clamp (by omega), e1]
          have hj := M_joins (MB_FR hB2 (FR_up2 τ2 (k := 8) (S := [8]) (by decide) k (nI ((o b * wA m s a) % 2 ^ w))) (by decide)) (s := k) (r1 := a) (r2 := a) (by omega) (by omega) (by omega) (fm_up fP 8 k (nI ((o b * wA m s a) % 2 ^ w)) (by decide)) (fm_up fP 8 k (nI ((o b * wA m s a) % 2 ^ w)) (by decide)) (nI (o b)) 0
          have m0 : mI w 0 = 0 := by show mI w (nI 0) = 0; rw [mI_nI hw.2, Nat.zero_mod]
          rw [mI_lt16 hw.2 hv, m0, fJoin_0] at hj
          rw [hj]
          exact ok_some ⟨_, rfl, rfl, fin _ _ (OkF_lin (OkF_0 w) fP.1 _)⟩
        rw [chk_in (by omega) (by decide), nI_clamp (by omega)]
        have eo := (hN2.2.2 (o k) (by omega))
        have eu := (hN2.2.2 (u k) (by omega))
        by_cases z1 : t (o k) = 0
        · have hmu : m (u k) = true := by
            rcases hone with q | q
            · rw [hnum _ z1] at q; exact absurd q (by decide)
            · exact q
          have z2 : t (u k) ≠ 0 := fun e => by have := (hC.1 _ hmu).2.1; omega
          rw [if_pos z1]
          refine ok_pos (show τ2 2 (o k) = 0 by rw [eo.1, z1]; rfl) ?_
          rw [hasE _ (by omega), Option.bind_some]
          dsimp only
          rw [hb _ (by omega), if_pos hmu, if_neg (by decide)]
          unfold fX8_laysPart_L131
          rw [chk_in (by omega) (by decide), nI_clamp (by omega)]
          refine ok_neg (show ¬ τ2 2 (u k) = 0 by rw [eu.1]; exact t_n0 hW (by omega) z2) ?_
          unfold fX8_laysPart_L155 fX8_laysPart_L156 fX8_laysPart_L170 fX8_laysPart_L191
          rw [if_neg (by decide), if_neg (by decide), chk_in (by omega) (by decide), if_neg (by decide), nI_clamp (by omega), eo.2.1]
          exact ok_mono (times (u k) (o k) (Or.inr rfl) cb z1 (by omega)) (fun r ⟨s', q1, q2, q3⟩ => Or.inl ⟨s', q1, q2, q3, fun _ _ _ _ => trivial⟩)
        · rw [if_neg z1]
          refine ok_neg (show ¬ τ2 2 (o k) = 0 by rw [eo.1]; exact t_n0 hW (by omega) z1) ?_
          unfold fX8_laysPart_L130 fX8_laysPart_L131
          rw [chk_in (by omega) (by decide), nI_clamp (by omega)]
          by_cases z2 : t (u k) = 0
          · have hmo : m (o k) = true := by
              rcases hone with q | q
              · exact q
              · rw [hnum _ z2] at q; exact absurd q (by decide)
            rw [if_pos z2]
            refine ok_pos (show τ2 2 (u k) = 0 by rw [eu.1, z2]; rfl) ?_
            rw [hasE _ (by omega), Option.bind_some]
            dsimp only
            rw [hb _ (by omega), if_pos hmo, if_neg (by decide)]
            unfold fX8_laysPart_L156 fX8_laysPart_L170 fX8_laysPart_L191
            rw [if_pos rfl, if_neg (by decide), if_pos rfl, chk_in (by omega) (by decide), if_pos rfl, nI_clamp (by omega), eu.2.1]
            exact ok_mono (times (o k) (u k) (Or.inl rfl) ca z2 (by omega)) (fun r ⟨s', q1, q2, q3⟩ => Or.inl ⟨s', q1, q2, q3, fun _ _ _ _ => trivial⟩)
          · rw [if_neg z2]
            refine ok_neg (show ¬ τ2 2 (u k) = 0 by rw [eu.1]; exact t_n0 hW (by omega) z2) ?_
            unfold fX8_laysPart_L155 fX8_laysPart_L156
            rw [if_pos rfl, if_pos rfl]
            exact ok_some (Or.inr ⟨rfl, rfl, WIm_N hI2⟩)
      · rw [if_pos (show t k ≠ 4 from c4)]
        refine ok_neg (show ¬ τ2 2 k = 4 by rw [g2]; exact t_n4 hW kn c4) ?_
        rw [chk_in (by omega) (by decide)]
        have sums : ∀ v : Int32, mI w v = sgt w t k → ok (fX8_laysPart_L63 (nI k) (nI (o k)) (nI (u k)) v τ2) (fun r => (∃ s', some (wput s k ((wA m s (o k) + sgt w t k * wA m s (u k)) % 2 ^ w) (fLin w (wS m S.2.1 s (o k)) (sgt w t k) (wS m S.2.1 s (u k)))) = some s' ∧ r.1 = 1 ∧ WIm w m σ r.2 s' (k + 1) ∧ (m x = true → x ≤ k → τ 8 x = nI (s.1 x) → fm w τ x (s.2 x) → True)) ∨ (some (wput s k ((wA m s (o k) + sgt w t k * wA m s (u k)) % 2 ^ w) (fLin w (wS m S.2.1 s (o k)) (sgt w t k) (wS m S.2.1 s (u k)))) = none ∧ r.1 = 0 ∧ WNm w m σ r.2)) := by
          intro v hv
          unfold fX8_laysPart_L63
          rw [chk_in (by omega) (by decide), chk_in (by omega) (by decide), nI_clamp (by omega), nI_clamp (by omega), h8 _ (Or.inl rfl), h8 _ (Or.inr rfl), cutE hw.2 hB2.2, Option.bind_some]
          dsimp only
          have e1 : mL w ((nI (wA m s (o k))).toInt64 + v.toInt64 * (nI (wA m s (u k))).toInt64) = (wA m s (o k) + sgt w t k * wA m s (u k)) % 2 ^ w := by
            rw [mL_add hw.2, mL_mul hw.2, mI_64 hw.2, mI_64 hw.2, mI_64 hw.2, mI_nI hw.2, mI_nI hw.2, hv, Nat.mul_mod_mod, Nat.mod_add_mod, Nat.add_mod_mod]
          rw [chk_in (by omega) (by decide), nI_clamp (by omega), e1]
          obtain ⟨y, hy⟩ : ∃ y, y = nI ((wA m s (o k) + sgt w t k * wA m s (u k)) % 2 ^ w) := ⟨_, rfl⟩
          rw [← hy]
          rw [M_joins (MB_FR hB2 (FR_up2 τ2 (k := 8) (S := [8]) (by decide) k y) (by decide)) (by omega) (by omega) (by omega) (fm_up fA 8 k y (by decide)) (fm_up fB 8 k y (by decide)) 1 v, mI_1 hw, hv, fJoin_1, hy]
          exact ok_some (Or.inl ⟨_, rfl, rfl, fin _ _ (OkF_lin fA.1 fB.1 _), fun _ _ _ _ => trivial⟩)
        by_cases c2 : t k = 2
        · refine ok_pos (show τ2 2 k = 2 by rw [g2, c2]; rfl) ?_
          exact sums 1 (by unfold sgt; rw [if_pos c2, mI_1 hw])
        · refine ok_neg (show ¬ τ2 2 k = 2 by rw [g2]; exact t_n2 hW kn c2) ?_
          exact sums (-1) (by unfold sgt; rw [if_neg c2, mI_m1 hw])
    · rw [pif_f cb, if_pos rfl, pif_f (fun q => cb q.2)]
      exact ok_some (Or.inr ⟨rfl, rfl, WIm_N hI2⟩)
  · rw [pif_f ca, if_pos rfl, pif_f (fun q => ca q.1)]
    exact ok_some (Or.inr ⟨rfl, rfl, WIm_N hI2⟩)
