/-! the class settles a cycle -/
theorem mI_lt16 {w v : Nat} (hw : w ≤ 16) (hv : v < 2 ^ w) : mI w (nI v) = v := by rw [mI_nI hw, Nat.mod_eq_of_lt hv]
theorem mul_val {w : Nat} (hw : w ≤ 16) (x y : Nat) : (nI x * nI y) &&& nI (2 ^ w - 1) = nI ((y * x) % 2 ^ w) := by
  rw [i_mask, mI_mul hw, mI_nI hw, mI_nI hw]
  congr 1
  rw [Nat.mul_mod_mod, Nat.mod_mul_mod, Nat.mul_comm]
/-- while the names of a cycle are weighed: j and on are still to come -/
def WI (w : Nat) (m : Nat → Bool) (σ τ : Mem) (s : WS) (j : Nat) : Prop := PI w τ ∧ FR [15, 16, 21] σ τ ∧ (∀ i B, m i = false → fx w σ i B → fx w τ i B) ∧ ∀ i, m i = true → i < j → fx w τ i (s.2 i) ∧ τ 21 i = nI (s.1 i)
/-- the same, with nothing known of the names of the cycle -/
def WN (w : Nat) (m : Nat → Bool) (σ τ : Mem) : Prop := PI w τ ∧ FR [15, 16, 21] σ τ ∧ ∀ i B, m i = false → fx w σ i B → fx w τ i B
theorem WI_N {w : Nat} {m : Nat → Bool} {σ τ : Mem} {s : WS} {j : Nat} (h : WI w m σ τ s j) : WN w m σ τ := ⟨h.1, h.2.1, h.2.2.1⟩
theorem wf_x {w : Nat} {t o u : Nat → Nat} {D : Nat → Nat} {F : Nat → Fo} {m : Nat → Bool} {x : Nat} : ∀ (j : Nat) {s : WS}, wf w t o u D F m x j = some s → s.1 x = 1 ∧ s.2 x = f0
  | 0, s, h => by cases h; exact ⟨rfl, rfl⟩
  | j + 1, s', h => by
    obtain ⟨s, h1, h2⟩ := bind_some h
    have ih := wf_x j h1
    by_cases c : m j = true ∧ j ≠ x
    · rw [if_pos c] at h2
      have hput : ∀ a f, wput s j a f = s' → s'.1 x = 1 ∧ s'.2 x = f0 := by
        intro a f e
        rw [← e]
        unfold wput
        dsimp only
        rw [if_neg (fun z => c.2 z.symm), if_neg (fun z => c.2 z.symm)]
        exact ih
      unfold wst at h2
      by_cases cw : wok m D (o j) ∧ wok m D (u j)
      · rw [pif_t cw] at h2
        by_cases c4 : t j ≠ 4
        · rw [if_pos c4] at h2; exact hput _ _ (Option.some.inj h2)
        · rw [if_neg c4] at h2
          by_cases ca : t (o j) = 0
          · rw [if_pos ca] at h2; exact hput _ _ (Option.some.inj h2)
          · rw [if_neg ca] at h2
            by_cases cb : t (u j) = 0
            · rw [if_pos cb] at h2; exact hput _ _ (Option.some.inj h2)
            · rw [if_neg cb] at h2; cases h2
      · rw [pif_f cw] at h2; cases h2
    · rw [if_neg c] at h2; cases h2; exact ih
theorem wf_none {w : Nat} {t o u : Nat → Nat} {D : Nat → Nat} {F : Nat → Fo} {m : Nat → Bool} {x j : Nat} (h : wf w t o u D F m x j = none) : ∀ d, wf w t o u D F m x (j + d) = none
  | 0 => h
  | d + 1 => by
    show (wf w t o u D F m x (j + d)).bind _ = none
    rw [wf_none h d]; rfl
theorem wf_start {w : Nat} {t o u : Nat → Nat} {D : Nat → Nat} {F : Nat → Fo} {m : Nat → Bool} {x : Nat} (hx : ∀ i, m i = true → x ≤ i) : ∀ j, j ≤ x + 1 → wf w t o u D F m x j = some (fun _ => 1, fun _ => f0)
  | 0, _ => rfl
  | j + 1, h => by
    show (wf w t o u D F m x j).bind _ = _
    rw [wf_start hx j (by omega), Option.bind_some]
    have : ¬ (m j = true ∧ j ≠ x) := fun q => by have := hx j q.1; omega
    rw [if_neg this]
theorem X_mayStandIn {w : Nat} {m : Nat → Bool} {σ τ : Mem} {c : Int32} {a d : Nat} (ha : a < 30) (hc : bt c a = m a) (h17 : m a = false → τ 17 a = dlX d) (hd : d = 9 ∨ d ≤ 3) (D : Nat → Nat) (hD : D a = d) : fX0_mayStandIn (nI a) c τ = some (bI (wok m D a), τ) := by
  unfold fX0_mayStandIn fX0_mayStandIn_L20 fX0_mayStandIn_L25
  rw [isInE _ (by omega), Option.bind_some]
  dsimp only
  rw [hc]
  by_cases cm : m a = true
  · rw [if_pos cm, if_neg (by decide), bI_t (show wok m D a from Or.inl cm)]; rfl
  · have cm' : m a = false := by simpa using cm
    rw [if_neg cm, if_pos rfl, chk_in (by omega) (by decide), nI_clamp (by omega)]
    by_cases c0 : d = 0
    · rw [if_pos (show τ 17 a = 0 by rw [h17 cm', c0]; rfl), bI_t (show wok m D a from Or.inr (by omega))]; rfl
    · have : ¬ dlX d = 0 := by
        rcases hd with q | q
        · rw [q]; decide
        · rw [dlX_n (by omega)]; exact nI_ne0 (by omega) (by omega)
      rw [if_neg (show ¬ τ 17 a = 0 by rw [h17 cm']; exact this), bI_f (show ¬ wok m D a from fun q => by rcases q with q | q; exact cm q; omega)]; rfl
theorem X_weight {m : Nat → Bool} {τ : Mem} {c : Int32} {a : Nat} {s : WS} (ha : a < 30) (hc : bt c a = m a) (h21 : m a = true → τ 21 a = nI (s.1 a)) : fX0_weight (nI a) c τ = some (nI (wA m s a), τ) := by
  unfold fX0_weight fX0_weight_L18 wA
  rw [isInE _ (by omega), Option.bind_some]
  dsimp only
  rw [hc]
  by_cases cm : m a = true
  · rw [if_pos cm, if_neg (by decide), if_pos cm, chk_in (by omega) (by decide), nI_clamp (by omega), h21 cm]
  · rw [if_neg cm, if_pos rfl, if_neg cm]; rfl
theorem X_weigh {w n : Nat} {t o u : Nat → Nat} {σ τ : Mem} {k x : Nat} {c dn : Int32} {m : Nat → Bool} {S : AS} {s : WS} (hW : WF w n t o u) (hN : NX n t o u σ) (h3 : σ 3 0 = nI (2 ^ w - 1)) (hb : ∀ i, i < n → bt c i = m i) (hC : CF n t o u m dn) (hA : AI w n t o dn S) (hX : SXr w n dn S σ) (hx : ∀ i, m i = true → t i = 5 → i = x) (hk : m k = true) (hkx : k ≠ x) (hs : ∀ i, OkF w (s.2 i) ∧ s.1 i < 2 ^ w) (hI : WI w m σ τ s k) :
    ok (fX0_weigh (nI k) c τ) (fun r => (∃ s', wst w t o u S.1 S.2.1 m k s = some s' ∧ r.1 = 1 ∧ WI w m σ r.2 s' (k + 1)) ∨ (wst w t o u S.1 S.2.1 m k s = none ∧ r.1 = 0 ∧ WN w m σ r.2)) := by
  have h30 := hN.1
  obtain ⟨kn, k2, -⟩ := hC.1 k hk
  have k5 : t k ≠ 5 := fun e => hkx (hx k hk e)
  obtain ⟨ko, ku⟩ := WF_made hW kn k2 k5
  have hNτ : NX n t o u τ := NX_FR hN hI.2.1 (by decide) (by decide) (by decide) (by decide)
  obtain ⟨e8, e9, e10⟩ := hNτ.2.2 k kn
  have hw := hI.1.1.1
  have f17 : τ 17 = σ 17 := hI.2.1 17 (by decide)
  have f3 : τ 3 0 = nI (2 ^ w - 1) := by rw [hI.2.1 3 (by decide)]; exact h3
  -- what is known of a part
  have part : ∀ a, (a = o k ∨ a = u k) → a < n ∧ a < k ∧ (m a = false → bt dn a = true) := by
    intro a ha
    have he := (eg_made (o := o) (u := u) k2 k5 a).mpr ha
    refine ⟨eg_lt hW kn he, by rcases ha with q | q <;> omega, fun hm => ?_⟩
    rcases hC.2.1 k a hk he with q | q
    · rw [hm] at q; exact absurd q (by decide)
    · exact q
  have pmay : ∀ a, (a = o k ∨ a = u k) → fX0_mayStandIn (nI a) c τ = some (bI (wok m S.1 a), τ) := by
    intro a ha
    obtain ⟨p1, p2, p3⟩ := part a ha
    by_cases cm : m a = true
    · exact X_mayStandIn (w := w) (σ := σ) (d := 0) (by omega) (hb a p1) (fun q => by rw [cm] at q; exact absurd q (by decide)) (Or.inr (Nat.zero_le _)) (fun i => if i = a then 0 else S.1 i) (if_pos rfl) |> fun q => by
        rw [q, bI_t (show wok m (fun i => if i = a then 0 else S.1 i) a from Or.inl cm), bI_t (show wok m S.1 a from Or.inl cm)]
    · have cm' : m a = false := by simpa using cm
      have hAa := (hA a p1 (p3 cm')).1
      exact X_mayStandIn (w := w) (σ := σ) (d := S.1 a) (by omega) (hb a p1) (fun _ => by rw [f17]; exact (hX a p1 (p3 cm')).1) (by rcases hAa with q | q; exact Or.inl q; exact Or.inr q.1) S.1 rfl
  have pwt : ∀ a, (a = o k ∨ a = u k) → fX0_weight (nI a) c τ = some (nI (wA m s a), τ) := by
    intro a ha
    obtain ⟨p1, p2, p3⟩ := part a ha
    exact X_weight (by omega) (hb a p1) (fun q => (hI.2.2.2 a q p2).2)
  have pfx : ∀ a, (a = o k ∨ a = u k) → wok m S.1 a → OkF w (wS m S.2.1 s a) ∧ fx w τ a (wS m S.2.1 s a) := by
    intro a ha hok
    obtain ⟨p1, p2, p3⟩ := part a ha
    unfold wS
    by_cases cm : m a = true
    · rw [if_pos cm]; exact ⟨(hs a).1, (hI.2.2.2 a cm p2).1⟩
    · have cm' : m a = false := by simpa using cm
      rw [if_neg cm]
      have h0 : S.1 a = 0 := by rcases hok with q | q; exact absurd q cm; exact q
      have hAa := (hA a p1 (p3 cm')).1
      refine ⟨by rcases hAa with q | q; omega; exact q.2, hI.2.2.1 a _ cm' ((hX a p1 (p3 cm')).2.2 (by omega))⟩
  -- the end: slot k is written
  have fin : ∀ (a : Nat) (f : Fo) (ρ : Mem), XS w k f (up2 τ 21 k (nI a)) ρ → WI w m σ ρ (wput s k a f) (k + 1) := by
    intro a f ρ hXS
    refine ⟨hXS.1, FR_trans hI.2.1 (FR_trans (FR_up2 _ (by decide) _ _) (FR_mono hXS.2.2.1 (by decide))), fun i B hmi hfx => ?_, fun i hmi hik => ?_⟩
    · have : i ≠ k := fun e => by rw [e, hk] at hmi; exact absurd hmi (by decide)
      exact XS_fx hXS this (fx_up (hI.2.2.1 i B hmi hfx) _ _ _ (by decide) (by decide))
    · unfold wput
      dsimp only
      by_cases e : i = k
      · subst e
        rw [if_pos rfl, if_pos rfl, hXS.2.2.1 21 (by decide), up2_eq]
        exact ⟨hXS.2.1, rfl⟩
      · rw [if_neg e, if_neg e, hXS.2.2.1 21 (by decide), up2_col _ _ _ e]
        have := hI.2.2.2 i hmi (by omega)
        exact ⟨XS_fx hXS e (fx_up this.1 _ _ _ (by decide) (by decide)), this.2⟩
  unfold fX0_weigh fX0_weigh_L40
  rw [chk_in (by omega) (by decide), chk_in (by omega) (by decide), nI_clamp (by omega), e9, e10 k2, pmay _ (Or.inl rfl), Option.bind_some]
  dsimp only
  unfold wst
  by_cases ca : wok m S.1 (o k)
  · rw [bI_t ca, if_neg (by decide), pmay _ (Or.inr rfl), Option.bind_some]
    dsimp only
    by_cases cb : wok m S.1 (u k)
    · rw [bI_t cb, if_neg (by decide), pif_t ⟨ca, cb⟩, chk_in (by omega) (by decide)]
      obtain ⟨oA, fA⟩ := pfx _ (Or.inl rfl) ca
      obtain ⟨oB, fB⟩ := pfx _ (Or.inr rfl) cb
      by_cases c4 : t k = 4
      · rw [if_neg (show ¬ (t k ≠ 4) by simp [c4])]
        refine ok_pos (show τ 8 k = 4 by rw [e8, c4]; rfl) ?_
        rw [chk_in (by omega) (by decide), nI_clamp (by omega)]
        have eo := (hNτ.2.2 (o k) (by omega)).1
        have eu := (hNτ.2.2 (u k) (by omega)).1
        have times : ∀ (a b : Nat), (a = o k ∨ a = u k) → wok m S.1 a → t b = 0 → b < n → ok (fX0_weigh_L192 (nI k) c (nI (o b)) (nI a) τ) (fun r => ∃ s', some (wput s k ((o b * wA m s a) % 2 ^ w) (fLin w f0 (o b) (wS m S.2.1 s a))) = some s' ∧ r.1 = 1 ∧ WI w m σ r.2 s' (k + 1)) := by
          intro a b ha hok hb0 hbn
          obtain ⟨p1, p2, p3⟩ := part a ha
          obtain ⟨oP, fP⟩ := pfx a ha hok
          have hv : o b < 2 ^ w := by rcases hW b hbn with ⟨-, q⟩ | ⟨q, -⟩ | ⟨q, -⟩ | ⟨q, -⟩ <;> omega
          unfold fX0_weigh_L192
          rw [pwt a ha, Option.bind_some]
          dsimp only
          rw [chk_in (by omega) (by decide), nI_clamp (by omega), f3, mul_val hw.2]
          refine ok_bind (ok_mono (X1_putTimes (PI_up hI.1 _ _ _ (by decide)) (by omega) (by omega) oP (fx_up fP _ _ _ (by decide) (by decide)) (nI (o b))) ?_)
          intro ρ hXS
          rw [mI_lt16 hw.2 hv] at hXS
          exact ok_some ⟨_, rfl, rfl, fin _ _ ρ hXS⟩
        by_cases z1 : t (o k) = 0
        · rw [if_pos z1]
          refine ok_pos (show τ 8 (o k) = 0 by rw [eo, z1]; rfl) ?_
          unfold fX0_weigh_L138 fX0_weigh_L160 fX0_weigh_L178
          rw [if_neg (by decide), if_neg (by decide), chk_in (by omega) (by decide), if_neg (by decide), nI_clamp (by omega), (hNτ.2.2 (o k) (by omega)).2.1]
          exact ok_mono (times (u k) (o k) (Or.inr rfl) cb z1 (by omega)) (fun r hr => Or.inl hr)
        · rw [if_neg z1]
          refine ok_neg (show ¬ τ 8 (o k) = 0 by rw [eo]; exact t_n0 hW (by omega) z1) ?_
          unfold fX0_weigh_L138
          rw [if_pos rfl, chk_in (by omega) (by decide), nI_clamp (by omega)]
          by_cases z2 : t (u k) = 0
          · rw [if_pos z2]
            refine ok_pos (show τ 8 (u k) = 0 by rw [eu, z2]; rfl) ?_
            unfold fX0_weigh_L160 fX0_weigh_L178
            rw [if_pos rfl, chk_in (by omega) (by decide), if_pos rfl, nI_clamp (by omega), (hNτ.2.2 (u k) (by omega)).2.1]
            exact ok_mono (times (o k) (u k) (Or.inl rfl) ca z2 (by omega)) (fun r hr => Or.inl hr)
          · rw [if_neg z2]
            refine ok_neg (show ¬ τ 8 (u k) = 0 by rw [eu]; exact t_n0 hW (by omega) z2) ?_
            exact ok_some (Or.inr ⟨rfl, rfl, WI_N hI⟩)
      · rw [if_pos (show t k ≠ 4 from c4)]
        refine ok_neg (show ¬ τ 8 k = 4 by rw [e8]; exact t_n4 hW kn c4) ?_
        rw [chk_in (by omega) (by decide)]
        have sums : ∀ v : Int32, mI w v = sgt w t k → ok (fX0_weigh_L73 (nI k) c (nI (o k)) (nI (u k)) v τ) (fun r => ∃ s', some (wput s k ((wA m s (o k) + sgt w t k * wA m s (u k)) % 2 ^ w) (fLin w (wS m S.2.1 s (o k)) (sgt w t k) (wS m S.2.1 s (u k)))) = some s' ∧ r.1 = 1 ∧ WI w m σ r.2 s' (k + 1)) := by
          intro v hv
          unfold fX0_weigh_L73
          rw [pwt _ (Or.inl rfl), Option.bind_some]
          dsimp only
          rw [pwt _ (Or.inr rfl), Option.bind_some]
          dsimp only
          rw [chk_in (by omega) (by decide), nI_clamp (by omega), f3, lin_val hw.2, hv]
          refine ok_bind (ok_mono (X1_putSum (PI_up hI.1 _ _ _ (by decide)) (by omega) (by omega) (by omega) oA oB (fx_up fA _ _ _ (by decide) (by decide)) (fx_up fB _ _ _ (by decide) (by decide)) v) ?_)
          intro ρ hXS
          rw [hv] at hXS
          exact ok_some ⟨_, rfl, rfl, fin _ _ ρ hXS⟩
        by_cases c2 : t k = 2
        · refine ok_pos (show τ 8 k = 2 by rw [e8, c2]; rfl) ?_
          exact ok_mono (sums 1 (by unfold sgt; rw [if_pos c2, mI_1 hw])) (fun r hr => Or.inl hr)
        · refine ok_neg (show ¬ τ 8 k = 2 by rw [e8]; exact t_n2 hW kn c2) ?_
          exact ok_mono (sums (-1) (by unfold sgt; rw [if_neg c2, mI_m1 hw])) (fun r hr => Or.inl hr)
    · rw [bI_f cb, if_pos rfl, pif_f (fun q => cb q.2)]
      exact ok_some (Or.inr ⟨rfl, rfl, WI_N hI⟩)
  · rw [bI_f ca, if_pos rfl, pif_f (fun q => ca q.1)]
    exact ok_some (Or.inr ⟨rfl, rfl, WI_N hI⟩)
