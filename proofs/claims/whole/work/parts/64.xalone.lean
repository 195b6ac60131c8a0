/-! the class settles a name that stands alone -/
def dlX (d : Nat) : Int32 := if d = 9 then -1 else nI d
theorem dlX_9 : dlX 9 = -1 := rfl
theorem dlX_n {d : Nat} (h : d ≠ 9) : dlX d = nI d := if_neg h
theorem PI_FR {w : Nat} {S : List Nat} {σ τ : Mem} (h : PI w σ) (hf : FR S σ τ) (h1 : 1 ∉ S) (h2 : 2 ∉ S) (h5 : 5 ∉ S) (h11 : 11 ∉ S) (h12 : 12 ∉ S) (h13 : 13 ∉ S) (h15 : 15 ∉ S) (h16 : 16 ∉ S) : PI w τ := by
  refine ⟨CT_FR h.1 hf h1 h2 h5 h11 h12 h13, ?_, ?_⟩
  · intro q hq
    obtain ⟨z, hz⟩ := h.2.1 q hq
    exact ⟨z, by unfold wk; rw [hf 15 h15, hf 16 h16]; exact hz⟩
  · unfold px; rw [hf 15 h15, hf 16 h16]; exact h.2.2
theorem px_FR {w : Nat} {S : List Nat} {σ τ : Mem} {q : Nat} {b : Nat → Nat} (h : px w σ q b) (hf : FR S σ τ) (h15 : 15 ∉ S) (h16 : 16 ∉ S) : px w τ q b := by
  unfold px; rw [hf 15 h15, hf 16 h16]; exact h
theorem fx_FR {w : Nat} {S : List Nat} {σ τ : Mem} {s : Nat} {A : Fo} (h : fx w σ s A) (hf : FR S σ τ) (h15 : 15 ∉ S) (h16 : 16 ∉ S) : fx w τ s A := fun c hc => px_FR (h c hc) hf h15 h16
theorem PI_up {w : Nat} {σ : Mem} (h : PI w σ) (k j : Nat) (v : Int32) (hk : k ∉ [1, 2, 5, 11, 12, 13, 15, 16]) : PI w (up2 σ k j v) := by
  have hf : FR [k] σ (up2 σ k j v) := FR_up2 σ (by simp) j v
  have hn : ∀ x, x ∈ [1, 2, 5, 11, 12, 13, 15, 16] → x ∉ [k] := fun x hx hxk => hk (by
    simp only [List.mem_singleton] at hxk
    rw [← hxk]; exact hx)
  exact PI_FR h hf (hn _ (by decide)) (hn _ (by decide)) (hn _ (by decide)) (hn _ (by decide)) (hn _ (by decide)) (hn _ (by decide)) (hn _ (by decide)) (hn _ (by decide))
theorem px_up {w : Nat} {σ : Mem} {q : Nat} {b : Nat → Nat} (h : px w σ q b) (k j : Nat) (v : Int32) (h15 : 15 ≠ k) (h16 : 16 ≠ k) : px w (up2 σ k j v) q b := by
  unfold px; rw [up2_row _ _ _ h15, up2_row _ _ _ h16]; exact h
theorem fx_up {w : Nat} {σ : Mem} {s : Nat} {A : Fo} (h : fx w σ s A) (k j : Nat) (v : Int32) (h15 : 15 ≠ k) (h16 : 16 ≠ k) : fx w (up2 σ k j v) s A := fun c hc => px_up (h c hc) k j v h15 h16
theorem dl_neg {d : Nat} (hd : d = 9 ∨ d ≤ 3) : (dlX d < 0) = (d = 9) := by
  rcases hd with h | h
  · subst h; exact propext ⟨fun _ => rfl, fun _ => by decide⟩
  · rw [dlX_n (by omega)]
    exact propext ⟨fun q => absurd q (nI_pos (by omega)), fun q => by omega⟩
theorem X_isThere {σ : Mem} {s d : Nat} (hs : s < 31) (e : σ 17 s = dlX d) (hd : d = 9 ∨ d ≤ 3) : fX1_isThere (nI s) σ = some (if d = 9 then 0 else 1, σ) := by
  unfold fX1_isThere fX1_isThere_L14
  rw [chk_in (by omega) (by decide), nI_clamp (by omega), e]
  by_cases c : d = 9
  · rw [if_pos (by rw [dl_neg hd]; exact c), if_pos c]; rfl
  · rw [if_neg (by rw [dl_neg hd]; exact c), if_neg c]; rfl
/-- slot k and its delay have become something -/
def XD (w k : Nat) (σ τ : Mem) : Prop := PI w τ ∧ FR [15, 16, 17] σ τ ∧ (∀ j, j ≠ k → τ 17 j = σ 17 j) ∧ ∀ q b, q / 4 ≠ k → px w σ q b → px w τ q b
theorem XD_of {w k : Nat} {σ τ : Mem} (h : XW w k σ τ) (v : Int32) : XD w k σ (up2 τ 17 k v) := by
  refine ⟨PI_up h.1 _ _ _ (by decide), FR_trans (FR_mono h.2.1 (by decide)) (FR_up2 _ (by decide) _ _), fun j hj => ?_, fun q b hq hp => px_up (h.2.2 q b hq hp) _ _ _ (by decide) (by decide)⟩
  rw [up2_col _ _ _ hj, h.2.1 17 (by decide)]
theorem XD_W {w k : Nat} {σ τ : Mem} (h : XW w k σ τ) : XD w k σ τ := ⟨h.1, FR_mono h.2.1 (by decide), fun j _ => by rw [h.2.1 17 (by decide)], h.2.2⟩
theorem XD_refl {w k : Nat} {σ : Mem} (h : PI w σ) : XD w k σ σ := ⟨h, FR_refl _ _, fun _ _ => rfl, fun _ _ _ hp => hp⟩
theorem XD_fx {w k s : Nat} {σ τ : Mem} {A : Fo} (h : XD w k σ τ) (hs : s ≠ k) (hA : fx w σ s A) : fx w τ s A := fun c hc => h.2.2.2 _ _ (by omega) (hA c hc)
theorem X_settleLater {w : Nat} {σ : Mem} {k r g d : Nat} {A G : Fo} (h : PI w σ) (hk : k < 30) (hr : r < 30) (hg : g < 30) (hn : r ≠ k) (hgk : g ≠ k) (e9 : σ 9 k = nI g) (er : σ 17 r = dlX d) (ek : σ 17 k = -1) (hd : d = 9 ∨ d ≤ 3) (hA : d ≠ 9 → OkF w A ∧ fx w σ r A) (fG : fx w σ g G) :
    ok (fX0_settleLater (nI k) (nI r) σ) (fun τ => XD w k σ τ ∧ τ 17 k = dlX (ltr w d A G).1 ∧ ((ltr w d A G).1 ≠ 9 → fx w τ k (ltr w d A G).2)) := by
  unfold fX0_settleLater fX0_settleLater_L24
  rw [X_isThere (by omega) er hd, Option.bind_some]
  dsimp only
  unfold ltr
  by_cases c9 : d = 9
  · rw [if_pos c9, if_pos rfl, if_pos (Or.inl c9)]
    exact ok_some ⟨XD_refl h, ek, fun q => absurd rfl q⟩
  · rw [if_neg c9, if_neg (by decide), chk_in (by omega) (by decide), nI_clamp (by omega)]
    have erd : σ 17 r = nI d := by rw [er, dlX_n c9]
    by_cases c3 : d = 3
    · rw [if_pos (show d = 9 ∨ d = 3 from Or.inr c3)]
      refine ok_neg (show ¬ σ 17 r < 3 by rw [erd, c3]; decide) ?_
      exact ok_some ⟨XD_refl h, ek, fun q => absurd rfl q⟩
    · rw [if_neg (show ¬ (d = 9 ∨ d = 3) by omega)]
      refine ok_pos (show σ 17 r < 3 by rw [erd]; exact nI_lt (b := 3) (by omega) (by decide)) ?_
      obtain ⟨oA, fA⟩ := hA c9
      refine ok_bind (ok_mono (X1_putLater h (by omega) (by omega) hn oA fA) ?_)
      intro τ hX
      have f17 : τ 17 = σ 17 := hX.2.2.1 17 (by decide)
      have f9 : τ 9 = σ 9 := hX.2.2.1 9 (by decide)
      have fG' : fx w τ g G := XS_fx hX hgk fG
      have hw := h.1.1.2
      have hp4 := hX.2.1
      dsimp only
      rw [chk_in (by omega) (by decide), f17, er, dlX_n c9, chk_in (by omega) (by decide), nI_clamp (by omega), f9, e9]
      have fin : ∀ (v : Nat) (x : Int32), x = dlX v → XD w k σ (up2 τ 17 k x) ∧ up2 τ 17 k x 17 k = dlX v ∧ (v ≠ 9 → fx w (up2 τ 17 k x) k (fLater w A)) := fun v x hx => ⟨XD_of (XS_W hX) x, by rw [up2_eq, hx], fun _ => fx_up hX.2.1 _ _ _ (by decide) (by decide)⟩
      have hlast : ¬ (d = 0 ∧ fLater w A 0 = G 0) → ok (fX0_settleLater_L70 (nI k) (nI r) τ) (fun τ' => XD w k σ τ' ∧ τ' 17 k = dlX (pif (d = 0 ∧ fLater w A 0 = G 0) 0 (d + 1)) ∧ (pif (d = 0 ∧ fLater w A 0 = G 0) 0 (d + 1) ≠ 9 → fx w τ' k (fLater w A))) := by
        intro hno
        unfold fX0_settleLater_L70 fX0_settleLater_L71 fX0_settleLater_L99
        rw [if_pos rfl, chk_in (by omega) (by decide), chk_in (by omega) (by decide), nI_clamp (by omega), nI_clamp (by omega), f17, er, dlX_n c9, nI_1, pif_f hno]
        exact ok_some (fin (d + 1) _ (dlX_n (by omega)).symm)
      by_cases c0 : d = 0
      · rw [if_pos (by rw [c0]; rfl), X1_startsAlike hw (by omega) (by omega) hX.2.1 fG', Option.bind_some]
        dsimp only
        by_cases cs : fLater w A 0 = G 0
        · rw [bI_t cs, if_neg (by decide)]
          unfold fX0_settleLater_L71 fX0_settleLater_L99
          rw [if_neg (by decide), chk_in (by omega) (by decide), nI_clamp (by omega), pif_t ⟨c0, cs⟩]
          exact ok_some (fin 0 0 rfl)
        · rw [bI_f cs, if_pos rfl]
          exact hlast (fun q => cs q.2)
      · rw [if_neg (show ¬ nI d = 0 from nI_ne0 (by omega) (by omega))]
        exact hlast (fun q => c0 q.1)
theorem X_settleMade {w n : Nat} {t o u : Nat → Nat} {σ : Mem} {k : Nat} {S : AS} (hW : WF w n t o u) (hN : NX n t o u σ) (h : PI w σ) (hk : k < n) (h2 : 2 ≤ t k) (h5 : t k ≠ 5) (ek : σ 17 k = -1) (hp : ∀ i, (i = o k ∨ i = u k) → σ 17 i = dlX (S.1 i) ∧ (S.1 i = 9 ∨ (S.1 i ≤ 3 ∧ OkF w (S.2.1 i))) ∧ (S.1 i ≠ 9 → fx w σ i (S.2.1 i))) :
    ok (fX0_settleMade (nI k) (nI (o k)) (nI (u k)) σ) (fun τ => XD w k σ τ ∧ τ 17 k = dlX (aDF w t o u S.1 S.2.1 k).1 ∧ ((aDF w t o u S.1 S.2.1 k).1 ≠ 9 → fx w τ k (aDF w t o u S.1 S.2.1 k).2)) := by
  have h30 := hN.1
  obtain ⟨e2, e3, e4⟩ := hN.2.2 k hk
  obtain ⟨m1, m2⟩ := WF_made hW hk h2 h5
  obtain ⟨a1, a2, a3⟩ := hp (o k) (Or.inl rfl)
  obtain ⟨b1, b2, b3⟩ := hp (u k) (Or.inr rfl)
  have ad : S.1 (o k) = 9 ∨ S.1 (o k) ≤ 3 := by rcases a2 with q | q; exact Or.inl q; exact Or.inr q.1
  have bd : S.1 (u k) = 9 ∨ S.1 (u k) ≤ 3 := by rcases b2 with q | q; exact Or.inl q; exact Or.inr q.1
  have hw := h.1.1
  unfold fX0_settleMade fX0_settleMade_L22
  rw [X_isThere (by omega) a1 ad, Option.bind_some]
  dsimp only
  unfold aDF
  rw [if_neg (show ¬ t k ≤ 1 by omega), if_neg h5]
  by_cases ca : S.1 (o k) = 9
  · rw [if_pos ca, if_pos rfl, if_pos (Or.inl ca)]
    exact ok_some ⟨XD_refl h, ek, fun q => absurd rfl q⟩
  · rw [if_neg ca, if_neg (by decide), X_isThere (by omega) b1 bd, Option.bind_some]
    dsimp only
    by_cases cb : S.1 (u k) = 9
    · rw [if_pos cb, if_pos rfl, if_pos (Or.inr cb)]
      exact ok_some ⟨XD_refl h, ek, fun q => absurd rfl q⟩
    · rw [if_neg cb, if_neg (by decide), if_neg (show ¬ (S.1 (o k) = 9 ∨ S.1 (u k) = 9) by omega), chk_in (by omega) (by decide), nI_clamp (by omega)]
      have oA : OkF w (S.2.1 (o k)) := by rcases a2 with q | q; exact absurd q ca; exact q.2
      have oB : OkF w (S.2.1 (u k)) := by rcases b2 with q | q; exact absurd q cb; exact q.2
      have fA := a3 ca
      have fB := b3 cb
      have hend : ∀ (τ : Mem) (X : Fo), XS w k X σ τ → ok (fX0_settleMade_L78 (nI k) (nI (o k)) (nI (u k)) τ) (fun τ' => XD w k σ τ' ∧ τ' 17 k = dlX (max (S.1 (o k)) (S.1 (u k))) ∧ (max (S.1 (o k)) (S.1 (u k)) ≠ 9 → fx w τ' k X)) := by
        intro τ X hX
        have f17 : τ 17 = σ 17 := hX.2.2.1 17 (by decide)
        unfold fX0_settleMade_L78
        rw [chk_in (by omega) (by decide), chk_in (by omega) (by decide), chk_in (by omega) (by decide), nI_clamp (by omega), nI_clamp (by omega), nI_clamp (by omega), f17, a1, b1, dlX_n ca, dlX_n cb, nI_max (by omega) (by omega)]
        exact ok_some ⟨XD_of (XS_W hX) _, by rw [up2_eq, dlX_n (by omega)], fun _ => fx_up hX.2.1 _ _ _ (by decide) (by decide)⟩
      by_cases c4 : t k = 4
      · rw [if_pos c4]
        refine ok_pos (show σ 8 k = 4 by rw [e2, c4]; rfl) ?_
        refine ok_bind (ok_mono (X1_putProduct h (by omega) (by omega) (by omega) (by omega) (by omega) oA oB fA fB) ?_)
        rintro ⟨r, τ⟩ (⟨hF, h1, hX⟩ | ⟨hF, h1, hX⟩)
        · dsimp only at h1 hX ⊢
          rw [h1, if_neg (by decide), pif_t hF]
          exact hend τ _ hX
        · dsimp only at h1 hX ⊢
          rw [h1, if_pos rfl, pif_f hF]
          exact ok_some ⟨XD_W hX, by rw [hX.2.1 17 (by decide)]; exact ek, fun q => absurd rfl q⟩
      · rw [if_neg c4]
        refine ok_neg (show ¬ σ 8 k = 4 by rw [e2]; exact t_n4 hW hk c4) ?_
        rw [chk_in (by omega) (by decide)]
        have hS : ∀ v : Int32, mI w v = sgt w t k → ok (fX0_settleMade_L75 (nI k) (nI (o k)) (nI (u k)) (nI k) (nI (o k)) (nI (u k)) v σ) (fun τ' => XD w k σ τ' ∧ τ' 17 k = dlX (max (S.1 (o k)) (S.1 (u k))) ∧ (max (S.1 (o k)) (S.1 (u k)) ≠ 9 → fx w τ' k (fLin w (S.2.1 (o k)) (sgt w t k) (S.2.1 (u k))))) := by
          intro v hv
          unfold fX0_settleMade_L75
          refine ok_bind (ok_mono (X1_putSum h (by omega) (by omega) (by omega) oA oB fA fB v) ?_)
          intro τ hX
          rw [hv] at hX
          exact hend τ _ hX
        by_cases c2 : t k = 2
        · refine ok_pos (show σ 8 k = 2 by rw [e2, c2]; rfl) ?_
          exact hS 1 (by unfold sgt; rw [if_pos c2, mI_1 hw])
        · refine ok_neg (show ¬ σ 8 k = 2 by rw [e2]; exact t_n2 hW hk c2) ?_
          exact hS (-1) (by unfold sgt; rw [if_neg c2, mI_m1 hw])
/-- the kinds of some names are set -/
theorem X_setKinds {w n : Nat} {t o u : Nat → Nat} {σ : Mem} {c : Int32} {z : Nat} {D : Nat → Nat} {F : Nat → Fo} (hN : NX n t o u σ) (hd : ∀ i, i < n → bt c i = true → σ 17 i = dlX (D i) ∧ (D i = 9 ∨ D i ≤ 3) ∧ (D i ≠ 9 → fx w σ i (F i))) :
    ok (fX0_setKinds c (nI z) σ) (fun τ => FR [20] σ τ ∧ ∀ i, i < n → τ 20 i = if bt c i = true then nI (kd (D i) (F i) z) else σ 20 i) := by
  have h30 := hN.1
  unfold fX0_setKinds fX0_setKinds_L92
  refine ok_bind (ok_mono (?_ : ok _ (fun τ => FR [20] σ τ ∧ ∀ i, i < n → τ 20 i = if bt c i = true then nI (kd (D i) (F i) z) else σ 20 i)) (fun τ h => ok_some h))
  refine ok_for' (enc := fun i (τ : Mem) => (nI i, τ)) n (fun k τ => FR [20] σ τ ∧ (∀ i, i < k → τ 20 i = if bt c i = true then nI (kd (D i) (F i) z) else σ 20 i) ∧ ∀ i, k ≤ i → τ 20 i = σ 20 i) (i0 := 0) (s0 := σ) (Nat.zero_le _) ⟨FR_refl _ _, fun i hi => absurd hi (Nat.not_lt_zero i), fun _ _ => rfl⟩ ?_ ?_
  · intro k τ hk ⟨hf, h1, h2⟩
    dsimp only
    unfold fX0_setKinds_B2
    have f3 : τ 3 4 = nI n := by rw [hf 3 (by decide)]; exact hN.2.1
    rw [f3, if_neg (nI_ge hk (by omega)), isInE _ (by omega), Option.bind_some]
    dsimp only
    by_cases cb : bt c k = true
    · obtain ⟨d1, d2, d3⟩ := hd k hk cb
      have d1' : τ 17 k = dlX (D k) := by rw [hf 17 (by decide)]; exact d1
      rw [if_pos cb, if_neg (by decide), X_isThere (by omega) d1' d2, Option.bind_some]
      dsimp only
      have fin : ∀ v : Nat, v = kd (D k) (F k) z → ok (fX0_setKinds_L86 c (nI z) (nI k) (up2 τ 20 k (nI v))) (Sum.elim (fun a' => ∃ s', a' = (nI (k + 1), s') ∧ FR [20] σ s' ∧ (∀ i, i < k + 1 → s' 20 i = if bt c i = true then nI (kd (D i) (F i) z) else σ 20 i) ∧ ∀ i, k + 1 ≤ i → s' 20 i = σ 20 i) (fun τ => FR [20] σ τ ∧ ∀ i, i < n → τ 20 i = if bt c i = true then nI (kd (D i) (F i) z) else σ 20 i)) := by
        intro v hv
        unfold fX0_setKinds_L86
        rw [nI_1]
        refine ok_some ⟨_, rfl, FR_trans hf (FR_up2 _ (by decide) _ _), fun i hi => ?_, fun i hi => ?_⟩
        · rw [up2_at]
          by_cases e : i = k
          · rw [if_pos e, e, if_pos cb, hv]
          · rw [if_neg e]; exact h1 i (by omega)
        · rw [up2_at, if_neg (by omega)]; exact h2 i (by omega)
      by_cases c9 : D k = 9
      · rw [if_pos c9, if_pos rfl, chk_in (by omega) (by decide), nI_clamp (by omega)]
        exact fin z (by unfold kd; rw [if_pos c9])
      · rw [if_neg c9, if_neg (by decide), chk_in (by omega) (by decide), nI_clamp (by omega)]
        have dd : τ 17 k = nI (D k) := by rw [d1', dlX_n c9]
        by_cases c0 : D k = 0
        · refine ok_pos (show τ 17 k ≤ 0 by rw [dd, c0]; decide) ?_
          rw [X1_degree (by omega) (fx_FR (d3 c9) hf (by decide) (by decide)), Option.bind_some]
          dsimp only
          unfold fX0_setKinds_L85
          have dl := fdeg_le (F k)
          by_cases cg : fdeg (F k) = 0
          · rw [if_pos (show nI (fdeg (F k)) ≤ 0 by rw [cg]; decide), chk_in (by omega) (by decide), nI_clamp (by omega)]
            exact fin 0 (by unfold kd; rw [if_neg c9, if_neg (by omega), if_neg (by omega)])
          · rw [if_neg (nI_nle (by omega) (by omega)), chk_in (by omega) (by decide), nI_clamp (by omega)]
            exact fin 1 (by unfold kd; rw [if_neg c9, if_neg (by omega), if_pos (by omega)])
        · refine ok_neg (show ¬ τ 17 k ≤ 0 by rw [dd]; exact nI_nle (by omega) (by omega)) ?_
          rw [chk_in (by omega) (by decide)]
          exact fin 2 (by unfold kd; rw [if_neg c9, if_pos (by omega)])
    · rw [if_neg cb, if_pos rfl]
      unfold fX0_setKinds_L86
      rw [nI_1]
      refine ok_some ⟨_, rfl, hf, fun i hi => ?_, fun i hi => h2 i (by omega)⟩
      by_cases e : i = k
      · rw [e, if_neg cb]; exact h2 k (Nat.le_refl _)
      · exact h1 i (by omega)
  · intro τ ⟨hf, h1, h2⟩
    dsimp only
    unfold fX0_setKinds_B2
    have f3 : τ 3 4 = nI n := by rw [hf 3 (by decide)]; exact hN.2.1
    rw [f3, if_pos (Int32.le_refl _)]
    exact ok_some ⟨hf, h1⟩
