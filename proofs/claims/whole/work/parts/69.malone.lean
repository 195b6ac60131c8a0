/-! the reference settles a name that stands alone -/
/-- what the reference holds of the names that are settled -/
def SMr (w n : Nat) (dn : Int32) (S : AS) (σ : Mem) : Prop := ∀ i, i < n → bt dn i = true → σ 6 i = nI (S.1 i) ∧ σ 7 i = nI (S.2.2 i) ∧ (S.1 i ≠ 9 → fm w σ i (S.2.1 i))
theorem d9_eq {d : Nat} (hd : d = 9 ∨ d ≤ 3) : (nI d = 9) = (d = 9) := propext (nI_eq (b := 9) (by omega) (by decide))
theorem M_hasForm {σ : Mem} {s d : Nat} (hs : s < 30) (e : σ 6 s = nI d) (hd : d = 9 ∨ d ≤ 3) : fX8_hasForm (nI s) σ = some (if d = 9 then 0 else 1, σ) := by
  unfold fX8_hasForm fX8_hasForm_L16
  rw [chk_in (by omega) (by decide), nI_clamp (by omega), e]
  by_cases c : d = 9
  · rw [if_pos (by rw [d9_eq hd]; exact c), if_pos c]; rfl
  · rw [if_neg (by rw [d9_eq hd]; exact c), if_neg c]; rfl
/-- slot k and its delay have become something -/
def MD (w k : Nat) (σ τ : Mem) : Prop := FR [1, 6] σ τ ∧ (∀ j, j ≠ k → τ 6 j = σ 6 j) ∧ ∀ s A, s < 30 → s ≠ k → fm w σ s A → fm w τ s A
theorem MD_refl (w k : Nat) (σ : Mem) : MD w k σ σ := ⟨FR_refl _ _, fun _ _ => rfl, fun _ _ _ _ h => h⟩
theorem MD_trans {w k : Nat} {σ τ ρ : Mem} (h : MD w k σ τ) (h2 : MD w k τ ρ) : MD w k σ ρ := ⟨FR_trans h.1 h2.1, fun j hj => (h2.2.1 j hj).trans (h.2.1 j hj), fun s A hs hk hf => h2.2.2 s A hs hk (h.2.2 s A hs hk hf)⟩
theorem fm_up {w : Nat} {σ : Mem} {s : Nat} {A : Fo} (h : fm w σ s A) (k j : Nat) (v : Int32) (h1 : 1 ≠ k) : fm w (up2 σ k j v) s A := ⟨h.1, fun i hi => by rw [up2_row _ _ _ h1]; exact h.2 i hi⟩
theorem MD_up6 (w k : Nat) (σ : Mem) (v : Int32) : MD w k σ (up2 σ 6 k v) := ⟨FR_up2 _ (by decide) _ _, fun j hj => up2_col _ _ _ hj, fun _ _ _ _ hf => fm_up hf _ _ _ (by decide)⟩
theorem MD_W {w k s : Nat} {σ τ : Mem} (h : MW s σ τ) (hs : s = k ∨ 30 ≤ s) : MD w k σ τ := ⟨FR_mono h.1 (by decide), fun j _ => by rw [h.1 6 (by decide)], fun r A hr hk hf => fm_MW h hf (by omega)⟩
theorem MD_mset {w k s : Nat} {σ : Mem} {A : Fo} (hs : s = k ∨ 30 ≤ s) : MD w k σ (mset σ s A) := MD_W (MW_mset s σ A) hs
theorem MB_D {w k : Nat} {σ τ : Mem} (h : MB w σ) (hd : MD w k σ τ) : MB w τ := MB_FR h hd.1 (by decide)
theorem NM_D {w k n : Nat} {t o u : Nat → Nat} {σ τ : Mem} (h : NM n t o u σ) (hd : MD w k σ τ) : NM n t o u τ := NM_FR h hd.1 (by decide) (by decide) (by decide) (by decide)
theorem M_carries {w n : Nat} {t o u : Nat → Nat} {σ : Mem} {k r d : Nat} {A : Fo} (hW : WF w n t o u) (hN : NM n t o u σ) (hB : MB w σ) (hk : k < n) (hr : r < n) (h5 : t k = 5) (hd : d = 9 ∨ d ≤ 3) (hA : d ≠ 9 → fm w σ r A) :
    ok (fX8_carries (nI k) (nI r) (nI d) σ) (fun τ => MD w k σ τ ∧ τ 6 k = nI (ltr w d A (fGiv t o (o k))).1 ∧ ((ltr w d A (fGiv t o (o k))).1 ≠ 9 → fm w τ k (ltr w d A (fGiv t o (o k))).2)) := by
  have h30 := hN.1
  have hw := hB.1
  obtain ⟨e2, e3, e4⟩ := hN.2.2 k hk
  obtain ⟨g1, g2⟩ : o k < k ∧ (t (o k) = 0 ∨ t (o k) = 1) := by
    rcases hW k hk with ⟨q, -⟩ | ⟨q, -⟩ | ⟨q, -⟩ | ⟨-, q1, q2, q3⟩
    · omega
    · omega
    · omega
    · exact ⟨q1, q3⟩
  unfold fX8_carries fX8_carries_L19
  rw [chk_in (by omega) (by decide), nI_clamp (by omega)]
  have hM1 := MD_up6 w k σ 9
  unfold ltr
  by_cases c9 : d = 9
  · rw [if_pos (by rw [c9]; rfl), if_pos (Or.inl c9)]
    exact ok_some ⟨hM1, by rw [up2_eq]; rfl, fun q => absurd rfl q⟩
  rw [if_neg (by rw [d9_eq hd]; exact c9)]
  by_cases c3 : d = 3
  · rw [if_pos (by rw [c3]; rfl), if_pos (Or.inr c3)]
    exact ok_some ⟨hM1, by rw [up2_eq]; rfl, fun q => absurd rfl q⟩
  rw [if_neg (show ¬ nI d = 3 from fun e => c3 ((nI_eq (b := 3) (by omega) (by decide)).mp e)), if_neg (show ¬ (d = 9 ∨ d = 3) by omega)]
  obtain ⟨σ1, hσ1⟩ : ∃ s, s = up2 σ 6 k 9 := ⟨_, rfl⟩
  rw [← hσ1] at hM1 ⊢
  have hA1 : fm w σ1 r A := by rw [hσ1]; exact fm_up (hA c9) _ _ _ (by decide)
  have hB1 := MB_D hB hM1
  have hL : fX8_laysLater 30 (nI r) σ1 = some (mset σ1 30 (fLater w A)) := M_laysLater (s := 30) hB1 (by omega) (by decide) (by omega) hA1
  rw [hL, Option.bind_some, chk_in (by omega) (by decide)]
  obtain ⟨σ2, hσ2⟩ : ∃ s, s = mset σ1 30 (fLater w A) := ⟨_, rfl⟩
  have hM2 : MD w k σ1 σ2 := by rw [hσ2]; exact MD_mset (Or.inr (by omega))
  have hN2 : NM n t o u σ2 := NM_D (NM_D hN hM1) hM2
  have hf2 : fm w σ2 30 (fLater w A) := by rw [hσ2]; exact fm_mset σ1 30 (OkF_later hA1.1)
  rw [← hσ2]
  have hG : fX8_laysGiven 31 (nI (o k)) σ2 = some (mset σ2 31 (fGiv t o (o k))) := M_laysGiven (s := 31) hW hN2 hw.2 (by decide) (by omega) g2
  rw [(hN2.2.2 k hk).2.1, hG, Option.bind_some]
  obtain ⟨σ3, hσ3⟩ : ∃ s, s = mset σ2 31 (fGiv t o (o k)) := ⟨_, rfl⟩
  have oG := OkF_giv hW (show o k < n by omega) g2 hw.1
  have hM3 : MD w k σ2 σ3 := by rw [hσ3]; exact MD_mset (Or.inr (by omega))
  have hf3 : fm w σ3 30 (fLater w A) := by rw [hσ3]; exact fm_ne hf2 (by decide)
  have hg3 : fm w σ3 31 (fGiv t o (o k)) := by rw [hσ3]; exact fm_mset σ2 31 oG
  rw [← hσ3]
  have hM : MD w k σ σ3 := MD_trans hM1 (MD_trans hM2 hM3)
  have e0 : (if nI d = 0 then fX8_carries_L48 (nI k) (nI d) 1 σ3 else fX8_carries_L48 (nI k) (nI d) 0 σ3) = fX8_carries_L48 (nI k) (nI d) (bI (d = 0)) σ3 := by
    by_cases c : d = 0
    · rw [if_pos (by rw [c]; rfl), bI_t c]
    · rw [if_neg (nI_ne0 (by omega) (by omega)), bI_f c]
  rw [e0]
  unfold fX8_carries_L48
  refine ok_bind (ok_mono (?_ : ok _ (fun b => b = (bI (d = 0 ∧ fLater w A 0 = fGiv t o (o k) 0), σ3))) ?_)
  · refine ok_for' (enc := fun i (f : Int32) => (f, nI i, σ3)) 343 (fun i f => f = bI (d = 0 ∧ ∀ j, j < i → fLater w A 0 j = fGiv t o (o k) 0 j)) (i0 := 0) (s0 := bI (d = 0)) (Nat.zero_le _) (bI_iff ⟨fun q => ⟨q, fun j hj => absurd hj (Nat.not_lt_zero j)⟩, fun q => q.1⟩) ?_ ?_
    · intro i f hi hI
      dsimp only
      unfold fX8_carries_B53 fX8_carries_L94
      rw [if_neg (n343 hi)]
      by_cases c : d = 0 ∧ ∀ j, j < i → fLater w A 0 j = fGiv t o (o k) 0 j
      · rw [bI_t c] at hI
        rw [hI, if_neg (by decide)]
        have i1 : (41160 : Int32) + nI i = nI (1372 * 30 + 343 * 0 + i) := nI_add 41160 i
        have i2 : (42532 : Int32) + nI i = nI (1372 * 31 + 343 * 0 + i) := nI_add 42532 i
        rw [i1, i2, chk_in (by omega) (by decide), chk_in (by omega) (by decide), nI_clamp (by omega), nI_clamp (by omega), fm_at hf3 (by omega) hi, fm_at hg3 (by omega) hi, nI_1]
        have hiff : (nI (fLater w A 0 i) = nI (fGiv t o (o k) 0 i)) = (fLater w A 0 i = fGiv t o (o k) 0 i) := nI_inj16 hw.2 (hf3.1.1 0 |>.1 i) (oG.1 0 |>.1 i)
        by_cases ce : fLater w A 0 i = fGiv t o (o k) 0 i
        · rw [if_pos (by rw [hiff]; exact ce)]
          refine ok_some ⟨_, rfl, (bI_t ⟨c.1, fun j hj => ?_⟩).symm⟩
          rcases Nat.lt_or_ge j i with q | q
          · exact c.2 j q
          · have : j = i := by omega
            rw [this]; exact ce
        · rw [if_neg (by rw [hiff]; exact ce)]
          refine ok_some ⟨_, rfl, (bI_f (fun q => ce (q.2 i (by omega)))).symm⟩
      · rw [bI_f c] at hI
        rw [hI, if_pos rfl]
        refine ok_some ?_
        show ((0 : Int32), σ3) = _
        rw [bI_f (fun q => c ⟨q.1, fun j _ => by rw [q.2]⟩)]
    · intro f hI
      dsimp only
      unfold fX8_carries_B53
      rw [if_pos n343']
      refine ok_some ?_
      show (f, σ3) = _
      rw [hI]
      congr 1
      refine bI_iff ⟨fun q => ⟨q.1, OkP_ext (hf3.1.1 0) (oG.1 0) (fun p hp => q.2 _ (cd_ok p hp).1)⟩, fun q => ⟨q.1, fun j _ => by rw [q.2]⟩⟩
  · intro b hb
    subst hb
    dsimp only
    unfold fX8_carries_L102 fX8_carries_L126
    have hcp : fX8_copies 30 (nI k) σ3 = some (mset σ3 k (fLater w A)) := M_copies (r := 30) (by decide) (by omega) hf3
    rw [hcp, Option.bind_some]
    have hM4 : MD w k σ (mset σ3 k (fLater w A)) := MD_trans hM (MD_mset (Or.inl rfl))
    have fin : ∀ v : Nat, MD w k σ (up2 (mset σ3 k (fLater w A)) 6 k (nI v)) ∧ up2 (mset σ3 k (fLater w A)) 6 k (nI v) 6 k = nI v ∧ (v ≠ 9 → fm w (up2 (mset σ3 k (fLater w A)) 6 k (nI v)) k (fLater w A)) := fun v => ⟨MD_trans hM4 (MD_up6 w k _ _), up2_eq _ _ _ _, fun _ => fm_up (fm_mset σ3 k hf3.1) _ _ _ (by decide)⟩
    by_cases c : d = 0 ∧ fLater w A 0 = fGiv t o (o k) 0
    · rw [bI_t c, if_neg (by decide), chk_in (by omega) (by decide), nI_clamp (by omega), pif_t c]
      exact ok_some (fin 0)
    · rw [bI_f c, if_pos rfl, chk_in (by omega) (by decide), nI_clamp (by omega), nI_1, pif_f c]
      exact ok_some (fin (d + 1))
theorem M_laysOp {w n : Nat} {t o u : Nat → Nat} {σ : Mem} {k : Nat} {S : AS} (hW : WF w n t o u) (hN : NM n t o u σ) (hB : MB w σ) (hk : k < n) (h2 : 2 ≤ t k) (h5 : t k ≠ 5) (hp : ∀ i, (i = o k ∨ i = u k) → σ 6 i = nI (S.1 i) ∧ (S.1 i = 9 ∨ (S.1 i ≤ 3 ∧ OkF w (S.2.1 i))) ∧ (S.1 i ≠ 9 → fm w σ i (S.2.1 i))) :
    ok (fX8_laysOp (nI k) σ) (fun τ => MD w k σ τ ∧ τ 6 k = nI (aDF w t o u S.1 S.2.1 k).1 ∧ ((aDF w t o u S.1 S.2.1 k).1 ≠ 9 → fm w τ k (aDF w t o u S.1 S.2.1 k).2)) := by
  have h30 := hN.1
  have hw := hB.1
  obtain ⟨e2, e3, e4⟩ := hN.2.2 k hk
  obtain ⟨m1, m2⟩ := WF_made hW hk h2 h5
  obtain ⟨a1, a2, a3⟩ := hp (o k) (Or.inl rfl)
  obtain ⟨b1, b2, b3⟩ := hp (u k) (Or.inr rfl)
  have ad : S.1 (o k) = 9 ∨ S.1 (o k) ≤ 3 := by rcases a2 with q | q; exact Or.inl q; exact Or.inr q.1
  have bd : S.1 (u k) = 9 ∨ S.1 (u k) ≤ 3 := by rcases b2 with q | q; exact Or.inl q; exact Or.inr q.1
  have hnone : ok (fX8_laysOp_L53 (nI k) (nI (o k)) (nI (u k)) (nI k) σ) (fun τ => MD w k σ τ ∧ τ 6 k = nI 9 ∧ (9 ≠ 9 → fm w τ k f0)) := by
    unfold fX8_laysOp_L53 fX8_laysOp_L55
    rw [chk_in (by omega) (by decide), nI_clamp (by omega), M_hasForm (d := 9) (by omega) (by rw [up2_eq]; rfl) (Or.inl rfl), Option.bind_some]
    dsimp only
    rw [if_pos rfl, if_pos rfl]
    exact ok_some ⟨MD_up6 w k σ 9, by rw [up2_eq]; rfl, fun q => absurd rfl q⟩
  unfold fX8_laysOp
  rw [chk_in (by omega) (by decide), chk_in (by omega) (by decide), nI_clamp (by omega), e3, e4 h2, M_hasForm (by omega) a1 ad, Option.bind_some]
  dsimp only
  unfold aDF
  rw [if_neg (show ¬ t k ≤ 1 by omega), if_neg h5]
  by_cases ca : S.1 (o k) = 9
  · rw [if_pos ca, if_pos rfl, if_pos (Or.inl ca)]
    exact hnone
  rw [if_neg ca, if_neg (by decide), M_hasForm (by omega) b1 bd, Option.bind_some]
  dsimp only
  by_cases cb : S.1 (u k) = 9
  · rw [if_pos cb, if_pos rfl, if_pos (Or.inr cb)]
    exact hnone
  rw [if_neg cb, if_neg (by decide), if_neg (show ¬ (S.1 (o k) = 9 ∨ S.1 (u k) = 9) by omega), chk_in (by omega) (by decide), chk_in (by omega) (by decide)]
  have emax : (if σ 6 (nI (o k)).toNatClampNeg < σ 6 (nI (u k)).toNatClampNeg then σ 6 (nI (u k)).toNatClampNeg else σ 6 (nI (o k)).toNatClampNeg) = nI (max (S.1 (o k)) (S.1 (u k))) := by
    rw [nI_clamp (by omega), nI_clamp (by omega), a1, b1, nI_max (by omega) (by omega)]
  show ok (fX8_laysOp_L55 (nI k) (nI (o k)) (nI (u k)) (nI k) (if σ 6 (nI (o k)).toNatClampNeg < σ 6 (nI (u k)).toNatClampNeg then σ 6 (nI (u k)).toNatClampNeg else σ 6 (nI (o k)).toNatClampNeg) σ) _
  rw [emax]
  have oA : fm w σ (o k) (S.2.1 (o k)) := a3 ca
  have oB : fm w σ (u k) (S.2.1 (u k)) := b3 cb
  obtain ⟨d, hde⟩ : ∃ d, d = max (S.1 (o k)) (S.1 (u k)) := ⟨_, rfl⟩
  have hd3 : d ≤ 3 := by omega
  rw [← hde]
  unfold fX8_laysOp_L55 fX8_laysOp_L119
  rw [chk_in (by omega) (by decide), nI_clamp (by omega)]
  obtain ⟨σ1, hσ1⟩ : ∃ s, s = up2 σ 6 k (nI d) := ⟨_, rfl⟩
  have hM1 : MD w k σ σ1 := by rw [hσ1]; exact MD_up6 w k σ _
  have e61 : σ1 6 k = nI d := by rw [hσ1, up2_eq]
  rw [← hσ1, M_hasForm (by omega) e61 (Or.inr hd3), Option.bind_some]
  dsimp only
  have hN1 := NM_D hN hM1
  have hB1 := MB_D hB hM1
  have fA1 := hM1.2.2 _ _ (by omega) (show o k ≠ k by omega) oA
  have fB1 := hM1.2.2 _ _ (by omega) (show u k ≠ k by omega) oB
  have e21 := (hN1.2.2 k hk).1
  rw [if_neg (show ¬ d = 9 by omega), if_neg (by decide), chk_in (by omega) (by decide)]
  by_cases c4 : t k = 4
  · rw [if_pos c4]
    refine ok_pos (show σ1 2 k = 4 by rw [e21, c4]; rfl) ?_
    refine ok_bind (ok_mono (M_multiplies hB1 (by omega) (by omega) (by omega) (by omega) (by omega) fA1 fB1) ?_)
    rintro ⟨r, τ⟩ (⟨hF, hr⟩ | ⟨hF, hr, hMW⟩)
    · cases hr
      dsimp only
      rw [if_neg (by decide), pif_t hF]
      have hM2 : MD w k σ (mset σ1 k (fMul w (S.2.1 (o k)) (S.2.1 (u k)))) := MD_trans hM1 (MD_mset (Or.inl rfl))
      refine ok_some ⟨hM2, ?_, fun _ => fm_mset σ1 k (OkF_mul fA1.1 fB1.1 hF)⟩
      rw [FR_mset σ1 k _ 6 (by decide)]; exact e61
    · dsimp only at hr hMW ⊢
      rw [hr, if_pos rfl, chk_in (by omega) (by decide), pif_f hF]
      exact ok_some ⟨MD_trans hM1 (MD_trans (MD_W hMW (Or.inl rfl)) (MD_up6 w k τ 9)), by rw [up2_eq]; rfl, fun q => absurd rfl q⟩
  · rw [if_neg c4]
    refine ok_neg (show ¬ σ1 2 k = 4 by rw [e21]; exact t_n4 hW hk c4) ?_
    rw [chk_in (by omega) (by decide)]
    have hS : ∀ v : Int32, mI w v = sgt w t k → ok (fX8_laysOp_L95 (nI k) (nI (o k)) 1 (nI (u k)) v σ1) (fun τ => MD w k σ τ ∧ τ 6 k = nI d ∧ (d ≠ 9 → fm w τ k (fLin w (S.2.1 (o k)) (sgt w t k) (S.2.1 (u k))))) := by
      intro v hv
      unfold fX8_laysOp_L95 fX8_laysOp_L119
      rw [M_joins hB1 (by omega) (by omega) (by omega) fA1 fB1 1 v, Option.bind_some, mI_1 hw, hv, fJoin_1]
      refine ok_some ⟨MD_trans hM1 (MD_mset (Or.inl rfl)), ?_, fun _ => fm_mset σ1 k (OkF_lin fA1.1 fB1.1 _)⟩
      rw [FR_mset σ1 k _ 6 (by decide)]; exact e61
    by_cases c2 : t k = 2
    · refine ok_pos (show σ1 2 k = 2 by rw [e21, c2]; rfl) ?_
      exact hS 1 (by unfold sgt; rw [if_pos c2, mI_1 hw])
    · refine ok_neg (show ¬ σ1 2 k = 2 by rw [e21]; exact t_n2 hW hk c2) ?_
      exact hS (-1) (by unfold sgt; rw [if_neg c2, mI_m1 hw])
/-- all of a cycle become formless -/
theorem M_laysNone {n : Nat} {t o u : Nat → Nat} {σ : Mem} {c : Int32} {z : Nat} (hN : NM n t o u σ) :
    ok (fX8_laysNone c (nI z) σ) (fun τ => FR [6, 7] σ τ ∧ ∀ i, i < n → τ 6 i = (if bt c i = true then 9 else σ 6 i) ∧ τ 7 i = if bt c i = true then nI z else σ 7 i) := by
  have h30 := hN.1
  unfold fX8_laysNone fX8_laysNone_L42
  refine ok_bind (ok_mono (?_ : ok _ (fun τ => FR [6, 7] σ τ ∧ ∀ i, i < n → τ 6 i = (if bt c i = true then 9 else σ 6 i) ∧ τ 7 i = if bt c i = true then nI z else σ 7 i)) (fun τ h => ok_some h))
  refine ok_for' (enc := fun i (τ : Mem) => (nI i, τ)) n (fun k τ => FR [6, 7] σ τ ∧ (∀ i, i < k → τ 6 i = (if bt c i = true then 9 else σ 6 i) ∧ τ 7 i = if bt c i = true then nI z else σ 7 i) ∧ ∀ i, k ≤ i → τ 6 i = σ 6 i ∧ τ 7 i = σ 7 i) (i0 := 0) (s0 := σ) (Nat.zero_le _) ⟨FR_refl _ _, fun i hi => absurd hi (Nat.not_lt_zero i), fun _ _ => ⟨rfl, rfl⟩⟩ ?_ ?_
  · intro k τ hk ⟨hf, h1, h2⟩
    dsimp only
    unfold fX8_laysNone_B2 fX8_laysNone_L36
    have f0' : τ 0 6 = nI n := by rw [hf 0 (by decide)]; exact hN.2.1
    rw [f0', if_neg (nI_ge hk (by omega)), hasE _ (by omega), Option.bind_some]
    dsimp only
    by_cases cb : bt c k = true
    · rw [if_pos cb, if_neg (by decide), chk_in (by omega) (by decide), chk_in (by omega) (by decide), nI_clamp (by omega), nI_1]
      refine ok_some ⟨_, rfl, FR_trans hf (FR_trans (FR_up2 _ (by decide) _ _) (FR_up2 _ (by decide) _ _)), fun i hi => ?_, fun i hi => ?_⟩
      · rw [up2_row _ _ _ (by decide), up2_at, up2_at, up2_row _ _ _ (by decide)]
        by_cases e : i = k
        · rw [if_pos e, if_pos e, e, if_pos cb, if_pos cb]; exact ⟨rfl, rfl⟩
        · rw [if_neg e, if_neg e]; exact h1 i (by omega)
      · rw [up2_row _ _ _ (by decide), up2_at, up2_at, up2_row _ _ _ (by decide), if_neg (by omega), if_neg (by omega)]; exact h2 i (by omega)
    · rw [if_neg cb, if_pos rfl, nI_1]
      refine ok_some ⟨_, rfl, hf, fun i hi => ?_, fun i hi => h2 i (by omega)⟩
      by_cases e : i = k
      · rw [e, if_neg cb, if_neg cb]; exact h2 k (Nat.le_refl _)
      · exact h1 i (by omega)
  · intro τ ⟨hf, h1, h2⟩
    dsimp only
    unfold fX8_laysNone_B2
    have f0' : τ 0 6 = nI n := by rw [hf 0 (by decide)]; exact hN.2.1
    rw [f0', if_pos (Int32.le_refl _)]
    exact ok_some ⟨hf, h1⟩
theorem M_kinds {w n : Nat} {t o u : Nat → Nat} {σ : Mem} {c : Int32} {D : Nat → Nat} {F : Nat → Fo} (hw : w ≤ 16) (hN : NM n t o u σ) (hd : ∀ i, i < n → bt c i = true → σ 6 i = nI (D i) ∧ (D i = 9 ∨ D i ≤ 3) ∧ (D i ≠ 9 → fm w σ i (F i))) :
    ok (fX8_laysCycle_L201 c σ) (fun τ => FR [7] σ τ ∧ ∀ i, i < n → τ 7 i = if bt c i = true then nI (kd (D i) (F i) 4) else σ 7 i) := by
  have h30 := hN.1
  unfold fX8_laysCycle_L201 fX8_laysCycle_L276
  refine ok_bind (ok_mono (?_ : ok _ (fun τ => FR [7] σ τ ∧ ∀ i, i < n → τ 7 i = if bt c i = true then nI (kd (D i) (F i) 4) else σ 7 i)) (fun τ h => ok_some h))
  refine ok_for' (enc := fun i (τ : Mem) => (nI i, τ)) n (fun k τ => FR [7] σ τ ∧ (∀ i, i < k → τ 7 i = if bt c i = true then nI (kd (D i) (F i) 4) else σ 7 i) ∧ ∀ i, k ≤ i → τ 7 i = σ 7 i) (i0 := 0) (s0 := σ) (Nat.zero_le _) ⟨FR_refl _ _, fun i hi => absurd hi (Nat.not_lt_zero i), fun _ _ => rfl⟩ ?_ ?_
  · intro k τ hk ⟨hf, h1, h2⟩
    dsimp only
    unfold fX8_laysCycle_B204
    have f0' : τ 0 6 = nI n := by rw [hf 0 (by decide)]; exact hN.2.1
    rw [f0', if_neg (nI_ge hk (by omega)), hasE _ (by omega), Option.bind_some]
    dsimp only
    by_cases cb : bt c k = true
    · obtain ⟨d1, d2, d3⟩ := hd k hk cb
      have d1' : τ 6 k = nI (D k) := by rw [hf 6 (by decide)]; exact d1
      rw [if_pos cb, if_neg (by decide), M_hasForm (by omega) d1' d2, Option.bind_some]
      dsimp only
      have fin : ∀ v : Nat, v = kd (D k) (F k) 4 → ok (fX8_laysCycle_L269 c (nI k) (nI k) (nI v) τ) (Sum.elim (fun a' => ∃ s', a' = (nI (k + 1), s') ∧ FR [7] σ s' ∧ (∀ i, i < k + 1 → s' 7 i = if bt c i = true then nI (kd (D i) (F i) 4) else σ 7 i) ∧ ∀ i, k + 1 ≤ i → s' 7 i = σ 7 i) (fun τ => FR [7] σ τ ∧ ∀ i, i < n → τ 7 i = if bt c i = true then nI (kd (D i) (F i) 4) else σ 7 i)) := by
        intro v hv
        unfold fX8_laysCycle_L269 fX8_laysCycle_L270
        rw [chk_in (by omega) (by decide), nI_clamp (by omega), nI_1]
        refine ok_some ⟨_, rfl, FR_trans hf (FR_up2 _ (by decide) _ _), fun i hi => ?_, fun i hi => ?_⟩
        · rw [up2_at]
          by_cases e : i = k
          · rw [if_pos e, e, if_pos cb, hv]
          · rw [if_neg e]; exact h1 i (by omega)
        · rw [up2_at, if_neg (by omega)]; exact h2 i (by omega)
      by_cases c9 : D k = 9
      · rw [if_pos c9, if_pos rfl]
        exact fin 4 (by unfold kd; rw [if_pos c9])
      · rw [if_neg c9, if_neg (by decide), chk_in (by omega) (by decide), nI_clamp (by omega)]
        by_cases c0 : D k = 0
        · refine ok_pos (show τ 6 k ≤ 0 by rw [d1', c0]; decide) ?_
          rw [M_degreeOf hw (by omega) (fm_FR (d3 c9) hf (by decide)), Option.bind_some]
          dsimp only
          have dl := fdeg_le (F k)
          by_cases cg : fdeg (F k) = 0
          · rw [if_pos (show nI (fdeg (F k)) ≤ 0 by rw [cg]; decide)]
            exact fin 0 (by unfold kd; rw [if_neg c9, if_neg (by omega), if_neg (by omega)])
          · rw [if_neg (nI_nle (by omega) (by omega))]
            exact fin 1 (by unfold kd; rw [if_neg c9, if_neg (by omega), if_pos (by omega)])
        · refine ok_neg (show ¬ τ 6 k ≤ 0 by rw [d1']; exact nI_nle (by omega) (by omega)) ?_
          exact fin 2 (by unfold kd; rw [if_neg c9, if_pos (by omega)])
    · rw [if_neg cb, if_pos rfl]
      unfold fX8_laysCycle_L270
      rw [nI_1]
      refine ok_some ⟨_, rfl, hf, fun i hi => ?_, fun i hi => h2 i (by omega)⟩
      by_cases e : i = k
      · rw [e, if_neg cb]; exact h2 k (Nat.le_refl _)
      · exact h1 i (by omega)
  · intro τ ⟨hf, h1, h2⟩
    dsimp only
    unfold fX8_laysCycle_B204
    have f0' : τ 0 6 = nI n := by rw [hf 0 (by decide)]; exact hN.2.1
    rw [f0', if_pos (Int32.le_refl _)]
    exact ok_some ⟨hf, h1⟩
