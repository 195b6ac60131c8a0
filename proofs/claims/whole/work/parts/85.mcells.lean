/-! cells: the reference -/
def XPm (w : Nat) (F : Nat → Fo) (σ : Mem) (s : CLs) : Prop := σ 0 17 = nI s.1 ∧ ∀ c, c < s.1 → fm w σ (34 + c) (cfm F s c) ∧ σ 10 c = nI (s.2.1 c)
theorem M_place {w n : Nat} {P : Nat → Bool} {F : Nat → Fo} {σ : Mem} {s : CLs} (hw : w ≤ 16) (hs : CI P F n s) (hP : XPm w F σ s) {k l : Nat} (fA : fm w σ 30 (fSh (F k) l)) (h90 : s.1 < 90) :
    ok (fX8_cellOf (nI k) σ) (fun r => ∃ c, r.1 = nI c ∧ c < (clA F k l s).1 ∧ cfm F (clA F k l s) c = fSh (F k) l ∧ XPm w F r.2 (clA F k l s) ∧ FR [0, 1, 10] σ r.2 ∧ (∀ j, j ≠ 17 → r.2 0 j = σ 0 j) ∧ fm w r.2 30 (fSh (F k) l) ∧ ∀ i A, i < 30 → fm w σ i A → fm w r.2 i A) := by
  obtain ⟨e17, harr⟩ := hP
  have i34 : ∀ c, (34 : Int32) + nI c = nI (34 + c) := fun c => nI_add 34 c
  have same : ∀ c, c < s.1 → fX8_areAlike (nI (34 + c)) 30 σ = some (bI (cfm F s c = fSh (F k) l), σ) := fun c hc => M_areAlike (r := 30) hw (by omega) (by decide) (harr c hc).1 fA
  have step : ∀ c, c < s.1 → cfm F s c ≠ fSh (F k) l → fX8_cellOf_B2 (nI k) (nI c) σ = some (.inl (nI (c + 1), σ)) := by
    intro c hc hne
    unfold fX8_cellOf_B2
    rw [e17, if_neg (nI_ge hc (by omega)), i34, same c hc, Option.bind_some]
    dsimp only
    rw [bI_f hne, if_pos rfl, nI_1]
  unfold fX8_cellOf
  by_cases hex : ∃ c, c < s.1 ∧ cfm F s c = fSh (F k) l
  · have hA : clA F k l s = s := by unfold clA; rw [pif_t hex]
    obtain ⟨c0, c1, c2⟩ := hex
    rw [hA]
    have key : ok (loop (fun a => fX8_cellOf_B2 (nI k) a.1 a.2) (0, σ)) (fun b => b = .inr (nI c0, σ)) := by
      refine ok_for' (enc := fun i (_ : Unit) => (nI i, σ)) c0 (fun _ _ => True) (i0 := 0) (s0 := ()) (Nat.zero_le _) trivial ?_ ?_
      · intro i _ hi _
        dsimp only
        rw [step i (by omega) (fun e => by have := hs.2 i c0 (by omega) c1 (e.trans c2.symm); omega)]
        exact ok_some ⟨(), rfl, trivial⟩
      · intro _ _
        dsimp only
        unfold fX8_cellOf_B2
        rw [e17, if_neg (nI_ge c1 (by omega)), i34, same c0 c1, Option.bind_some]
        dsimp only
        rw [bI_t c2, if_neg (by decide)]
        exact ok_some rfl
    obtain ⟨b, hb, rfl⟩ := key
    rw [hb, Option.bind_some]
    exact ok_some ⟨c0, rfl, c1, c2, ⟨e17, harr⟩, FR_refl _ _, fun _ _ => rfl, fA, fun _ _ _ h => h⟩
  · have hA : clA F k l s = (s.1 + 1, fun c => if c = s.1 then k else s.2.1 c, fun c => if c = s.1 then l else s.2.2 c) := by unfold clA; rw [pif_f hex]
    have key : ok (loop (fun a => fX8_cellOf_B2 (nI k) a.1 a.2) (0, σ)) (fun b => b = .inl σ) := by
      refine ok_for' (enc := fun i (_ : Unit) => (nI i, σ)) s.1 (fun _ _ => True) (i0 := 0) (s0 := ()) (Nat.zero_le _) trivial ?_ ?_
      · intro i _ hi _
        dsimp only
        rw [step i hi (fun e => hex ⟨i, hi, e⟩)]
        exact ok_some ⟨(), rfl, trivial⟩
      · intro _ _
        dsimp only
        unfold fX8_cellOf_B2
        rw [e17, if_pos (Int32.le_refl _)]
        exact ok_some rfl
    obtain ⟨b, hb, rfl⟩ := key
    rw [hb, Option.bind_some]
    show ok (fX8_cellOf_L31 (nI k) σ) _
    unfold fX8_cellOf_L31
    have hcp : fX8_copies 30 (34 + σ 0 17) σ = some (mset σ (34 + s.1) (fSh (F k) l)) := by
      rw [e17, i34]
      exact M_copies (r := 30) (by decide) (by omega) fA
    rw [hcp, Option.bind_some]
    have h0 : mset σ (34 + s.1) (fSh (F k) l) 0 = σ 0 := FR_mset σ _ _ 0 (by decide)
    simp (disch := decide) only [up2_row, up2_eq, h0, e17]
    rw [nI_clamp (by omega), chk_in h90 (by decide), nI_1, nI_pred]
    obtain ⟨τ, hτ⟩ : ∃ s', s' = mset σ (34 + s.1) (fSh (F k) l) := ⟨_, rfl⟩
    rw [← hτ] at h0 ⊢
    have hfm : ∀ i A, i ≠ 34 + s.1 → fm w σ i A → fm w (up2 (up2 τ 10 s.1 (nI k)) 0 17 (nI (s.1 + 1))) i A := fun i A hi hA => by
      rw [hτ]; exact fm_up (fm_up (fm_ne hA hi) _ _ _ (by decide)) _ _ _ (by decide)
    have hcf : cfm F (clA F k l s) s.1 = fSh (F k) l := by
      rw [hA]; unfold cfm; dsimp only; rw [if_pos rfl, if_pos rfl]
    refine ok_some ⟨s.1, rfl, by rw [hA]; dsimp only; omega, hcf, ⟨?_, fun c hc => ⟨?_, ?_⟩⟩, ?_, fun j hj => ?_, hfm 30 _ (by omega) fA, fun i A hi hAi => hfm i A (by omega) hAi⟩
    · dsimp only; rw [up2_eq, hA]
    · dsimp only
      rcases Nat.lt_or_ge c s.1 with q | q
      · rw [(clA_old F k l s q).2.2]; exact hfm _ _ (by omega) (harr c q).1
      · have e : c = s.1 := by rw [hA] at hc; dsimp only at hc; omega
        rw [e, hcf, hτ]
        exact fm_up (fm_up (fm_mset σ (34 + s.1) fA.1) _ _ _ (by decide)) _ _ _ (by decide)
    · dsimp only
      rw [up2_row _ _ _ (by decide), up2_at, hA]
      dsimp only
      by_cases e : c = s.1
      · rw [if_pos e, if_pos e]
      · rw [if_neg e, if_neg e, hτ, FR_mset σ _ _ 10 (by decide)]
        exact (harr c (by rw [hA] at hc; dsimp only at hc; omega)).2
    · dsimp only
      rw [hτ]
      exact FR_trans (FR_mono (FR_mset σ _ _) (by decide)) (FR_trans (FR_up2 _ (by decide) _ _) (FR_up2 _ (by decide) _ _))
    · dsimp only
      rw [up2_col _ _ _ hj, up2_row _ _ _ (by decide), h0]
theorem M_shift1 {w : Nat} {σ : Mem} {A : Fo} (fA : fm w σ 30 A) (l1 l2 l3 : Int32) : loop (fun a => fX8_laysCells_B99 l1 l2 l3 a.1 a.2) (0, σ) = some (mset σ 30 (fSh A 1)) := by
  have key : ok (loop (fun a => fX8_laysCells_B99 l1 l2 l3 a.1 a.2) (0, σ)) (fun b => b = mset σ 30 (fSh A 1)) := by
    refine ok_for' (enc := fun i (_ : Unit) => (nI i, seg σ 1 (1372 * 30) i (flt (fSh A 1)))) 1372 (fun _ _ => True) (i0 := 0) (s0 := ()) (Nat.zero_le _) trivial ?_ ?_ |> fun hh => by rw [seg_0] at hh; exact hh
    · intro i _ hi _
      dsimp only
      unfold fX8_laysCells_B99 fX8_laysCells_L138
      have i1 : (41160 : Int32) + nI i = nI (1372 * 30 + i) := nI_add 41160 i
      have i2 : (41503 : Int32) + nI i = nI (1372 * 30 + (343 + i)) := by rw [show 1372 * 30 + (343 + i) = 41503 + i by omega]; exact nI_add 41503 i
      rw [if_neg (n1372 hi), i1, i2, nI_1, chk_in (show 1372 * 30 + i < 170128 by omega) (by decide), chk_in (show 1372 * 30 + i < 170128 by omega) (by decide), nI_clamp (show 1372 * 30 + i < 2 ^ 31 by omega)]
      by_cases c : 1029 ≤ i
      · rw [if_pos (show (1029 : Int32) ≤ nI i from nI_le (a := 1029) c (by omega))]
        refine ok_some ⟨(), ?_, trivial⟩
        rw [← seg_succ σ 1 (1372 * 30) i (flt (fSh A 1))]
        have : flt (fSh A 1) i = 0 := by
          unfold flt fSh
          rw [fA.1.2 (i / 343 + 1) (by omega)]; rfl
        rw [this]
      · rw [if_neg (show ¬ (1029 : Int32) ≤ nI i from nI_ge (b := 1029) (by omega) (by decide)), chk_in (by omega) (by decide), nI_clamp (by omega), seg_out σ _ (by omega), fA.2 (343 + i) (by omega)]
        refine ok_some ⟨(), ?_, trivial⟩
        rw [← seg_succ σ 1 (1372 * 30) i (flt (fSh A 1))]
        have : flt A (343 + i) = flt (fSh A 1) i := by
          unfold flt fSh
          rw [show (343 + i) / 343 = i / 343 + 1 by omega, show (343 + i) % 343 = i % 343 by omega]
        rw [this]
    · intro _ _
      dsimp only
      unfold fX8_laysCells_B99
      rw [if_pos n1372']
      exact ok_some rfl
  obtain ⟨b, hb, rfl⟩ := key
  exact hb
def MPl (w n : Nat) (t o u : Nat → Nat) (S : Int32) (σ : Mem) (k : Nat) (τ : Mem) : Prop := FR [0, 1, 10, 11] σ τ ∧ (∀ j, j ≠ 17 → τ 0 j = σ 0 j) ∧ XPm w (Rs w n t o u).2.1 τ (clN (pcl w n t o u S) (Rs w n t o u).2.1 k) ∧ (∀ c, c < (clN (pcl w n t o u S) (Rs w n t o u).2.1 k).1 → gd (Rs w n t o u).2.1 (clN (pcl w n t o u S) (Rs w n t o u).2.1 k) (τ 11) c) ∧ ∀ i A, i < 30 → fm w σ i A → fm w τ i A
theorem M_chain {w n : Nat} {t o u : Nat → Nat} {S : Int32} {σ τ : Mem} (hW : WF w n t o u) (hn : n ≤ 30) (hw : 4 ≤ w ∧ w ≤ 16) {k : Nat} (hk : k < n) (hpk : pcl w n t o u S k = true) (hfk : fm w σ k ((Rs w n t o u).2.1 k)) (hI : MPl w n t o u S σ k τ) (l1 : Int32) :
    ok ((fX8_copies (nI k) 30 τ).bind fun o2 => (loop (fun a => fX8_laysCells_B55 l1 (nI k) a.1 a.2) ((-1), o2)).bind fun b6 => fX8_laysCells_L148 l1 (nI k) b6) (Sum.elim (fun a' => ∃ s', a' = (nI (k + 1), s') ∧ MPl w n t o u S σ (k + 1) s') (MPl w n t o u S σ n)) := by
  obtain ⟨pk1, pk2, pk3⟩ := pcl_ok hW hn hw.1 hk hpk
  obtain ⟨hf, h0, hP, hgd, hfm⟩ := hI
  obtain ⟨F, hF⟩ : ∃ F, F = (Rs w n t o u).2.1 := ⟨_, rfl⟩
  have hN3 := clN_le (pcl w n t o u S) (Rs w n t o u).2.1 k
  have d3 := fdeg_le ((Rs w n t o u).2.1 k)
  obtain ⟨s, hse⟩ : ∃ s, s = clN (pcl w n t o u S) (Rs w n t o u).2.1 k := ⟨_, rfl⟩
  have hCI0 : CI (pcl w n t o u S) (Rs w n t o u).2.1 n s := by rw [hse]; exact CI_N k (by omega)
  have hsucc : clN (pcl w n t o u S) (Rs w n t o u).2.1 (k + 1) = clC (Rs w n t o u).2.1 k (fdeg ((Rs w n t o u).2.1 k)) s := by
    rw [hse]
    show (if pcl w n t o u S k = true then _ else _) = _
    rw [if_pos hpk]
  rw [← hse] at hP hgd hN3
  rw [← hF] at hP hgd hsucc pk2 pk3 hfk hCI0 d3
  have hCI : ∀ l, l ≤ fdeg (F k) → CI (pcl w n t o u S) F n (clC F k l s) := fun l hl => CI_C hCI0 hk hpk l hl
  have hcp : fX8_copies (nI k) 30 τ = some (mset τ 30 (F k)) := M_copies (s := 30) (by omega) (by decide) (hfm k _ (by omega) hfk)
  rw [hcp, Option.bind_some]
  have m30 : ∀ (ρ : Mem) (A : Fo) (i : Nat) (B : Fo), i ≠ 30 → fm w ρ i B → fm w (mset ρ 30 A) i B := fun ρ A i B hi h => fm_ne h hi
  refine ok_bind (ok_mono (?_ : ok _ (fun ρ => FR [0, 1, 10, 11] σ ρ ∧ (∀ j, j ≠ 17 → ρ 0 j = σ 0 j) ∧ XPm w F ρ (clC F k (fdeg (F k)) s) ∧ (∀ c, c < (clC F k (fdeg (F k)) s).1 → gd F (clC F k (fdeg (F k)) s) (ρ 11) c) ∧ ∀ i A, i < 30 → fm w σ i A → fm w ρ i A)) ?_)
  · refine ok_for' (enc := fun _ (x : Int32 × Mem) => x) (fdeg (F k)) (fun l x => FR [0, 1, 10, 11] σ x.2 ∧ (∀ j, j ≠ 17 → x.2 0 j = σ 0 j) ∧ XPm w F x.2 (clC F k l s) ∧ fm w x.2 30 (fSh (F k) l) ∧ (∀ i A, i < 30 → fm w σ i A → fm w x.2 i A) ∧ ((l = 0 ∧ x.1 = -1 ∧ ∀ c, c < s.1 → gd F s (x.2 11) c) ∨ (0 < l ∧ ∃ a, a < (clC F k l s).1 ∧ x.1 = nI a ∧ cfm F (clC F k l s) a = fSh (F k) (l - 1) ∧ x.2 11 a = -2 ∧ ∀ c, c < (clC F k l s).1 → c ≠ a → gd F (clC F k l s) (x.2 11) c))) (i0 := 0) (s0 := (-1, mset τ 30 (F k))) (Nat.zero_le _) ⟨FR_trans hf (FR_mono (FR_mset τ 30 _) (by decide)), fun j hj => by dsimp only; rw [FR_mset τ 30 _ 0 (by decide)]; exact h0 j hj, ⟨by dsimp only; rw [FR_mset τ 30 _ 0 (by decide)]; exact hP.1, fun c hc => ⟨m30 τ _ _ _ (by omega) (hP.2 c hc).1, by dsimp only; rw [FR_mset τ 30 _ 10 (by decide)]; exact (hP.2 c hc).2⟩⟩, fm_mset τ 30 pk2, fun i A hi hA => m30 τ _ i A (by omega) (hfm i A hi hA), Or.inl ⟨rfl, rfl, fun c hc => by dsimp only; rw [FR_mset τ 30 _ 11 (by decide)]; exact hgd c hc⟩⟩ ?_ ?_
    · rintro l ⟨ah, ρ⟩ hl ⟨hf2, h02, hP2, hA2, hfm2, hst⟩
      dsimp only at hf2 h02 hP2 hA2 hfm2 hst ⊢
      have hle := clC_le F k s l
      have dl : fdeg (fSh (F k) l) = fdeg (F k) - l := fdeg_sh pk2 (by omega)
      unfold fX8_laysCells_B55
      have hdeg : fX8_degreeOf 30 ρ = some (nI (fdeg (F k) - l), ρ) := by rw [← dl]; exact M_degreeOf (s := 30) hw.2 (by decide) hA2
      rw [hdeg, Option.bind_some]
      dsimp only
      rw [if_neg (nI_nle (by omega) (by omega))]
      refine ok_bind (ok_mono (M_place hw.2 (hCI l (by omega)) hP2 hA2 (by omega)) ?_)
      rintro ⟨r, ρ2⟩ ⟨c, rfl, c1, c2, c3, c4, c5, c6, c7⟩
      dsimp only at c3 c4 c5 c6 c7 ⊢
      have hs1 : clC F k (l + 1) s = clA F k l (clC F k l s) := rfl
      obtain ⟨s1, hs1e⟩ : ∃ s1, s1 = clC F k l s := ⟨_, rfl⟩
      rw [← hs1e] at hs1 hP2 hst hle c1 c2 c3
      rw [hs1]
      obtain ⟨s2, hs2e⟩ : ∃ s2, s2 = clA F k l s1 := ⟨_, rfl⟩
      have hle2 := clA_le F k l s1
      have hold := fun c (hc : c < s1.1) => clA_old F k l s1 hc
      have hgA : ∀ c N N', c < s1.1 → gd F s1 N c → N' c = N c → gd F (clA F k l s1) N' c := fun c N N' hc hg hN => gd_A hc hg hN
      rw [← hs2e] at c1 c2 c3 hle2 hold hgA ⊢
      have hc90 : c < 90 := by omega
      have hlast : ∀ c', c' < s2.1 → c' ≠ c → c' < s1.1 := by
        intro c' hc' hne
        rcases Nat.lt_or_ge c' s1.1 with q | q
        · exact q
        · exfalso
          rcases Nat.lt_or_ge c s1.1 with q2 | q2
          · have : s2.1 = s1.1 := by
              rw [hs2e]; unfold clA; rw [pif_t ⟨c, q2, by rw [← (hold c q2).2.2]; exact c2⟩]
            omega
          · omega
      have degc : fdeg (cfm F s2 c) = fdeg (F k) - l := by rw [c2]; exact dl
      -- behind the place: what is next, then the shift
      have fin : ∀ ρ3 : Mem, FR [11] ρ2 ρ3 → (∀ c', c' < s2.1 → c' ≠ c → gd F s2 (ρ3 11) c') → ok (fX8_laysCells_L84 l1 (nI k) (nI c) ρ3) (Sum.elim (fun a' => ∃ s' : Int32 × Mem, a' = s' ∧ FR [0, 1, 10, 11] σ s'.2 ∧ (∀ j, j ≠ 17 → s'.2 0 j = σ 0 j) ∧ XPm w F s'.2 s2 ∧ fm w s'.2 30 (fSh (F k) (l + 1)) ∧ (∀ i A, i < 30 → fm w σ i A → fm w s'.2 i A) ∧ ((l + 1 = 0 ∧ s'.1 = -1 ∧ ∀ c, c < s.1 → gd F s (s'.2 11) c) ∨ (0 < l + 1 ∧ ∃ a, a < s2.1 ∧ s'.1 = nI a ∧ cfm F s2 a = fSh (F k) (l + 1 - 1) ∧ s'.2 11 a = -2 ∧ ∀ c, c < s2.1 → c ≠ a → gd F s2 (s'.2 11) c))) (fun ρ => FR [0, 1, 10, 11] σ ρ ∧ (∀ j, j ≠ 17 → ρ 0 j = σ 0 j) ∧ XPm w F ρ (clC F k (fdeg (F k)) s) ∧ (∀ c, c < (clC F k (fdeg (F k)) s).1 → gd F (clC F k (fdeg (F k)) s) (ρ 11) c) ∧ ∀ i A, i < 30 → fm w σ i A → fm w ρ i A)) := by
        intro ρ3 hf3 hg3
        unfold fX8_laysCells_L84 fX8_laysCells_L145
        have f30 : fm w (up2 ρ3 11 c (-2)) 30 (fSh (F k) l) := fm_up (fm_FR c6 hf3 (by decide)) _ _ _ (by decide)
        rw [chk_in hc90 (by decide), nI_clamp (by omega), M_shift1 f30, Option.bind_some]
        have hfr : FR [1, 11] ρ2 (mset (up2 ρ3 11 c (-2)) 30 (fSh (fSh (F k) l) 1)) := FR_trans (FR_mono hf3 (by decide)) (FR_trans (FR_up2 _ (by decide) _ _) (FR_mono (FR_mset _ 30 _) (by decide)))
        have hfmk : ∀ i A, i ≠ 30 → fm w ρ2 i A → fm w (mset (up2 ρ3 11 c (-2)) 30 (fSh (fSh (F k) l) 1)) i A := fun i A hi hA => fm_ne (fm_up (fm_FR hA hf3 (by decide)) _ _ _ (by decide)) hi
        have e11 : ∀ c', mset (up2 ρ3 11 c (-2)) 30 (fSh (fSh (F k) l) 1) 11 c' = if c' = c then -2 else ρ3 11 c' := fun c' => by rw [FR_mset _ 30 _ 11 (by decide), up2_at]
        refine ok_some ⟨(nI c, _), rfl, FR_trans hf2 (FR_trans (FR_mono c4 (by decide)) (FR_mono hfr (by decide))), fun j hj => ?_, ⟨?_, fun c' hc' => ⟨hfmk _ _ (by omega) (c3.2 c' hc').1, ?_⟩⟩, ?_, fun i A hi hA => hfmk i A (by omega) (c7 i A hi (hfm2 i A hi hA)), Or.inr ⟨by omega, c, c1, rfl, by rw [Nat.add_sub_cancel]; exact c2, ?_, fun c' hc' hne => ?_⟩⟩
        · dsimp only; rw [hfr 0 (by decide), c5 j hj]; exact h02 j hj
        · dsimp only; rw [hfr 0 (by decide)]; exact c3.1
        · dsimp only; rw [hfr 10 (by decide)]; exact (c3.2 c' hc').2
        · dsimp only
          rw [fSh_fSh, Nat.add_comm 1 l]
          exact fm_mset _ 30 (OkF_sh pk2 _)
        · dsimp only; rw [e11, if_pos rfl]
        · dsimp only
          have hg := hg3 c' hc' hne
          refine ⟨fun q => by rw [e11, if_neg hne]; exact hg.1 q, fun q => ?_⟩
          obtain ⟨y, y1, y2, y3⟩ := hg.2 q
          exact ⟨y, y1, by rw [e11, if_neg hne]; exact y2, y3⟩
      have e211 : ρ2 11 = ρ 11 := c4 11 (by decide)
      rcases hst with ⟨l0, ha, hg0⟩ | ⟨l0, a, a1, rfl, a2, a3, a4⟩
      · rw [if_pos ha]
        refine fin ρ2 (FR_refl _ _) (fun c' hc' hne => ?_)
        have q := hlast c' hc' hne
        have hss : s1 = s := by rw [hs1e, l0]; rfl
        exact hgA c' (ρ 11) _ q (by rw [hss] at q ⊢; exact hg0 c' q) (by rw [e211])
      · have ha90 : a < 90 := by omega
        have dega : fdeg (cfm F s1 a) = fdeg (F k) - (l - 1) := by rw [a2]; exact fdeg_sh pk2 (by omega)
        have hca : c ≠ a := fun e => by rw [e, (hold a a1).2.2, dega] at degc; omega
        rw [if_neg (nI_nm1 (by omega)), chk_in ha90 (by decide), nI_clamp (by omega)]
        refine fin (up2 ρ2 11 a (nI c)) (FR_up2 _ (by decide) _ _) (fun c' hc' hne => ?_)
        have q := hlast c' hc' hne
        by_cases e : c' = a
        · subst e
          refine ⟨fun z => ?_, fun _ => ⟨c, c1, up2_eq _ _ _ _, ?_⟩⟩
          · rw [(hold c' a1).2.2, dega] at z; omega
          · rw [c2, (hold c' a1).2.2, a2, fSh_fSh, show 1 + (l - 1) = l by omega]
        · exact hgA c' (ρ 11) _ q (a4 c' q e) (by rw [up2_col _ _ _ e, e211])
    · rintro ⟨ah, ρ⟩ ⟨hf2, h02, hP2, hA2, hfm2, hst⟩
      dsimp only at hf2 h02 hP2 hA2 hfm2 hst ⊢
      have dl : fdeg (fSh (F k) (fdeg (F k))) = 0 := by rw [fdeg_sh pk2 (Nat.le_refl _), Nat.sub_self]
      unfold fX8_laysCells_B55
      have hdeg : fX8_degreeOf 30 ρ = some (nI 0, ρ) := by rw [← dl]; exact M_degreeOf (s := 30) hw.2 (by decide) hA2
      rw [hdeg, Option.bind_some]
      dsimp only
      rw [if_pos (by decide)]
      refine ok_some ?_
      rcases hst with ⟨l0, -⟩ | ⟨l0, a, a1, -, a2, a3, a4⟩
      · omega
      · refine ⟨hf2, h02, hP2, fun c hc => ?_, hfm2⟩
        by_cases e : c = a
        · have dega : fdeg (cfm F (clC F k (fdeg (F k)) s) a) = 1 := by rw [a2, fdeg_sh pk2 (by omega)]; omega
          rw [e]
          exact ⟨fun _ => a3, fun q => by omega⟩
        · exact a4 c hc e
  · rintro ρ ⟨q1, q2, q3, q4, q5⟩
    unfold fX8_laysCells_L148
    rw [nI_1]
    refine ok_some ⟨ρ, rfl, ?_⟩
    unfold MPl
    rw [← hF, hsucc]
    exact ⟨q1, q2, q3, q4, q5⟩
/-- what the reference holds when it is reduced -/
def MP (w n : Nat) (t o u : Nat → Nat) (S : Int32) (σ : Mem) : Prop := σ 0 20 = ndd w n t o u S ∧ XPm w (Rs w n t o u).2.1 σ (cll w n t o u S) ∧ ∀ c, c < (cll w n t o u S).1 → gd (Rs w n t o u).2.1 (cll w n t o u S) (σ 11) c
def askm (σ : Mem) : Int32 := if σ 0 8 = -1 then σ 0 7 else ((σ 0 7) ||| (1 <<< ((σ 0 9) &&& 31))) ||| (1 <<< ((σ 0 10) &&& 31))
theorem M_asked (σ : Mem) : fX8_asked σ = some (askm σ, σ) := by
  unfold fX8_asked fX8_asked_L33 askm
  split <;> rfl
theorem M_reduces {w n : Nat} {t o u : Nat → Nat} {σ : Mem} (hW : WF w n t o u) (hM : CM w n t o u σ) (hs : lowb n (askm σ)) :
    ok (fX8_reduces σ) (fun τ => MP w n t o u (askm σ) τ ∧ MC w n t o u τ ∧ CM w n t o u τ ∧ FR [0, 1, 5, 6, 7, 8, 10, 11] σ τ ∧ ∀ j, j ≠ 11 → j ≠ 17 → j ≠ 20 → τ 0 j = σ 0 j) := by
  have h30 := hM.1.1
  have hw := hM.2.1.1
  unfold fX8_reduces
  refine ok_bind (ok_mono (M_lays hW hM.1 hM.2.1 hM.2.2) ?_)
  rintro σ1 ⟨q1, q2, q3, q4⟩
  have ea : askm σ1 = askm σ := by unfold askm; rw [q3 8 (by decide), q3 7 (by decide), q3 9 (by decide), q3 10 (by decide)]
  have hN1 : NM n t o u σ1 := NM_of hM.1 q2 (q3 6 (by decide)) (by decide) (by decide) (by decide)
  rw [M_asked, Option.bind_some, ea]
  dsimp only
  rw [M_neededBy hW hN1 q1 hs, Option.bind_some]
  dsimp only
  obtain ⟨S, hS⟩ : ∃ S, S = askm σ := ⟨_, rfl⟩
  rw [← hS]
  obtain ⟨σ2, hσ2⟩ : ∃ s, s = up2 σ1 0 20 (ndd w n t o u S) := ⟨_, rfl⟩
  rw [← hσ2]
  have hf2 : FR [0] σ1 σ2 := by rw [hσ2]; exact FR_up2 _ (by decide) _ _
  have hj2 : ∀ j, j ≠ 20 → σ2 0 j = σ1 0 j := fun j hj => by rw [hσ2, up2_col _ _ _ hj]
  have e20 : σ2 0 20 = ndd w n t o u S := by rw [hσ2, up2_eq]
  rw [e20]
  unfold fX8_laysCells fX8_laysCells_L154
  obtain ⟨σ3, hσ3⟩ : ∃ s, s = up2 σ2 0 17 0 := ⟨_, rfl⟩
  rw [← hσ3]
  have hf3 : FR [0] σ2 σ3 := by rw [hσ3]; exact FR_up2 _ (by decide) _ _
  have hj3 : ∀ j, j ≠ 17 → σ3 0 j = σ2 0 j := fun j hj => by rw [hσ3, up2_col _ _ _ hj]
  have e17 : σ3 0 17 = nI 0 := by rw [hσ3, up2_eq]; rfl
  have hf13 : FR [0] σ1 σ3 := FR_trans hf2 hf3
  have hN3 : NM n t o u σ3 := NM_of hN1 hf13 (by rw [hj3 6 (by decide), hj2 6 (by decide)]) (by decide) (by decide) (by decide)
  have hC3 : MC w n t o u σ3 := MC_FR q1 hf13 (by rw [hj3 1 (by decide), hj2 1 (by decide)]) (by decide) (by decide) (by decide) (by decide)
  refine ok_bind (ok_bind (ok_mono (?_ : ok _ (MPl w n t o u S σ3 n)) ?_))
  · refine ok_for' (enc := fun k (τ : Mem) => (nI k, τ)) n (fun k τ => MPl w n t o u S σ3 k τ) (i0 := 0) (s0 := σ3) (Nat.zero_le _) ⟨FR_refl _ _, fun _ _ => rfl, ⟨e17, fun c hc => absurd hc (Nat.not_lt_zero c)⟩, fun c hc => absurd hc (Nat.not_lt_zero c), fun _ _ _ h => h⟩ ?_ ?_
    · intro k τ hk hI
      dsimp only
      have hNτ : NM n t o u τ := NM_of hN3 hI.1 (hI.2.1 6 (by decide)) (by decide) (by decide) (by decide)
      have k4 := K_le (w := w) hW h30 hk
      have e2 := (hNτ.2.2 k hk).1
      have e7 : τ 7 k = nI ((Rs w n t o u).2.2 k) := by rw [hI.1 7 (by decide)]; exact (hC3.2.2 k hk).2.1
      have hno : pcl w n t o u S k ≠ true → MPl w n t o u S σ3 (k + 1) τ := by
        intro hp
        have hcl : clN (pcl w n t o u S) (Rs w n t o u).2.1 (k + 1) = clN (pcl w n t o u S) (Rs w n t o u).2.1 k := by
          show (if pcl w n t o u S k = true then _ else _) = _
          rw [if_neg hp]
        unfold MPl
        rw [hcl]
        exact hI
      unfold fX8_laysCells_B7
      rw [hNτ.2.1, if_neg (nI_ge hk (by omega)), hasE _ (by omega), Option.bind_some]
      dsimp only
      have hskip : pcl w n t o u S k ≠ true → ok (fX8_laysCells_L148 (ndd w n t o u S) (nI k) τ) (Sum.elim (fun a' => ∃ s', a' = (nI (k + 1), s') ∧ MPl w n t o u S σ3 (k + 1) s') (MPl w n t o u S σ3 n)) := by
        intro hp
        unfold fX8_laysCells_L148
        rw [nI_1]
        exact ok_some ⟨τ, rfl, hno hp⟩
      by_cases cb : bt (ndd w n t o u S) k = true
      · rw [if_pos cb, if_neg (by decide), chk_in (by omega) (by decide), nI_clamp (by omega)]
        by_cases c4 : t k = 4
        · refine ok_pos (show τ 2 k = 4 by rw [e2, c4]; rfl) ?_
          rw [chk_in (by omega) (by decide)]
          by_cases c1 : (Rs w n t o u).2.2 k = 1
          · refine ok_pos (show τ 7 k = 1 by rw [e7, c1]; rfl) ?_
            have hpk := pcl_iff.mpr ⟨cb, c4, c1⟩
            have hk0 := (pcl_ok hW h30 hw.1 hk hpk).1
            exact M_chain hW h30 hw hk hpk ((hC3.2.2 k hk).2.2 (by omega)) hI _
          · refine ok_neg (show ¬ τ 7 k = 1 by rw [e7]; exact fun e => c1 ((nI_eq (b := 1) (by omega) (by decide)).mp e)) ?_
            exact hskip (fun q => c1 (pcl_iff.mp q).2.2)
        · refine ok_neg (show ¬ τ 2 k = 4 by rw [e2]; exact t_n4 hW hk c4) ?_
          exact hskip (fun q => c4 (pcl_iff.mp q).2.1)
      · rw [if_neg cb, if_pos rfl]
        exact hskip (fun q => cb (pcl_iff.mp q).1)
    · intro τ hI
      dsimp only
      unfold fX8_laysCells_B7
      have f0' : τ 0 6 = nI n := by rw [hI.2.1 6 (by decide)]; exact hN3.2.1
      rw [f0', if_pos (Int32.le_refl _)]
      exact ok_some hI
  · intro τ hI
    refine ok_some (ok_some ?_)
    have hfr : FR [0, 1, 5, 6, 7, 8, 10, 11] σ τ := FR_trans (FR_mono q2 (by decide)) (FR_trans (FR_mono hf13 (by decide)) (FR_mono hI.1 (by decide)))
    have hj : ∀ j, j ≠ 11 → j ≠ 17 → j ≠ 20 → τ 0 j = σ 0 j := fun j h11 h17 h20 => by rw [hI.2.1 j h17, hj3 j h17, hj2 j h20, q3 j h11]
    have hNτ : NM n t o u τ := NM_of hM.1 hfr (hj 6 (by decide) (by decide) (by decide)) (by decide) (by decide) (by decide)
    have hBτ : MB w τ := ⟨hw, by rw [hj 1 (by decide) (by decide) (by decide)]; exact hM.2.1.2⟩
    have hCτ : MC w n t o u τ := by
      refine ⟨hBτ, fun k hk => by rw [hI.1 5 (by decide)]; exact hC3.2.1 k hk, fun i hi => ?_⟩
      rw [hI.1 6 (by decide), hI.1 7 (by decide)]
      exact ⟨(hC3.2.2 i hi).1, (hC3.2.2 i hi).2.1, fun q => hI.2.2.2.2 i _ (by omega) ((hC3.2.2 i hi).2.2 q)⟩
    exact ⟨⟨by rw [hI.2.1 20 (by decide), hj3 20 (by decide)]; exact e20, hI.2.2.1, hI.2.2.2.1⟩, hCτ, ⟨hNτ, hBτ, fun _ => hCτ⟩, hfr, hj⟩
