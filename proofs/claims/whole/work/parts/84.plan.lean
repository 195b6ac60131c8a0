/-! cells: the class -/
def XPs (σ : Mem) (s : CLs) : Prop := σ 4 4 = nI s.1 ∧ ∀ c, c < s.1 → σ 22 c = nI (s.2.1 c) ∧ σ 23 c = nI (s.2.2 c)
theorem X_place {w n : Nat} {t o u : Nat → Nat} {S : Int32} {σ : Mem} {s : CLs} (hW : WF w n t o u) (hn : n ≤ 30) (hC : XC w n t o u σ) (hs : CI (pcl w n t o u S) (Rs w n t o u).2.1 n s) (hP : XPs σ s) {k l : Nat} (hk : k < n) (hpk : pcl w n t o u S k = true) (hl : l < fdeg ((Rs w n t o u).2.1 k)) (h90 : s.1 < 90) :
    ok (fX4_placeOf (nI k) (nI l) σ) (fun r => ∃ c, r.1 = nI c ∧ c < (clA (Rs w n t o u).2.1 k l s).1 ∧ cfm (Rs w n t o u).2.1 (clA (Rs w n t o u).2.1 k l s) c = fSh ((Rs w n t o u).2.1 k) l ∧ XPs r.2 (clA (Rs w n t o u).2.1 k l s) ∧ FR [4, 22, 23, 24] σ r.2 ∧ (∀ j, j ≠ 4 → r.2 4 j = σ 4 j) ∧ (∀ c, c < s.1 → r.2 24 c = σ 24 c) ∧ (s.1 ≤ c → r.2 24 c = -2)) := by
  have hw := hC.1.1.1
  obtain ⟨F, hF⟩ : ∃ F, F = (Rs w n t o u).2.1 := ⟨_, rfl⟩
  obtain ⟨e44, harr⟩ := hP
  obtain ⟨pk1, pk2, pk3⟩ := pcl_ok hW hn hw.1 hk hpk
  have dk := fdeg_le ((Rs w n t o u).2.1 k)
  have fk := (hC.2.2 k hk).2.2 (by omega)
  have same : ∀ c, c < s.1 → fX1_isSame (nI (s.2.1 c)) (nI (s.2.2 c)) (nI k) (nI l) σ = some (bI (cfm (Rs w n t o u).2.1 s c = fSh ((Rs w n t o u).2.1 k) l), σ) := by
    intro c hc
    obtain ⟨h1, h2, h3⟩ := hs.1 c hc
    obtain ⟨q1, q2, q3⟩ := pcl_ok hW hn hw.1 h1 h2
    have dc := fdeg_le ((Rs w n t o u).2.1 (s.2.1 c))
    exact X1_isSame hC.1 (by omega) (by omega) (by omega) (by omega) q2 pk2 ((hC.2.2 _ h1).2.2 (by omega)) fk
  have step : ∀ c, c < s.1 → cfm (Rs w n t o u).2.1 s c ≠ fSh ((Rs w n t o u).2.1 k) l → fX4_placeOf_B2 (nI k) (nI l) (nI c) σ = some (.inl (nI (c + 1), σ)) := by
    intro c hc hne
    unfold fX4_placeOf_B2
    rw [e44, if_neg (nI_ge hc (by omega)), chk_in (by omega) (by decide), chk_in (by omega) (by decide), nI_clamp (by omega), (harr c hc).1, (harr c hc).2, same c hc, Option.bind_some]
    dsimp only
    rw [bI_f hne, if_pos rfl, nI_1]
  unfold fX4_placeOf
  by_cases hex : ∃ c, c < s.1 ∧ cfm (Rs w n t o u).2.1 s c = fSh ((Rs w n t o u).2.1 k) l
  · have hA : clA (Rs w n t o u).2.1 k l s = s := by unfold clA; rw [pif_t hex]
    obtain ⟨c0, c1, c2⟩ := hex
    rw [hA]
    have key : ok (loop (fun a => fX4_placeOf_B2 (nI k) (nI l) a.1 a.2) (0, σ)) (fun b => b = .inr (nI c0, σ)) := by
      refine ok_for' (enc := fun i (_ : Unit) => (nI i, σ)) c0 (fun _ _ => True) (i0 := 0) (s0 := ()) (Nat.zero_le _) trivial ?_ ?_
      · intro i _ hi _
        dsimp only
        rw [step i (by omega) (fun e => by have := hs.2 i c0 (by omega) c1 (e.trans c2.symm); omega)]
        exact ok_some ⟨(), rfl, trivial⟩
      · intro _ _
        dsimp only
        unfold fX4_placeOf_B2
        rw [e44, if_neg (nI_ge c1 (by omega)), chk_in (by omega) (by decide), chk_in (by omega) (by decide), nI_clamp (by omega), (harr c0 c1).1, (harr c0 c1).2, same c0 c1, Option.bind_some]
        dsimp only
        rw [bI_t c2, if_neg (by decide)]
        exact ok_some rfl
    obtain ⟨b, hb, rfl⟩ := key
    rw [hb, Option.bind_some]
    exact ok_some ⟨c0, rfl, c1, c2, ⟨e44, harr⟩, FR_refl _ _, fun _ _ => rfl, fun _ _ => rfl, fun q => by omega⟩
  · have hA : clA (Rs w n t o u).2.1 k l s = (s.1 + 1, fun c => if c = s.1 then k else s.2.1 c, fun c => if c = s.1 then l else s.2.2 c) := by unfold clA; rw [pif_f hex]
    have key : ok (loop (fun a => fX4_placeOf_B2 (nI k) (nI l) a.1 a.2) (0, σ)) (fun b => b = .inl σ) := by
      refine ok_for' (enc := fun i (_ : Unit) => (nI i, σ)) s.1 (fun _ _ => True) (i0 := 0) (s0 := ()) (Nat.zero_le _) trivial ?_ ?_
      · intro i _ hi _
        dsimp only
        rw [step i hi (fun e => hex ⟨i, hi, e⟩)]
        exact ok_some ⟨(), rfl, trivial⟩
      · intro _ _
        dsimp only
        unfold fX4_placeOf_B2
        rw [e44, if_pos (Int32.le_refl _)]
        exact ok_some rfl
    obtain ⟨b, hb, rfl⟩ := key
    rw [hb, Option.bind_some]
    show ok (fX4_placeOf_L42 (nI k) (nI l) σ) _
    unfold fX4_placeOf_L42
    simp (disch := decide) only [up2_row, up2_eq, e44]
    rw [nI_clamp (by omega), chk_in h90 (by decide), chk_in h90 (by decide), chk_in h90 (by decide), nI_1, nI_pred]
    have hcf : cfm (Rs w n t o u).2.1 (clA (Rs w n t o u).2.1 k l s) s.1 = fSh ((Rs w n t o u).2.1 k) l := by
      rw [hA]; unfold cfm; dsimp only; rw [if_pos rfl, if_pos rfl]
    refine ok_some ⟨s.1, rfl, by rw [hA]; dsimp only; omega, hcf, ?_, ?_, fun j hj => ?_, fun c hc => ?_, fun _ => ?_⟩
    · rw [hA]
      refine ⟨by dsimp only; rw [up2_eq], fun c hc => ?_⟩
      dsimp only
      simp (disch := decide) only [up2_row]
      rw [up2_at, up2_at]
      by_cases e : c = s.1
      · rw [if_pos e, if_pos e, if_pos e, if_pos e]; exact ⟨rfl, rfl⟩
      · rw [if_neg e, if_neg e, if_neg e, if_neg e]; exact harr c (by dsimp only at hc; omega)
    · exact FR_trans (FR_trans (FR_trans (FR_up2 _ (by decide) _ _) (FR_up2 _ (by decide) _ _)) (FR_up2 _ (by decide) _ _)) (FR_up2 _ (by decide) _ _)
    · dsimp only
      rw [up2_col _ _ _ hj]
      simp (disch := decide) only [up2_row]
    · dsimp only
      simp (disch := decide) only [up2_row]
      rw [up2_at, if_neg (by omega)]
      simp (disch := decide) only [up2_row]
    · dsimp only
      simp (disch := decide) only [up2_row]
      rw [up2_eq]
/-- the class's plan as far as name k -/
def XPl (w n : Nat) (t o u : Nat → Nat) (S : Int32) (σ : Mem) (k : Nat) (τ : Mem) : Prop := FR [4, 22, 23, 24, 25] σ τ ∧ (∀ j, j ≠ 4 → τ 4 j = σ 4 j) ∧ XPs τ (clN (pcl w n t o u S) (Rs w n t o u).2.1 k) ∧ (∀ c, c < (clN (pcl w n t o u S) (Rs w n t o u).2.1 k).1 → gd (Rs w n t o u).2.1 (clN (pcl w n t o u S) (Rs w n t o u).2.1 k) (τ 24) c) ∧ ∀ i, i < k → pcl w n t o u S i = true → ∃ c, c < (clN (pcl w n t o u S) (Rs w n t o u).2.1 k).1 ∧ τ 25 i = nI c ∧ cfm (Rs w n t o u).2.1 (clN (pcl w n t o u S) (Rs w n t o u).2.1 k) c = (Rs w n t o u).2.1 i
theorem X_addCells {w n : Nat} {t o u : Nat → Nat} {S : Int32} {σ τ : Mem} (hW : WF w n t o u) (hn : n ≤ 30) (hC : XC w n t o u σ) {k : Nat} (hk : k < n) (hpk : pcl w n t o u S k = true) (hI : XPl w n t o u S σ k τ) : ok (fX4_addCells (nI k) τ) (XPl w n t o u S σ (k + 1)) := by
  have hw := hC.1.1.1
  obtain ⟨pk1, pk2, pk3⟩ := pcl_ok hW hn hw.1 hk hpk
  obtain ⟨F, hF⟩ : ∃ F, F = (Rs w n t o u).2.1 := ⟨_, rfl⟩
  obtain ⟨P, hPe⟩ : ∃ P, P = pcl w n t o u S := ⟨_, rfl⟩
  obtain ⟨hf, h4, hP, hgd, hcof⟩ := hI
  have hcofI : ∀ i, i < k → pcl w n t o u S i = true → ∃ c, c < (clN (pcl w n t o u S) (Rs w n t o u).2.1 k).1 ∧ τ 25 i = nI c ∧ cfm (Rs w n t o u).2.1 (clN (pcl w n t o u S) (Rs w n t o u).2.1 k) c = (Rs w n t o u).2.1 i := hcof
  have hCτ : ∀ {ρ : Mem}, FR [4, 22, 23, 24, 25] σ ρ → XC w n t o u ρ := fun q => XC_FR hC q (by decide)
  have hN3 := clN_le (pcl w n t o u S) (Rs w n t o u).2.1 k
  have d3 := fdeg_le ((Rs w n t o u).2.1 k)
  obtain ⟨s, hse⟩ : ∃ s, s = clN (pcl w n t o u S) (Rs w n t o u).2.1 k := ⟨_, rfl⟩
  have hCI0 : CI (pcl w n t o u S) (Rs w n t o u).2.1 n s := by rw [hse]; exact CI_N k (by omega)
  have hsucc : clN (pcl w n t o u S) (Rs w n t o u).2.1 (k + 1) = clC (Rs w n t o u).2.1 k (fdeg ((Rs w n t o u).2.1 k)) s := by
    rw [hse]
    show (if pcl w n t o u S k = true then _ else _) = _
    rw [if_pos hpk]
  rw [← hse] at hP hgd hcof hN3
  have fk := ((hCτ hf).2.2 k hk).2.2 (by omega)
  unfold fX4_addCells fX4_addCells_L62
  rw [X1_degree (by omega) fk, Option.bind_some]
  dsimp only
  have hCI : ∀ l, l ≤ fdeg ((Rs w n t o u).2.1 k) → CI (pcl w n t o u S) (Rs w n t o u).2.1 n (clC (Rs w n t o u).2.1 k l s) := fun l hl => CI_C hCI0 hk hpk l hl
  refine ok_bind (ok_mono (?_ : ok _ (XPl w n t o u S σ (k + 1))) (fun ρ h => ok_some h))
  refine ok_for' (enc := fun l (x : Int32 × Mem) => (x.1, nI l, x.2)) (fdeg ((Rs w n t o u).2.1 k)) (fun l x => FR [4, 22, 23, 24, 25] σ x.2 ∧ (∀ j, j ≠ 4 → x.2 4 j = σ 4 j) ∧ XPs x.2 (clC (Rs w n t o u).2.1 k l s) ∧ (∀ i, i < k → pcl w n t o u S i = true → ∃ c, c < (clC (Rs w n t o u).2.1 k l s).1 ∧ x.2 25 i = nI c ∧ cfm (Rs w n t o u).2.1 (clC (Rs w n t o u).2.1 k l s) c = (Rs w n t o u).2.1 i) ∧ ((l = 0 ∧ x.1 = -1 ∧ ∀ c, c < s.1 → gd (Rs w n t o u).2.1 s (x.2 24) c) ∨ (0 < l ∧ (∃ c, c < (clC (Rs w n t o u).2.1 k l s).1 ∧ x.2 25 k = nI c ∧ cfm (Rs w n t o u).2.1 (clC (Rs w n t o u).2.1 k l s) c = (Rs w n t o u).2.1 k) ∧ ∃ a, a < (clC (Rs w n t o u).2.1 k l s).1 ∧ x.1 = nI a ∧ cfm (Rs w n t o u).2.1 (clC (Rs w n t o u).2.1 k l s) a = fSh ((Rs w n t o u).2.1 k) (l - 1) ∧ (x.2 24 a = -2 ∨ gd (Rs w n t o u).2.1 (clC (Rs w n t o u).2.1 k l s) (x.2 24) a) ∧ ∀ c, c < (clC (Rs w n t o u).2.1 k l s).1 → c ≠ a → gd (Rs w n t o u).2.1 (clC (Rs w n t o u).2.1 k l s) (x.2 24) c))) (i0 := 0) (s0 := (-1, τ)) (Nat.zero_le _) ⟨hf, h4, hP, hcof, Or.inl ⟨rfl, rfl, hgd⟩⟩ ?_ ?_
  · rintro l ⟨ah, ρ⟩ hl ⟨hf2, h42, hP2, hcof2, hst⟩
    dsimp only at hf2 h42 hP2 hcof2 hst ⊢
    have hle := clC_le (Rs w n t o u).2.1 k s l
    unfold fX4_addCells_B14 fX4_addCells_L53
    rw [if_neg (nI_ge hl (by omega))]
    refine ok_bind (ok_mono (X_place hW hn (hCτ hf2) (hCI l (by omega)) hP2 hk hpk hl (by omega)) ?_)
    rintro ⟨r, ρ2⟩ ⟨c, rfl, c1, c2, c3, c4, c5, c6, c7⟩
    dsimp only at c3 c4 c5 c6 c7 ⊢
    have hs1 : clC (Rs w n t o u).2.1 k (l + 1) s = clA (Rs w n t o u).2.1 k l (clC (Rs w n t o u).2.1 k l s) := rfl
    obtain ⟨s1, hs1e⟩ : ∃ s1, s1 = clC (Rs w n t o u).2.1 k l s := ⟨_, rfl⟩
    rw [← hs1e] at hs1 hP2 hcof2 hst hle c1 c2 c3 c6 c7
    rw [hs1]
    obtain ⟨s2, hs2e⟩ : ∃ s2, s2 = clA (Rs w n t o u).2.1 k l s1 := ⟨_, rfl⟩
    have hCI1 := hCI l (by omega)
    have hCI2 := hCI (l + 1) (by omega)
    rw [hs1, ← hs2e] at hCI2
    rw [← hs1e] at hCI1
    have hle2 := clA_le (Rs w n t o u).2.1 k l s1
    have hold := fun c (hc : c < s1.1) => clA_old (Rs w n t o u).2.1 k l s1 hc
    have hgA : ∀ c N, c < s1.1 → gd (Rs w n t o u).2.1 s1 (ρ 24) c → N c = ρ 24 c → gd (Rs w n t o u).2.1 (clA (Rs w n t o u).2.1 k l s1) N c := fun c N hc hg hN => gd_A hc hg hN
    rw [← hs2e] at c1 c2 c3 hle2 hold hgA ⊢
    have hc90 : c < 90 := by omega
    have cofk : ∀ i, i < k → pcl w n t o u S i = true → ∃ c, c < s2.1 ∧ ρ2 25 i = nI c ∧ cfm (Rs w n t o u).2.1 s2 c = (Rs w n t o u).2.1 i := by
      intro i hi hpi
      obtain ⟨z, z1, z2, z3⟩ := hcof2 i hi hpi
      exact ⟨z, by omega, by rw [c4 25 (by decide)]; exact z2, by rw [(hold z z1).2.2]; exact z3⟩
    rcases hst with ⟨l0, ha, hg0⟩ | ⟨l0, ⟨z, z1, z2, z3⟩, a, a1, rfl, a2, a3, a4⟩
    · subst l0
      have hss : s1 = s := hs1e
      rw [if_pos ha, chk_in (by omega) (by decide), nI_clamp (by omega), nI_1]
      refine ok_some ⟨(nI c, up2 ρ2 25 k (nI c)), rfl, FR_trans hf2 (FR_trans (FR_mono c4 (by decide)) (FR_up2 _ (by decide) _ _)), fun j hj => ?_, ?_, fun i hi hpi => ?_, Or.inr ⟨by omega, ⟨c, c1, up2_eq _ _ _ _, c2⟩, c, c1, rfl, c2, ?_, fun c' hc' hne => ?_⟩⟩
      · dsimp only; rw [up2_row _ _ _ (by decide), c5 j hj]; exact h42 j hj
      · refine ⟨?_, fun c' hc' => ?_⟩
        · dsimp only; rw [up2_row _ _ _ (by decide)]; exact c3.1
        · dsimp only; rw [up2_row _ _ _ (by decide), up2_row _ _ _ (by decide)]; exact c3.2 c' hc'
      · obtain ⟨y, y1, y2, y3⟩ := cofk i hi hpi
        exact ⟨y, y1, by dsimp only; rw [up2_col _ _ _ (by omega)]; exact y2, y3⟩
      · dsimp only
        rw [up2_row _ _ _ (by decide)]
        rcases Nat.lt_or_ge c s1.1 with q | q
        · exact Or.inr (hgA c _ q (by rw [hss] at q ⊢; exact hg0 c q) (c6 c q))
        · exact Or.inl (c7 q)
      · dsimp only
        rw [up2_row _ _ _ (by decide)]
        have q : c' < s1.1 := by
          rcases Nat.lt_or_ge c' s1.1 with q | q
          · exact q
          · exfalso
            rcases Nat.lt_or_ge c s1.1 with q2 | q2
            · have : s2.1 = s1.1 := by
                rw [hs2e]; unfold clA; rw [pif_t ⟨c, q2, by rw [← (hold c q2).2.2]; exact c2⟩]
              omega
            · omega
        exact hgA c' _ q (by rw [hss] at q ⊢; exact hg0 c' q) (c6 c' q)
    · have ha90 : a < 90 := by omega
      rw [if_neg (nI_nm1 (by omega)), chk_in ha90 (by decide), nI_clamp (by omega), nI_1]
      have dega : fdeg (cfm (Rs w n t o u).2.1 s1 a) = fdeg ((Rs w n t o u).2.1 k) - (l - 1) := by rw [a2]; exact fdeg_sh pk2 (by omega)
      have degc : fdeg (cfm (Rs w n t o u).2.1 s2 c) = fdeg ((Rs w n t o u).2.1 k) - l := by rw [c2]; exact fdeg_sh pk2 (by omega)
      have hca : c ≠ a := fun e => by rw [e, (hold a a1).2.2, dega] at degc; omega
      have hN : ∀ c', c' < s1.1 → c' ≠ a → up2 ρ2 24 a (nI c) 24 c' = ρ 24 c' := fun c' hc' hne => by rw [up2_col _ _ _ hne]; exact c6 c' hc'
      have hga : gd (Rs w n t o u).2.1 s2 (up2 ρ2 24 a (nI c) 24) a := by
        refine ⟨fun q => ?_, fun _ => ⟨c, c1, up2_eq _ _ _ _, ?_⟩⟩
        · rw [(hold a a1).2.2, dega] at q; omega
        · rw [c2, (hold a a1).2.2, a2, fSh_fSh, show 1 + (l - 1) = l by omega]
      refine ok_some ⟨(nI c, up2 ρ2 24 a (nI c)), rfl, FR_trans hf2 (FR_trans (FR_mono c4 (by decide)) (FR_up2 _ (by decide) _ _)), fun j hj => ?_, ?_, fun i hi hpi => ?_, Or.inr ⟨by omega, ⟨z, by omega, ?_, by rw [(hold z z1).2.2]; exact z3⟩, c, c1, rfl, by rw [Nat.add_sub_cancel]; exact c2, ?_, fun c' hc' hne => ?_⟩⟩
      · dsimp only; rw [up2_row _ _ _ (by decide), c5 j hj]; exact h42 j hj
      · refine ⟨?_, fun c' hc' => ?_⟩
        · dsimp only; rw [up2_row _ _ _ (by decide)]; exact c3.1
        · dsimp only; rw [up2_row _ _ _ (by decide), up2_row _ _ _ (by decide)]; exact c3.2 c' hc'
      · obtain ⟨y, y1, y2, y3⟩ := cofk i hi hpi
        exact ⟨y, y1, by dsimp only; rw [up2_row _ _ _ (by decide)]; exact y2, y3⟩
      · dsimp only; rw [up2_row _ _ _ (by decide), c4 25 (by decide)]; exact z2
      · dsimp only
        rcases Nat.lt_or_ge c s1.1 with q | q
        · exact Or.inr (hgA c _ q (a4 c q hca) (hN c q hca))
        · rw [up2_col _ _ _ hca]; exact Or.inl (c7 q)
      · dsimp only
        by_cases e : c' = a
        · rw [e]; exact hga
        · have q : c' < s1.1 := by
            rcases Nat.lt_or_ge c' s1.1 with q | q
            · exact q
            · exfalso
              rcases Nat.lt_or_ge c s1.1 with q2 | q2
              · have : s2.1 = s1.1 := by
                  rw [hs2e]; unfold clA; rw [pif_t ⟨c, q2, by rw [← (hold c q2).2.2]; exact c2⟩]
                omega
              · omega
          exact hgA c' _ q (a4 c' q e) (hN c' q e)
  · rintro ⟨ah, ρ⟩ ⟨hf2, h42, hP2, hcof2, hst⟩
    dsimp only at hf2 h42 hP2 hcof2 hst ⊢
    unfold fX4_addCells_B14
    rw [if_pos (Int32.le_refl _)]
    refine ok_some ?_
    show XPl w n t o u S σ (k + 1) ρ
    rcases hst with ⟨l0, -⟩ | ⟨l0, ⟨z, z1, z2, z3⟩, a, a1, -, a2, a3, a4⟩
    · omega
    · unfold XPl
      rw [hsucc]
      have dega : fdeg (cfm (Rs w n t o u).2.1 (clC (Rs w n t o u).2.1 k (fdeg ((Rs w n t o u).2.1 k)) s) a) = 1 := by
        rw [a2, fdeg_sh pk2 (by omega)]; omega
      refine ⟨hf2, h42, hP2, fun c hc => ?_, fun i hi hpi => ?_⟩
      · by_cases e : c = a
        · rw [e]
          rcases a3 with q | q
          · exact ⟨fun _ => q, fun q2 => by omega⟩
          · exact q
        · exact a4 c hc e
      · by_cases e : i = k
        · rw [e]; exact ⟨z, z1, z2, z3⟩
        · exact hcof2 i (by omega) hpi
/-- what the class's plan holds -/
def XP (w n : Nat) (t o u : Nat → Nat) (S : Int32) (σ : Mem) : Prop := σ 4 3 = ndd w n t o u S ∧ XPs σ (cll w n t o u S) ∧ (∀ c, c < (cll w n t o u S).1 → gd (Rs w n t o u).2.1 (cll w n t o u S) (σ 24) c) ∧ ∀ i, i < n → pcl w n t o u S i = true → ∃ c, c < (cll w n t o u S).1 ∧ σ 25 i = nI c ∧ cfm (Rs w n t o u).2.1 (cll w n t o u S) c = (Rs w n t o u).2.1 i
/-- what is asked -/
def askd (σ : Mem) : Int32 := if σ 3 8 = -1 then σ 3 7 else ((σ 3 7) ||| (1 <<< ((σ 3 9) &&& 31))) ||| (1 <<< ((σ 3 10) &&& 31))
theorem X_asked (σ : Mem) : fX3_asked σ = some (askd σ, σ) := by
  unfold fX3_asked askd
  split <;> rfl
theorem X_plan {w n : Nat} {t o u : Nat → Nat} {σ : Mem} (hW : WF w n t o u) (hN : NX n t o u σ) (hC : XC w n t o u σ) (hs : lowb n (askd σ)) (hc : σ 4 9 = σ 3 11 → σ 4 10 = σ 3 12 → XP w n t o u (askd σ) σ) :
    ok (fX4_refresh σ) (fun τ => XP w n t o u (askd σ) τ ∧ FR [4, 22, 23, 24, 25] σ τ ∧ τ 4 9 = σ 3 11 ∧ τ 4 10 = σ 3 12) := by
  have h30 := hN.1
  have main : ok (fX4_refresh_L29 σ) (fun τ => XP w n t o u (askd σ) τ ∧ FR [4, 22, 23, 24, 25] σ τ ∧ τ 4 9 = σ 3 11 ∧ τ 4 10 = σ 3 12) := by
    unfold fX4_refresh_L29 fX4_refresh_L114
    obtain ⟨σ1, hσ1⟩ : ∃ s, s = up2 (up2 σ 4 9 (σ 3 11)) 4 10 ((up2 σ 4 9 (σ 3 11)) 3 12) := ⟨_, rfl⟩
    rw [← hσ1]
    have hf1 : FR [4] σ σ1 := by rw [hσ1]; exact FR_trans (FR_up2 _ (by decide) _ _) (FR_up2 _ (by decide) _ _)
    have e9 : σ1 4 9 = σ 3 11 := by rw [hσ1, up2_col _ _ _ (by decide), up2_eq]
    have e10 : σ1 4 10 = σ 3 12 := by rw [hσ1, up2_eq, up2_row _ _ _ (by decide)]
    have ea : askd σ1 = askd σ := by unfold askd; rw [hf1 3 (by decide)]
    have hN1 : NX n t o u σ1 := NX_FR hN hf1 (by decide) (by decide) (by decide) (by decide)
    have hC1 : XC w n t o u σ1 := XC_FR hC hf1 (by decide)
    rw [X_asked, Option.bind_some, ea]
    dsimp only
    rw [X_neededFor hW hN1 hC1 hs, Option.bind_some]
    dsimp only
    obtain ⟨S, hS⟩ : ∃ S, S = askd σ := ⟨_, rfl⟩
    rw [← hS]
    obtain ⟨σ2, hσ2⟩ : ∃ s, s = up2 (up2 σ1 4 3 (ndd w n t o u S)) 4 4 0 := ⟨_, rfl⟩
    rw [← hσ2]
    have hf2 : FR [4] σ1 σ2 := by rw [hσ2]; exact FR_trans (FR_up2 _ (by decide) _ _) (FR_up2 _ (by decide) _ _)
    have g3 : σ2 4 3 = ndd w n t o u S := by rw [hσ2, up2_col _ _ _ (by decide), up2_eq]
    have g9 : σ2 4 9 = σ 3 11 := by rw [hσ2, up2_col _ _ _ (by decide), up2_col _ _ _ (by decide), e9]
    have g10 : σ2 4 10 = σ 3 12 := by rw [hσ2, up2_col _ _ _ (by decide), up2_col _ _ _ (by decide), e10]
    have g4 : σ2 4 4 = nI 0 := by rw [hσ2, up2_eq]; rfl
    have hN2 : NX n t o u σ2 := NX_FR hN1 hf2 (by decide) (by decide) (by decide) (by decide)
    have hC2 : XC w n t o u σ2 := XC_FR hC1 hf2 (by decide)
    refine ok_bind (ok_mono (?_ : ok _ (XPl w n t o u S σ2 n)) ?_)
    · refine ok_for' (enc := fun k (τ : Mem) => (nI k, τ)) n (fun k τ => XPl w n t o u S σ2 k τ) (i0 := 0) (s0 := σ2) (Nat.zero_le _) ⟨FR_refl _ _, fun _ _ => rfl, ⟨g4, fun c hc => absurd hc (Nat.not_lt_zero c)⟩, fun c hc => absurd hc (Nat.not_lt_zero c), fun i hi => absurd hi (Nat.not_lt_zero i)⟩ ?_ ?_
      · intro k τ hk hI
        dsimp only
        have hNτ : NX n t o u τ := NX_FR hN2 hI.1 (by decide) (by decide) (by decide) (by decide)
        have hCτ : XC w n t o u τ := XC_FR hC2 hI.1 (by decide)
        have e43 : τ 4 3 = ndd w n t o u S := by rw [hI.2.1 3 (by decide)]; exact g3
        have hno : pcl w n t o u S k ≠ true → XPl w n t o u S σ2 (k + 1) τ := by
          intro hp
          have hcl : clN (pcl w n t o u S) (Rs w n t o u).2.1 (k + 1) = clN (pcl w n t o u S) (Rs w n t o u).2.1 k := by
            show (if pcl w n t o u S k = true then _ else _) = _
            rw [if_neg hp]
          unfold XPl
          rw [hcl]
          refine ⟨hI.1, hI.2.1, hI.2.2.1, hI.2.2.2.1, fun i hi hpi => hI.2.2.2.2 i ?_ hpi⟩
          by_cases e : i = k
          · rw [e] at hpi; exact absurd hpi hp
          · omega
        unfold fX4_refresh_B73 fX4_refresh_L108
        rw [hNτ.2.1, if_neg (nI_ge hk (by omega)), isInE _ (by omega), Option.bind_some, nI_1, e43]
        dsimp only
        by_cases cb : bt (ndd w n t o u S) k = true
        · rw [if_pos cb, if_neg (by decide), X_isOfCells hW hNτ hCτ hk, Option.bind_some]
          dsimp only
          by_cases cc : t k = 4 ∧ (Rs w n t o u).2.2 k = 1
          · rw [if_pos cc, if_neg (by decide)]
            refine ok_bind (ok_mono (X_addCells hW h30 hC2 hk (pcl_iff.mpr ⟨cb, cc⟩) hI) ?_)
            intro ρ hρ
            exact ok_some ⟨ρ, rfl, hρ⟩
          · rw [if_neg cc, if_pos rfl]
            exact ok_some ⟨τ, rfl, hno (fun q => cc (pcl_iff.mp q).2)⟩
        · rw [if_neg cb, if_pos rfl]
          exact ok_some ⟨τ, rfl, hno (fun q => cb (pcl_iff.mp q).1)⟩
      · intro τ hI
        dsimp only
        unfold fX4_refresh_B73
        have f3 : τ 3 4 = nI n := by rw [hI.1 3 (by decide)]; exact hN2.2.1
        rw [f3, if_pos (Int32.le_refl _)]
        exact ok_some hI
    · intro τ hI
      refine ok_some ⟨⟨by rw [hI.2.1 3 (by decide)]; exact g3, hI.2.2.1, hI.2.2.2.1, hI.2.2.2.2⟩, FR_trans (FR_mono hf1 (by decide)) (FR_trans (FR_mono hf2 (by decide)) hI.1), by rw [hI.2.1 9 (by decide)]; exact g9, by rw [hI.2.1 10 (by decide)]; exact g10⟩
  unfold fX4_refresh
  by_cases c1 : σ 4 9 = σ 3 11
  · rw [if_pos c1]
    by_cases c2 : σ 4 10 = σ 3 12
    · rw [if_pos c2]
      exact ok_some ⟨hc c1 c2, FR_refl _ _, c1, c2⟩
    · rw [if_neg c2]; exact main
  · rw [if_neg c1]; exact main
