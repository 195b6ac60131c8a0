/-! the start -/
def cnx (m : Nat) : Nat := fb_ct (fun x => decide (ex x ≤ 6)) m
theorem cnx_pl : ∀ m, m < 343 → ex m ≤ 6 → cnx m = pl m := by decide +kernel
theorem cnx_343 : cnx 343 = 84 := by decide +kernel
theorem cnx_le : ∀ m, m < 344 → cnx m ≤ 84 := by decide +kernel
theorem ex_I : ∀ m, m < 343 → ((nI m - nI m / 7 * 7) + ((nI m / 7) - (nI m / 7) / 7 * 7)) + (nI m / 49) = nI (ex m) := by decide +kernel
theorem ex_18 {m : Nat} (h : m < 343) : ex m ≤ 18 := by unfold ex; omega
theorem X_tables (σ : Mem) : ok (fX2_init_L42 σ) (fun τ => τ 0 = σ 0 ∧ ∀ p, p < 84 → τ 1 p = nI (cd p) ∧ τ 2 p = nI (ex (cd p)) ∧ τ 3 (cd p) = nI p) := by
  have key : ok (loop (fun a => fX2_init_B46 a.1 a.2.1 a.2.2) (0, 0, σ)) (fun τ => τ 0 = σ 0 ∧ ∀ p, p < 84 → τ 1 p = nI (cd p) ∧ τ 2 p = nI (ex (cd p)) ∧ τ 3 (cd p) = nI p) := by
    refine ok_for' (enc := fun m (τ : Mem) => (nI (cnx m), nI m, τ)) 343 (fun m τ => τ 0 = σ 0 ∧ ∀ p, p < cnx m → τ 1 p = nI (cd p) ∧ τ 2 p = nI (ex (cd p)) ∧ τ 3 (cd p) = nI p) (i0 := 0) (s0 := σ) (Nat.zero_le _) ⟨rfl, fun p hp => absurd hp (Nat.not_lt_zero _)⟩ ?_ ?_
    · rintro m τ hm ⟨q0, q⟩
      have e18 := ex_18 hm
      have hs : cnx (m + 1) = cnx m + if ex m ≤ 6 then 1 else 0 := by
        unfold cnx
        rw [fb_ct_succ]
        by_cases c : ex m ≤ 6
        · simp [c]
        · simp [c]
      dsimp only
      unfold fX2_init_B46 fX2_init_L110
      refine ok_neg (show ¬ nI 343 ≤ nI m from nI_ge hm (by omega)) ?_
      rw [ex_I m hm]
      by_cases c : ex m ≤ 6
      · refine ok_neg (show ¬ nI 6 < nI (ex m) from nI_nlt c (by omega)) ?_
        have ep := cnx_pl m hm c
        obtain ⟨p1, p2⟩ := pl_ok m hm c
        rw [if_pos c] at hs
        refine ok_neg (show ¬ nI 84 ≤ nI (cnx m) from nI_ge (by omega) (by omega)) ?_
        rw [chk_in (by omega) (by decide), chk_in (by omega) (by decide), chk_in (by omega) (by decide), nI_clamp (by omega), nI_clamp (by omega), nI_1, nI_1, ← hs]
        refine ok_some ⟨_, rfl, ?_, fun p hp => ?_⟩
        · rw [up2_row _ _ _ (show (0 : Nat) ≠ 3 by decide), up2_row _ _ _ (show (0 : Nat) ≠ 2 by decide), up2_row _ _ _ (show (0 : Nat) ≠ 1 by decide)]
          exact q0
        · rw [up2_row _ _ _ (show (1 : Nat) ≠ 3 by decide), up2_row _ _ _ (show (1 : Nat) ≠ 2 by decide), up2_row _ _ _ (show (2 : Nat) ≠ 3 by decide), up2_at, up2_at, up2_at, up2_row _ _ _ (show (2 : Nat) ≠ 1 by decide), up2_row _ _ _ (show (3 : Nat) ≠ 2 by decide), up2_row _ _ _ (show (3 : Nat) ≠ 1 by decide)]
          by_cases cp : p = cnx m
          · have em : cd p = m := by rw [cp, ep]; exact p2
            rw [if_pos cp, if_pos cp, if_pos em, em, cp]
            exact ⟨rfl, rfl, rfl⟩
          · have hp' : p < cnx m := by omega
            have em : cd p ≠ m := by
              intro e
              have : p = pl m := cd_inj (by omega) p1 (e.trans p2.symm)
              omega
            rw [if_neg cp, if_neg cp, if_neg em]
            exact q p hp'
      · refine ok_pos (show nI 6 < nI (ex m) from nI_lt (by omega) (by omega)) ?_
        rw [if_neg c] at hs
        have hs : cnx (m + 1) = cnx m := hs
        rw [nI_1]
        refine ok_some ⟨τ, by rw [hs], q0, ?_⟩
        rw [hs]
        exact q
    · rintro τ ⟨q0, q⟩
      dsimp only
      unfold fX2_init_B46
      refine ok_pos (show nI 343 ≤ nI 343 from Int32.le_refl _) ?_
      rw [cnx_343] at q
      exact ok_some ⟨q0, q⟩
  unfold fX2_init_L42 fX2_init_L116
  refine ok_bind (ok_mono key ?_)
  intro τ h
  exact ok_some h
theorem kept_w : ∀ w, w < 17 → 4 ≤ w → (1 : Int32) <<< (nI w &&& 31) = nI (2 ^ w) ∧ nI (2 ^ w) - 1 = nI (2 ^ w - 1) := by decide +kernel
theorem init_w (v : Int32) : ∃ w, (4 ≤ w ∧ w ≤ 16) ∧ maskX v = nI (2 ^ w - 1) ∧ modM v = nI (2 ^ w) := by
  have : ∃ w, (4 ≤ w ∧ w ≤ 16) ∧ (if 4 ≤ v then (if v ≤ 16 then v else 16) else 4) = nI w := by
    by_cases c4 : 4 ≤ v
    · rw [if_pos c4]
      by_cases c16 : v ≤ 16
      · rw [if_pos c16]
        obtain ⟨j, hj, rfl⟩ := nI_of2 (M := 16) (n := 16) rfl (fun h => absurd (Int32.lt_of_le_of_lt c4 h) (by decide)) c16
        refine ⟨j, ⟨?_, hj⟩, rfl⟩
        rcases Nat.lt_or_ge j 4 with h | h
        · exact absurd (show nI 4 ≤ nI j from c4) (nI_ge h (by decide))
        · exact h
      · rw [if_neg c16]; exact ⟨16, by decide, rfl⟩
    · rw [if_neg c4]; exact ⟨4, by decide, rfl⟩
  obtain ⟨w, hw, e⟩ := this
  obtain ⟨k1, k2⟩ := kept_w w (by omega) hw.1
  have ek : keptX v = nI w := by
    rw [← e]
    show (if 4 < (if v < 16 then v else 16) then (if v < 16 then v else 16) else 4) = _
    have i4 : (4 : Int32).toInt = 4 := rfl
    have i16 : (16 : Int32).toInt = 16 := rfl
    by_cases c : v < 16
    · rw [if_pos c]
      have c16 : v ≤ 16 := by rw [Int32.le_iff_toInt_le]; rw [Int32.lt_iff_toInt_lt] at c; omega
      rw [if_pos c16]
      by_cases d : 4 < v
      · rw [if_pos d, if_pos (by rw [Int32.le_iff_toInt_le]; rw [Int32.lt_iff_toInt_lt] at d; omega)]
      · rw [if_neg d]
        by_cases d4 : 4 ≤ v
        · rw [if_pos d4]
          apply Int32.toInt_inj.mp
          rw [Int32.le_iff_toInt_le] at d4
          rw [Int32.lt_iff_toInt_lt] at d
          omega
        · rw [if_neg d4]
    · rw [if_neg c, if_pos (by decide), if_pos (by rw [Int32.le_iff_toInt_le]; rw [Int32.lt_iff_toInt_lt] at c; omega)]
      by_cases d : v ≤ 16
      · rw [if_pos d]
        apply Int32.toInt_inj.mp
        rw [Int32.le_iff_toInt_le] at d
        rw [Int32.lt_iff_toInt_lt] at c
        omega
      · rw [if_neg d]
  refine ⟨w, hw, ?_, ?_⟩
  · show (1 <<< (keptX v &&& 31)) - 1 = _
    rw [ek, k1, k2]
  · unfold modM
    rw [e]; exact k1
theorem pureClaim : PureClaim := by
  refine ⟨Rel, fun v => ?_, rel_sim⟩
  obtain ⟨τ, hτ, q0, q⟩ := X_tables (mono0 (maskX v))
  obtain ⟨w, hw, e1, e2⟩ := init_w v
  refine ⟨τ, hτ, w, 0, ?_⟩
  have z15 : initX v τ 15 = fun _ => 0 := rfl
  have z16 : initX v τ 16 = fun _ => 0 := rfl
  have m0 : initX v τ 2 0 = maskX v := by
    show τ 0 0 = maskX v
    rw [q0]; rfl
  refine ⟨⟨hw, by decide, rfl, e1, fun i hi => absurd hi (Nat.not_lt_zero _), rfl, by show 0 ≤ 3; decide, rfl, fun i _ => b_0 i, Or.inl ⟨rfl, rfl, rfl⟩⟩, ⟨rfl, e2, fun i hi => absurd hi (Nat.not_lt_zero _), rfl, rfl, rfl, rfl⟩, ⟨⟨hw, e1, m0.trans e1, e1, fun p hp => q p hp⟩, fun p hp => ⟨0, by decide, by rw [z16]; rfl, fun _ _ _ => by rw [z15]⟩, OkP_0 w, fun p hp => by rw [z15]; rfl, by rw [z16, sz_0f]; rfl⟩, fun h => absurd (show (0 : Int32) = 1 from h) (by decide), fun h => absurd rfl h, fun h => absurd (show (0 : Int32) = 1 from h) (by decide), ⟨0, by decide, rfl, rfl, fun i hi => absurd hi (Nat.not_lt_zero _)⟩, 1, 0, 0, 1, 0, rfl, rfl, rfl, rfl, rfl, by decide, by decide, by decide, by decide, by decide⟩
