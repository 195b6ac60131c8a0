/-! runReduced, seen -/
theorem P_runReduced {w n : Nat} {t o u : Nat → Nat} {σX σM : Mem} (hW : WF w n t o u) (hX : CX w n t o u σX) (hM : CM w n t o u σM) (hp : PXc w n t o u σX) (he : askEq σX σM) (ho : askOk n σX) (hs : seenEq σX σM) (a b c : Int32) : Same2 w n t o u σX σM (fX7_runReduced a b c σX) (fX8_runReduced a b c σM) := by
  have hw := hX.2.1.1.1
  have h30 := hX.1.1
  by_cases c1 : σX 3 8 = -1
  · refine Same2_of (-1) hs ?_ ?_
    · unfold fX7_runReduced
      rw [if_pos c1]
      exact ok_some ⟨rfl, KX_Q (QX_refl hX) hp, rfl, rfl⟩
    · unfold fX8_runReduced fX8_runs
      have hT := CM_th hM
      rw [th_def]
      refine ok_bind (ok_mono (CM_gives hT.2.1 a b c) ?_)
      rintro τ ⟨q1, -⟩
      have q := QM_trans hT q1
      rw [if_pos (show τ 0 8 = -1 by rw [q.2.2 8 (by decide) (by decide), he.2.1]; exact c1), Option.bind_some]
      exact ok_some ⟨rfl, KM_Q q, q.2.2 25 (by decide) (by decide), q.1 15 (by decide)⟩
  · obtain ⟨x, y, hx, hy, e9, e10⟩ : ∃ x y, x < n ∧ y < n ∧ σX 3 9 = nI x ∧ σX 3 10 = nI y := by
      rcases ho.2 with q | ⟨-, q⟩
      · exact absurd q c1
      · exact q
    obtain ⟨S, hSd⟩ : ∃ S, S = askd σX := ⟨_, rfl⟩
    have hS : lowb n S := by rw [hSd]; exact lowb_ask h30 ho
    have eS : S = ((σX 3 7) ||| bitI x) ||| bitI y := by
      rw [hSd]
      unfold askd
      rw [if_neg c1, e9, e10]; rfl
    have na : bt (ndd w n t o u S) x = true := nd_sub (by rw [eS, b_or, b_or, bt_bitI (by omega) (by omega), decide_eq_true rfl]; simp)
    have nb : bt (ndd w n t o u S) y = true := nd_sub (by rw [eS, b_or, bt_bitI (i := y) (by omega) (by omega), decide_eq_true rfl]; simp)
    have nsh : ∀ k, k < n → bt (σX 3 7) k = true → bt (ndd w n t o u S) k = true := fun k hk h => nd_sub (by rw [eS, b_or, b_or, h]; rfl)
    have hX1 : ok (fX7_runReduced a b c σX) (fun p => p.1 = (grd w n t o u (gv w a b c) (σX 3 7) (σX 3 8) x y).1 ∧ KX w n t o u σX p.2 ∧ SX p.2 (grd w n t o u (gv w a b c) (σX 3 7) (σX 3 8) x y).2 ∧ ∀ i, i < n → pcl w n t o u S i = true → ∃ c, c < (cll w n t o u S).1 ∧ cfm (Rs w n t o u).2.1 (cll w n t o u S) c = (Rs w n t o u).2.1 i) := by
      unfold fX7_runReduced
      rw [if_neg c1]
      refine X_ready hW hX hp ho (fun τ q1 q2 q3 q4 => ?_)
      rw [← hSd] at q3
      have hex : ∀ i, i < n → pcl w n t o u S i = true → ∃ c, c < (cll w n t o u S).1 ∧ cfm (Rs w n t o u).2.1 (cll w n t o u S) c = (Rs w n t o u).2.1 i := by
        intro i hi h
        obtain ⟨c, h1, -, h2⟩ := q3.2.2.2 i hi h
        exact ⟨c, h1, h2⟩
      have m3 : τ 3 = σX 3 := q4 3 (by decide)
      refine ok_bind (ok_mono (X_give6 hw.2 q1.2.1.2.2.1 a b c) ?_)
      rintro τ2 ⟨f2, g2⟩
      refine ok_bind (ok_mono (X_give2 (PI_FR q1.2.1.2.1 f2 (by decide) (by decide) (by decide) (by decide) (by decide) (by decide) (by decide) (by decide)).1 a b c) ?_)
      rintro τ3 ⟨f3, g3⟩
      have F : FR [14, 26] τ τ3 := FR_trans (FR_mono f2 (by decide)) (FR_mono f3 (by decide))
      have m33 : τ3 3 = σX 3 := by rw [F 3 (by decide), m3]
      refine ok_bind (ok_mono (X_goReduced (g := gv w a b c) hW (NX_F4 q1.2.1.1 F (by decide)) (XC_FR q2 F (by decide)) (XP_FR q3 F (by decide)) hS (by rw [m33]; exact hX.2.2.1) (gv_lt w a b c) (by rw [f3 26 (by decide)]; exact g2) g3 hx hy (by rw [m33]; exact e9) (by rw [m33]; exact e10) na nb (by rw [m33]; exact nsh)) ?_)
      rw [m33]
      rintro ⟨r, ρ⟩ ⟨p1, f4, p2⟩
      refine ok_some ⟨p1, KX_trans q1 (KX_FR q1.2.1 q1.2.2.1 (FR_trans (FR_mono F (S' := [14, 26, 6, 27, 28, 29, 30, 31]) (by decide)) (FR_mono f4 (by decide))) (by decide)), p2, hex⟩
    obtain ⟨⟨rX, τX⟩, ex, x1, x2, x3, hex⟩ := hX1
    have hM1 : ok (fX8_runReduced a b c σM) (fun p => p.1 = (grd w n t o u (gv w a b c) (σX 3 7) (σX 3 8) x y).1 ∧ KM w n t o u σM p.2 ∧ SM p.2 (grd w n t o u (gv w a b c) (σX 3 7) (σX 3 8) x y).2) := by
      unfold fX8_runReduced fX8_runs
      have hT := CM_th hM
      rw [th_def]
      refine ok_bind (ok_mono (CM_gives hT.2.1 a b c) ?_)
      rintro τ ⟨q1, q2⟩
      have q := QM_trans hT q1
      have m : ∀ j, j ≠ 11 → j ≠ 2 → τ 0 j = σM 0 j := q.2.2
      have ea : askm τ = S := by
        rw [hSd, ← ask_eq he]
        unfold askm
        rw [m 7 (by decide) (by decide), m 8 (by decide) (by decide), m 9 (by decide) (by decide), m 10 (by decide) (by decide)]
      rw [if_neg (show ¬ τ 0 8 = -1 by rw [m 8 (by decide) (by decide), he.2.1]; exact c1), if_neg (by decide)]
      refine ok_bind (ok_bind (ok_mono (M_reduces hW q.2.1 (by rw [ea]; exact hS)) ?_))
      rintro τ1 ⟨p1, p2, p3, p4, p5⟩
      rw [ea] at p1
      have G1 := MG_F q2 p4 (by decide)
      refine ok_bind (ok_mono (M_fillCells h30 p2.1 G1 p1 1) ?_)
      rintro τ2 ⟨f2, q5⟩
      have F0 : τ2 0 = τ1 0 := f2 0 (by decide)
      have mm : ∀ j, j ≠ 2 → j ≠ 11 → j ≠ 17 → j ≠ 20 → τ2 0 j = σM 0 j := by
        intro j h2 h11 h17 h20
        rw [F0, p5 j h11 h17 h20]; exact m j h11 h2
      have m7 : τ2 0 7 = σX 3 7 := by rw [mm 7 (by decide) (by decide) (by decide) (by decide)]; exact he.1
      have m8 : τ2 0 8 = σX 3 8 := by rw [mm 8 (by decide) (by decide) (by decide) (by decide)]; exact he.2.1
      have m9 : τ2 0 9 = nI x := by rw [mm 9 (by decide) (by decide) (by decide) (by decide), he.2.2.1]; exact e9
      have m10 : τ2 0 10 = nI y := by rw [mm 10 (by decide) (by decide) (by decide) (by decide), he.2.2.2]; exact e10
      refine ok_mono (M_goReduced (g := gv w a b c) hW (NM_F4 p3.1 f2 (by decide)) (MC_FR p2 f2 (by rw [F0]) (by decide) (by decide) (by decide) (by decide)) (gv_lt w a b c) (MG_F G1 f2 (by decide)) (MP_FR p1 f2 (by decide) (by rw [F0]) (by rw [F0])) hS hex q5 hx hy m9 m10 na nb (by rw [m7]; exact nsh)) ?_
      rw [m7, m8]
      rintro ⟨r, ρ⟩ ⟨r1, r2, r3, r4⟩
      refine ok_some ⟨r1, ?_, r4⟩
      have k1 : KM w n t o u τ τ1 := ⟨FR_mono p4 (by decide), p3, fun j h2 h11 h17 h20 h25 => p5 j h11 h17 h20⟩
      have k2 : KM w n t o u τ1 ρ := KM_FR p3 (FR_trans (FR_mono f2 (S' := [0, 12, 13, 14, 15]) (by decide)) r2) (by decide) (fun j _ _ _ h25 => (r3 j h25).trans (by rw [F0]))
      exact KM_trans (KM_Q q) (KM_trans k1 k2)
    obtain ⟨⟨rM, τM⟩, em, m1, m2, m3⟩ := hM1
    dsimp only at x1 x2 x3 m1 m2 m3
    exact ⟨rX, τX, τM, ex, by rw [em, m1, x1], x2, m2, seen_of x3 m3⟩
theorem P_seen {w n : Nat} {t o u : Nat → Nat} {σX σM : Mem} (hX : CX w n t o u σX) (hM : CM w n t o u σM) (hp : PXc w n t o u σX) (hs : seenEq σX σM) (a : Int32) : Same2 w n t o u σX σM (fX7_seen a σX) (fX8_seen a σM) := by
  obtain ⟨m, hm, e1, e2, e3⟩ := hs
  have hT := CM_th hM
  have t25 : th σM 0 25 = nI m := by rw [← e2]; exact up2_col _ _ _ (by decide)
  have t15 : th σM 15 = σM 15 := up2_row _ _ _ (by decide)
  have fin : ∀ r, fX7_seen a σX = some (r, σX) → fX8_seen a σM = some (r, th σM) → Same2 w n t o u σX σM (fX7_seen a σX) (fX8_seen a σM) := fun r h1 h2 => ⟨r, σX, th σM, h1, h2, KX_Q (QX_refl hX) hp, KM_Q hT, m, hm, e1, t25, fun i hi => by rw [t15]; exact e3 i hi⟩
  by_cases c1 : a = -1
  · refine fin (nI m) ?_ ?_
    · unfold fX7_seen
      rw [if_pos c1, e1]
    · unfold fX8_seen fX8_seen_L41
      rw [if_pos c1, th_def, t25]
  · by_cases d : a < 0
    · refine fin (-1) ?_ ?_
      · unfold fX7_seen fX7_seen_L28
        rw [if_neg c1, if_pos d]
      · unfold fX8_seen fX8_seen_L41 fX8_isIn fX8_isIn_L14 fX8_isIn_L15
        rw [if_neg c1, th_def, if_pos d]
        rfl
    · obtain ⟨i, hi0, rfl⟩ := nI_of d
      by_cases hi : i < m
      · refine fin (σX 31 i) ?_ ?_
        · unfold fX7_seen
          rw [if_neg c1, if_neg d, e1, if_pos (nI_lt hi (by omega)), chk_in (by omega) (by decide), nI_clamp (by omega)]
        · unfold fX8_seen fX8_seen_L41
          have hin' : ¬ (nI i < 0 ∨ nI (m - 1) < nI i) := by
            rintro (z | z)
            · exact d z
            · exact nI_nlt (by omega) (by omega) z
          rw [if_neg c1, th_def, t25, nI_m1 (by omega), isInM (by omega), Option.bind_some]
          dsimp only
          rw [if_neg hin', if_neg (by decide), chk_in (by omega) (by decide), nI_clamp (by omega), t15, e3 i hi]
      · refine fin (-1) ?_ ?_
        · unfold fX7_seen fX7_seen_L28
          rw [if_neg c1, if_neg d, e1, if_neg (nI_nlt (by omega) (by omega))]
        · unfold fX8_seen fX8_seen_L41
          rw [if_neg c1, th_def, t25]
          rcases Nat.eq_zero_or_pos m with m0 | m0
          · unfold fX8_isIn fX8_isIn_L14 fX8_isIn_L15
            rw [if_neg d, if_pos (by
              rw [m0]
              exact Int32.not_le.mp (fun h => d (Int32.lt_of_le_of_lt h (by decide))))]
            rfl
          · rw [nI_m1 m0, isInM (by omega), Option.bind_some]
            dsimp only
            rw [if_pos (Or.inr (nI_lt (by omega) (by omega))), if_pos rfl]
