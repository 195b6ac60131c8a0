def rb (u : Nat → Nat) (i : Nat) : Nat → Nat
  | 0 => i
  | s + 1 => u (rb u i s)
theorem rb_in {w n : Nat} {t o u : Nat → Nat} (hW : WF w n t o u) (hn : n ≤ 30) {i : Nat} (hi : i < n) (h3 : (Rs w n t o u).2.2 i = 3) : ∀ s, Cy (eg t o u) n i (rb u i s) = true
  | 0 => Cy_iff.mpr (Or.inl rfl)
  | s + 1 => (K_step hW hn hi h3 (rb_in hW hn hi h3 s)).2.2
theorem X_roundBy {w n : Nat} {t o u : Nat → Nat} {σ : Mem} (hW : WF w n t o u) (hN : NX n t o u σ) (hC : XC w n t o u σ) {i m : Nat} (hi : i < n) (hm : m < 2 ^ 31) (h3 : (Rs w n t o u).2.2 i = 3) : fX0_roundBy (nI i) (nI m) σ = some (nI (rb u i (m % fb_ct (bt (cyv (eg t o u) n i)) 30)), σ) := by
  have h30 := hN.1
  obtain ⟨b1, b2⟩ := ct_cy hW h30 hi
  have b3 := fb_ct_le (bt (cyv (eg t o u) n i)) 30
  obtain ⟨L, hL⟩ : ∃ L, L = fb_ct (bt (cyv (eg t o u) n i)) 30 := ⟨_, rfl⟩
  rw [← hL] at b1 b2 b3 ⊢
  have hlt := Nat.mod_lt m b2
  have hne : (nI L != 0) = true := by
    have : ¬ nI L = 0 := nI_ne0 b2 (by omega)
    simp [this]
  unfold fX0_roundBy
  rw [chk_in (by omega) (by decide), nI_clamp (by omega), (hC.2.1 i hi).2, J_bitCount, b1, Option.bind_some]
  dsimp only
  rw [if_neg (nI_ne0 b2 (by omega)), hne, chk_t, pk_rem hm b2 (by omega)]
  have key : ok (loop (fun a => fX0_roundBy_B29 (nI (m % L)) a.1 a.2.1 a.2.2) (nI i, 0, σ)) (fun b => b = (nI (rb u i (m % L)), σ)) := by
    refine ok_for' (enc := fun s (_ : Unit) => (nI (rb u i s), nI s, σ)) (m % L) (fun _ _ => True) (i0 := 0) (s0 := ()) (Nat.zero_le _) trivial ?_ ?_
    · intro s _ hs _
      dsimp only
      obtain ⟨k1, k2, k3⟩ := K_step hW h30 hi h3 (rb_in hW h30 hi h3 s)
      unfold fX0_roundBy_B29
      rw [if_neg (nI_ge hs (by omega)), chk_in (by omega) (by decide), nI_clamp (by omega), (hN.2.2 _ k1).2.2 (by omega), nI_1]
      exact ok_some ⟨(), rfl, trivial⟩
    · intro _ _
      dsimp only
      unfold fX0_roundBy_B29
      rw [if_pos (Int32.le_refl _)]
      exact ok_some rfl
  obtain ⟨b, hb, rfl⟩ := key
  unfold fX0_roundBy_L21 fX0_roundBy_L54
  rw [hb, Option.bind_some]
theorem M_round {w n : Nat} {t o u : Nat → Nat} {σ : Mem} (hW : WF w n t o u) (hN : NM n t o u σ) {i K : Nat} (hi : i < n) (hK : K < 2 ^ 31) (h3 : (Rs w n t o u).2.2 i = 3) : loop (fun a => fX8_told_B64 a.1 a.2.1 a.2.2) (nI i, nI K, σ) = some (nI (rb u i K), σ) := by
  have h30 := hN.1
  have key : ok (loop (fun a => fX8_told_B64 a.1 a.2.1 a.2.2) (nI i, nI K, σ)) (fun b => b = (nI (rb u i K), σ)) := by
    refine ok_for' (enc := fun s (_ : Unit) => (nI (rb u i s), nI (K - s), σ)) K (fun _ _ => True) (i0 := 0) (s0 := ()) (Nat.zero_le _) trivial ?_ ?_
    · intro s _ hs _
      dsimp only
      obtain ⟨k1, k2, k3⟩ := K_step hW h30 hi h3 (rb_in hW h30 hi h3 s)
      unfold fX8_told_B64
      rw [if_neg (nI_nle (by omega) (by omega)), chk_in (by omega) (by decide), nI_clamp (by omega), (hN.2.2 _ k1).2.2 (by omega)]
      obtain ⟨d, hd⟩ : ∃ d, K - s = d + 1 := ⟨K - s - 1, by omega⟩
      rw [hd, pk_m1]
      exact ok_some ⟨(), by rw [show K - (s + 1) = d by omega]; rfl, trivial⟩
    · intro _ _
      dsimp only
      unfold fX8_told_B64
      rw [Nat.sub_self, if_pos (by decide)]
      exact ok_some rfl
  obtain ⟨b, hb, rfl⟩ := key
  exact hb
theorem P_told {w n : Nat} {t o u : Nat → Nat} {σX σM : Mem} (hW : WF w n t o u) (hX : CX w n t o u σX) (hM : CM w n t o u σM) (a b x y z : Int32) : Same w n t o u σX σM (fX7_told a b x y z σX) (fX8_told a b x y z σM) := by
  have hT := CM_th hM
  have h30 := hX.1.1
  have hw := hX.2.1.1.1
  rcases nm_or n h30 a with ⟨i, hi, rfl⟩ | ⟨-, ha⟩
  · by_cases hb : b < 0 ∨ nI 1000000 < b
    · refine ⟨-1, ?_, ?_⟩
      · unfold fX7_told fX7_told_L21
        rw [hasX hX.1 hi, Option.bind_some]
        dsimp only
        rw [if_neg (by decide)]
        by_cases c0 : b < 0
        · rw [if_pos c0]; exact ok_some ⟨rfl, QX_refl hX⟩
        · rw [if_neg c0]
          have : ¬ b ≤ 1000000 := by
            rcases hb with q | q
            · exact absurd q c0
            · exact (fa_of_lt q).2.1
          rw [if_neg this]; exact ok_some ⟨rfl, QX_refl hX⟩
      · unfold fX8_told fX8_told_L23
        rw [th_def, isnM hT.2.1.1 hi, Option.bind_some]
        dsimp only
        rw [if_neg (by decide)]
        show ok ((fX8_isIn b 0 (nI 1000000) (th σM)).bind _) _
        rw [isInM (by decide), if_pos hb, Option.bind_some]
        dsimp only
        rw [if_pos rfl]
        exact ok_some ⟨rfl, hT⟩
    · have hb0 : ¬ b < 0 := fun q => hb (Or.inl q)
      obtain ⟨m, hm31, rfl⟩ := nI_of hb0
      have hm : m ≤ 1000000 := Nat.le_of_not_lt (fun q => hb (Or.inr (nI_lt q hm31)))
      have di := R_d hW h30 hw.1 hi
      have k4 := K_le (w := w) hW h30 hi
      have hXX : ∀ P : Int32 × Mem → Prop, (∀ τ, QX w n t o u σX τ → XC w n t o u τ → ok (if τ 20 i = 3 then (fX6_give x y z τ).bind (fun o6 => (fX0_roundBy (nI i) (nI m) o6).bind fun o7 => (fX6_startOf o7.1 o7.2).bind fun o8 => some (o8.1, o8.2)) else (fX1_isThere (nI i) τ).bind fun o3 => if o3.1 = 0 then fX7_told_L96 o3.2 else chk (inb (nI i) 31) (if (o3.2 17 (nI i).toNatClampNeg) ≤ nI m then (fX2_give x y z o3.2).bind (fun o4 => (fX1_tell (nI i) (nI m) o4).bind fun o5 => some (o5.1, o5.2)) else fX7_told_L96 o3.2)) P) → ok (fX7_told (nI i) (nI m) x y z σX) P := by
        intro P h
        unfold fX7_told
        rw [hasX hX.1 hi, Option.bind_some]
        dsimp only
        rw [if_neg (by decide), if_neg hb0, if_pos (show nI m ≤ 1000000 from nI_le (b := 1000000) hm (by decide))]
        refine ok_bind (ok_mono (X_ref hW hX) ?_)
        rintro τ ⟨q1, q2, -⟩
        rw [chk_in (by omega) (by decide), show (nI i).toNatClampNeg = i from nI_clamp (by omega)]
        have := h τ q1 q2
        rw [show (nI i).toNatClampNeg = i from nI_clamp (by omega)] at this
        exact this
      have hMM : ∀ P : Int32 × Mem → Prop, (∀ τ, QM w n t o u σM τ → MC w n t o u τ → MG w (gv w x y z) τ → ok (if τ 7 i = 3 then (fX8_cycleOf (nI i) τ).bind (fun o7 => (fX8_bits o7.1 o7.2).bind fun o8 => chk (o8.1 != 0) ((loop (fun a => fX8_told_B64 a.1 a.2.1 a.2.2) (nI i, nI m - nI m / o8.1 * o8.1, o8.2)).bind fun b9 => fX8_told_L84 b9.1 b9.2)) else (fX8_hasForm (nI i) τ).bind fun o5 => if o5.1 = 0 then fX8_told_L119 o5.2 else chk (inb (nI i) 30) (if nI m < (o5.2 6 (nI i).toNatClampNeg) then fX8_told_L119 o5.2 else (fX8_tells (nI i) (nI m).toInt64 o5.2).bind fun o6 => fX8_told_L120 o6.1 o6.2)) P) → ok (fX8_told (nI i) (nI m) x y z σM) P := by
        intro P h
        unfold fX8_told
        rw [th_def, isnM hT.2.1.1 hi, Option.bind_some]
        dsimp only
        rw [if_neg (by decide)]
        show ok ((fX8_isIn (nI m) 0 (nI 1000000) (th σM)).bind _) P
        rw [isInM (by decide), if_neg hb, Option.bind_some]
        dsimp only
        rw [if_neg (by decide)]
        refine ok_bind (ok_mono (M_lay hW hT.2.1) ?_)
        rintro τ ⟨q1, q2, -⟩
        refine ok_bind (ok_mono (M_gives q2.1 x y z) ?_)
        rintro ρ ⟨f1, f2⟩
        obtain ⟨g1, g2⟩ := MC_ctx q1.2.1 q2 f1
        rw [chk_in (by omega) (by decide), show (nI i).toNatClampNeg = i from nI_clamp (by omega)]
        have := h ρ (QM_trans hT (QM_trans q1 g1)) g2 f2
        rw [show (nI i).toNatClampNeg = i from nI_clamp (by omega)] at this
        exact this
      by_cases c3 : (Rs w n t o u).2.2 i = 3
      · obtain ⟨b1, b2⟩ := ct_cy hW h30 hi
        have b3 := fb_ct_le (bt (cyv (eg t o u) n i)) 30
        obtain ⟨L, hL⟩ : ∃ L, L = fb_ct (bt (cyv (eg t o u) n i)) 30 := ⟨_, rfl⟩
        have hr := K_step hW h30 hi c3 (rb_in hW h30 hi c3 (m % L))
        refine ⟨nI (gn t o (gv w x y z) (o (rb u i (m % L)))), hXX _ (fun τ q1 q2 => ?_), hMM _ (fun τ q1 q2 q3 => ?_)⟩
        · rw [if_pos (show τ 20 i = 3 by rw [(q2.2.2 i hi).2.1, c3]; rfl)]
          refine ok_bind (ok_mono (X_give6 hw.2 q1.2.1.2.2.1 x y z) ?_)
          rintro ρ ⟨f1, f2⟩
          obtain ⟨g1, g2⟩ := XC_ctx q1.2.1 q2 (FR_mono f1 (by decide))
          rw [X_roundBy hW g1.2.1.1 g2 hi hm31 c3, ← hL, Option.bind_some]
          dsimp only
          rw [X_startOf hW g1.2.1.1 f2 hr.1 hr.2.1, Option.bind_some]
          exact ok_some ⟨rfl, QX_trans q1 g1⟩
        · rw [if_pos (show τ 7 i = 3 by rw [(q2.2.2 i hi).2.1, c3]; rfl), M_cycleOf hW q1.2.1.1 q2.2.1 hi, Option.bind_some]
          dsimp only
          rw [M_bits, ← hL, Option.bind_some]
          dsimp only
          rw [← hL] at b2 b3
          have hne : (nI L != 0) = true := by
            have : ¬ nI L = 0 := nI_ne0 b2 (by omega)
            simp [this]
          have hlt := Nat.mod_lt m b2
          rw [hne, chk_t, pk_rem hm31 b2 (by omega), M_round hW q1.2.1.1 hi (by omega) c3, Option.bind_some]
          unfold fX8_told_L84
          dsimp only
          rw [M_startOf hW q1.2.1.1 q3 hr.1 hr.2.1, Option.bind_some]
          exact ok_some ⟨rfl, q1⟩
      · by_cases c9 : (Rs w n t o u).1 i ≠ 9 ∧ (Rs w n t o u).1 i ≤ m
        · refine ⟨nI (tl w (gv w x y z) ((Rs w n t o u).2.1 i) m), hXX _ (fun τ q1 q2 => ?_), hMM _ (fun τ q1 q2 q3 => ?_)⟩
          · refine ok_neg (show ¬ τ 20 i = 3 by rw [(q2.2.2 i hi).2.1]; exact fun e => c3 ((nI_eq (b := 3) (by omega) (by decide)).mp e)) ?_
            rw [X_isThere (by omega) (q2.2.2 i hi).1 di, Option.bind_some]
            dsimp only
            rw [if_neg c9.1, if_neg (by decide), chk_in (by omega) (by decide), nI_clamp (by omega)]
            refine ok_pos (show τ 17 i ≤ nI m by rw [(q2.2.2 i hi).1, dlX_n c9.1]; exact nI_le c9.2 hm31) ?_
            refine ok_bind (ok_mono (X_give2 q2.1.1 x y z) ?_)
            rintro ρ ⟨f1, f2⟩
            obtain ⟨g1, g2⟩ := XC_ctx q1.2.1 q2 (FR_mono f1 (by decide))
            rw [X1_tell g2.1 f2 (by omega) hm (R_ok hW h30 hw.1 hi c9.1) ((g2.2.2 i hi).2.2 c9.1), Option.bind_some]
            exact ok_some ⟨rfl, QX_trans q1 g1⟩
          · refine ok_neg (show ¬ τ 7 i = 3 by rw [(q2.2.2 i hi).2.1]; exact fun e => c3 ((nI_eq (b := 3) (by omega) (by decide)).mp e)) ?_
            rw [M_hasForm (by omega) (q2.2.2 i hi).1 di, Option.bind_some]
            dsimp only
            rw [if_neg c9.1, if_neg (by decide), chk_in (by omega) (by decide), nI_clamp (by omega)]
            refine ok_neg (show ¬ nI m < τ 6 i by rw [(q2.2.2 i hi).1]; exact nI_nlt c9.2 hm31) ?_
            rw [nI_l hm31, M_tells q2.1 q3 (by omega) hm ((q2.2.2 i hi).2.2 c9.1), Option.bind_some]
            exact ok_some ⟨rfl, q1⟩
        · refine ⟨-1, hXX _ (fun τ q1 q2 => ?_), hMM _ (fun τ q1 q2 q3 => ?_)⟩
          · refine ok_neg (show ¬ τ 20 i = 3 by rw [(q2.2.2 i hi).2.1]; exact fun e => c3 ((nI_eq (b := 3) (by omega) (by decide)).mp e)) ?_
            rw [X_isThere (by omega) (q2.2.2 i hi).1 di, Option.bind_some]
            dsimp only
            unfold fX7_told_L96
            by_cases d9 : (Rs w n t o u).1 i = 9
            · rw [if_pos d9, if_pos rfl]; exact ok_some ⟨rfl, q1⟩
            · rw [if_neg d9, if_neg (by decide), chk_in (by omega) (by decide), nI_clamp (by omega)]
              refine ok_neg (show ¬ τ 17 i ≤ nI m by rw [(q2.2.2 i hi).1, dlX_n d9]; exact nI_ge (by omega) (by omega)) ?_
              exact ok_some ⟨rfl, q1⟩
          · refine ok_neg (show ¬ τ 7 i = 3 by rw [(q2.2.2 i hi).2.1]; exact fun e => c3 ((nI_eq (b := 3) (by omega) (by decide)).mp e)) ?_
            rw [M_hasForm (by omega) (q2.2.2 i hi).1 di, Option.bind_some]
            dsimp only
            unfold fX8_told_L119 fX8_told_L120
            by_cases d9 : (Rs w n t o u).1 i = 9
            · rw [if_pos d9, if_pos rfl]; exact ok_some ⟨rfl, q1⟩
            · rw [if_neg d9, if_neg (by decide), chk_in (by omega) (by decide), nI_clamp (by omega)]
              refine ok_pos (show nI m < τ 6 i by rw [(q2.2.2 i hi).1]; exact nI_lt (by omega) (by omega)) ?_
              exact ok_some ⟨rfl, q1⟩
  · refine ⟨-1, ?_, ?_⟩
    · unfold fX7_told fX7_told_L21
      rw [hasXn hX.1 ha, Option.bind_some]
      dsimp only
      rw [if_pos rfl]
      exact ok_some ⟨rfl, QX_refl hX⟩
    · unfold fX8_told fX8_told_L23
      rw [th_def, isnMn hT.2.1.1 ha, Option.bind_some]
      dsimp only
      rw [if_pos rfl]
      exact ok_some ⟨rfl, hT⟩
