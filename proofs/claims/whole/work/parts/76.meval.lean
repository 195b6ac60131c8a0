/-! the same, in the reference -/
def MG (w : Nat) (g : Nat → Nat) (σ : Mem) : Prop := ∀ k, k < 3 → σ 9 k = nI (g k) ∧ g k < 2 ^ w
theorem M_power {w : Nat} {σ : Mem} {v e : Nat} (h : MB w σ) (hv : v < 2 ^ w) (he : e < 2 ^ 31) : fX8_power (nI v) (nI e) σ = some (nI (v ^ e % 2 ^ w), σ) := by
  have hw := h.1
  have hpw := pw_le hw.2
  have h16 := pw16 hw.1
  have key : ok (loop (fun s => fX8_power_B5 (nI v) (nI e) s.1 s.2.1 s.2.2) (1, 0, σ)) (fun b => b = (nI (v ^ e % 2 ^ w), σ)) := by
    have e1 : (1 : Int32) = nI (v ^ 0 % 2 ^ w) := by
      rw [Nat.pow_zero, Nat.mod_eq_of_lt (by omega)]; rfl
    refine ok_for' (enc := fun i (_ : Unit) => (nI (v ^ i % 2 ^ w), nI i, σ)) e (fun _ _ => True) (i0 := 0) (s0 := ()) (Nat.zero_le _) trivial ?_ ?_ |> fun hh => by rw [← e1] at hh; exact hh
    · intro i _ hi _
      dsimp only
      unfold fX8_power_B5
      rw [if_neg (nI_ge hi (by omega)), cutE hw.2 h.2, Option.bind_some, nI_1]
      refine ok_some ⟨(), ?_, trivial⟩
      rw [mL_mul hw.2, mI_64 hw.2, mI_64 hw.2, mI_nI hw.2, mI_nI hw.2, Nat.mod_mod, Nat.mul_mod_mod, Nat.mod_mul_mod, Nat.pow_succ]
    · intro _ _
      dsimp only
      unfold fX8_power_B5
      rw [if_pos (Int32.le_refl _)]
      exact ok_some rfl
  obtain ⟨b, hb, rfl⟩ := key
  unfold fX8_power fX8_power_L27
  rw [hb, Option.bind_some]
theorem inb_0 : inb 0 3 = true := by decide
theorem inb_1 : inb 1 3 = true := by decide
theorem inb_2 : inb 2 3 = true := by decide
theorem cl_0 : (0 : Int32).toNatClampNeg = 0 := by decide
theorem cl_1 : (1 : Int32).toNatClampNeg = 1 := by decide
theorem cl_2 : (2 : Int32).toNatClampNeg = 2 := by decide
theorem M_valueOf {w : Nat} {g : Nat → Nat} {σ : Mem} {s i : Nat} {A : Fo} (h : MB w σ) (hg : MG w g σ) (hs : s < 124) (hi : i < 4) (fA : fm w σ s A) : fX8_valueOf (nI s) (nI i) σ = some (nI (ev w g (A i)), σ) := by
  have hw := h.1
  have hpw := pw_le hw.2
  have key : ok (loop (fun x => fX8_valueOf_B5 (nI s) (nI i) x.1 x.2.1 x.2.2) (0, 0, σ)) (fun b => b.2 = σ ∧ mL w b.1 = fb_sm (fun m => A i m * mon g m) 343 % 2 ^ w) := by
    refine ok_for' (enc := fun m (x : Int64) => (x, nI m, σ)) 343 (fun m x => mL w x = fb_sm (fun m => A i m * mon g m) m % 2 ^ w) (i0 := 0) (s0 := 0) (Nat.zero_le _) ?_ ?_ ?_
    · show mL w (lN 0) = 0 % 2 ^ w
      rw [mL_lN hw.2]
    · intro m x hm hI
      dsimp only
      unfold fX8_valueOf_B5 fX8_valueOf_L114
      have e7 : nI m / 7 = nI (m / 7) := pk_div (d := 7) (by omega) (by decide) (by decide)
      have e49 : nI m / 49 = nI (m / 49) := pk_div (d := 49) (by omega) (by decide) (by decide)
      have r7 : nI m - nI m / 7 * 7 = nI (m % 7) := pk_rem (d := 7) (by omega) (by decide) (by decide)
      have r77 : nI (m / 7) - nI (m / 7) / 7 * 7 = nI (m / 7 % 7) := pk_rem (d := 7) (by omega) (by decide) (by decide)
      have hv := fA.1.1 i |>.1 m
      rw [if_neg (n343 hm), ixG, chk_in (by omega) (by decide), nI_clamp (by omega), fm_at fA hi hm]
      by_cases c : A i m = 0
      · rw [if_pos (by rw [c]; rfl), nI_1]
        refine ok_some ⟨_, rfl, ?_⟩
        rw [hI, fb_sm_succ, c, Nat.zero_mul, Nat.add_zero]
      · rw [if_neg (nI_ne0 (by omega) (by omega)), inb_0, chk_t, cl_0, (hg 0 (by omega)).1, r7, M_power h (hg 0 (by omega)).2 (by omega), Option.bind_some]
        dsimp only
        rw [inb_1, chk_t, cl_1, (hg 1 (by omega)).1, e7, r77, M_power h (hg 1 (by omega)).2 (by omega), Option.bind_some]
        dsimp only
        rw [inb_2, chk_t, cl_2, (hg 2 (by omega)).1, e49, M_power h (hg 2 (by omega)).2 (by omega), Option.bind_some]
        dsimp only
        rw [cutE hw.2 h.2, Option.bind_some]
        dsimp only
        rw [cutE hw.2 h.2, Option.bind_some]
        dsimp only
        rw [cutE hw.2 h.2, Option.bind_some]
        dsimp only
        rw [nI_1]
        refine ok_some ⟨_, rfl, ?_⟩
        rw [mL_add hw.2, mI_64 hw.2, mI_nI hw.2, hI, fb_sm_succ]
        simp only [mL_mul hw.2, mI_64 hw.2, mI_nI hw.2, Nat.mod_mod, Nat.mul_mod_mod, Nat.mod_mul_mod, Nat.add_mod_mod, Nat.mod_add_mod]
        rfl
    · intro x hI
      dsimp only
      unfold fX8_valueOf_B5
      rw [if_pos n343']
      exact ok_some ⟨rfl, hI⟩
  obtain ⟨⟨x, τ⟩, hb, h1, h2⟩ := key
  dsimp only at h1 h2
  subst h1
  unfold fX8_valueOf fX8_valueOf_L120
  rw [hb, Option.bind_some]
  dsimp only
  rw [cutE hw.2 h.2, Option.bind_some, h2]
  rfl
theorem M_gives {w : Nat} {σ : Mem} (h : MB w σ) (a b c : Int32) : ok (fX8_gives a b c σ) (fun τ => FR [9] σ τ ∧ MG w (gv w a b c) τ) := by
  have hw := h.1
  unfold fX8_gives
  rw [cutE hw.2 h.2, Option.bind_some]
  dsimp only
  rw [inb_0, chk_t, cl_0, cutE hw.2 (by rw [up2_row _ _ _ (by decide)]; exact h.2), Option.bind_some]
  dsimp only
  rw [inb_1, chk_t, cl_1, cutE hw.2 (by rw [up2_row _ _ _ (by decide), up2_row _ _ _ (by decide)]; exact h.2), Option.bind_some]
  dsimp only
  rw [inb_2, chk_t, cl_2, mI_64 hw.2, mI_64 hw.2, mI_64 hw.2]
  refine ok_some ⟨FR_trans (FR_up2 _ (by decide) _ _) (FR_trans (FR_up2 _ (by decide) _ _) (FR_up2 _ (by decide) _ _)), fun k hk => ⟨?_, gv_lt w a b c k⟩⟩
  unfold gv
  rw [up2_at, up2_at, up2_at]
  rcases (show k = 0 ∨ k = 1 ∨ k = 2 by omega) with rfl | rfl | rfl <;> rfl
theorem X_give6 {w : Nat} {σ : Mem} (hw : w ≤ 16) (h3 : σ 3 0 = nI (2 ^ w - 1)) (a b c : Int32) : ok (fX6_give a b c σ) (fun τ => FR [26] σ τ ∧ ∀ k, k < 3 → τ 26 k = nI (gv w a b c k)) := by
  unfold fX6_give
  rw [inb_0, chk_t, inb_1, chk_t, inb_2, chk_t, cl_0, cl_1, cl_2, up2_row _ _ _ (show (3 : Nat) ≠ 26 by decide), up2_row _ _ _ (show (3 : Nat) ≠ 26 by decide), up2_row _ _ _ (show (3 : Nat) ≠ 26 by decide), h3, i_mask, i_mask, i_mask]
  refine ok_some ⟨FR_trans (FR_up2 _ (by decide) _ _) (FR_trans (FR_up2 _ (by decide) _ _) (FR_up2 _ (by decide) _ _)), fun k hk => ?_⟩
  unfold gv
  rw [up2_at, up2_at, up2_at]
  rcases (show k = 0 ∨ k = 1 ∨ k = 2 by omega) with rfl | rfl | rfl <;> rfl
/-- the number of a given name -/
def gn (t o : Nat → Nat) (g : Nat → Nat) (i : Nat) : Nat := if t i = 1 then g (o i) else o i
theorem gn_lt {w n : Nat} {t o u : Nat → Nat} {g : Nat → Nat} (hW : WF w n t o u) (hg : ∀ k, g k < 2 ^ w) {i : Nat} (hi : i < n) (h : t i ≤ 1) : gn t o g i < 2 ^ w := by
  unfold gn
  by_cases c : t i = 1
  · rw [if_pos c]; exact hg _
  · rw [if_neg c]
    rcases hW i hi with ⟨-, q⟩ | ⟨q, -⟩ | ⟨q, -⟩ | ⟨q, -⟩ <;> omega
theorem X_numberOf {w n : Nat} {t o u : Nat → Nat} {g : Nat → Nat} {σ : Mem} (hW : WF w n t o u) (hN : NX n t o u σ) (hg : ∀ k, k < 3 → σ 26 k = nI (g k)) {i : Nat} (hi : i < n) (h : t i ≤ 1) : fX6_numberOf (nI i) σ = some (nI (gn t o g i), σ) := by
  have h30 := hN.1
  obtain ⟨e8, e9, -⟩ := hN.2.2 i hi
  unfold fX6_numberOf fX6_numberOf_L33 gn
  rw [chk_in (by omega) (by decide), chk_in (by omega) (by decide), nI_clamp (by omega), e8, e9]
  by_cases c : t i = 1
  · have o3 : o i < 3 := by rcases hW i hi with ⟨q, -⟩ | ⟨-, q⟩ | ⟨q, -⟩ | ⟨q, -⟩ <;> omega
    rw [if_pos (by rw [c]; rfl), if_pos c, chk_in o3 (by decide), nI_clamp (by omega), hg _ o3]
  · rw [if_neg (t_n1 hW hi c), if_neg c]
theorem X_startOf {w n : Nat} {t o u : Nat → Nat} {g : Nat → Nat} {σ : Mem} (hW : WF w n t o u) (hN : NX n t o u σ) (hg : ∀ k, k < 3 → σ 26 k = nI (g k)) {i : Nat} (hi : i < n) (h : t i = 5) : fX6_startOf (nI i) σ = some (nI (gn t o g (o i)), σ) := by
  have h30 := hN.1
  obtain ⟨e8, e9, -⟩ := hN.2.2 i hi
  obtain ⟨q1, q2⟩ : o i < i ∧ t (o i) ≤ 1 := by rcases hW i hi with ⟨q, -⟩ | ⟨q, -⟩ | ⟨q, -⟩ | ⟨-, q1, -, q3⟩ <;> omega
  unfold fX6_startOf
  rw [chk_in (by omega) (by decide), nI_clamp (by omega), e9, X_numberOf hW hN hg (by omega) q2, Option.bind_some]
theorem M_startOf {w n : Nat} {t o u : Nat → Nat} {g : Nat → Nat} {σ : Mem} (hW : WF w n t o u) (hN : NM n t o u σ) (hg : MG w g σ) {i : Nat} (hi : i < n) (h : t i = 5) : fX8_startOf (nI i) σ = some (nI (gn t o g (o i)), σ) := by
  have h30 := hN.1
  obtain ⟨e2, e3, -⟩ := hN.2.2 i hi
  obtain ⟨q1, q2⟩ : o i < i ∧ (t (o i) = 0 ∨ t (o i) = 1) := by rcases hW i hi with ⟨q, -⟩ | ⟨q, -⟩ | ⟨q, -⟩ | ⟨-, q1, -, q3⟩ <;> omega
  obtain ⟨f2, f3, -⟩ := hN.2.2 (o i) (by omega)
  unfold fX8_startOf fX8_startOf_L44 gn
  simp (disch := omega) only [chk_in, nI_clamp, e3, f2, f3]
  rcases q2 with c | c
  · rw [if_pos (by rw [c]; rfl), if_neg (by omega)]
  · have o3 : o (o i) < 3 := by rcases hW (o i) (by omega) with ⟨q, -⟩ | ⟨-, q⟩ | ⟨q, -⟩ | ⟨q, -⟩ <;> omega
    rw [if_neg (show ¬ nI (t (o i)) = 0 by rw [c]; decide), if_pos c, chk_in o3 (by decide), nI_clamp (by omega), (hg _ o3).1]
theorem M_tells {w : Nat} {g : Nat → Nat} {σ : Mem} {s n : Nat} {A : Fo} (h : MB w σ) (hg : MG w g σ) (hs : s < 124) (hn : n ≤ 1000000) (fA : fm w σ s A) : fX8_tells (nI s) (lN n) σ = some (nI (tl w g A n), σ) := by
  have hw := h.1
  have hpw := pw_le hw.2
  have v := fun i => ev_lt w g (A i)
  have v0 := v 0
  have v1 := v 1
  have v2 := v 2
  have v3 := v 3
  have tb := tri_b hn
  have w0 : fX8_valueOf (nI s) 0 σ = some (nI (ev w g (A 0)), σ) := M_valueOf (i := 0) h hg hs (by omega) fA
  have w1 : fX8_valueOf (nI s) 1 σ = some (nI (ev w g (A 1)), σ) := M_valueOf (i := 1) h hg hs (by omega) fA
  have w2 : fX8_valueOf (nI s) 2 σ = some (nI (ev w g (A 2)), σ) := M_valueOf (i := 2) h hg hs (by omega) fA
  have w3 : fX8_valueOf (nI s) 3 σ = some (nI (ev w g (A 3)), σ) := M_valueOf (i := 3) h hg hs (by omega) fA
  have em : (σ 0 1).toInt64 - 1 = lN (2 ^ w - 1) := by rw [h.2]; exact l_mod hw.2
  have d2 : lN (n * (n - 1)) / 2 = lN (tri n) := pk_lDiv (b := 2) (by omega) (by decide) (by decide)
  have ht3 : tri n * (n - 2) ≤ 1000000000000000000 := by
    have : tri n ≤ n * (n - 1) := Nat.div_le_self _ _
    exact Nat.le_trans (Nat.mul_le_mul this (Nat.le_refl _)) tb.2
  have d3 : lN (tri n * (n - 2)) / 3 = lN (tet n) := by
    rw [← tet_eq]
    exact pk_lDiv (b := 3) (by omega) (by decide) (by decide)
  unfold fX8_tells
  rw [w0, Option.bind_some]
  dsimp only
  rw [w1, Option.bind_some]
  dsimp only
  rw [w2, Option.bind_some]
  dsimp only
  rw [w3, Option.bind_some]
  dsimp only
  rw [em, nI_l (n := ev w g (A 0)) (by omega), nI_l (n := ev w g (A 1)) (by omega), nI_l (n := ev w g (A 2)) (by omega), nI_l (n := ev w g (A 3)) (by omega), l_m1, d2, l_m2 n _ (fun z => by unfold tri; rw [nn1_0 z]), d3, fb_maskL, fb_maskL, fb_maskL, lN_mul, lN_mul, lN_mul, lN_add, lN_add, lN_add, cutE hw.2 h.2, Option.bind_some, mL_lN hw.2]
  have e : (ev w g (A 0) + n % 2 ^ w * ev w g (A 1) + tri n % 2 ^ w * ev w g (A 2) + tet n % 2 ^ w * ev w g (A 3)) % 2 ^ w = tl w g A n := by
    unfold tl
    have h1 : ∀ a b c : Nat, (a + b % 2 ^ w * c) % 2 ^ w = (a + b * c) % 2 ^ w := fun a b c => by rw [Nat.add_mod, Nat.mod_mul_mod, ← Nat.add_mod]
    rw [h1, Nat.add_right_comm, h1, Nat.add_right_comm, Nat.add_right_comm _ (tri n * _) (tet n * _), Nat.add_right_comm (ev w g (A 0)), Nat.add_right_comm _ (n % 2 ^ w * _), h1]
    congr 1
    omega
  rw [e]
