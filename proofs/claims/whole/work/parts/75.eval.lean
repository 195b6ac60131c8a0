/-! what polys and forms are by numbers -/
def mon (g : Nat → Nat) (m : Nat) : Nat := g 0 ^ (m % 7) * (g 1 ^ (m / 7 % 7) * g 2 ^ (m / 49))
def ev (w : Nat) (g a : Nat → Nat) : Nat := fb_sm (fun m => a m * mon g m) 343 % 2 ^ w
theorem ev_lt (w : Nat) (g a : Nat → Nat) : ev w g a < 2 ^ w := Nat.mod_lt _ (pw_pos w)
def gv (w : Nat) (a b c : Int32) : Nat → Nat := fun k => if k = 0 then mI w a else if k = 1 then mI w b else mI w c
theorem gv_lt (w : Nat) (a b c : Int32) (k : Nat) : gv w a b c k < 2 ^ w := by
  unfold gv
  split
  · exact mI_lt w a
  · split
    · exact mI_lt w b
    · exact mI_lt w c
def PW (w : Nat) (g : Nat → Nat) (σ : Mem) : Prop := ∀ k e, k < 3 → e < 7 → σ 14 (7 * k + e) = nI (g k ^ e % 2 ^ w)
theorem X_fill {w : Nat} {σ : Mem} {k : Nat} (hw : 4 ≤ w ∧ w ≤ 16) (h2 : σ 2 0 = nI (2 ^ w - 1)) (hk : k < 3) (a : Int32) : fX2_fillPowers (nI (7 * k)) a σ = some (seg σ 14 (7 * k) 7 (fun e => nI (mI w a ^ e % 2 ^ w))) := by
  have h16 := pw16 hw.1
  have key : ok (loop (fun s => fX2_fillPowers_B5 (nI (7 * k)) a s.1 s.2.1 s.2.2) (1, 0, σ)) (fun b => b = seg σ 14 (7 * k) 7 (fun e => nI (mI w a ^ e % 2 ^ w))) := by
    have e1 : (1 : Int32) = nI (mI w a ^ 0 % 2 ^ w) := by
      rw [Nat.pow_zero, Nat.mod_eq_of_lt (by omega)]; rfl
    refine ok_for' (enc := fun i (_ : Unit) => (nI (mI w a ^ i % 2 ^ w), nI i, seg σ 14 (7 * k) i (fun e => nI (mI w a ^ e % 2 ^ w)))) 7 (fun _ _ => True) (i0 := 0) (s0 := ()) (Nat.zero_le _) trivial ?_ ?_ |> fun hh => by rw [seg_0, ← e1] at hh; exact hh
    · intro i _ hi _
      dsimp only
      unfold fX2_fillPowers_B5
      rw [if_neg (show ¬ (7 : Int32) ≤ nI i from nI_ge (b := 7) hi (by decide)), nI_add, chk_in (by omega) (by decide), nI_clamp (by omega), up2_row _ _ _ (by decide), seg_row _ _ _ _ (by decide), h2, i_mask, nI_1]
      have e2 : mI w (nI (mI w a ^ i % 2 ^ w) * a) = mI w a ^ (i + 1) % 2 ^ w := by
        rw [mI_mul hw.2, mI_nI hw.2, Nat.mod_mod, Nat.mod_mul_mod, Nat.pow_succ]
      rw [e2]
      exact ok_some ⟨(), by rw [← seg_succ σ 14 (7 * k) i (fun e => nI (mI w a ^ e % 2 ^ w))], trivial⟩
    · intro _ _
      dsimp only
      unfold fX2_fillPowers_B5
      rw [if_pos (show (7 : Int32) ≤ nI 7 from Int32.le_refl _)]
      exact ok_some rfl
  obtain ⟨b, hb, rfl⟩ := key
  unfold fX2_fillPowers fX2_fillPowers_L37
  rw [hb]; rfl
theorem X_give2 {w : Nat} {σ : Mem} (h : CT w σ) (a b c : Int32) : ok (fX2_give a b c σ) (fun τ => FR [14] σ τ ∧ PW w (gv w a b c) τ) := by
  have hw := h.1
  have h2 := h.2.2.1
  unfold fX2_give
  have f0 := X_fill (k := 0) hw h2 (by omega) a
  have e0 : fX2_fillPowers 0 a σ = some (seg σ 14 (7 * 0) 7 (fun e => nI (mI w a ^ e % 2 ^ w))) := f0
  rw [e0, Option.bind_some]
  obtain ⟨σ1, h1⟩ : ∃ s, s = seg σ 14 (7 * 0) 7 (fun e => nI (mI w a ^ e % 2 ^ w)) := ⟨_, rfl⟩
  rw [← h1]
  have h21 : σ1 2 0 = nI (2 ^ w - 1) := by rw [h1, seg_row _ _ _ _ (by decide)]; exact h2
  have e1 : fX2_fillPowers 7 b σ1 = some (seg σ1 14 (7 * 1) 7 (fun e => nI (mI w b ^ e % 2 ^ w))) := X_fill (k := 1) hw h21 (by omega) b
  rw [e1, Option.bind_some]
  obtain ⟨σ2, h3⟩ : ∃ s, s = seg σ1 14 (7 * 1) 7 (fun e => nI (mI w b ^ e % 2 ^ w)) := ⟨_, rfl⟩
  rw [← h3]
  have h22 : σ2 2 0 = nI (2 ^ w - 1) := by rw [h3, seg_row _ _ _ _ (by decide)]; exact h21
  have e2 : fX2_fillPowers 14 c σ2 = some (seg σ2 14 (7 * 2) 7 (fun e => nI (mI w c ^ e % 2 ^ w))) := X_fill (k := 2) hw h22 (by omega) c
  rw [e2, Option.bind_some]
  refine ok_some ⟨?_, fun k e hk he => ?_⟩
  · rw [h3, h1]
    exact FR_trans (FR_seg _ (by decide) _ _ _) (FR_trans (FR_seg _ (by decide) _ _ _) (FR_seg _ (by decide) _ _ _))
  · unfold gv
    rcases (show k = 0 ∨ k = 1 ∨ k = 2 by omega) with rfl | rfl | rfl
    · rw [seg_out _ _ (by omega), h3, seg_out _ _ (by omega), h1, seg_in _ _ (by omega) (by omega), if_pos rfl, show 7 * 0 + e - 7 * 0 = e by omega]
    · rw [seg_out _ _ (by omega), h3, seg_in _ _ (by omega) (by omega), if_neg (by decide), if_pos rfl, show 7 * 1 + e - 7 * 1 = e by omega]
    · rw [seg_in _ _ (by omega) (by omega), if_neg (by decide), if_neg (by decide), show 7 * 2 + e - 7 * 2 = e by omega]
theorem X_mono {w : Nat} {g : Nat → Nat} {σ : Mem} (h : CT w σ) (hp : PW w g σ) {p : Nat} (hpp : p < 84) : fX2_worth (nI p) σ = some (nI (mon g (cd p) % 2 ^ w), σ) := by
  have hw := h.1
  obtain ⟨e11, -⟩ := h.2.2.2.2 p hpp
  have hc := cd_ok p hpp
  obtain ⟨m, hm⟩ : ∃ m, m = cd p := ⟨_, rfl⟩
  rw [← hm] at e11 hc ⊢
  have e7 : nI m / 7 = nI (m / 7) := pk_div (d := 7) (by omega) (by decide) (by decide)
  have e49 : nI m / 49 = nI (m / 49) := pk_div (d := 49) (by omega) (by decide) (by decide)
  have r7 : nI m - nI m / 7 * 7 = nI (m % 7) := pk_rem (d := 7) (by omega) (by decide) (by decide)
  have r77 : nI (m / 7) - nI (m / 7) / 7 * 7 = nI (m / 7 % 7) := pk_rem (d := 7) (by omega) (by decide) (by decide)
  have i1 : (7 : Int32) + nI (m / 7 % 7) = nI (7 * 1 + m / 7 % 7) := nI_add 7 _
  have i2 : (14 : Int32) + nI (m / 49) = nI (7 * 2 + m / 49) := nI_add 14 _
  have i0 : nI (m % 7) = nI (7 * 0 + m % 7) := by rw [Nat.mul_zero, Nat.zero_add]
  unfold fX2_worth
  rw [chk_in hpp (by decide), nI_clamp (by omega), e11, r7, e7, r77, e49, i1, i2, i0, chk_in (by omega) (by decide), chk_in (by omega) (by decide), chk_in (by omega) (by decide), nI_clamp (by omega), nI_clamp (by omega), nI_clamp (by omega), hp 0 _ (by omega) (by omega), hp 1 _ (by omega) (by omega), hp 2 _ (by omega) (by omega), h.2.2.1, i_mask, mI_mul hw.2, mI_mul hw.2, mI_nI hw.2, mI_nI hw.2, mI_nI hw.2]
  unfold mon
  simp only [Nat.mod_mod, Nat.mul_mod_mod, Nat.mod_mul_mod, Nat.mul_assoc]
theorem X_worth {w : Nat} {g : Nat → Nat} {σ : Mem} {q : Nat} {a : Nat → Nat} (h : CT w σ) (hp : PW w g σ) (hq : q < 125) (ha : px w σ q a) : fX5_worth (nI q) σ = some (nI (ev w g a), σ) := by
  have hw := h.1
  have hpw := pw_le hw.2
  have la := sz_le a
  have key : ok (loop (fun s => fX5_worth_B4 (nI q) s.1 s.2.1 s.2.2) (0, 0, σ)) (fun b => b.2 = σ ∧ mI w b.1 = fb_sm (fun p => a (cd p) * mon g (cd p)) (sz a) % 2 ^ w) := by
    refine ok_for' (enc := fun i (x : Int32) => (x, nI i, σ)) (sz a) (fun i x => mI w x = fb_sm (fun p => a (cd p) * mon g (cd p)) i % 2 ^ w) (i0 := 0) (s0 := 0) (Nat.zero_le _) ?_ ?_ ?_
    · show mI w (nI 0) = 0 % 2 ^ w
      rw [mI_nI hw.2]
    · intro i x hi hI
      dsimp only
      unfold fX5_worth_B4 fX5_worth_L46
      have e15 := ha.2.1 i (by omega)
      have hai := ha.1.1 (cd i)
      simp (disch := omega) only [chk_in, nI_clamp, ha.2.2, nI_leI, ix84, e15]
      rw [if_neg (by omega)]
      by_cases c : a (cd i) = 0
      · rw [if_pos (by rw [c]; rfl), nI_1]
        refine ok_some ⟨_, rfl, ?_⟩
        rw [hI, fb_sm_succ, c, Nat.zero_mul, Nat.add_zero]
      · rw [if_neg (nI_ne0 (by omega) (by omega)), X_mono h hp (by omega), Option.bind_some, nI_1]
        refine ok_some ⟨_, rfl, ?_⟩
        rw [mI_add hw.2, mI_mul hw.2, mI_nI hw.2, mI_nI hw.2, hI, fb_sm_succ]
        simp only [Nat.mod_mod, Nat.mul_mod_mod, Nat.mod_mul_mod, Nat.add_mod_mod, Nat.mod_add_mod]
    · intro x hI
      dsimp only
      unfold fX5_worth_B4
      simp (disch := omega) only [chk_in, nI_clamp, ha.2.2]
      rw [if_pos (Int32.le_refl _)]
      exact ok_some ⟨rfl, hI⟩
  obtain ⟨⟨x, τ⟩, hb, h1, h2⟩ := key
  dsimp only at h1 h2
  subst h1
  unfold fX5_worth fX5_worth_L52
  rw [hb, Option.bind_some]
  dsimp only
  rw [h.2.1, i_mask, h2]
  have hs : fb_sm (fun p => a (cd p) * mon g (cd p)) (sz a) = fb_sm (fun m => a m * mon g m) 343 := by
    rw [sm_cd (g := fun m => a m * mon g m) (fun m _ hne => (ha.1.2 m (fun z => hne (by rw [z, Nat.zero_mul]))).2)]
    have h2 := fb_sm_split (fun p => a (cd p) * mon g (cd p)) (sz a) (84 - sz a)
    rw [show sz a + (84 - sz a) = 84 by omega] at h2
    rw [h2, sm_0 (f := fun k => a (cd (sz a + k)) * mon g (cd (sz a + k))) (fun k hk => by rw [sz_beh (a := a) (p := sz a + k) (by omega) (by omega), Nat.zero_mul]), Nat.add_zero]
  unfold ev
  rw [hs]
theorem X1_worth {w : Nat} {g : Nat → Nat} {σ : Mem} {s i : Nat} {A : Fo} (h : PI w σ) (hp : PW w g σ) (hs : s < 31) (hi : i < 8) (hA : OkF w A) (fA : fx w σ s A) : fX1_worth (nI s) (nI i) σ = some (nI (ev w g (A i)), σ) := by
  unfold fX1_worth
  rw [X1_polyBehind hi, Option.bind_some]
  dsimp only
  rw [X_worth h.1 hp (by split <;> omega) (px_beh h hA fA), Option.bind_some]
def tri (n : Nat) : Nat := n * (n - 1) / 2
def tet (n : Nat) : Nat := n * (n - 1) * (n - 2) / 6
def tl (w : Nat) (g : Nat → Nat) (A : Fo) (n : Nat) : Nat := (ev w g (A 0) + n * ev w g (A 1) + tri n * ev w g (A 2) + tet n * ev w g (A 3)) % 2 ^ w
theorem lN_0' : lN 0 = 0 := rfl
theorem l_m1 (n : Nat) : lN n * (lN n - 1) = lN (n * (n - 1)) := by
  rcases Nat.eq_zero_or_pos n with e | e
  · subst e; rw [Nat.zero_mul, lN_0', Int64.zero_mul]
  · rw [show lN n - 1 = lN (n - 1) from lN_sub (b := 1) e, lN_mul]
theorem l_m2 (n k : Nat) (h : n < 2 → k = 0) : lN k * (lN n - 2) = lN (k * (n - 2)) := by
  rcases Nat.lt_or_ge n 2 with e | e
  · rw [h e, Nat.zero_mul, lN_0', Int64.zero_mul]
  · rw [show lN n - 2 = lN (n - 2) from lN_sub (b := 2) e, lN_mul]
theorem nn1_0 {n : Nat} (h : n < 2) : n * (n - 1) = 0 := by
  rcases (show n = 0 ∨ n = 1 by omega) with rfl | rfl <;> rfl
theorem tri_b {n : Nat} (h : n ≤ 1000000) : n * (n - 1) ≤ 1000000000000 ∧ n * (n - 1) * (n - 2) ≤ 1000000000000000000 := by
  have h1 : n * (n - 1) ≤ 1000000 * 1000000 := Nat.mul_le_mul h (by omega)
  have h2 : n * (n - 1) * (n - 2) ≤ 1000000 * 1000000 * 1000000 := Nat.mul_le_mul h1 (by omega)
  exact ⟨h1, h2⟩
theorem even_nn (n : Nat) : 2 ∣ n * (n - 1) := by
  rcases Nat.mod_two_eq_zero_or_one n with h | h
  · exact Nat.dvd_trans (Nat.dvd_of_mod_eq_zero h) (Nat.dvd_mul_right n (n - 1))
  · exact Nat.dvd_trans (Nat.dvd_of_mod_eq_zero (show (n - 1) % 2 = 0 by omega)) (Nat.dvd_mul_left (n - 1) n)
theorem tet_eq (n : Nat) : n * (n - 1) / 2 * (n - 2) / 3 = tet n := by
  unfold tet
  obtain ⟨k, hk⟩ := even_nn n
  rw [hk, Nat.mul_div_cancel_left k (by decide), Nat.mul_assoc, show (6 : Nat) = 2 * 3 from rfl, ← Nat.div_div_eq_div_mul, Nat.mul_div_cancel_left _ (by decide)]
theorem X1_tell {w : Nat} {g : Nat → Nat} {σ : Mem} {s n : Nat} {A : Fo} (h : PI w σ) (hp : PW w g σ) (hs : s < 31) (hn : n ≤ 1000000) (hA : OkF w A) (fA : fx w σ s A) : fX1_tell (nI s) (nI n) σ = some (nI (tl w g A n), σ) := by
  have hw := h.1.1
  have hpw := pw_le hw.2
  have v := fun i => ev_lt w g (A i)
  have v0 := v 0
  have v1 := v 1
  have v2 := v 2
  have v3 := v 3
  have tb := tri_b hn
  have w0 : fX1_worth (nI s) 0 σ = some (nI (ev w g (A 0)), σ) := X1_worth (i := 0) h hp hs (by omega) hA fA
  have w1 : fX1_worth (nI s) 1 σ = some (nI (ev w g (A 1)), σ) := X1_worth (i := 1) h hp hs (by omega) hA fA
  have w2 : fX1_worth (nI s) 2 σ = some (nI (ev w g (A 2)), σ) := X1_worth (i := 2) h hp hs (by omega) hA fA
  have w3 : fX1_worth (nI s) 3 σ = some (nI (ev w g (A 3)), σ) := X1_worth (i := 3) h hp hs (by omega) hA fA
  have em : (σ 1 1).toInt64 = lN (2 ^ w - 1) := by rw [h.1.2.2.2.1, nI_l (by omega)]
  have d2 : lN (n * (n - 1)) / 2 = lN (tri n) := pk_lDiv (b := 2) (by omega) (by decide) (by decide)
  have d6 : lN (n * (n - 1) * (n - 2)) / 6 = lN (tet n) := pk_lDiv (b := 6) (by omega) (by decide) (by decide)
  unfold fX1_tell
  rw [w0, Option.bind_some]
  dsimp only
  rw [w1, Option.bind_some]
  dsimp only
  rw [w2, Option.bind_some]
  dsimp only
  rw [w3, Option.bind_some]
  dsimp only
  rw [em, nI_l (n := n) (by omega), nI_l (n := ev w g (A 0)) (by omega), nI_l (n := ev w g (A 1)) (by omega), nI_l (n := ev w g (A 2)) (by omega), nI_l (n := ev w g (A 3)) (by omega), l_m1, l_m2 n _ nn1_0, d2, d6, fb_maskL, fb_maskL, lN_mul, lN_mul, lN_mul, lN_add, lN_add, lN_add, fb_maskL, lN_i]
  unfold tl
  congr 3
  rw [Nat.add_mod, Nat.mod_mul_mod, ← Nat.add_mod, Nat.add_right_comm, Nat.add_mod, Nat.mod_mul_mod, ← Nat.add_mod, Nat.add_right_comm]
