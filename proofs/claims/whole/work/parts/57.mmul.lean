/-! products of the reference -/
/-- slot s has become something -/
def MW (s : Nat) (σ τ : Mem) : Prop := FR [1] σ τ ∧ ∀ j, (j < 1372 * s ∨ 1372 * s + 1372 ≤ j) → τ 1 j = σ 1 j
theorem MW_refl (s : Nat) (σ : Mem) : MW s σ σ := ⟨FR_refl _ _, fun _ _ => rfl⟩
theorem MW_mset (s : Nat) (σ : Mem) (A : Nat → Nat → Nat) : MW s σ (mset σ s A) := ⟨FR_mset σ s A, fun j hj => by unfold mset; rw [seg_out _ _ hj]⟩
theorem MW_trans {s : Nat} {σ τ ρ : Mem} (h : MW s σ τ) (h2 : MW s τ ρ) : MW s σ ρ := ⟨FR_trans h.1 h2.1, fun j hj => (h2.2 j hj).trans (h.2 j hj)⟩
theorem fm_MW {w s r : Nat} {σ τ : Mem} {A : Nat → Nat → Nat} (h : MW s σ τ) (fA : fm w σ r A) (hr : r ≠ s) : fm w τ r A := ⟨fA.1, fun j hj => by rw [h.2 _ (by omega)]; exact fA.2 j hj⟩
theorem mset_at (σ : Mem) (s : Nat) (A : Nat → Nat → Nat) {c m : Nat} (hc : c < 4) (hm : m < 343) : mset σ s A 1 (1372 * s + 343 * c + m) = nI (A c m) := by
  unfold mset
  rw [seg_in _ _ (by omega) (by omega), show 1372 * s + 343 * c + m - 1372 * s = 343 * c + m by omega, flt_at A hm]
theorem mset_cong {σ : Mem} {s : Nat} {A B : Nat → Nat → Nat} (h : ∀ c m, c < 4 → m < 343 → A c m = B c m) : mset σ s A = mset σ s B := by
  funext k j
  by_cases k1 : k = 1
  · subst k1
    unfold mset
    by_cases hj : 1372 * s ≤ j ∧ j < 1372 * s + 1372
    · rw [seg_in _ _ hj.1 hj.2, seg_in _ _ hj.1 hj.2]
      unfold flt
      rw [h _ _ (by omega) (by omega)]
    · rw [seg_out _ _ (by omega), seg_out _ _ (by omega)]
  · unfold mset; rw [seg_row _ _ _ _ k1, seg_row _ _ _ _ k1]
theorem mset_up (σ : Mem) (s : Nat) {A A' : Nat → Nat → Nat} {c m v : Nat} (hc : c < 4) (hm : m < 343) (h : ∀ c' m', c' < 4 → m' < 343 → A' c' m' = if c' = c ∧ m' = m then v else A c' m') : up2 (mset σ s A) 1 (1372 * s + 343 * c + m) (nI v) = mset σ s A' := by
  funext k j
  by_cases k1 : k = 1
  · subst k1
    by_cases hj : 1372 * s ≤ j ∧ j < 1372 * s + 1372
    · obtain ⟨c', m', hc', hm', rfl⟩ : ∃ c' m', c' < 4 ∧ m' < 343 ∧ j = 1372 * s + 343 * c' + m' := ⟨(j - 1372 * s) / 343, (j - 1372 * s) % 343, by omega, by omega, by omega⟩
      rw [mset_at σ s A' hc' hm', h c' m' hc' hm']
      by_cases e : c' = c ∧ m' = m
      · rw [if_pos e, e.1, e.2, up2_eq]
      · rw [if_neg e, up2_col _ _ _ (by omega), mset_at σ s A hc' hm']
    · unfold mset
      rw [up2_col _ _ _ (by omega), seg_out _ _ (by omega), seg_out _ _ (by omega)]
  · rw [up2_row _ _ _ k1]
    unfold mset
    rw [seg_row _ _ _ _ k1, seg_row _ _ _ _ k1]
theorem M_exponents {m : Nat} (hm : m < 2 ^ 31) (σ : Mem) : fX8_exponents (nI m) σ = some (nI (ex m), σ) := by
  have e7 : nI m / 7 = nI (m / 7) := pk_div (d := 7) hm (by decide) (by decide)
  have e49 : nI m / 49 = nI (m / 49) := pk_div (d := 49) hm (by decide) (by decide)
  have r7 : nI m - nI m / 7 * 7 = nI (m % 7) := pk_rem (d := 7) hm (by decide) (by decide)
  have r77 : nI (m / 7) - nI (m / 7) / 7 * 7 = nI (m / 7 % 7) := pk_rem (d := 7) (by omega) (by decide) (by decide)
  unfold fX8_exponents
  rw [r7, e7, r77, e49, nI_add, nI_add]
  rfl
def fct (n : Nat) : Nat := if n < 2 then 1 else if n = 2 then 2 else 6
theorem M_fact {n : Nat} (h : n < 4) (σ : Mem) : fX8_factorial (nI n) σ = some (nI (fct n), σ) := by
  unfold fX8_factorial fX8_factorial_L20 fct
  by_cases c : n < 2
  · rw [if_pos c, if_neg (show ¬ (2 : Int32) ≤ nI n from nI_ge (b := 2) c (by decide))]; rfl
  · rw [if_neg c, if_pos (show (2 : Int32) ≤ nI n from nI_le (a := 2) (by omega) (by omega))]
    by_cases c2 : n = 2
    · rw [if_pos c2, if_pos (by rw [c2]; rfl)]; rfl
    · rw [if_neg c2, if_neg (show ¬ nI n = 2 from fun e => c2 ((nI_eq (b := 2) (by omega) (by decide)).mp e))]; rfl
theorem cf_fct : ∀ i, i < 4 → ∀ j, j < 4 → ∀ k, k < 4 → (decide (max i j ≤ k) && decide (k ≤ i + j) && decide (i + j ≤ 3)) = true → (decide (fct (k - i) * fct (k - j) * fct (i + j - k) ≠ 0) && decide (fct k / (fct (k - i) * fct (k - j) * fct (i + j - k)) = cf i j k)) = true := by decide
theorem fct_6 (n : Nat) : fct n ≤ 6 := by unfold fct; split; omega; split <;> omega
theorem M_often {i j k : Nat} (h1 : max i j ≤ k) (h2 : k ≤ i + j) (h3 : i + j ≤ 3) (σ : Mem) : fX8_often (nI i) (nI j) (nI k) σ = some (nI (cf i j k), σ) := by
  have hk : k < 4 := by omega
  have hi : i ≤ k := by omega
  have hj : j ≤ k := by omega
  have hc := cf_fct i (by omega) j (by omega) k hk (by simp only [Bool.and_eq_true, decide_eq_true_eq]; exact ⟨⟨h1, h2⟩, h3⟩)
  simp only [Bool.and_eq_true, decide_eq_true_eq] at hc
  unfold fX8_often
  rw [M_fact hk, Option.bind_some, pk_sub hi, pk_sub hj, nI_add, pk_sub h2]
  dsimp only
  rw [M_fact (by omega), Option.bind_some]
  dsimp only
  rw [M_fact (by omega), Option.bind_some]
  dsimp only
  rw [M_fact (by omega), Option.bind_some]
  dsimp only
  have b1 := fct_6 (k - i)
  have b2 := fct_6 (k - j)
  have b3 := fct_6 (i + j - k)
  have b4 := fct_6 k
  have b5 : fct (k - i) * fct (k - j) * fct (i + j - k) ≤ 6 * 6 * 6 := Nat.mul_le_mul (Nat.mul_le_mul b1 b2) b3
  rw [pk_mul, pk_mul, pk_div (by omega) (Nat.pos_of_ne_zero hc.1) (by omega), hc.2]
  have hne : (nI (fct (k - i) * fct (k - j) * fct (i + j - k)) != 0) = true := by
    have : ¬ nI (fct (k - i) * fct (k - j) * fct (i + j - k)) = 0 := nI_ne0 (Nat.pos_of_ne_zero hc.1) (by omega)
    simp [this]
  rw [hne, chk_t]
def cst (w : Nat) (C : Nat → Nat → Nat) (i j y v : Nat) : Nat → Nat → Nat := fun k x => if x = y then (C k x + cf i j k * v) % 2 ^ w else C k x
theorem M_mulK {w : Nat} {σ : Mem} {s : Nat} {C : Nat → Nat → Nat} (h : MB w σ) (hs : s < 124) (hC : ∀ k x, C k x < 2 ^ w) {r1 r2 i j m n v b : Nat} (hij : i + j ≤ 3) (hmn : m + n < 343) (hv : v < 2 ^ w) (hb : b < 2 ^ w) :
    ok (loop (fun a => fX8_multiplies__B105 (nI s) (nI r1) (nI i) (nI r2) (nI j) (nI m) (nI v) (nI n) (nI b) a.1 a.2) (nI (max i j), mset σ s C)) (fun τ => τ = mset σ s (cst w C i j (m + n) (v * b))) := by
  have hw := h.1.2
  have hpw := pw_le hw
  have hp0 := pw_pos w
  obtain ⟨D, hD⟩ : ∃ D : Nat → Nat → Nat → Nat, D = fun k k' x => if k' < k ∧ x = m + n then (C k' x + cf i j k' * (v * b)) % 2 ^ w else C k' x := ⟨_, rfl⟩
  have e0 : mset σ s C = mset σ s (D (max i j)) := mset_cong (fun c x hc hx => by
    rw [hD]
    dsimp only
    split
    · rename_i q
      rw [cf_no (by omega) (by omega), Nat.zero_mul, Nat.add_zero, Nat.mod_eq_of_lt (hC c x)]
    · rfl)
  rw [e0]
  refine ok_for' (enc := fun k (_ : Unit) => (nI k, mset σ s (D k))) (i + j + 1) (fun k _ => max i j ≤ k) (i0 := max i j) (s0 := ()) (by omega) (Nat.le_refl _) ?_ ?_
  · intro k _ hk hI
    dsimp only
    unfold fX8_multiplies__B105
    have hvb : v * b < 2 ^ 32 := by
      have := Nat.mul_le_mul (Nat.le_of_lt hv) (Nat.le_of_lt hb)
      have h2 : 2 ^ w * 2 ^ w ≤ 65536 * 65536 := Nat.mul_le_mul hpw hpw
      have h3 : v * b ≤ 65536 * 65536 := Nat.le_trans this h2
      have h4 : v ≤ 65535 := by omega
      have h5 : b ≤ 65535 := by omega
      have h6 := Nat.mul_le_mul h4 h5
      omega
    have eix : 1372 * nI s + 343 * nI k + nI m + nI n = nI (1372 * s + 343 * k + (m + n)) := by rw [ixG, nI_add, Nat.add_assoc]
    have emod : (mset σ s (D k) 0 1).toInt64 = lN (2 ^ w) := by
      rw [(MB_FR h (FR_mset σ s (D k)) (by decide)).2, nI_l (by omega)]
    have eat : mset σ s (D k) 1 (1372 * s + 343 * k + (m + n)) = nI (C k (m + n)) := by
      rw [mset_at σ s (D k) (by omega) hmn, hD]
      dsimp only
      rw [if_neg (by omega)]
    have hCk := hC k (m + n)
    rw [nI_add, if_neg (nI_nlt (by omega) (by omega)), eix, emod, chk_in (by omega) (by decide), nI_clamp (by omega), eat]
    have hne : (lN (2 ^ w) != 0) = true := by
      have : ¬ lN (2 ^ w) = 0 := fun q => by
        have := (pk_lEQ (b := 0) (by omega) (by decide)).mp q
        omega
      simp [this]
    rw [hne, chk_t, M_often hI (by omega) hij, Option.bind_some]
    dsimp only
    have hcf : cf i j k < 2 ^ 31 := by
      unfold cf; split
      · split <;> omega
      · split <;> omega
    rw [nI_l (n := v) (by omega), nI_l (n := b) (by omega), nI_l (n := C k (m + n)) (by omega), nI_l hcf, lN_mul, pk_lRem (by omega) hp0 (by omega), lN_mul, lN_add, cutE hw (MB_FR h (FR_mset σ s (D k)) (by decide)).2, Option.bind_some]
    dsimp only
    rw [chk_in (by omega) (by decide), nI_1, mL_lN hw]
    refine ok_some ⟨(), ?_, by omega⟩
    have : (C k (m + n) + v * b % 2 ^ w * cf i j k) % 2 ^ w = (C k (m + n) + cf i j k * (v * b)) % 2 ^ w := by
      rw [Nat.add_mod, Nat.mod_mul_mod, ← Nat.add_mod, Nat.mul_comm (v * b)]
    rw [this, mset_up σ s (A' := D (k + 1)) (by omega) hmn]
    intro c x hc hx
    rw [hD]
    dsimp only
    by_cases q : c = k ∧ x = m + n
    · rw [if_pos q, if_pos (by omega), q.1, q.2]
    · rw [if_neg q]
      by_cases q2 : c < k ∧ x = m + n
      · rw [if_pos q2, if_pos (by omega)]
      · rw [if_neg q2, if_neg (by omega)]
  · intro _ hI
    dsimp only
    unfold fX8_multiplies__B105
    rw [nI_add, if_pos (nI_lt (by omega) (by omega))]
    refine ok_some (mset_cong (fun c x hc hx => ?_))
    rw [hD]
    unfold cst
    dsimp only
    by_cases q : x = m + n
    · rw [if_pos q]
      by_cases q2 : c < i + j + 1
      · rw [if_pos ⟨q2, q⟩]
      · rw [if_neg (fun z => q2 z.1), cf_no (by omega) (by omega), Nat.zero_mul, Nat.add_zero, Nat.mod_eq_of_lt (hC c x)]
    · rw [if_neg q, if_neg (fun z => q z.2)]
