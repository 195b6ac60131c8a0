/-! the first turn in which something is nought -/
theorem odd_part : ∀ (N s : Nat), s ≤ N → 0 < s → ∃ e d, s = 2 ^ e * (2 * d + 1)
  | 0, s, h, h0 => by omega
  | N + 1, s, h, h0 => by
    rcases Nat.mod_two_eq_zero_or_one s with q | q
    · obtain ⟨e, d, hd⟩ := odd_part N (s / 2) (by omega) (by omega)
      refine ⟨e + 1, d, ?_⟩
      rw [Nat.pow_succ, Nat.mul_comm (2 ^ e) 2, Nat.mul_assoc, ← hd]
      omega
    · exact ⟨0, s / 2, by rw [Nat.pow_zero, Nat.one_mul]; omega⟩
theorem and_compl {n x : Nat} (h : x < 2 ^ n) : x &&& (2 ^ n - (x + 1)) = 0 := by
  refine Nat.eq_of_testBit_eq (fun i => ?_)
  rw [Nat.testBit_and, Nat.testBit_two_pow_sub_succ h, Nat.zero_testBit]
  cases x.testBit i <;> simp
theorem low_odd {m d : Nat} (h : 2 * d + 1 < 2 ^ (m + 1)) : (2 * d + 1) &&& (2 ^ (m + 1) - (2 * d + 1)) = 1 := by
  have hd : d < 2 ^ m := by rw [Nat.pow_succ] at h; omega
  have e : 2 ^ (m + 1) - (2 * d + 1) = 2 ^ 1 * (2 ^ m - (d + 1)) + 1 := by rw [Nat.pow_succ]; omega
  rw [e]
  have := and_dig 1 d 1 (2 ^ m - (d + 1)) 1 (by decide) (by decide)
  rw [and_compl hd] at this
  exact this
theorem low_bit {e d m : Nat} (he : e + m + 1 = 32) (h : 2 * d + 1 < 2 ^ (m + 1)) : nI (2 ^ e * (2 * d + 1)) &&& (-(nI (2 ^ e * (2 * d + 1)))) = nI (2 ^ e) := by
  have h32 : 2 ^ e * 2 ^ (m + 1) = 2 ^ 32 := by rw [← Nat.pow_add]; congr 1
  have hlt : 2 ^ e * (2 * d + 1) < 2 ^ 32 := by rw [← h32]; exact Nat.mul_lt_mul_of_pos_left h (Nat.two_pow_pos e)
  have hneg : -(nI (2 ^ e * (2 * d + 1))) = nI (2 ^ 32 - 2 ^ e * (2 * d + 1)) := by
    apply Int32.toBitVec_inj.mp
    apply BitVec.eq_of_toNat_eq
    have h1 : (nI (2 ^ e * (2 * d + 1))).toBitVec.toNat = 2 ^ e * (2 * d + 1) := pk_tn hlt
    have h0 : 0 < 2 ^ e * (2 * d + 1) := Nat.mul_pos (Nat.two_pow_pos e) (by omega)
    have h2 : (nI (2 ^ 32 - 2 ^ e * (2 * d + 1))).toBitVec.toNat = 2 ^ 32 - 2 ^ e * (2 * d + 1) := pk_tn (by omega)
    rw [Int32.toBitVec_neg, BitVec.toNat_neg, h1, h2, Nat.mod_eq_of_lt (by omega)]
  rw [hneg, fa_and]
  congr 1
  have e2 : 2 ^ 32 - 2 ^ e * (2 * d + 1) = 2 ^ e * (2 ^ (m + 1) - (2 * d + 1)) + 0 := by rw [Nat.mul_sub, h32]; rfl
  have h3 := and_dig e (2 * d + 1) 0 (2 ^ (m + 1) - (2 * d + 1)) 0 (Nat.two_pow_pos e) (Nat.two_pow_pos e)
  rw [low_odd h, Nat.add_zero, Nat.mul_one] at h3
  rw [e2]
  exact h3
/-- step, its low bit -/
theorem low_of {w s : Nat} (hw : w ≤ 16) (h0 : 0 < s) (hs : s < 2 ^ w) : ∃ e d, s = 2 ^ e * (2 * d + 1) ∧ e < w ∧ nI s &&& (-(nI s)) = nI (2 ^ e) := by
  obtain ⟨e, d, hd⟩ := odd_part s s (Nat.le_refl _) h0
  have hew : e < w := by
    have h1 : 2 ^ e ≤ s := by rw [hd]; exact Nat.le_mul_of_pos_right _ (by omega)
    exact (Nat.pow_lt_pow_iff_right (a := 2) (by decide)).mp (Nat.lt_of_le_of_lt h1 hs)
  refine ⟨e, d, hd, hew, ?_⟩
  rw [hd]
  refine low_bit (m := 31 - e) (by omega) ?_
  have hpw := pw_le hw
  have h2 : 2 * d + 1 ≤ s := by rw [hd]; exact Nat.le_mul_of_pos_left _ (Nat.two_pow_pos e)
  have h3 : 2 ^ 16 ≤ 2 ^ (31 - e + 1) := Nat.pow_le_pow_right (by decide) (by omega)
  omega
theorem cop_odd (m d : Nat) : Nat.Coprime (2 ^ m) (2 * d + 1) := by
  apply Nat.Coprime.pow_left
  unfold Nat.Coprime
  rw [Nat.gcd_rec, show (2 * d + 1) % 2 = 1 by omega]
  exact Nat.gcd_one_left 2
/-- what a step gives 0 of -/
theorem step_dvd {w e d k : Nat} (he : e ≤ w) : 2 ^ w ∣ k * (2 ^ e * (2 * d + 1)) ↔ 2 ^ (w - e) ∣ k := by
  have hp : 2 ^ w = 2 ^ e * 2 ^ (w - e) := by rw [← Nat.pow_add]; congr 1; omega
  have hk : k * (2 ^ e * (2 * d + 1)) = 2 ^ e * (k * (2 * d + 1)) := by rw [← Nat.mul_assoc, Nat.mul_comm k, Nat.mul_assoc]
  rw [hp, hk]
  constructor
  · intro h
    exact Nat.Coprime.dvd_of_dvd_mul_right (cop_odd (w - e) d) (Nat.dvd_of_mul_dvd_mul_left (Nat.two_pow_pos e) h)
  · intro h
    exact Nat.mul_dvd_mul_left _ (Nat.dvd_trans h (Nat.dvd_mul_right _ _))
/-- the least n for which b + n s is 0 modulo 2^w -/
def FZ (w b s n0 : Nat) : Prop := (b + n0 * s) % 2 ^ w = 0 ∧ ∀ n, n < n0 → (b + n * s) % 2 ^ w ≠ 0
theorem FZ_of {w b e d n0 : Nat} (he : e ≤ w) (h : (b + n0 * (2 ^ e * (2 * d + 1))) % 2 ^ w = 0) (hn : n0 < 2 ^ (w - e)) : FZ w b (2 ^ e * (2 * d + 1)) n0 := by
  refine ⟨h, fun n hlt hz => ?_⟩
  have h1 : 2 ^ w ∣ (b + n0 * (2 ^ e * (2 * d + 1))) - (b + n * (2 ^ e * (2 * d + 1))) := Nat.dvd_sub (Nat.dvd_of_mod_eq_zero h) (Nat.dvd_of_mod_eq_zero hz)
  have h2 : (b + n0 * (2 ^ e * (2 * d + 1))) - (b + n * (2 ^ e * (2 * d + 1))) = (n0 - n) * (2 ^ e * (2 * d + 1)) := by
    rw [Nat.sub_mul]; omega
  rw [h2, step_dvd he] at h1
  have := Nat.le_of_dvd (by omega) h1
  omega
/-! the inverse of an odd number -/
theorem sq_mI {m k : Nat} (hm : m ≤ 16) (hk : k ≤ 16) (hkm : k ≤ 2 * m) {y : Int32} (h : mI m y = 0) : mI k (y * y) = 0 := by
  unfold mI at h ⊢
  obtain ⟨a, ha⟩ := Nat.dvd_of_mod_eq_zero h
  rw [Int32.toBitVec_mul, BitVec.toNat_mul, Nat.mod_mod_of_dvd _ (pw_dvd (by omega)), ha]
  apply Nat.mod_eq_zero_of_dvd
  have : 2 ^ m * a * (2 ^ m * a) = 2 ^ (2 * m) * (a * a) := by
    rw [show 2 * m = m + m by omega, Nat.pow_add, Nat.mul_assoc, Nat.mul_assoc, Nat.mul_left_comm a (2 ^ m) a]
  rw [this]
  exact Nat.dvd_trans (pw_dvd hkm) (Nat.dvd_mul_right _ _)
theorem inv_step (x f : Int32) : 1 - x * (f * (2 - x * f)) = (1 - x * f) * (1 - x * f) := by grind
theorem odd_sq (d : Nat) : mI 3 (1 - nI (2 * d + 1) * nI (2 * d + 1)) = 0 := by
  rw [mI_sub (by decide), mI_mul (by decide), mI_nI (by decide)]
  have h1 : mI 3 1 = 1 := by decide
  rw [h1]
  have h8 : (2 * d + 1) % 2 ^ 3 = 1 ∨ (2 * d + 1) % 2 ^ 3 = 3 ∨ (2 * d + 1) % 2 ^ 3 = 5 ∨ (2 * d + 1) % 2 ^ 3 = 7 := by omega
  rcases h8 with q | q | q | q <;> rw [q]
theorem X_inverse (d : Nat) (σ : Mem) : ∃ v, fX7_inverse (nI (2 * d + 1)) σ = some (v, σ) ∧ mI 16 (1 - nI (2 * d + 1) * v) = 0 := by
  obtain ⟨x, hx⟩ : ∃ x, x = nI (2 * d + 1) := ⟨_, rfl⟩
  have b : ∀ (r : Nat) (f : Int32), r < 4 → fX7_inverse_B4 x f (nI r) σ = some (.inl (f * (2 - x * f), nI (r + 1), σ)) := by
    intro r f hr
    unfold fX7_inverse_B4
    rw [if_neg (n4 hr), nI_1]
  have b4 : ∀ f : Int32, fX7_inverse_B4 x f (nI 4) σ = some (.inr (f, σ)) := by
    intro f
    unfold fX7_inverse_B4
    rw [if_pos n4']
  obtain ⟨g, hg⟩ : ∃ g : Int32 → Int32, g = fun f => f * (2 - x * f) := ⟨_, rfl⟩
  have hgs : ∀ f, 1 - x * g f = (1 - x * f) * (1 - x * f) := fun f => by rw [hg]; exact inv_step x f
  have bg : ∀ (r : Nat) (f : Int32), r < 4 → fX7_inverse_B4 x f (nI r) σ = some (.inl (g f, nI (r + 1), σ)) := fun r f hr => by rw [hg]; exact b r f hr
  refine ⟨g (g (g (g x))), ?_, ?_⟩
  · unfold fX7_inverse fX7_inverse_L23
    rw [← hx]
    have key : loop (fun a => fX7_inverse_B4 x a.1 a.2.1 a.2.2) (x, nI 0, σ) = some (g (g (g (g x))), σ) :=
      loop_in (bg 0 x (by omega)) (loop_in (bg 1 _ (by omega)) (loop_in (bg 2 _ (by omega)) (loop_in (bg 3 _ (by omega)) (loop_out (b4 _)))))
    show (loop _ (x, nI 0, σ)).bind _ = _
    rw [key, Option.bind_some]
  · rw [← hx]
    have h0 : mI 3 (1 - x * x) = 0 := by rw [hx]; exact odd_sq d
    have h1 : mI 6 (1 - x * g x) = 0 := by rw [hgs]; exact sq_mI (by decide) (by decide) (by decide) h0
    have h2 : mI 12 (1 - x * g (g x)) = 0 := by rw [hgs]; exact sq_mI (by decide) (by decide) (by decide) h1
    have h3 : mI 16 (1 - x * g (g (g x))) = 0 := by rw [hgs]; exact sq_mI (by decide) (by decide) (by decide) h2
    rw [hgs]
    exact sq_mI (by decide) (by decide) (by decide) h3
theorem mI_le {a b : Nat} (hab : a ≤ b) {x : Int32} (h : mI b x = 0) : mI a x = 0 := by
  unfold mI at h ⊢
  exact Nat.mod_eq_zero_of_dvd (Nat.dvd_trans (pw_dvd hab) (Nat.dvd_of_mod_eq_zero h))
theorem X_period {w s e d : Nat} {σ : Mem} (hw : w ≤ 16) (h3 : σ 3 0 = nI (2 ^ w - 1)) (he : e < w) (hl : nI s &&& (-(nI s)) = nI (2 ^ e)) : fX7_period (nI s) σ = some (nI (2 ^ (w - e)), σ) := by
  have hpw := pw_le hw
  have hpe : 2 ^ e ≤ 2 ^ w := Nat.pow_le_pow_right (by decide) (by omega)
  have hp0 := Nat.two_pow_pos e
  unfold fX7_period fX7_period_L24
  have hne : (nI (2 ^ e) != 0) = true := by
    have : ¬ nI (2 ^ e) = 0 := nI_ne0 hp0 (by omega)
    simp [this]
  rw [hl, if_pos (show (0 : Int32) < nI (2 ^ e) from nI_lt (a := 0) hp0 (by omega)), hne, chk_t, h3, nI_1, Nat.sub_add_cancel (pw_pos w), pk_div (by omega) hp0 (by omega), Nat.pow_div (by omega) (by decide)]
theorem X_period0 (σ : Mem) : fX7_period (nI 0) σ = some (nI (2 ^ 0), σ) := by
  unfold fX7_period fX7_period_L24
  rw [if_neg (by decide)]; rfl
theorem X_firstZero {w b s : Nat} {σ : Mem} (hw : w ≤ 16) (h3 : σ 3 0 = nI (2 ^ w - 1)) (hb : b < 2 ^ w) (hs : s < 2 ^ w) : ∃ r, fX7_firstZero (nI b) (nI s) σ = some (r, σ) ∧ ((∃ n0, n0 < 2 ^ w ∧ r = nI n0 ∧ FZ w b s n0) ∨ (r = -1 ∧ ∀ n, (b + n * s) % 2 ^ w ≠ 0)) := by
  have hpw := pw_le hw
  unfold fX7_firstZero fX7_firstZero_L21
  by_cases c0 : b = 0
  · rw [if_pos (by rw [c0]; rfl)]
    exact ⟨0, rfl, Or.inl ⟨0, pw_pos w, rfl, by rw [c0, Nat.zero_mul, Nat.zero_add, Nat.zero_mod], fun n hn => absurd hn (Nat.not_lt_zero n)⟩⟩
  rw [if_neg (nI_ne0 (by omega) (by omega))]
  by_cases cs : s = 0
  · subst cs
    rw [if_pos (by decide)]
    exact ⟨-1, rfl, Or.inr ⟨rfl, fun n => by rw [Nat.mul_zero, Nat.add_zero, Nat.mod_eq_of_lt hb]; exact c0⟩⟩
  obtain ⟨e, d, hd, hew, hl⟩ := low_of hw (by omega) hs
  have hpe : 2 ^ e ≤ 2 ^ w := Nat.pow_le_pow_right (by decide) (by omega)
  have hp0 := Nat.two_pow_pos e
  have hne : (nI (2 ^ e) != 0) = true := by
    have : ¬ nI (2 ^ e) = 0 := nI_ne0 hp0 (by omega)
    simp [this]
  have hde : 2 ^ e ∣ 2 ^ w := pw_dvd (by omega)
  rw [hl, if_neg (nI_nle hp0 (by omega)), hne, chk_t, pk_rem (by omega) hp0 (by omega)]
  have hbl : b % 2 ^ e < 2 ^ e := Nat.mod_lt _ hp0
  by_cases cm : b % 2 ^ e = 0
  · rw [if_pos (by rw [cm]; rfl), chk_t, chk_t, pk_div (a := b) (by omega) hp0 (by omega), pk_div (a := s) (by omega) hp0 (by omega)]
    have hsd : s / 2 ^ e = 2 * d + 1 := by rw [hd, Nat.mul_div_cancel_left _ hp0]
    rw [hsd]
    obtain ⟨v, hv, hinv⟩ := X_inverse d σ
    rw [hv, Option.bind_some]
    dsimp only
    rw [X_period (d := d) hw h3 hew hl, Option.bind_some]
    dsimp only
    have hq0 := Nat.two_pow_pos (w - e)
    have hql : 2 ^ (w - e) ≤ 2 ^ w := Nat.pow_le_pow_right (by decide) (by omega)
    have em : nI (2 ^ (w - e)) - 1 = nI (2 ^ (w - e) - 1) := nI_m1 hq0
    rw [em, i_mask]
    obtain ⟨n0, hn0⟩ : ∃ n0, n0 = mI (w - e) (-(nI (b / 2 ^ e)) * v) := ⟨_, rfl⟩
    have hn0l : n0 < 2 ^ (w - e) := by rw [hn0]; exact mI_lt _ _
    rw [← hn0]
    refine ⟨nI n0, rfl, Or.inl ⟨n0, by omega, rfl, ?_⟩⟩
    rw [hd]
    refine FZ_of (by omega) ?_ hn0l
    -- what is left is nought modulo 2^(w-e)
    have hz : (b / 2 ^ e + n0 * (2 * d + 1)) % 2 ^ (w - e) = 0 := by
      have hq : w - e ≤ 16 := by omega
      have hi := mI_le (a := w - e) (by omega) hinv
      have ring : nI (b / 2 ^ e) + (-(nI (b / 2 ^ e)) * v) * nI (2 * d + 1) = nI (b / 2 ^ e) * (1 - nI (2 * d + 1) * v) := by grind
      have h1 : mI (w - e) (nI (b / 2 ^ e) + (-(nI (b / 2 ^ e)) * v) * nI (2 * d + 1)) = 0 := by
        rw [ring, mI_mul hq, hi, Nat.mul_zero, Nat.zero_mod]
      rw [mI_add hq, mI_mul hq, mI_nI hq, mI_nI hq, ← hn0] at h1
      simp only [Nat.add_mod_mod, Nat.mod_add_mod, Nat.mul_mod_mod] at h1
      exact h1
    have hbe : b = 2 ^ e * (b / 2 ^ e) := (Nat.mul_div_cancel' (Nat.dvd_of_mod_eq_zero cm)).symm
    obtain ⟨k, hk⟩ := Nat.dvd_of_mod_eq_zero hz
    have e1 : b + n0 * (2 ^ e * (2 * d + 1)) = 2 ^ e * (b / 2 ^ e + n0 * (2 * d + 1)) := by
      rw [Nat.mul_add (2 ^ e) (b / 2 ^ e), ← hbe, Nat.mul_left_comm]
    rw [e1, hk, ← Nat.mul_assoc, ← Nat.pow_add, show e + (w - e) = w by omega]
    exact Nat.mul_mod_right _ _
  · rw [if_neg (nI_ne0 (by omega) (by omega))]
    refine ⟨-1, rfl, Or.inr ⟨rfl, fun n hz => cm ?_⟩⟩
    have h1 : 2 ^ e ∣ b + n * s := Nat.dvd_trans hde (Nat.dvd_of_mod_eq_zero hz)
    have h2 : 2 ^ e ∣ n * s := by rw [hd]; exact Nat.dvd_trans (Nat.dvd_mul_right (2 ^ e) (2 * d + 1)) (Nat.dvd_mul_left _ n)
    exact Nat.mod_eq_zero_of_dvd ((Nat.dvd_add_iff_left h2).mpr h1)
theorem M_firstNought {w b s : Nat} {σ : Mem} (h : MB w σ) (hb : b < 2 ^ w) (hs : s < 2 ^ w) : (∀ n0, n0 < 2 ^ w → FZ w b s n0 → fX8_firstNought (nI b) (nI s) σ = some (nI n0, σ)) ∧ ((∀ n, (b + n * s) % 2 ^ w ≠ 0) → fX8_firstNought (nI b) (nI s) σ = some (-1, σ)) := by
  have hw := h.1
  have hpw := pw_le hw.2
  have hv : ∀ n, fX8_cut ((nI b).toInt64 + (nI n).toInt64 * (nI s).toInt64) σ = some (nI ((b + n * s) % 2 ^ w), σ) := by
    intro n
    rw [cutE hw.2 h.2, mL_add hw.2, mL_mul hw.2, mI_64 hw.2, mI_64 hw.2, mI_64 hw.2, mI_nI hw.2, mI_nI hw.2, mI_nI hw.2]
    simp only [Nat.add_mod_mod, Nat.mod_add_mod, Nat.mul_mod_mod, Nat.mod_mul_mod]
  have step : ∀ n, n < 2 ^ w → (b + n * s) % 2 ^ w ≠ 0 → fX8_firstNought_B2 (nI b) (nI s) (nI n) σ = some (.inl (nI (n + 1), σ)) := by
    intro n hn hne
    unfold fX8_firstNought_B2
    have := Nat.mod_lt (b + n * s) (pw_pos w)
    rw [h.2, if_neg (nI_ge hn (by omega)), hv, Option.bind_some]
    dsimp only
    rw [if_neg (nI_ne0 (by omega) (by omega)), nI_1]
  constructor
  · intro n0 hn0 hz
    have key : ok (loop (fun a => fX8_firstNought_B2 (nI b) (nI s) a.1 a.2) (0, σ)) (fun r => r = .inr (nI n0, σ)) := by
      refine ok_for' (enc := fun n (_ : Unit) => (nI n, σ)) n0 (fun _ _ => True) (i0 := 0) (s0 := ()) (Nat.zero_le _) trivial ?_ ?_
      · intro n _ hn _
        dsimp only
        rw [step n (by omega) (hz.2 n hn)]
        exact ok_some ⟨(), rfl, trivial⟩
      · intro _ _
        dsimp only
        unfold fX8_firstNought_B2
        rw [h.2, if_neg (nI_ge hn0 (by omega)), hv, Option.bind_some, hz.1]
        dsimp only
        rw [if_pos (show nI 0 = 0 from rfl)]
        exact ok_some rfl
    obtain ⟨r, hr, rfl⟩ := key
    unfold fX8_firstNought
    rw [hr, Option.bind_some]; rfl
  · intro hno
    have key : ok (loop (fun a => fX8_firstNought_B2 (nI b) (nI s) a.1 a.2) (0, σ)) (fun r => r = .inl σ) := by
      refine ok_for' (enc := fun n (_ : Unit) => (nI n, σ)) (2 ^ w) (fun _ _ => True) (i0 := 0) (s0 := ()) (Nat.zero_le _) trivial ?_ ?_
      · intro n _ hn _
        dsimp only
        rw [step n hn (hno n)]
        exact ok_some ⟨(), rfl, trivial⟩
      · intro _ _
        dsimp only
        unfold fX8_firstNought_B2
        rw [h.2, if_pos (Int32.le_refl _)]
        exact ok_some rfl
    obtain ⟨r, hr, rfl⟩ := key
    unfold fX8_firstNought fX8_firstNought_L33
    rw [hr, Option.bind_some]; rfl
