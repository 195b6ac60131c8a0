/-! numbers modulo 2^w, on both sides -/
/-- an int, a long modulo 2^w -/
def mI (w : Nat) (x : Int32) : Nat := x.toBitVec.toNat % 2 ^ w
def mL (w : Nat) (x : Int64) : Nat := x.toBitVec.toNat % 2 ^ w
theorem pw_le {w : Nat} (h : w ≤ 16) : 2 ^ w ≤ 65536 := Nat.pow_le_pow_right (by decide) h
theorem pw_pos (w : Nat) : 0 < 2 ^ w := Nat.two_pow_pos w
theorem mI_lt (w : Nat) (x : Int32) : mI w x < 2 ^ w := Nat.mod_lt _ (pw_pos w)
theorem mL_lt (w : Nat) (x : Int64) : mL w x < 2 ^ w := Nat.mod_lt _ (pw_pos w)
theorem i_mask {w : Nat} (x : Int32) : x &&& nI (2 ^ w - 1) = nI (mI w x) := by
  obtain ⟨m, hm, rfl⟩ := wb_of32 x
  rw [fa_mask]
  unfold mI
  show _ = nI (((BitVec.ofNat 32 m).toNat) % 2 ^ w)
  rw [BitVec.toNat_ofNat, Nat.mod_eq_of_lt hm]
theorem l_mod {w : Nat} (hw : w ≤ 16) : (nI (2 ^ w)).toInt64 - 1 = lN (2 ^ w - 1) := by
  have h := pw_le hw
  rw [nI_l (by omega)]
  exact lN_sub (b := 1) (pw_pos w)
theorem l_mask {w : Nat} (hw : w ≤ 16) (x : Int64) : (x &&& ((nI (2 ^ w)).toInt64 - 1)).toInt32 = nI (mL w x) := by
  obtain ⟨m, hm, rfl⟩ := wb_of x
  rw [l_mod hw, wb_mask hm (by omega), lN_i]
  unfold mL
  rw [wb_tn hm]
theorem cutE {w : Nat} (hw : w ≤ 16) {σ : Mem} (h : σ 0 1 = nI (2 ^ w)) (x : Int64) : fX8_cut x σ = some (nI (mL w x), σ) := by
  unfold fX8_cut
  rw [h, l_mask hw]
theorem pw_dvd {w k : Nat} (h : w ≤ k) : 2 ^ w ∣ 2 ^ k := Nat.pow_dvd_pow 2 h
theorem mL_32 {w : Nat} (hw : w ≤ 16) (x : Int64) : mI w x.toInt32 = mL w x := by
  unfold mI mL
  have : x.toInt32.toBitVec.toNat = x.toBitVec.toNat % 2 ^ 32 := by
    show (x.toBitVec.signExtend 32).toNat = _
    rw [BitVec.signExtend_eq_setWidth_of_le _ (by decide), BitVec.toNat_setWidth]
  rw [this, Nat.mod_mod_of_dvd _ (pw_dvd (by omega))]
theorem mI_64 {w : Nat} (hw : w ≤ 16) (x : Int32) : mL w x.toInt64 = mI w x := by
  rw [← mL_32 hw, Int32.toInt32_toInt64]
theorem mI_nI {w a : Nat} (hw : w ≤ 16) : mI w (nI a) = a % 2 ^ w := by
  unfold mI
  show (BitVec.ofNat 32 a).toNat % 2 ^ w = _
  rw [BitVec.toNat_ofNat, Nat.mod_mod_of_dvd _ (pw_dvd (by omega))]
theorem mL_lN {w a : Nat} (hw : w ≤ 16) : mL w (lN a) = a % 2 ^ w := by
  unfold mL
  show (BitVec.ofNat 64 a).toNat % 2 ^ w = _
  rw [BitVec.toNat_ofNat, Nat.mod_mod_of_dvd _ (pw_dvd (by omega))]
theorem mI_add {w : Nat} (hw : w ≤ 16) (x y : Int32) : mI w (x + y) = (mI w x + mI w y) % 2 ^ w := by
  unfold mI
  rw [Int32.toBitVec_add, BitVec.toNat_add, Nat.mod_mod_of_dvd _ (pw_dvd (by omega)), Nat.add_mod]
theorem mI_mul {w : Nat} (hw : w ≤ 16) (x y : Int32) : mI w (x * y) = (mI w x * mI w y) % 2 ^ w := by
  unfold mI
  rw [Int32.toBitVec_mul, BitVec.toNat_mul, Nat.mod_mod_of_dvd _ (pw_dvd (by omega)), Nat.mul_mod]
theorem mL_add {w : Nat} (hw : w ≤ 16) (x y : Int64) : mL w (x + y) = (mL w x + mL w y) % 2 ^ w := by
  unfold mL
  rw [Int64.toBitVec_add, BitVec.toNat_add, Nat.mod_mod_of_dvd _ (pw_dvd (by omega)), Nat.add_mod]
theorem mL_mul {w : Nat} (hw : w ≤ 16) (x y : Int64) : mL w (x * y) = (mL w x * mL w y) % 2 ^ w := by
  unfold mL
  rw [Int64.toBitVec_mul, BitVec.toNat_mul, Nat.mod_mod_of_dvd _ (pw_dvd (by omega)), Nat.mul_mod]
theorem mI_neg {w : Nat} (hw : w ≤ 16) (x : Int32) : mI w (-x) = (2 ^ w - mI w x) % 2 ^ w := by
  have h1 := mI_add hw (-x) x
  rw [Int32.add_comm (-x) x, ← Int32.sub_eq_add_neg, Int32.sub_self] at h1
  have h0 : mI w 0 = 0 := by show mI w (nI 0) = 0; rw [mI_nI hw, Nat.zero_mod]
  rw [h0] at h1
  have a := mI_lt w x
  have b := mI_lt w (-x)
  rcases Nat.eq_zero_or_pos (mI w x) with e | e
  · rw [e, Nat.add_zero, Nat.mod_eq_of_lt b] at h1
    rw [e, ← h1, Nat.sub_zero, Nat.mod_self]
  · rw [Nat.mod_eq_of_lt (a := 2 ^ w - mI w x) (by omega)]
    rcases Nat.lt_or_ge (mI w (-x) + mI w x) (2 ^ w) with q | q
    · rw [Nat.mod_eq_of_lt q] at h1; omega
    · rw [Nat.mod_eq_sub_mod q, Nat.mod_eq_of_lt (by omega)] at h1; omega
theorem mI_sub {w : Nat} (hw : w ≤ 16) (x y : Int32) : mI w (x - y) = (mI w x + (2 ^ w - mI w y)) % 2 ^ w := by
  rw [Int32.sub_eq_add_neg, mI_add hw, mI_neg hw, Nat.add_mod_mod]
theorem mL_neg {w : Nat} (hw : w ≤ 16) (x : Int64) : mL w (-x) = (2 ^ w - mL w x) % 2 ^ w := by
  have h1 := mL_add hw (-x) x
  rw [Int64.add_comm (-x) x, ← Int64.sub_eq_add_neg, Int64.sub_self] at h1
  have h0 : mL w 0 = 0 := by show mL w (lN 0) = 0; rw [mL_lN hw, Nat.zero_mod]
  rw [h0] at h1
  have a := mL_lt w x
  have b := mL_lt w (-x)
  rcases Nat.eq_zero_or_pos (mL w x) with e | e
  · rw [e, Nat.add_zero, Nat.mod_eq_of_lt b] at h1
    rw [e, ← h1, Nat.sub_zero, Nat.mod_self]
  · rw [Nat.mod_eq_of_lt (a := 2 ^ w - mL w x) (by omega)]
    rcases Nat.lt_or_ge (mL w (-x) + mL w x) (2 ^ w) with q | q
    · rw [Nat.mod_eq_of_lt q] at h1; omega
    · rw [Nat.mod_eq_sub_mod q, Nat.mod_eq_of_lt (by omega)] at h1; omega
theorem mL_sub {w : Nat} (hw : w ≤ 16) (x y : Int64) : mL w (x - y) = (mL w x + (2 ^ w - mL w y)) % 2 ^ w := by
  rw [Int64.sub_eq_add_neg, mL_add hw, mL_neg hw, Nat.add_mod_mod]
