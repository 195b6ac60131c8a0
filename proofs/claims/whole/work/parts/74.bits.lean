/-! how many bits: the JDK's count and the reference's -/
theorem and_dig (s y r m c : Nat) (hr : r < 2 ^ s) (hc : c < 2 ^ s) : (2 ^ s * y + r) &&& (2 ^ s * m + c) = 2 ^ s * (y &&& m) + (r &&& c) := by
  have h1 : ((2 ^ s * y + r) &&& (2 ^ s * m + c)) / 2 ^ s = y &&& m := by
    rw [Nat.and_div_two_pow, Nat.mul_add_div (Nat.two_pow_pos s), Nat.mul_add_div (Nat.two_pow_pos s), Nat.div_eq_of_lt hr, Nat.div_eq_of_lt hc, Nat.add_zero, Nat.add_zero]
  have h2 : ((2 ^ s * y + r) &&& (2 ^ s * m + c)) % 2 ^ s = r &&& c := by
    rw [Nat.and_mod_two_pow, Nat.mul_add_mod, Nat.mul_add_mod, Nat.mod_eq_of_lt hr, Nat.mod_eq_of_lt hc]
  rw [← h1, ← h2, Nat.div_add_mod]
theorem and_8 (y r m c : Nat) (hr : r < 256) (hc : c < 256) : (256 * y + r) &&& (256 * m + c) = 256 * (y &&& m) + (r &&& c) := and_dig 8 y r m c hr hc
theorem and_32 {a b c d k : Nat} (ha : a < 256) (hb : b < 256) (hc : c < 256) (hd : d < 256) (hk : k < 256) : (256 * (256 * (256 * d + c) + b) + a) &&& (256 * (256 * (256 * k + k) + k) + k) = 256 * (256 * (256 * (d &&& k) + (c &&& k)) + (b &&& k)) + (a &&& k) := by
  rw [and_8 _ a _ k ha hk, and_8 _ b _ k hb hk, and_8 d c k k hc hk]
def y1 (r : Nat) : Nat := r - (r / 2 &&& 85)
def y2 (r : Nat) : Nat := (y1 r &&& 51) + (y1 r / 4 &&& 51)
def pc (r : Nat) : Nat := fb_ct (fun i => r.testBit i) 8
theorem by_1 : ∀ r, r < 256 → (∀ b, b < 2 → (r / 2 + 128 * b) &&& 85 = (r / 2 &&& 85)) ∧ (r / 2 &&& 85) ≤ r ∧ (r / 2 &&& 85) < 256 := by decide +kernel
theorem by_2 : ∀ r, r < 256 → (∀ b, b < 4 → (y1 r / 4 + 64 * b) &&& 51 = (y1 r / 4 &&& 51)) ∧ (y1 r &&& 51) < 256 ∧ (y1 r / 4 &&& 51) < 256 ∧ y2 r ≤ 68 ∧ y2 r % 16 ≤ 4 := by decide +kernel
theorem by_3 : ∀ r, r < 256 → (∀ b, b < 5 → (y2 r + y2 r / 16 + 16 * b) &&& 15 = pc r) ∧ pc r ≤ 8 := by decide +kernel
theorem swar {a b c d x : Nat} (ha : a < 256) (hb : b < 256) (hc : c < 256) (hd : d < 256) (hx : x = 256 * (256 * (256 * d + c) + b) + a) :
    (x / 2 &&& 1431655765) ≤ x ∧ x - (x / 2 &&& 1431655765) = 256 * (256 * (256 * y1 d + y1 c) + y1 b) + y1 a := by
  have e : x / 2 = 256 * (256 * (256 * (d / 2) + (c / 2 + 128 * (d % 2))) + (b / 2 + 128 * (c % 2))) + (a / 2 + 128 * (b % 2)) := by omega
  have h : (x / 2 &&& 1431655765) = 256 * (256 * (256 * (d / 2 &&& 85) + (c / 2 &&& 85)) + (b / 2 &&& 85)) + (a / 2 &&& 85) := by
    rw [e]
    have := and_32 (a := a / 2 + 128 * (b % 2)) (b := b / 2 + 128 * (c % 2)) (c := c / 2 + 128 * (d % 2)) (d := d / 2) (k := 85) (by omega) (by omega) (by omega) (by omega) (by decide)
    rw [(by_1 a ha).1 _ (by omega), (by_1 b hb).1 _ (by omega), (by_1 c hc).1 _ (by omega)] at this
    exact this
  have qa := (by_1 a ha).2
  have qb := (by_1 b hb).2
  have qc := (by_1 c hc).2
  have qd := (by_1 d hd).2
  rw [h]
  unfold y1
  omega
theorem swar2 {a b c d x : Nat} (ha : a < 256) (hb : b < 256) (hc : c < 256) (hd : d < 256) (hx : x = 256 * (256 * (256 * y1 d + y1 c) + y1 b) + y1 a) :
    (x &&& 858993459) + (x / 4 &&& 858993459) = 256 * (256 * (256 * y2 d + y2 c) + y2 b) + y2 a := by
  have l : ∀ r, r < 256 → y1 r < 256 := fun r hr => by unfold y1; omega
  have e : x / 4 = 256 * (256 * (256 * (y1 d / 4) + (y1 c / 4 + 64 * (y1 d % 4))) + (y1 b / 4 + 64 * (y1 c % 4))) + (y1 a / 4 + 64 * (y1 b % 4)) := by omega
  have la := l a ha
  have lb := l b hb
  have lc := l c hc
  have ld := l d hd
  have h1 := and_32 (a := y1 a / 4 + 64 * (y1 b % 4)) (b := y1 b / 4 + 64 * (y1 c % 4)) (c := y1 c / 4 + 64 * (y1 d % 4)) (d := y1 d / 4) (k := 51) (by omega) (by omega) (by omega) (by omega) (by decide)
  rw [(by_2 a ha).1 _ (by omega), (by_2 b hb).1 _ (by omega), (by_2 c hc).1 _ (by omega)] at h1
  have h2 := and_32 (a := y1 a) (b := y1 b) (c := y1 c) (d := y1 d) (k := 51) la lb lc ld (by decide)
  have h3 : (x / 4 &&& 858993459) = 256 * (256 * (256 * (y1 d / 4 &&& 51) + (y1 c / 4 &&& 51)) + (y1 b / 4 &&& 51)) + (y1 a / 4 &&& 51) := by rw [e]; exact h1
  have h4 : (x &&& 858993459) = 256 * (256 * (256 * (y1 d &&& 51) + (y1 c &&& 51)) + (y1 b &&& 51)) + (y1 a &&& 51) := by rw [hx]; exact h2
  rw [h3, h4]
  unfold y2
  omega
theorem swar3 {a b c d x : Nat} (ha : a < 256) (hb : b < 256) (hc : c < 256) (hd : d < 256) (hx : x = 256 * (256 * (256 * y2 d + y2 c) + y2 b) + y2 a) :
    (x + x / 16) &&& 252645135 = 256 * (256 * (256 * pc d + pc c) + pc b) + pc a := by
  obtain ⟨-, -, -, a1, a2⟩ := by_2 a ha
  obtain ⟨-, -, -, b1, b2⟩ := by_2 b hb
  obtain ⟨-, -, -, c1, c2⟩ := by_2 c hc
  obtain ⟨-, -, -, d1, d2⟩ := by_2 d hd
  have e : x + x / 16 = 256 * (256 * (256 * (y2 d + y2 d / 16 + 16 * 0) + (y2 c + y2 c / 16 + 16 * (y2 d % 16))) + (y2 b + y2 b / 16 + 16 * (y2 c % 16))) + (y2 a + y2 a / 16 + 16 * (y2 b % 16)) := by omega
  have h1 := and_32 (a := y2 a + y2 a / 16 + 16 * (y2 b % 16)) (b := y2 b + y2 b / 16 + 16 * (y2 c % 16)) (c := y2 c + y2 c / 16 + 16 * (y2 d % 16)) (d := y2 d + y2 d / 16 + 16 * 0) (k := 15) (by omega) (by omega) (by omega) (by omega) (by decide)
  rw [(by_3 a ha).1 _ (by omega), (by_3 b hb).1 _ (by omega), (by_3 c hc).1 _ (by omega), (by_3 d hd).1 0 (by omega)] at h1
  rw [e]; exact h1
theorem swar4 {a b c d x : Nat} (ha : a ≤ 8) (hb : b ≤ 8) (hc : c ≤ 8) (hd : d ≤ 8) (hx : x = 256 * (256 * (256 * d + c) + b) + a) : (x + x / 256 + (x + x / 256) / 65536) % 64 = a + (b + (c + d)) := by
  have e1 : x / 256 = 256 * (256 * d + c) + b := by omega
  have e2 : x + x / 256 = 65536 * (256 * d + (c + d)) + (256 * (b + c) + (a + b)) := by rw [e1, hx]; omega
  have e3 : (x + x / 256) / 65536 = 256 * d + (c + d) := by rw [e2]; omega
  rw [e3, e2]
  omega
theorem ct_byte {x n : Nat} : fb_ct (fun i => x.testBit i) (8 + n) = pc (x % 256) + fb_ct (fun i => (x / 256).testBit i) n := by
  rw [fb_ct_split]
  have h1 : fb_ct (fun i => x.testBit i) 8 = pc (x % 256) := fb_ct_cong (fun k hk => by
    show x.testBit k = (x % 2 ^ 8).testBit k
    rw [Nat.testBit_mod_two_pow]
    simp [hk])
  have h2 : fb_ct (fun k => x.testBit (8 + k)) n = fb_ct (fun i => (x / 256).testBit i) n := fb_ct_cong (fun k _ => by
    show x.testBit (8 + k) = (x / 2 ^ 8).testBit k
    rw [Nat.testBit_div_two_pow, Nat.add_comm])
  rw [h1, h2]
theorem ushrE {x k : Nat} (hx : x < 2 ^ 32) (hk : k < 32) : iushrV (nI x) (nI k) = nI (x / 2 ^ k) := pk_ushrN hx (nI k) k (s_u k hk)
theorem J_bitCount (s : Int32) (σ : Mem) : fJ6_bitCount_0f7a4 s σ = some (nI (fb_ct (bt s) 32), σ) := by
  obtain ⟨x, hx, rfl⟩ := wb_of32 s
  have hbt : ∀ i, i < 32 → bt (nI x) i = x.testBit i := by
    intro i hi
    show (BitVec.ofNat 32 x).getLsbD i = _
    rw [BitVec.getLsbD_ofNat]
    simp [hi]
  have hct : fb_ct (bt (nI x)) 32 = fb_ct (fun i => x.testBit i) 32 := fb_ct_cong (fun k hk => hbt k hk)
  obtain ⟨a, b, c, d, ha, hb, hc, hd, hxe⟩ : ∃ a b c d, a < 256 ∧ b < 256 ∧ c < 256 ∧ d < 256 ∧ x = 256 * (256 * (256 * d + c) + b) + a := ⟨x % 256, x / 256 % 256, x / 65536 % 256, x / 16777216, by omega, by omega, by omega, by omega, by omega⟩
  have hpop : fb_ct (fun i => x.testBit i) 32 = pc a + (pc b + (pc c + pc d)) := by
    have s1 := ct_byte (x := x) (n := 24)
    have s2 := ct_byte (x := x / 256) (n := 16)
    have s3 := ct_byte (x := x / 256 / 256) (n := 8)
    have s4 : fb_ct (fun i => (x / 256 / 256 / 256).testBit i) 8 = pc (x / 256 / 256 / 256) := rfl
    have e1 : x % 256 = a := by omega
    have e2 : x / 256 % 256 = b := by omega
    have e3 : x / 256 / 256 % 256 = c := by omega
    have e4 : x / 256 / 256 / 256 = d := by omega
    rw [e1] at s1
    rw [e2] at s2
    rw [e3] at s3
    rw [s4, e4] at s3
    rw [show (32 : Nat) = 8 + 24 from rfl, s1, show (24 : Nat) = 8 + 16 from rfl, s2, show (16 : Nat) = 8 + 8 from rfl, s3]
  have w1 := swar ha hb hc hd hxe
  obtain ⟨x1, hx1⟩ : ∃ x1, x1 = x - (x / 2 &&& 1431655765) := ⟨_, rfl⟩
  rw [← hx1] at w1
  have l : ∀ r, r < 256 → y1 r < 256 := fun r hr => by unfold y1; omega
  have la := l a ha
  have lb := l b hb
  have lc := l c hc
  have ld := l d hd
  have hx1l : x1 < 2 ^ 32 := by omega
  have w2 := swar2 ha hb hc hd w1.2
  obtain ⟨x2, hx2⟩ : ∃ x2, x2 = (x1 &&& 858993459) + (x1 / 4 &&& 858993459) := ⟨_, rfl⟩
  rw [← hx2] at w2
  obtain ⟨-, -, -, a1, a2⟩ := by_2 a ha
  obtain ⟨-, -, -, b1, b2⟩ := by_2 b hb
  obtain ⟨-, -, -, c1, c2⟩ := by_2 c hc
  obtain ⟨-, -, -, d1, d2⟩ := by_2 d hd
  have hx2l : x2 < 2 ^ 32 := by omega
  have w3 := swar3 ha hb hc hd w2
  obtain ⟨x3, hx3⟩ : ∃ x3, x3 = (x2 + x2 / 16) &&& 252645135 := ⟨_, rfl⟩
  rw [← hx3] at w3
  have pa := (by_3 a ha).2
  have pb := (by_3 b hb).2
  have pcc := (by_3 c hc).2
  have pd := (by_3 d hd).2
  have hx3l : x3 < 2 ^ 28 := by omega
  obtain ⟨x4, hx4⟩ : ∃ x4, x4 = x3 + x3 / 256 := ⟨_, rfl⟩
  have hx4l : x4 < 2 ^ 32 := by omega
  have fin : (x4 + x4 / 65536) % 64 = pc a + (pc b + (pc c + pc d)) := by rw [hx4]; exact swar4 pa pb pcc pd w3
  have E1 : nI x - (iushrV (nI x) 1 &&& 1431655765) = nI x1 := by
    show nI x - (iushrV (nI x) (nI 1) &&& nI 1431655765) = _
    rw [ushrE hx (by decide), fa_and]
    show nI x - nI (x / 2 &&& 1431655765) = _
    rw [pk_sub w1.1, hx1]
  have E2 : (nI x1 &&& 858993459) + (iushrV (nI x1) 2 &&& 858993459) = nI x2 := by
    show (nI x1 &&& nI 858993459) + (iushrV (nI x1) (nI 2) &&& nI 858993459) = _
    rw [ushrE hx1l (by decide), fa_and, fa_and, nI_add, hx2]
  have E3 : (nI x2 + iushrV (nI x2) 4) &&& 252645135 = nI x3 := by
    show (nI x2 + iushrV (nI x2) (nI 4)) &&& nI 252645135 = _
    rw [ushrE hx2l (by decide), nI_add, fa_and, hx3]
  have E4 : nI x3 + iushrV (nI x3) 8 = nI x4 := by
    show nI x3 + iushrV (nI x3) (nI 8) = _
    rw [ushrE (by omega) (by decide), nI_add, hx4]
  have E5 : (nI x4 + iushrV (nI x4) 16) &&& 63 = nI (pc a + (pc b + (pc c + pc d))) := by
    show (nI x4 + iushrV (nI x4) (nI 16)) &&& nI (2 ^ 6 - 1) = _
    rw [ushrE hx4l (by decide), nI_add, fa_mask]
    show nI ((x4 + x4 / 65536) % 64) = _
    rw [fin]
  unfold fJ6_bitCount_0f7a4
  rw [E1, E2, E3, E4, E5, hct, hpop]
theorem and1N {x : Int32} {i : Nat} (hi : i < 31) : (x >>> (nI i &&& 31)) &&& 1 = if bt x i = true then 1 else 0 := by
  rw [and_1, b_sshr i (by omega) x (by decide), if_pos (show i + 0 < 32 by omega), Nat.add_zero]
theorem M_bits (s : Int32) (σ : Mem) : fX8_bits s σ = some (nI (fb_ct (bt s) 30), σ) := by
  have key : ok (loop (fun a => fX8_bits_B4 s a.1 a.2.1 a.2.2) (0, 0, σ)) (fun b => b = (nI (fb_ct (bt s) 30), σ)) := by
    refine ok_for' (enc := fun i (_ : Unit) => (nI (fb_ct (bt s) i), nI i, σ)) 30 (fun _ _ => True) (i0 := 0) (s0 := ()) (Nat.zero_le _) trivial ?_ ?_
    · intro i _ hi _
      dsimp only
      unfold fX8_bits_B4
      rw [if_neg (show ¬ (30 : Int32) ≤ nI i from nI_ge (b := 30) hi (by decide)), and1N (by omega), nI_1]
      refine ok_some ⟨(), ?_, trivial⟩
      rw [fb_ct_succ, nI_if]
    · intro _ _
      dsimp only
      unfold fX8_bits_B4
      rw [if_pos (show (30 : Int32) ≤ nI 30 from Int32.le_refl _)]
      exact ok_some rfl
  obtain ⟨b, hb, rfl⟩ := key
  unfold fX8_bits fX8_bits_L24
  rw [hb, Option.bind_some]
theorem ct_32 {s : Int32} (h : ∀ i, 30 ≤ i → i < 32 → bt s i = false) : fb_ct (bt s) 32 = fb_ct (bt s) 30 := by
  show fb_ct (bt s) 30 + _ + _ = _
  rw [h 30 (by omega) (by omega), h 31 (by omega) (by omega)]
  rfl
