/-! tools: what stays, segments, codes of monomials -/
/-- all cells but those of S are the same -/
def FR (S : List Nat) (σ τ : Mem) : Prop := ∀ k, k ∉ S → τ k = σ k
theorem FR_refl (S : List Nat) (σ : Mem) : FR S σ σ := fun _ _ => rfl
theorem FR_trans {S : List Nat} {σ τ ρ : Mem} (h1 : FR S σ τ) (h2 : FR S τ ρ) : FR S σ ρ := fun k hk => (h2 k hk).trans (h1 k hk)
theorem FR_mono {S S' : List Nat} {σ τ : Mem} (h : FR S σ τ) (hS : ∀ k, k ∈ S → k ∈ S') : FR S' σ τ := fun k hk => h k (fun q => hk (hS k q))
theorem FR_up2 {S : List Nat} (σ : Mem) {k : Nat} (hk : k ∈ S) (j : Nat) (v : Int32) : FR S σ (up2 σ k j v) := fun k' h' => up2_row σ j v (fun e => h' (e ▸ hk))
/-- a segment of a cell written anew -/
def seg (σ : Mem) (k a n : Nat) (g : Nat → Int32) : Mem := fun k' => if k' = k then fb_put (σ k) g a n else σ k'
theorem seg_0 (σ : Mem) (k a : Nat) (g : Nat → Int32) : seg σ k a 0 g = σ := by
  funext k'
  unfold seg
  by_cases h : k' = k
  · rw [if_pos h, fb_put_0, h]
  · rw [if_neg h]
theorem seg_succ (σ : Mem) (k a n : Nat) (g : Nat → Int32) : up2 (seg σ k a n g) k (a + n) (g n) = seg σ k a (n + 1) g := by
  funext k' j
  unfold up2 seg fb_put
  by_cases h : k' = k
  · subst h
    simp only [true_and, if_true]
    by_cases h2 : j = a + n
    · subst h2
      rw [if_pos rfl, if_pos (by omega)]
      congr 1
      omega
    · rw [if_neg h2]
      by_cases h3 : a ≤ j ∧ j < a + n
      · rw [if_pos h3, if_pos (by omega)]
      · rw [if_neg h3, if_neg (by omega)]
  · simp only [h, false_and, if_false]
theorem seg_row (σ : Mem) {k k' : Nat} (a n : Nat) (g : Nat → Int32) (h : k' ≠ k) : seg σ k a n g k' = σ k' := if_neg h
theorem seg_in (σ : Mem) {k a n j : Nat} (g : Nat → Int32) (h1 : a ≤ j) (h2 : j < a + n) : seg σ k a n g k j = g (j - a) := by
  unfold seg; rw [if_pos rfl]; exact fb_put_in h1 h2
theorem seg_out (σ : Mem) {k a n j : Nat} (g : Nat → Int32) (h : j < a ∨ a + n ≤ j) : seg σ k a n g k j = σ k j := by
  unfold seg; rw [if_pos rfl]; exact fb_put_out h
theorem FR_seg {S : List Nat} (σ : Mem) {k : Nat} (hk : k ∈ S) (a n : Nat) (g : Nat → Int32) : FR S σ (seg σ k a n g) := fun k' h' => seg_row σ a n g (fun e => h' (e ▸ hk))
theorem ix84 (q p : Nat) : nI q * 84 + nI p = nI (84 * q + p) := by
  show nI q * nI 84 + nI p = _
  rw [pk_mul, nI_add, Nat.mul_comm]
theorem ix4 (s i : Nat) : nI s * 4 + nI i = nI (4 * s + i) := by
  show nI s * nI 4 + nI i = _
  rw [pk_mul, nI_add, Nat.mul_comm]
theorem ix4' (s : Nat) : nI s * 4 = nI (4 * s) := by
  show nI s * nI 4 = _
  rw [pk_mul, Nat.mul_comm]
/-- exponents together of a code; codes by places -/
def ex (m : Nat) : Nat := m % 7 + m / 7 % 7 + m / 49
def cdl : List Nat := (List.range 343).filter (fun m => decide (ex m ≤ 6))
def cd (p : Nat) : Nat := cdl.getD p 0
def pl (m : Nat) : Nat := cdl.idxOf m
theorem cd_ok : ∀ p, p < 84 → cd p < 343 ∧ ex (cd p) ≤ 6 ∧ pl (cd p) = p := by decide +kernel
theorem pl_ok : ∀ m, m < 343 → ex m ≤ 6 → pl m < 84 ∧ cd (pl m) = m := by decide +kernel
theorem cd_step : ∀ p, p < 83 → cd p < cd (p + 1) := by decide +kernel
theorem cd_lt {p q : Nat} (h : p < q) (hq : q < 84) : cd p < cd q := by
  induction q with
  | zero => omega
  | succ q ih =>
    rcases Nat.lt_or_ge p q with h2 | h2
    · exact Nat.lt_trans (ih h2 (by omega)) (cd_step q (by omega))
    · have : p = q := by omega
      subst this
      exact cd_step p (by omega)
theorem cd_inj {p q : Nat} (hp : p < 84) (hq : q < 84) (h : cd p = cd q) : p = q := by
  rw [← (cd_ok p hp).2.2, h, (cd_ok q hq).2.2]
/-- the size of a poly -/
def szu (a : Nat → Nat) : Nat → Nat
  | 0 => 0
  | i + 1 => if a (cd i) = 0 then szu a i else i + 1
def sz (a : Nat → Nat) : Nat := szu a 84
theorem szu_le (a : Nat → Nat) : ∀ i, szu a i ≤ i
  | 0 => Nat.le_refl _
  | i + 1 => by
    unfold szu
    by_cases h : a (cd i) = 0
    · rw [if_pos h]; exact Nat.le_succ_of_le (szu_le a i)
    · rw [if_neg h]; exact Nat.le_refl _
theorem szu_beh (a : Nat → Nat) : ∀ i p, szu a i ≤ p → p < i → a (cd p) = 0
  | 0, p, _, h => absurd h (Nat.not_lt_zero p)
  | i + 1, p, h1, h2 => by
    unfold szu at h1
    by_cases h : a (cd i) = 0
    · rw [if_pos h] at h1
      rcases Nat.lt_or_ge p i with h3 | h3
      · exact szu_beh a i p h1 h3
      · have : p = i := by omega
        rw [this]; exact h
    · rw [if_neg h] at h1; omega
theorem szu_last (a : Nat → Nat) : ∀ i, 0 < szu a i → a (cd (szu a i - 1)) ≠ 0
  | 0, h => absurd h (Nat.lt_irrefl 0)
  | i + 1, h => by
    unfold szu at h ⊢
    by_cases h2 : a (cd i) = 0
    · rw [if_pos h2] at h ⊢; exact szu_last a i h
    · rw [if_neg h2]; simpa using h2
theorem szu_same {a : Nat → Nat} {i j : Nat} (hij : i ≤ j) (h : ∀ p, i ≤ p → p < j → a (cd p) = 0) : szu a j = szu a i := by
  induction j with
  | zero => have : i = 0 := by omega
            rw [this]
  | succ j ih =>
    rcases Nat.lt_or_ge i (j + 1) with h1 | h1
    · have e : szu a (j + 1) = szu a j := by
        show (if a (cd j) = 0 then szu a j else j + 1) = _
        rw [if_pos (h j (by omega) (by omega))]
      rw [e]
      exact ih (by omega) (fun p h2 h3 => h p h2 (by omega))
    · have : i = j + 1 := by omega
      rw [this]
theorem szu_cong {a b : Nat → Nat} : ∀ {i : Nat}, (∀ p, p < i → a (cd p) = b (cd p)) → szu a i = szu b i
  | 0, _ => rfl
  | i + 1, h => by
    show (if a (cd i) = 0 then szu a i else i + 1) = (if b (cd i) = 0 then szu b i else i + 1)
    rw [h i (by omega), szu_cong (fun p hp => h p (by omega))]
theorem szu_of {a : Nat → Nat} {i z : Nat} (hz : z ≤ i) (h1 : ∀ p, z ≤ p → p < i → a (cd p) = 0) (h2 : 0 < z → a (cd (z - 1)) ≠ 0) : szu a i = z := by
  rw [szu_same hz h1]
  cases z with
  | zero => rfl
  | succ z =>
    show (if a (cd z) = 0 then szu a z else z + 1) = z + 1
    rw [if_neg (by simpa using h2 (by omega))]
theorem sz_le (a : Nat → Nat) : sz a ≤ 84 := szu_le a 84
theorem sz_beh {a : Nat → Nat} {p : Nat} (h1 : sz a ≤ p) (h2 : p < 84) : a (cd p) = 0 := szu_beh a 84 p h1 h2
/-- a poly, by codes: numbers below 2^w where the exponents are 6 at most together -/
def OkP (w : Nat) (a : Nat → Nat) : Prop := (∀ m, a m < 2 ^ w) ∧ ∀ m, a m ≠ 0 → m < 343 ∧ ex m ≤ 6
theorem OkP_ext {w : Nat} {a b : Nat → Nat} (ha : OkP w a) (hb : OkP w b) (h : ∀ p, p < 84 → a (cd p) = b (cd p)) : a = b := by
  funext m
  by_cases c : m < 343 ∧ ex m ≤ 6
  · obtain ⟨h1, h2⟩ := pl_ok m c.1 c.2
    rw [← h2]; exact h _ h1
  · have h1 : a m = 0 := Decidable.byContradiction (fun q => c (ha.2 m q))
    have h2 : b m = 0 := Decidable.byContradiction (fun q => c (hb.2 m q))
    rw [h1, h2]
theorem OkP_0 (w : Nat) : OkP w (fun _ => 0) := ⟨fun _ => pw_pos w, fun _ h => absurd rfl h⟩
theorem sz_zero {w : Nat} {a : Nat → Nat} (ha : OkP w a) : sz a = 0 ↔ a = fun _ => 0 := by
  constructor
  · intro h
    exact OkP_ext ha (OkP_0 w) (fun p hp => sz_beh (by omega) hp)
  · intro h
    exact szu_of (Nat.zero_le _) (fun p _ _ => by rw [h]) (fun q => absurd q (Nat.lt_irrefl 0))
