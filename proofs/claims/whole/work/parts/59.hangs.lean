/-! what hangs on what: both sides find the same -/
def bs (P : Nat → Bool) : Nat → Int32
  | 0 => 0
  | n + 1 => bs P n ||| (if P n = true then bitI n else 0)
theorem bt_bs (P : Nat → Bool) : ∀ {n : Nat}, n ≤ 32 → ∀ {j : Nat}, j < 32 → bt (bs P n) j = (decide (j < n) && P j)
  | 0, _, j, _ => by
    show bt 0 j = _
    rw [b_0]; simp
  | n + 1, hn, j, hj => by
    show bt (bs P n ||| _) j = _
    rw [b_or, bt_bs P (n := n) (by omega) hj]
    by_cases c : P n = true
    · rw [if_pos c, bt_bitI (by omega) hj]
      by_cases e : j = n
      · subst e; simp [c]
      · have : (decide (j < n + 1)) = decide (j < n) := by
          by_cases q : j < n
          · simp [q]; omega
          · simp [q]; omega
        rw [this]; simp [e]
    · rw [if_neg c, b_0]
      by_cases e : j = n
      · subst e; simp at c; simp [c]
      · have : (decide (j < n + 1)) = decide (j < n) := by
          by_cases q : j < n
          · simp [q]; omega
          · simp [q]; omega
        rw [this]; simp
def dr (t o u : Nat → Nat) (i : Nat) : Int32 := if t i = 5 then bitI (u i) else if t i ≤ 1 then 0 else bitI (o i) ||| bitI (u i)
def eg (t o u : Nat → Nat) (i j : Nat) : Bool := if t i = 5 then decide (j = u i) else if t i ≤ 1 then false else decide (j = o i) || decide (j = u i)
theorem WF_ou {w n : Nat} {t o u : Nat → Nat} (h : WF w n t o u) {i : Nat} (hi : i < n) (h2 : 2 ≤ t i) : o i < i ∧ u i < n := by
  rcases h i hi with ⟨q, -⟩ | ⟨q, -⟩ | ⟨-, q1, q2⟩ | ⟨-, q1, q2, -⟩ <;> omega
theorem WF_made {w n : Nat} {t o u : Nat → Nat} (h : WF w n t o u) {i : Nat} (hi : i < n) (h2 : 2 ≤ t i) (h5 : t i ≠ 5) : o i < i ∧ u i < i := by
  rcases h i hi with ⟨q, -⟩ | ⟨q, -⟩ | ⟨-, q1, q2⟩ | ⟨q, -⟩ <;> omega
theorem bt_dr {w n : Nat} {t o u : Nat → Nat} (h : WF w n t o u) (hn : n ≤ 30) {i : Nat} (hi : i < n) {j : Nat} (hj : j < 32) : bt (dr t o u i) j = eg t o u i j := by
  unfold dr eg
  by_cases c5 : t i = 5
  · have := WF_ou h hi (by omega)
    rw [if_pos c5, if_pos c5, bt_bitI (by omega) hj]
  · rw [if_neg c5, if_neg c5]
    by_cases c1 : t i ≤ 1
    · rw [if_pos c1, if_pos c1, b_0]
    · have := WF_ou h hi (by omega)
      rw [if_neg c1, if_neg c1, b_or, bt_bitI (by omega) hj, bt_bitI (by omega) hj]
theorem eg_lt {w n : Nat} {t o u : Nat → Nat} (h : WF w n t o u) {i : Nat} (hi : i < n) {j : Nat} (he : eg t o u i j = true) : j < n := by
  unfold eg at he
  by_cases c5 : t i = 5
  · rw [if_pos c5] at he
    have := WF_ou h hi (by omega)
    simp at he; omega
  · rw [if_neg c5] at he
    by_cases c1 : t i ≤ 1
    · rw [if_pos c1] at he; simp at he
    · rw [if_neg c1] at he
      have := WF_ou h hi (by omega)
      simp at he; omega
theorem nI_t {w n : Nat} {t o u : Nat → Nat} (h : WF w n t o u) {i : Nat} (hi : i < n) (k : Nat) (hk : k < 2 ^ 31) : (nI (t i) = nI k) = (t i = k) := by
  have := WF_t h hi
  exact propext (nI_eq (by omega) hk)
theorem t_n5 {w n : Nat} {t o u : Nat → Nat} (h : WF w n t o u) {i : Nat} (hi : i < n) (c : ¬ t i = 5) : ¬ nI (t i) = 5 := fun e => by
  have := WF_t h hi
  exact c ((nI_eq (b := 5) (by omega) (by decide)).mp e)
theorem t_n4 {w n : Nat} {t o u : Nat → Nat} (h : WF w n t o u) {i : Nat} (hi : i < n) (c : ¬ t i = 4) : ¬ nI (t i) = 4 := fun e => by
  have := WF_t h hi
  exact c ((nI_eq (b := 4) (by omega) (by decide)).mp e)
theorem t_n2 {w n : Nat} {t o u : Nat → Nat} (h : WF w n t o u) {i : Nat} (hi : i < n) (c : ¬ t i = 2) : ¬ nI (t i) = 2 := fun e => by
  have := WF_t h hi
  exact c ((nI_eq (b := 2) (by omega) (by decide)).mp e)
theorem t_n0 {w n : Nat} {t o u : Nat → Nat} (h : WF w n t o u) {i : Nat} (hi : i < n) (c : ¬ t i = 0) : ¬ nI (t i) = 0 := fun e => by
  have := WF_t h hi
  exact c ((nI_eq (b := 0) (by omega) (by decide)).mp e)
theorem t_n1 {w n : Nat} {t o u : Nat → Nat} (h : WF w n t o u) {i : Nat} (hi : i < n) (c : ¬ t i = 1) : ¬ nI (t i) = 1 := fun e => by
  have := WF_t h hi
  exact c ((nI_eq (b := 1) (by omega) (by decide)).mp e)
theorem M_direct {w n : Nat} {t o u : Nat → Nat} {σ : Mem} (hW : WF w n t o u) (hN : NM n t o u σ) {i : Nat} (hi : i < n) : fX8_direct (nI i) σ = some (dr t o u i, σ) := by
  have h30 := hN.1
  obtain ⟨e2, e3, e4⟩ := hN.2.2 i hi
  have t5 := WF_t hW hi
  unfold fX8_direct fX8_direct_L52 dr
  simp (disch := omega) only [chk_in, nI_clamp, e2, e3]
  by_cases c5 : t i = 5
  · rw [if_pos (by rw [c5]; rfl), if_pos c5, e4 (by omega)]; rfl
  · rw [if_neg (t_n5 hW hi c5), if_neg c5]
    by_cases c1 : t i ≤ 1
    · rw [if_pos (show nI (t i) ≤ 1 from nI_le (b := 1) c1 (by decide)), if_pos c1]
    · rw [if_neg (show ¬ nI (t i) ≤ 1 from nI_ge (a := 1) (by omega) (by omega)), if_neg c1, e4 (by omega)]; rfl
theorem X_isMade {w n : Nat} {t o u : Nat → Nat} {σ : Mem} (hW : WF w n t o u) (hN : NX n t o u σ) {i : Nat} (hi : i < n) : fX3_isMade (nI i) σ = some (if 2 ≤ t i ∧ t i ≤ 4 then 1 else 0, σ) := by
  have h30 := hN.1
  obtain ⟨e2, e3, e4⟩ := hN.2.2 i hi
  have t5 := WF_t hW hi
  unfold fX3_isMade fX3_isMade_L30 fX3_isMade_L35
  simp (disch := omega) only [chk_in, nI_clamp, e2]
  rcases (show t i = 0 ∨ t i = 1 ∨ t i = 2 ∨ t i = 3 ∨ t i = 4 ∨ t i = 5 by omega) with q | q | q | q | q | q <;> rw [q] <;> rfl
theorem X_parts {w n : Nat} {t o u : Nat → Nat} {σ : Mem} (hW : WF w n t o u) (hN : NX n t o u σ) {i : Nat} (hi : i < n) : fX3_parts (nI i) σ = some (dr t o u i, σ) := by
  have h30 := hN.1
  obtain ⟨e2, e3, e4⟩ := hN.2.2 i hi
  have t5 := WF_t hW hi
  unfold fX3_parts fX3_parts_L48 dr
  simp (disch := omega) only [chk_in, nI_clamp, e2, e3]
  by_cases c5 : t i = 5
  · rw [if_pos (by rw [c5]; rfl), if_pos c5, e4 (by omega)]; rfl
  · rw [if_neg (t_n5 hW hi c5), if_neg c5, X_isMade hW hN hi, Option.bind_some]
    dsimp only
    by_cases c1 : t i ≤ 1
    · rw [if_neg (show ¬ (2 ≤ t i ∧ t i ≤ 4) by omega), if_pos rfl, if_pos c1]
    · rw [if_pos (show 2 ≤ t i ∧ t i ≤ 4 by omega), if_neg (by decide), if_neg c1, e3, e4 (by omega)]; rfl
/-- a way from i to j over names below v alone -/
def via (E : Nat → Nat → Bool) : Nat → Nat → Nat → Bool
  | 0, i, j => E i j
  | v + 1, i, j => via E v i j || (via E v i v && via E v v j)
theorem via_mid (E : Nat → Nat → Bool) : ∀ (v i m j : Nat), m < v → via E v i m = true → via E v m j = true → via E v i j = true
  | 0, _, _, _, h, _, _ => absurd h (Nat.not_lt_zero _)
  | v + 1, i, m, j, hm, h1, h2 => by
    simp only [via, Bool.or_eq_true, Bool.and_eq_true] at h1 h2 ⊢
    by_cases e : m = v
    · subst e
      have q1 : via E m i m = true := by rcases h1 with h | h; exact h; exact h.1
      have q2 : via E m m j = true := by rcases h2 with h | h; exact h; exact h.2
      exact Or.inr ⟨q1, q2⟩
    · have hv : m < v := by omega
      rcases h1 with h1 | ⟨h1, h1'⟩
      · rcases h2 with h2 | ⟨h2, h2'⟩
        · exact Or.inl (via_mid E v i m j hv h1 h2)
        · exact Or.inr ⟨via_mid E v i m v hv h1 h2, h2'⟩
      · rcases h2 with h2 | ⟨h2, h2'⟩
        · exact Or.inr ⟨h1, via_mid E v v m j hv h1' h2⟩
        · exact Or.inr ⟨h1, h2'⟩
theorem via_up (E : Nat → Nat → Bool) {v w i j : Nat} (h : v ≤ w) (hv : via E v i j = true) : via E w i j = true := by
  induction w with
  | zero => have : v = 0 := by omega
            subst this; exact hv
  | succ w ih =>
    rcases Nat.lt_or_ge v (w + 1) with h1 | h1
    · show (_ || _) = true
      rw [ih (by omega), Bool.true_or]
    · have : v = w + 1 := by omega
      subst this; exact hv
theorem via_lt {E : Nat → Nat → Bool} {n : Nat} (hE : ∀ i j, i < n → E i j = true → j < n) : ∀ {v : Nat}, v ≤ n → ∀ {i j : Nat}, i < n → via E v i j = true → j < n
  | 0, _, i, j, hi, h => hE i j hi h
  | v + 1, hv, i, j, hi, h => by
    simp only [via, Bool.or_eq_true, Bool.and_eq_true] at h
    rcases h with h | h
    · exact via_lt hE (by omega) hi h
    · exact via_lt hE (v := v) (by omega) (i := v) (by omega) h.2
/-- a set that the steps don't leave is not left by ways -/
theorem via_closed {E : Nat → Nat → Bool} {P : Nat → Prop} {n : Nat} (hP : ∀ i j, P i → E i j = true → P j) : ∀ {v i j : Nat}, P i → via E v i j = true → P j
  | 0, i, j, hi, h => hP i j hi h
  | v + 1, i, j, hi, h => by
    simp only [via, Bool.or_eq_true, Bool.and_eq_true] at h
    rcases h with h | h
    · exact via_closed (n := n) hP hi h
    · exact via_closed (n := n) hP (via_closed (n := n) hP hi h.1) h.2
def Cy (E : Nat → Nat → Bool) (n i j : Nat) : Bool := decide (j = i) || (via E n i j && via E n j i)
def hgv (E : Nat → Nat → Bool) (n k : Nat) : Int32 := bs (via E n k) n
def cyv (E : Nat → Nat → Bool) (n k : Nat) : Int32 := bs (Cy E n k) n
theorem if_ne0 {b : Bool} : ((if b = true then (1 : Int32) else 0) = 0) = (b = false) := by
  cases b <;> simp
