/-! P1: the names, in closed forms -/
theorem n30 {n : Nat} (h : n < 30) : nI n < 30 := nI_lt (b := 30) h (by decide)
theorem n30' {n : Nat} (h : 30 ≤ n) (h2 : n < 2 ^ 31) : ¬ nI n < 30 := nI_nlt (b := 30) h h2
def addX (σ : Mem) (n : Nat) (t o w : Int32) : Mem := up2 (up2 (up2 (up2 (up2 (up2 (up2 σ 8 n t) 9 n o) 10 n w) 3 5 (σ 3 5 + (if t = 1 then 1 else 0))) 3 6 (σ 3 6 + (if t = 5 then 1 else 0))) 3 11 (σ 3 11 + 1)) 3 4 (nI (n + 1))
theorem X_add {σ : Mem} {n : Nat} (hn : σ 3 4 = nI n) (h : n < 30) (t o w : Int32) : fX3_add t o w σ = some (nI n, addX σ n t o w) := by
  unfold fX3_add fX3_add_L56 fX3_add_L75 addX
  have h1 : (nI n).toNatClampNeg = n := nI_clamp (by omega)
  have h2 := inb_nI (n := 30) h (by decide)
  have h3 : nI n + 1 = nI (n + 1) := nI_1 n
  have h4 : nI (n + 1) - 1 = nI n := nI_pred n
  by_cases c1 : t = 1
  · subst c1
    simp [up2, hn, h1, h2, h3, h4, n30 h, chk]
  · by_cases c5 : t = 5
    · subst c5
      simp [up2, hn, h1, h2, h3, h4, n30 h, chk]
    · simp [up2, hn, h1, h2, h3, h4, n30 h, chk, c1, c5]
theorem X_addN {σ : Mem} {n : Nat} (hn : σ 3 4 = nI n) (h : n = 30) (t o w : Int32) : fX3_add t o w σ = some (-1, σ) := by
  unfold fX3_add
  rw [hn, if_neg (n30' (by omega) (by omega))]
def addM (σ : Mem) (n : Nat) (t o w : Int32) : Mem := up2 (up2 (up2 (up2 (up2 σ 2 n t) 3 n o) 4 n w) 0 6 (nI (n + 1))) 0 11 0
theorem M_add {σ : Mem} {n : Nat} (hn : σ 0 6 = nI n) (h : n < 30) (t o w : Int32) : fX8_comes t o w σ = some (nI n, addM σ n t o w) := by
  unfold fX8_comes addM
  have h1 : (nI n).toNatClampNeg = n := nI_clamp (by omega)
  have h2 := inb_nI (n := 30) h (by decide)
  have h3 : nI n + 1 = nI (n + 1) := nI_1 n
  have h4 : nI (n + 1) - 1 = nI n := nI_pred n
  have h5 : ¬ nI n = 30 := fun e => by have := (nI_eq (b := 30) (by omega) (by decide)).mp e; omega
  simp [up2, hn, h1, h2, h3, h4, h5, chk]
theorem M_addN {σ : Mem} {n : Nat} (hn : σ 0 6 = nI n) (h : n = 30) (t o w : Int32) : fX8_comes t o w σ = some (-1, σ) := by
  unfold fX8_comes
  rw [hn, h]
  rfl
def NmOk (w n : Nat) (T O W : Nat → Int32) : Prop := ∀ i, i < n →
  (T i = 0 ∧ W i = -2 ∧ ∃ v, v < 2 ^ w ∧ O i = nI v) ∨ (T i = 1 ∧ W i = -2 ∧ ∃ q, q < 3 ∧ O i = nI q) ∨ ((T i = 2 ∨ T i = 3 ∨ T i = 4) ∧ ∃ a b, a < i ∧ b < i ∧ O i = nI a ∧ W i = nI b) ∨ (T i = 5 ∧ ∃ a b, a < i ∧ b < n ∧ O i = nI a ∧ W i = nI b ∧ (T a = 0 ∨ T a = 1))
def isT (T : Nat → Int32) (t : Int32) : Nat → Bool := fun i => T i == t
/-- the base of the class's side: width w, n names -/
def BX (w n : Nat) (σ : Mem) : Prop := (4 ≤ w ∧ w ≤ 16) ∧ n ≤ 30 ∧ σ 3 4 = nI n ∧ σ 3 0 = nI (2 ^ w - 1) ∧ NmOk w n (σ 8) (σ 9) (σ 10) ∧ σ 3 5 = nI (fb_ct (isT (σ 8) 1) n) ∧ fb_ct (isT (σ 8) 1) n ≤ 3 ∧ σ 3 6 = nI (fb_ct (isT (σ 8) 5) n) ∧ (∀ i, n ≤ i → bt (σ 3 7) i = false) ∧ ((σ 3 8 = -1 ∧ σ 3 9 = -1 ∧ σ 3 10 = -1) ∨ ((σ 3 8 = 0 ∨ σ 3 8 = 1) ∧ ∃ a b, a < n ∧ b < n ∧ σ 3 9 = nI a ∧ σ 3 10 = nI b))
/-- the reference's side has the same base -/
def EQ (w n : Nat) (σX σM : Mem) : Prop := σM 0 6 = nI n ∧ σM 0 1 = nI (2 ^ w) ∧ (∀ i, i < n → σM 2 i = σX 8 i ∧ σM 3 i = σX 9 i ∧ σM 4 i = σX 10 i) ∧ σM 0 7 = σX 3 7 ∧ σM 0 8 = σX 3 8 ∧ σM 0 9 = σX 3 9 ∧ σM 0 10 = σX 3 10
/-- what a new name must be -/
def NewOk (w n : Nat) (T : Nat → Int32) (t o v : Int32) : Prop := (t = 0 ∧ v = -2 ∧ ∃ z, z < 2 ^ w ∧ o = nI z) ∨ (t = 1 ∧ v = -2 ∧ (∃ q, q < 3 ∧ o = nI q) ∧ fb_ct (isT T 1) n < 3) ∨ ((t = 2 ∨ t = 3 ∨ t = 4) ∧ ∃ a b, a < n ∧ b < n ∧ o = nI a ∧ v = nI b) ∨ (t = 5 ∧ ∃ a b, a < n ∧ b < n + 1 ∧ o = nI a ∧ v = nI b ∧ (T a = 0 ∨ T a = 1))
theorem nI_if (c : Nat) {p : Prop} (h : Decidable p) : nI c + (if p then 1 else 0) = nI (c + if p then 1 else 0) := by
  by_cases q : p
  · simp only [if_pos q]; exact nI_1 c
  · simp only [if_neg q, Nat.add_zero]
    exact Int32.add_zero _
theorem ct_addX (σ : Mem) (n : Nat) (t o v s : Int32) : fb_ct (isT (addX σ n t o v 8) s) (n + 1) = fb_ct (isT (σ 8) s) n + (if t = s then 1 else 0) := by
  rw [fb_ct_succ]
  have h1 : fb_ct (isT (addX σ n t o v 8) s) n = fb_ct (isT (σ 8) s) n := fb_ct_cong (fun k hk => by
    have : k ≠ n := by omega
    simp [isT, addX, up2, this])
  have h2 : isT (addX σ n t o v 8) s n = (t == s) := by simp [isT, addX, up2]
  rw [h1, h2]
  by_cases c : t = s <;> simp [c]
theorem BX_add {w n : Nat} {σ : Mem} (h : BX w n σ) (hn : n < 30) {t o v : Int32} (hw : NewOk w n (σ 8) t o v) : BX w (n + 1) (addX σ n t o v) := by
  obtain ⟨hwd, h30, e4, e0, hnm, e5, h3, e6, hsh, hte⟩ := h
  have hne : ∀ i, i < n → i ≠ n := fun i hi => by omega
  refine ⟨hwd, by omega, by simp [addX, up2], by simp [addX, up2, e0], ?_, ?_, ?_, ?_, ?_, ?_⟩
  · intro i hi
    rcases Nat.lt_or_ge i n with hin | hin
    · have hi2 := hne i hin
      have e8 : addX σ n t o v 8 i = σ 8 i := by simp [addX, up2, hi2]
      have e9 : addX σ n t o v 9 i = σ 9 i := by simp [addX, up2, hi2]
      have e10 : addX σ n t o v 10 i = σ 10 i := by simp [addX, up2, hi2]
      rw [e8, e9, e10]
      rcases hnm i hin with q | q | q | ⟨q, a, b, ha, hb, q1, q2, q3⟩
      · exact Or.inl q
      · exact Or.inr (Or.inl q)
      · exact Or.inr (Or.inr (Or.inl q))
      · have ea : addX σ n t o v 8 a = σ 8 a := by
          have : a ≠ n := by omega
          simp [addX, up2, this]
        exact Or.inr (Or.inr (Or.inr ⟨q, a, b, ha, by omega, q1, q2, by rw [ea]; exact q3⟩))
    · have e : i = n := by omega
      subst e
      have e8 : addX σ i t o v 8 i = t := by simp [addX, up2]
      have e9 : addX σ i t o v 9 i = o := by simp [addX, up2]
      have e10 : addX σ i t o v 10 i = v := by simp [addX, up2]
      rw [e8, e9, e10]
      rcases hw with ⟨q1, q2, q3⟩ | ⟨q1, q2, q3, -⟩ | q | ⟨q, a, b, ha, hb, q1, q2, q3⟩
      · exact Or.inl ⟨q1, q2, q3⟩
      · exact Or.inr (Or.inl ⟨q1, q2, q3⟩)
      · exact Or.inr (Or.inr (Or.inl q))
      · have ea : addX σ i t o v 8 a = σ 8 a := by
          have : a ≠ i := by omega
          simp [addX, up2, this]
        exact Or.inr (Or.inr (Or.inr ⟨q, a, b, ha, hb, q1, q2, by rw [ea]; exact q3⟩))
  · rw [ct_addX]
    have : addX σ n t o v 3 5 = σ 3 5 + (if t = 1 then 1 else 0) := by simp [addX, up2]
    rw [this, e5, nI_if]
  · rw [ct_addX]
    rcases hw with ⟨q1, -⟩ | ⟨q1, -, -, q⟩ | ⟨q1, -⟩ | ⟨q1, -⟩
    · subst q1; simpa using h3
    · subst q1; simp; omega
    · have : ¬ t = 1 := by rcases q1 with q | q | q <;> subst q <;> decide
      simp [this, h3]
    · subst q1; simpa using h3
  · rw [ct_addX]
    have : addX σ n t o v 3 6 = σ 3 6 + (if t = 5 then 1 else 0) := by simp [addX, up2]
    rw [this, e6, nI_if]
  · intro i hi
    have : addX σ n t o v 3 7 = σ 3 7 := by simp [addX, up2]
    rw [this]
    exact hsh i (by omega)
  · have a8 : addX σ n t o v 3 8 = σ 3 8 := by simp [addX, up2]
    have a9 : addX σ n t o v 3 9 = σ 3 9 := by simp [addX, up2]
    have a10 : addX σ n t o v 3 10 = σ 3 10 := by simp [addX, up2]
    rw [a8, a9, a10]
    rcases hte with q | ⟨q, a, b, ha, hb, q1, q2⟩
    · exact Or.inl q
    · exact Or.inr ⟨q, a, b, by omega, by omega, q1, q2⟩
theorem EQ_add {w n : Nat} {σX σM : Mem} (h : EQ w n σX σM) (t o v : Int32) : EQ w (n + 1) (addX σX n t o v) (addM σM n t o v) := by
  obtain ⟨e6, e1, harr, e7, e8, e9, e10⟩ := h
  refine ⟨by simp [addM, up2], by simp [addM, up2, e1], fun i hi => ?_, by simp [addM, addX, up2, e7], by simp [addM, addX, up2, e8], by simp [addM, addX, up2, e9], by simp [addM, addX, up2, e10]⟩
  rcases Nat.lt_or_ge i n with hin | hin
  · have hi2 : i ≠ n := by omega
    obtain ⟨q1, q2, q3⟩ := harr i hin
    simp [addM, addX, up2, hi2, q1, q2, q3]
  · have e : i = n := by omega
    subst e
    simp [addM, addX, up2]
