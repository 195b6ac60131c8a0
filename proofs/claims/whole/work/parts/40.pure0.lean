/-! P0: programs that may fail, numbers, memories -/
def ok {α : Type} (o : Option α) (Q : α → Prop) : Prop := ∃ a, o = some a ∧ Q a
theorem ok_some {α : Type} {a : α} {Q : α → Prop} (h : Q a) : ok (some a) Q := ⟨a, rfl, h⟩
theorem ok_of {α : Type} {o : Option α} {a : α} {Q : α → Prop} (e : o = some a) (h : Q a) : ok o Q := ⟨a, e, h⟩
theorem ok_mono {α : Type} {o : Option α} {P Q : α → Prop} (h : ok o P) (hPQ : ∀ a, P a → Q a) : ok o Q := by
  obtain ⟨a, e, h⟩ := h
  exact ⟨a, e, hPQ a h⟩
theorem ok_bind {α β : Type} {o : Option α} {g : α → Option β} {Q : β → Prop} (h : ok o (fun a => ok (g a) Q)) : ok (o.bind g) Q := by
  obtain ⟨a, e, b, e2, h⟩ := h
  exact ⟨b, by rw [e]; exact e2, h⟩
theorem ok_bindE {α β : Type} {o : Option α} {a : α} {g : α → Option β} {Q : β → Prop} (e : o = some a) (h : ok (g a) Q) : ok (o.bind g) Q := ok_bind ⟨a, e, h⟩
theorem ok_chk {β : Type} {c : Bool} {A : Option β} {Q : β → Prop} (hc : c = true) (h : ok A Q) : ok (chk c A) Q := by subst hc; exact h
theorem ok_ite {β : Type} {c : Prop} {hd : Decidable c} {A B : Option β} {Q : β → Prop} (ht : c → ok A Q) (hf : ¬ c → ok B Q) : ok (if c then A else B) Q := by
  by_cases h : c
  · rw [if_pos h]; exact ht h
  · rw [if_neg h]; exact hf h
theorem ok_pos {β : Type} {c : Prop} {hd : Decidable c} {A B : Option β} {Q : β → Prop} (h : c) (ht : ok A Q) : ok (if c then A else B) Q := by rw [if_pos h]; exact ht
theorem ok_neg {β : Type} {c : Prop} {hd : Decidable c} {A B : Option β} {Q : β → Prop} (h : ¬ c) (hf : ok B Q) : ok (if c then A else B) Q := by rw [if_neg h]; exact hf
theorem ok_loop {α β : Type} {body : α → Option (α ⊕ β)} {Q : β → Prop} (I : α → Prop) (μ : α → Nat) {a : α} (hI : I a) (hstep : ∀ a, I a → ok (body a) (Sum.elim (fun a' => I a' ∧ μ a' < μ a) Q)) : ok (loop body a) Q := loop_rule I μ Q hstep a hI
theorem chk_t {β : Type} (A : Option β) : chk true A = A := rfl
theorem inb_nI {i n : Nat} (h : i < n) (hn : n < 2 ^ 31) : inb (nI i) n = true := by
  unfold inb
  rw [nI_clamp (by omega)]
  simp only [Bool.and_eq_true, decide_eq_true_eq]
  exact ⟨nI_pos' (by omega), h⟩
theorem chk_in {β : Type} {i n : Nat} (h : i < n) (hn : n < 2 ^ 31) (A : Option β) : chk (inb (nI i) n) A = A := by rw [inb_nI h hn]; rfl
/-- a loop that counts: for i = a .. n-1, with a state of its own -/
theorem ok_for {σt β : Type} {body : Int32 × σt → Option ((Int32 × σt) ⊕ β)} {Q : β → Prop} (n : Nat) (I : Nat → σt → Prop) {s0 : σt} {i0 : Nat} (h0 : i0 ≤ n) (hI : I i0 s0)
    (hstep : ∀ (i : Nat) (s : σt), i < n → I i s → ok (body (nI i, s)) (Sum.elim (fun a' => ∃ s', a' = (nI (i + 1), s') ∧ I (i + 1) s') Q))
    (hend : ∀ s : σt, I n s → ok (body (nI n, s)) (Sum.elim (fun _ => False) Q)) : ok (loop body (nI i0, s0)) Q := by
  have key : ∀ (m i : Nat) (s : σt), i + m = n → I i s → ok (loop body (nI i, s)) Q := by
    intro m
    induction m with
    | zero =>
      intro i s h hi
      have e : i = n := by omega
      subst e
      obtain ⟨x, hx, h2⟩ := hend s hi
      cases x with
      | inl _ => exact h2.elim
      | inr b => exact ⟨b, loop_eq body _ hx rfl, h2⟩
    | succ m ih =>
      intro i s h hi
      obtain ⟨x, hx, h2⟩ := hstep i s (by omega) hi
      cases x with
      | inl a' =>
        obtain ⟨s', rfl, hi'⟩ := h2
        obtain ⟨b, hb, hq⟩ := ih (i + 1) s' (by omega) hi'
        exact ⟨b, loop_eq body _ hx hb, hq⟩
      | inr b => exact ⟨b, loop_eq body _ hx rfl, h2⟩
  exact key (n - i0) i0 s0 (by omega) hI
theorem up2_eq (σ : Mem) (k j : Nat) (v : Int32) : up2 σ k j v k j = v := by simp [up2]
theorem up2_row (σ : Mem) {k k' : Nat} (j : Nat) (v : Int32) (h : k' ≠ k) : up2 σ k j v k' = σ k' := by funext z; simp [up2, h]
theorem up2_col (σ : Mem) (k : Nat) {j j' : Nat} (v : Int32) (h : j' ≠ j) : up2 σ k j v k j' = σ k j' := by simp [up2, h]
theorem nI_m1 {n : Nat} (h : 0 < n) : nI n - 1 = nI (n - 1) := by
  obtain ⟨m, rfl⟩ : ∃ m, n = m + 1 := ⟨n - 1, by omega⟩
  exact nI_pred m
/-- a number is a name, or isn't -/
theorem nm_or (n : Nat) (hn : n ≤ 30) (a : Int32) : (∃ i, i < n ∧ a = nI i) ∨ (∀ i, i < n → a ≠ nI i) ∧ (a < 0 ∨ nI n ≤ a) := by
  by_cases h0 : a < 0
  · exact Or.inr ⟨fun i hi e => by rw [e] at h0; exact nI_pos (by omega) h0, Or.inl h0⟩
  · obtain ⟨j, hj, rfl⟩ := nI_of h0
    rcases Nat.lt_or_ge j n with h | h
    · exact Or.inl ⟨j, h, rfl⟩
    · exact Or.inr ⟨fun i hi e => by have := (nI_eq hj (by omega)).mp e; omega, Or.inr (nI_le h hj)⟩
theorem has1 {σ : Mem} {n i : Nat} (hn : σ 3 4 = nI n) (h30 : n ≤ 30) (hi : i < n) : fX3_has (nI i) σ = some (1, σ) := by
  unfold fX3_has fX3_has_L16 fX3_has_L17
  rw [if_neg (nI_pos (by omega)), hn, if_neg (nI_ge hi (by omega))]
  rfl
theorem has0 {σ : Mem} {n : Nat} {a : Int32} (hn : σ 3 4 = nI n) (h : a < 0 ∨ nI n ≤ a) : fX3_has a σ = some (0, σ) := by
  unfold fX3_has fX3_has_L16 fX3_has_L17
  rw [hn]
  by_cases h0 : a < 0
  · rw [if_pos h0]; rfl
  · rw [if_neg h0]
    rcases h with h | h
    · exact absurd h h0
    · rw [if_pos h]; rfl
theorem isn1 {σ : Mem} {n i : Nat} (hn : σ 0 6 = nI n) (h30 : n ≤ 30) (hi : i < n) : fX8_isName (nI i) σ = some (1, σ) := by
  unfold fX8_isName fX8_isIn fX8_isIn_L14 fX8_isIn_L15
  rw [hn, nI_m1 (by omega), if_neg (nI_pos (by omega)), if_neg (nI_nlt (by omega) (by omega))]
  rfl
theorem isn0 {σ : Mem} {n : Nat} {a : Int32} (hn : σ 0 6 = nI n) (h30 : n ≤ 30) (h : a < 0 ∨ nI n ≤ a) : fX8_isName a σ = some (0, σ) := by
  unfold fX8_isName fX8_isIn fX8_isIn_L14 fX8_isIn_L15
  rw [hn]
  by_cases h0 : a < 0
  · rw [if_pos h0]; rfl
  · rw [if_neg h0]
    rcases h with h | h
    · exact absurd h h0
    · obtain ⟨j, hj, rfl⟩ := nI_of h0
      have hnj : n ≤ j := (nI_leI (by omega) hj).mp h
      have hlt : nI n - 1 < nI j := by
        rcases Nat.eq_zero_or_pos n with e | e
        · subst e
          exact Int32.lt_of_lt_of_le (show nI 0 - 1 < 0 by decide) (nI_pos' hj)
        · rw [nI_m1 e]; exact nI_lt (by omega) hj
      rw [if_pos hlt]
      rfl
