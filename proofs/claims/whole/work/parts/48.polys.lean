/-! P2, P3: the class's polys -/
/-- 1 where it holds, else 0 -/
noncomputable def bI (p : Prop) : Int32 := @ite _ p (Classical.propDecidable p) 1 0
theorem bI_t {p : Prop} (h : p) : bI p = 1 := if_pos h
theorem bI_f {p : Prop} (h : ¬ p) : bI p = 0 := if_neg h
theorem bI_iff {p q : Prop} (h : p ↔ q) : bI p = bI q := by rw [propext h]
theorem bI_01 (p : Prop) : bI p = 0 ∨ bI p = 1 := by
  by_cases h : p
  · exact Or.inr (bI_t h)
  · exact Or.inl (bI_f h)
theorem bI_chk {β : Type} (p : Prop) (A : Option β) : chk (bI p == 0 || bI p == 1) A = A := by
  rcases bI_01 p with h | h <;> rw [h] <;> rfl
def psz (σ : Mem) (q : Nat) (a : Nat → Nat) (z : Nat) : Mem := fun k => if k = 15 then fb_put (σ 15) (fun p => nI (a (cd p))) (84 * q) 84 else if k = 16 then (fun j => if j = q then nI z else σ 16 j) else σ k
def pset (σ : Mem) (q : Nat) (a : Nat → Nat) : Mem := psz σ q a (sz a)
def px (w : Nat) (σ : Mem) (q : Nat) (a : Nat → Nat) : Prop := OkP w a ∧ (∀ p, p < 84 → σ 15 (84 * q + p) = nI (a (cd p))) ∧ σ 16 q = nI (sz a)
def wk (σ : Mem) (q z : Nat) : Prop := z ≤ 84 ∧ σ 16 q = nI z ∧ ∀ p, p < 84 → z ≤ p → σ 15 (84 * q + p) = 0
/-- masks and tables of the class -/
def CT (w : Nat) (σ : Mem) : Prop := (4 ≤ w ∧ w ≤ 16) ∧ σ 5 1 = nI (2 ^ w - 1) ∧ σ 2 0 = nI (2 ^ w - 1) ∧ σ 1 1 = nI (2 ^ w - 1) ∧ (∀ p, p < 84 → σ 11 p = nI (cd p) ∧ σ 12 p = nI (ex (cd p)) ∧ σ 13 (cd p) = nI p)
def PI (w : Nat) (σ : Mem) : Prop := CT w σ ∧ (∀ q, q < 125 → ∃ z, wk σ q z) ∧ px w σ 124 (fun _ => 0)
theorem CT_FR {w : Nat} {S : List Nat} {σ τ : Mem} (h : CT w σ) (hf : FR S σ τ) (h1 : 1 ∉ S) (h2 : 2 ∉ S) (h5 : 5 ∉ S) (h11 : 11 ∉ S) (h12 : 12 ∉ S) (h13 : 13 ∉ S) : CT w τ := by
  unfold CT
  rw [hf 1 h1, hf 2 h2, hf 5 h5, hf 11 h11, hf 12 h12, hf 13 h13]
  exact h
theorem FR_psz (σ : Mem) (q : Nat) (a : Nat → Nat) (z : Nat) : FR [15, 16] σ (psz σ q a z) := fun k hk => by
  have h1 : k ≠ 15 := fun e => hk (by rw [e]; decide)
  have h2 : k ≠ 16 := fun e => hk (by rw [e]; decide)
  unfold psz
  rw [if_neg h1, if_neg h2]
theorem psz_15 (σ : Mem) (q : Nat) (a : Nat → Nat) (z : Nat) {p : Nat} (hp : p < 84) : psz σ q a z 15 (84 * q + p) = nI (a (cd p)) := by
  unfold psz
  rw [if_pos rfl, fb_put_in (by omega) (by omega)]
  have : 84 * q + p - 84 * q = p := by omega
  rw [this]
theorem psz_15o (σ : Mem) (q : Nat) (a : Nat → Nat) (z : Nat) {j : Nat} (h : j < 84 * q ∨ 84 * q + 84 ≤ j) : psz σ q a z 15 j = σ 15 j := by
  unfold psz
  rw [if_pos rfl, fb_put_out h]
theorem psz_16 (σ : Mem) (q : Nat) (a : Nat → Nat) (z : Nat) : psz σ q a z 16 q = nI z := by simp [psz]
theorem psz_16o (σ : Mem) (q : Nat) (a : Nat → Nat) (z : Nat) {j : Nat} (h : j ≠ q) : psz σ q a z 16 j = σ 16 j := by simp [psz, h]
theorem psz_of {σ τ : Mem} {q z : Nat} {a : Nat → Nat} (h : FR [15, 16] σ τ) (h1 : ∀ p, p < 84 → τ 15 (84 * q + p) = nI (a (cd p))) (h2 : ∀ j, (j < 84 * q ∨ 84 * q + 84 ≤ j) → τ 15 j = σ 15 j) (h3 : τ 16 q = nI z) (h4 : ∀ j, j ≠ q → τ 16 j = σ 16 j) : τ = psz σ q a z := by
  funext k j
  by_cases k15 : k = 15
  · subst k15
    by_cases hj : j < 84 * q ∨ 84 * q + 84 ≤ j
    · rw [psz_15o σ q a z hj, h2 j hj]
    · obtain ⟨p, rfl⟩ : ∃ p, j = 84 * q + p := ⟨j - 84 * q, by omega⟩
      rw [psz_15 σ q a z (by omega), h1 p (by omega)]
  · by_cases k16 : k = 16
    · subst k16
      by_cases hj : j = q
      · rw [hj, psz_16, h3]
      · rw [psz_16o σ q a z hj, h4 j hj]
    · have hk : k ∉ [15, 16] := by simp [k15, k16]
      rw [h k hk, FR_psz σ q a z k hk]
theorem px_of_same {w : Nat} {σ τ : Mem} {q : Nat} {a : Nat → Nat} (h : px w σ q a) (h1 : ∀ p, p < 84 → τ 15 (84 * q + p) = σ 15 (84 * q + p)) (h2 : τ 16 q = σ 16 q) : px w τ q a := ⟨h.1, fun p hp => (h1 p hp).trans (h.2.1 p hp), h2.trans h.2.2⟩
theorem px_pset {w : Nat} (σ : Mem) (q : Nat) {a : Nat → Nat} (h : OkP w a) : px w (pset σ q a) q a := ⟨h, fun _ hp => psz_15 σ q a _ hp, psz_16 σ q a _⟩
theorem px_psz_ne {w : Nat} {σ : Mem} {q q' z : Nat} {a b : Nat → Nat} (h : px w σ q' b) (hq : q' ≠ q) : px w (psz σ q a z) q' b :=
  px_of_same h (fun p hp => psz_15o σ q a z (by omega)) (psz_16o σ q a z hq)
theorem px_pset_ne {w : Nat} {σ : Mem} {q q' : Nat} {a b : Nat → Nat} (h : px w σ q' b) (hq : q' ≠ q) : px w (pset σ q a) q' b := px_psz_ne h hq
theorem px_fun {w : Nat} {σ : Mem} {q : Nat} {a b : Nat → Nat} (h1 : px w σ q a) (h2 : px w σ q b) (hw : w ≤ 16) : a = b := OkP_ext h1.1 h2.1 (fun p hp => by
  have h3 := (h1.2.1 p hp).symm.trans (h2.2.1 p hp)
  have h4 := h1.1.1 (cd p)
  have h5 := h2.1.1 (cd p)
  have h6 := pw_le hw
  exact (nI_eq (by omega) (by omega)).mp h3)
theorem PI_psz {w : Nat} {σ : Mem} {q z : Nat} {a : Nat → Nat} (h : PI w σ) (hq : q < 124) (hz : z ≤ 84) (ha : ∀ p, p < 84 → z ≤ p → a (cd p) = 0) : PI w (psz σ q a z) := by
  refine ⟨CT_FR h.1 (FR_psz σ q a z) (by decide) (by decide) (by decide) (by decide) (by decide) (by decide), fun q' hq' => ?_, px_psz_ne h.2.2 (by omega)⟩
  by_cases e : q' = q
  · subst e
    exact ⟨z, hz, psz_16 σ q' a z, fun p hp hzp => by rw [psz_15 σ q' a z hp, ha p hp hzp]; rfl⟩
  · obtain ⟨z', h1, h2, h3⟩ := h.2.1 q' hq'
    exact ⟨z', h1, by rw [psz_16o σ q a z e, h2], fun p hp hzp => by rw [psz_15o σ q a z (by omega), h3 p hp hzp]⟩
theorem PI_pset {w : Nat} {σ : Mem} {q : Nat} {a : Nat → Nat} (h : PI w σ) (hq : q < 124) : PI w (pset σ q a) := PI_psz h hq (sz_le a) (fun _ hp hz => sz_beh hz hp)
theorem px_wk {w : Nat} {σ : Mem} {q : Nat} {a : Nat → Nat} (h : px w σ q a) : wk σ q (sz a) := ⟨sz_le a, h.2.2, fun p hp hz => by rw [h.2.1 p hp, sz_beh hz hp]; rfl⟩
theorem X_clear {w : Nat} {σ : Mem} {q : Nat} (h : PI w σ) (hq : q < 124) : fX5_clear (nI q) σ = some (pset σ q (fun _ => 0)) := by
  obtain ⟨z, hz, h16, h15⟩ := h.2.1 q (by omega)
  have key : ok (loop (fun a => fX5_clear_B2 (nI q) a.1 a.2) (0, σ)) (fun b => b = seg σ 15 (84 * q) z (fun _ => 0)) := by
    refine ok_for' (enc := fun i (_ : Unit) => (nI i, seg σ 15 (84 * q) i (fun _ => 0))) z (fun _ _ => True) (i0 := 0) (s0 := ()) (Nat.zero_le _) trivial ?_ ?_ |> fun hh => by rw [seg_0] at hh; exact hh
    · intro i _ hi _
      dsimp only
      unfold fX5_clear_B2
      simp (disch := omega) only [chk_in, nI_clamp, seg_row, ne_eq, Nat.reduceEqDiff, not_false_eq_true, h16, nI_leI, ix84]
      rw [if_neg (by omega)]
      refine ok_some ⟨(), ?_, trivial⟩
      rw [nI_1, ← seg_succ σ 15 (84 * q) i (fun _ => 0)]
    · intro _ _
      dsimp only
      unfold fX5_clear_B2
      simp (disch := omega) only [chk_in, nI_clamp, seg_row, ne_eq, Nat.reduceEqDiff, not_false_eq_true, h16, nI_leI]
      rw [if_pos (Nat.le_refl _)]
      exact ok_some rfl
  obtain ⟨b, hb, rfl⟩ := key
  unfold fX5_clear fX5_clear_L30
  rw [hb, Option.bind_some, chk_in (by omega) (by decide), nI_clamp (by omega)]
  congr 1
  have hsz : sz (fun _ => 0) = 0 := (sz_zero (OkP_0 w)).mpr rfl
  unfold pset
  rw [hsz]
  refine psz_of (FR_trans (FR_seg σ (by decide) _ _ _) (FR_up2 _ (by decide) _ _)) (fun p hp => ?_) (fun j hj => ?_) (up2_eq _ _ _ _) (fun j hj => ?_)
  · rw [up2_row _ _ _ (by decide)]
    rcases Nat.lt_or_ge p z with c | c
    · rw [seg_in σ _ (by omega) (by omega)]; rfl
    · rw [seg_out σ _ (by omega), h15 p hp c]; rfl
  · rw [up2_row _ _ _ (by decide), seg_out σ _ (by omega)]
  · rw [up2_col _ _ _ hj, seg_row _ _ _ _ (by decide)]
