/-! the runs: what is reckoned, turn by turn -/
def wop (w k a b : Nat) : Nat := if k = 4 then a * b % 2 ^ w else if k = 2 then (a + b) % 2 ^ w else (a + (2 ^ w - b)) % 2 ^ w
theorem wop_lt (w k a b : Nat) : wop w k a b < 2 ^ w := by
  unfold wop
  split
  · exact Nat.mod_lt _ (pw_pos w)
  · split <;> exact Nat.mod_lt _ (pw_pos w)
def rv (w : Nat) (t o u : Nat → Nat) (g0 : Nat → Nat) (ix : Nat → Bool) (fx0 : Nat → Nat → Nat) (T k : Nat) : Nat :=
  if ix k = true then fx0 T k else if t k = 5 then (if hT : T = 0 then g0 (o k) else rv w t o u g0 ix fx0 (T - 1) (u k)) else if h : o k < k ∧ u k < k then wop w (t k) (rv w t o u g0 ix fx0 T (o k)) (rv w t o u g0 ix fx0 T (u k)) else 0
termination_by (T, k)
decreasing_by
  · apply Prod.Lex.left; omega
  · apply Prod.Lex.right; exact h.1
  · apply Prod.Lex.right; exact h.2
theorem X_reckon {w n : Nat} {t o u : Nat → Nat} {σ : Mem} (hW : WF w n t o u) (hN : NX n t o u σ) (hw : w ≤ 16) (h3 : σ 3 0 = nI (2 ^ w - 1)) {k a b : Nat} (hk : k < n) (hm : 2 ≤ t k ∧ t k ≤ 4) (ha : σ 27 (o k) = nI a) (hb : σ 27 (u k) = nI b) (a1 : a < 2 ^ w) (b1 : b < 2 ^ w) : fX3_reckon (nI k) σ = some (nI (wop w (t k) a b), σ) := by
  have h30 := hN.1
  obtain ⟨e8, e9, e10⟩ := hN.2.2 k hk
  have q : o k < k ∧ u k < k := by rcases hW k hk with ⟨q, -⟩ | ⟨q, -⟩ | ⟨-, q⟩ | ⟨q, -⟩ <;> omega
  unfold fX3_reckon fX3_reckon_L60
  simp (disch := omega) only [chk_in, nI_clamp, e8, e9, e10 hm.1]
  rw [ha, hb, h3]
  unfold wop
  rcases (show t k = 2 ∨ t k = 3 ∨ t k = 4 by omega) with c | c | c
  · rw [c, if_neg (show ¬ nI 2 = 4 by decide), if_pos (show nI 2 = 2 from rfl), if_neg (by decide), if_pos rfl, i_mask, mI_add hw, mI_lt16 hw a1, mI_lt16 hw b1]
  · rw [c, if_neg (show ¬ nI 3 = 4 by decide), if_neg (show ¬ nI 3 = 2 by decide), if_neg (by decide), if_neg (by decide), i_mask, mI_sub hw, mI_lt16 hw a1, mI_lt16 hw b1]
  · rw [c, if_pos (show nI 4 = 4 from rfl), if_pos rfl, i_mask, mI_mul hw, mI_lt16 hw a1, mI_lt16 hw b1]
theorem M_worked {w n : Nat} {t o u : Nat → Nat} {σ : Mem} (hW : WF w n t o u) (hN : NM n t o u σ) (hB : MB w σ) {k a b : Nat} (hk : k < n) (hm : 2 ≤ t k ∧ t k ≤ 4) (ha : σ 12 (o k) = nI a) (hb : σ 12 (u k) = nI b) (a1 : a < 2 ^ w) (b1 : b < 2 ^ w) : fX8_worked (nI k) σ = some (nI (wop w (t k) a b), σ) := by
  have h30 := hN.1
  have hw := hB.1.2
  obtain ⟨e8, e9, e10⟩ := hN.2.2 k hk
  have q : o k < k ∧ u k < k := by rcases hW k hk with ⟨q, -⟩ | ⟨q, -⟩ | ⟨-, q⟩ | ⟨q, -⟩ <;> omega
  unfold fX8_worked fX8_worked_L75
  simp (disch := omega) only [chk_in, nI_clamp, e8, e9, e10 hm.1]
  rw [ha, hb]
  unfold wop
  rcases (show t k = 2 ∨ t k = 3 ∨ t k = 4 by omega) with c | c | c
  · rw [c, if_pos (show nI 2 = 2 from rfl), if_neg (by decide), if_pos rfl, cutE hw hB.2, Option.bind_some, mI_64 hw, mI_add hw, mI_lt16 hw a1, mI_lt16 hw b1]
  · rw [c, if_neg (show ¬ nI 3 = 2 by decide), if_pos (show nI 3 = 3 from rfl), if_neg (by decide), if_neg (by decide), cutE hw hB.2, Option.bind_some, mI_64 hw, mI_sub hw, mI_lt16 hw a1, mI_lt16 hw b1]
  · rw [c, if_neg (show ¬ nI 4 = 2 by decide), if_neg (show ¬ nI 4 = 3 by decide), if_pos rfl, cutE hw hB.2, Option.bind_some, mL_mul hw, mI_64 hw, mI_64 hw, mI_lt16 hw a1, mI_lt16 hw b1]
/-! the seen numbers -/
abbrev Sn := Nat × (Nat → Nat)
def se1 (sh : Int32) (V : Nat → Nat) (k : Nat) (s : Sn) : Sn := if bt sh k = true ∧ s.1 < 400 then (s.1 + 1, fun i => if i = s.1 then V k else s.2 i) else s
def seN (sh : Int32) (V : Nat → Nat) : Nat → Sn → Sn
  | 0, s => s
  | k + 1, s => se1 sh V k (seN sh V k s)
theorem seN_full {sh : Int32} {V : Nat → Nat} {s : Sn} {k : Nat} (h : (seN sh V k s).1 = 400) : ∀ m, seN sh V (k + m) s = seN sh V k s
  | 0 => rfl
  | m + 1 => by
    rw [← Nat.add_assoc]
    show se1 sh V (k + m) (seN sh V (k + m) s) = _
    rw [seN_full h m]
    unfold se1
    rw [if_neg (fun q => by omega)]
def SX (σ : Mem) (s : Sn) : Prop := s.1 ≤ 400 ∧ σ 6 10 = nI s.1 ∧ ∀ i, i < s.1 → σ 31 i = nI (s.2 i)
def SM (σ : Mem) (s : Sn) : Prop := s.1 ≤ 400 ∧ σ 0 25 = nI s.1 ∧ ∀ i, i < s.1 → σ 15 i = nI (s.2 i)
theorem X_see {n : Nat} {t o u : Nat → Nat} {σ : Mem} (hN : NX n t o u σ) {V : Nat → Nat} (hV : ∀ k, k < n → bt (σ 3 7) k = true → σ 27 k = nI (V k)) {s : Sn} (hs : SX σ s) : ok (fX6_see σ) (fun τ => FR [6, 31] σ τ ∧ SX τ (seN (σ 3 7) V n s)) := by
  have h30 := hN.1
  have key : ok (loop (fun a => fX6_see_B2 a.1 a.2) (0, σ)) (fun τ => FR [6, 31] σ τ ∧ SX τ (seN (σ 3 7) V n s)) := by
    refine ok_for' (enc := fun i (τ : Mem) => (nI i, τ)) n (fun i τ => FR [6, 31] σ τ ∧ SX τ (seN (σ 3 7) V i s)) (i0 := 0) (s0 := σ) (Nat.zero_le _) ⟨FR_refl _ _, hs⟩ ?_ ?_
    · rintro i τ hi ⟨f, q0, q1, q2⟩
      dsimp only
      unfold fX6_see_B2 fX6_see_L62
      rw [f 3 (by decide), hN.2.1, if_neg (nI_ge hi (by omega)), q1]
      obtain ⟨z, hz⟩ : ∃ z, z = seN (σ 3 7) V i s := ⟨_, rfl⟩
      have hz1 : seN (σ 3 7) V (i + 1) s = se1 (σ 3 7) V i z := by rw [hz]; rfl
      rw [← hz] at q0 q1 q2 ⊢
      by_cases c4 : z.1 = 400
      · refine ok_pos (show 400 ≤ nI z.1 by rw [c4]; decide) (ok_some ?_)
        have := seN_full (sh := σ 3 7) (V := V) (s := s) (k := i) (by rw [← hz]; exact c4) (n - i)
        rw [show i + (n - i) = n by omega, ← hz] at this
        show FR [6, 31] σ τ ∧ SX τ (seN (σ 3 7) V n s)
        rw [this]
        exact ⟨f, q0, q1, q2⟩
      · refine ok_neg (show ¬ nI 400 ≤ nI z.1 from nI_ge (by omega) (by omega)) ?_
        rw [isInE _ (by omega), Option.bind_some]
        dsimp only
        by_cases cb : bt (σ 3 7) i = true
        · refine ok_neg (show ¬ (if bt (σ 3 7) i = true then (1 : Int32) else 0) = 0 by rw [if_pos cb]; decide) ?_
          rw [chk_in (by omega) (by decide), q1, chk_in (by omega) (by decide), nI_clamp (by omega), nI_clamp (by omega), up2_row _ _ _ (show (6 : Nat) ≠ 31 by decide), q1, f 27 (by decide), hV i hi cb, nI_1 i]
          refine ok_some ⟨_, rfl, ?_⟩
          rw [hz1]
          unfold se1
          rw [if_pos ⟨cb, by omega⟩]
          refine ⟨FR_trans f (FR_trans (FR_up2 _ (by decide) _ _) (FR_up2 _ (by decide) _ _)), by show z.1 + 1 ≤ 400; omega, by rw [up2_eq]; exact nI_1 _, fun j hj => ?_⟩
          show up2 _ 6 10 _ 31 j = nI (if j = z.1 then V i else z.2 j)
          rw [up2_row _ _ _ (show (31 : Nat) ≠ 6 by decide), up2_at]
          by_cases cj : j = z.1
          · rw [if_pos cj, if_pos cj]
          · rw [if_neg cj, if_neg cj]
            exact q2 j (by have : j < z.1 + 1 := hj; omega)
        · refine ok_pos (show (if bt (σ 3 7) i = true then (1 : Int32) else 0) = 0 by rw [if_neg cb]) ?_
          rw [nI_1]
          refine ok_some ⟨τ, rfl, ?_⟩
          rw [hz1]
          unfold se1
          rw [if_neg (fun q => cb q.1)]
          exact ⟨f, q0, q1, q2⟩
    · rintro τ ⟨f, q⟩
      dsimp only
      unfold fX6_see_B2
      rw [f 3 (by decide), hN.2.1, if_pos (Int32.le_refl _)]
      exact ok_some ⟨f, q⟩
  unfold fX6_see fX6_see_L68
  refine ok_bind (ok_mono key ?_)
  intro τ h
  exact ok_some h
theorem M_see {n : Nat} {t o u : Nat → Nat} {σ : Mem} (hN : NM n t o u σ) {V : Nat → Nat} (hV : ∀ k, k < n → bt (σ 0 7) k = true → σ 12 k = nI (V k)) {s : Sn} (hs : SM σ s) (l1 l2 : Int32) : ok (loop (fun a => fX8_runs_B119 l1 l2 a.1 a.2) (0, σ)) (fun τ => FR [0, 15] σ τ ∧ (∀ j, j ≠ 25 → τ 0 j = σ 0 j) ∧ SM τ (seN (σ 0 7) V n s)) := by
  have h30 := hN.1
  refine ok_for' (enc := fun i (τ : Mem) => (nI i, τ)) n (fun i τ => FR [0, 15] σ τ ∧ (∀ j, j ≠ 25 → τ 0 j = σ 0 j) ∧ SM τ (seN (σ 0 7) V i s)) (i0 := 0) (s0 := σ) (Nat.zero_le _) ⟨FR_refl _ _, fun _ _ => rfl, hs⟩ ?_ ?_
  · rintro i τ hi ⟨f, f0, q0, q1, q2⟩
    dsimp only
    unfold fX8_runs_B119 fX8_runs_L176
    rw [f0 6 (by decide), f0 7 (by decide), hN.2.1, if_neg (nI_ge hi (by omega))]
    obtain ⟨z, hz⟩ : ∃ z, z = seN (σ 0 7) V i s := ⟨_, rfl⟩
    have hz1 : seN (σ 0 7) V (i + 1) s = se1 (σ 0 7) V i z := by rw [hz]; rfl
    rw [← hz] at q0 q1 q2
    rw [hasE _ (by omega), Option.bind_some]
    dsimp only
    by_cases cb : bt (σ 0 7) i = true
    · refine ok_neg (show ¬ (if bt (σ 0 7) i = true then (1 : Int32) else 0) = 0 by rw [if_pos cb]; decide) ?_
      by_cases c4 : z.1 = 400
      · refine ok_pos (show τ 0 25 = 400 by rw [q1, c4]; decide) ?_
        rw [nI_1]
        refine ok_some ⟨τ, rfl, f, f0, ?_⟩
        rw [hz1]
        unfold se1
        rw [if_neg (fun q => by omega)]
        exact ⟨q0, q1, q2⟩
      · refine ok_neg (show ¬ τ 0 25 = 400 by rw [q1]; exact fun e => c4 ((nI_eq (b := 400) (by omega) (by omega)).mp e)) ?_
        rw [q1, chk_in (by omega) (by decide), chk_in (by omega) (by decide), nI_clamp (by omega), nI_clamp (by omega), up2_row _ _ _ (show (0 : Nat) ≠ 15 by decide), q1, f 12 (by decide), hV i hi cb, nI_1 i]
        refine ok_some ⟨_, rfl, FR_trans f (FR_trans (FR_up2 _ (by decide) _ _) (FR_up2 _ (by decide) _ _)), fun j hj => by rw [up2_col _ _ _ hj, up2_row _ _ _ (show (0 : Nat) ≠ 15 by decide)]; exact f0 j hj, ?_⟩
        rw [hz1]
        unfold se1
        rw [if_pos ⟨cb, by omega⟩]
        refine ⟨by show z.1 + 1 ≤ 400; omega, by rw [up2_eq]; exact nI_1 _, fun j hj => ?_⟩
        show up2 _ 0 25 _ 15 j = nI (if j = z.1 then V i else z.2 j)
        rw [up2_row _ _ _ (show (15 : Nat) ≠ 0 by decide), up2_at]
        by_cases cj : j = z.1
        · rw [if_pos cj, if_pos cj]
        · rw [if_neg cj, if_neg cj]
          exact q2 j (by have : j < z.1 + 1 := hj; omega)
    · refine ok_pos (show (if bt (σ 0 7) i = true then (1 : Int32) else 0) = 0 by rw [if_neg cb]) ?_
      rw [nI_1]
      refine ok_some ⟨τ, rfl, f, f0, ?_⟩
      rw [hz1]
      unfold se1
      rw [if_neg (fun q => cb q.1)]
      exact ⟨q0, q1, q2⟩
  · rintro τ ⟨f, f0, q⟩
    dsimp only
    unfold fX8_runs_B119
    rw [f0 6 (by decide), hN.2.1, if_pos (Int32.le_refl _)]
    exact ok_some ⟨f, f0, q⟩
/-! the test -/
def tsb (z : Int32) (x y : Nat) : Bool := if z = 0 then !decide (x = y) else decide (x < y)
theorem X_test {w : Nat} {σ : Mem} {a b x y : Nat} (hw : w ≤ 16) (ha : a < 30) (hb : b < 30) (e9 : σ 3 9 = nI a) (e10 : σ 3 10 = nI b) (x1 : x < 2 ^ w) (y1 : y < 2 ^ w) (hx : σ 27 a = nI x) (hy : σ 27 b = nI y) : fX6_testHolds σ = some (if tsb (σ 3 8) x y = true then 1 else 0, σ) := by
  have hp := pw_le hw
  unfold fX6_testHolds fX6_testHolds_L59 tsb
  simp (disch := omega) only [chk_in, nI_clamp, e9, e10]
  rw [hx, hy]
  by_cases c : σ 3 8 = 0
  · rw [if_pos c, if_pos c]
    by_cases d : x = y
    · rw [if_pos (by rw [d])]
      simp [d, chk]
    · rw [if_neg (fun e => d ((nI_eq (by omega) (by omega)).mp e))]
      simp [d, chk]
  · rw [if_neg c, if_neg c]
    by_cases d : x < y
    · rw [if_neg (nI_ge d (by omega))]
      simp [d, chk]
    · rw [if_pos (nI_le (by omega) (by omega))]
      simp [d, chk]
theorem M_test {w : Nat} {σ : Mem} {a b x y : Nat} (hw : w ≤ 16) (ha : a < 30) (hb : b < 30) (e9 : σ 0 9 = nI a) (e10 : σ 0 10 = nI b) (x1 : x < 2 ^ w) (y1 : y < 2 ^ w) (hx : σ 12 a = nI x) (hy : σ 12 b = nI y) : fX8_holds σ = some (if tsb (σ 0 8) x y = true then 1 else 0, σ) := by
  have hp := pw_le hw
  unfold fX8_holds fX8_holds_L62 tsb
  simp (disch := omega) only [chk_in, nI_clamp, e9, e10]
  rw [hx, hy]
  by_cases c : σ 0 8 = 0
  · rw [if_pos c, if_pos c]
    by_cases d : x = y
    · rw [if_pos (by rw [d])]
      simp [d, chk]
    · rw [if_neg (fun e => d ((nI_eq (by omega) (by omega)).mp e))]
      simp [d, chk]
  · rw [if_neg c, if_neg c]
    by_cases d : x < y
    · rw [if_neg (nI_ge d (by omega))]
      simp [d, chk]
    · rw [if_pos (nI_le (by omega) (by omega))]
      simp [d, chk]
