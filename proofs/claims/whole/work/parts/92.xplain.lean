/-! the plain run, class -/
def vpl (w : Nat) (t o u g : Nat → Nat) (T k : Nat) : Nat := rv w t o u (gn t o g) (fun k => decide (t k ≤ 1)) (fun _ k => gn t o g k) T k
theorem vpl_lt {w n : Nat} {t o u g : Nat → Nat} (hW : WF w n t o u) (hg : ∀ k, g k < 2 ^ w) (T k : Nat) (hk : k < n) : vpl w t o u g T k < 2 ^ w := rv_lt hW hg (fun _ k hk h => gn_lt hW hg hk (of_decide_eq_true h)) T k hk
theorem vpl_g {w : Nat} {t o u g : Nat → Nat} {T k : Nat} (h : t k ≤ 1) : vpl w t o u g T k = gn t o g k := rv_ix (ix := fun k => decide (t k ≤ 1)) (decide_eq_true h)
theorem vpl_m {w n : Nat} {t o u g : Nat → Nat} (hW : WF w n t o u) {T k : Nat} (hk : k < n) (h : 2 ≤ t k ∧ t k ≤ 4) : (o k < k ∧ u k < k) ∧ vpl w t o u g T k = wop w (t k) (vpl w t o u g T (o k)) (vpl w t o u g T (u k)) := by
  have q : o k < k ∧ u k < k := by rcases hW k hk with ⟨q, -⟩ | ⟨q, -⟩ | ⟨-, q⟩ | ⟨q, -⟩ <;> omega
  exact ⟨q, rv_m (ix := fun k => decide (t k ≤ 1)) (decide_eq_false (by omega)) (by omega) q⟩
theorem NX_F4 {n : Nat} {t o u : Nat → Nat} {L : List Nat} {σ τ : Mem} (h : NX n t o u σ) (f : FR L σ τ) (hL : ∀ x, x ∈ [3, 8, 9, 10] → x ∉ L) : NX n t o u τ := by
  refine ⟨h.1, by rw [f 3 (hL _ (by decide))]; exact h.2.1, ?_⟩
  rw [f 8 (hL _ (by decide)), f 9 (hL _ (by decide)), f 10 (hL _ (by decide))]
  exact h.2.2
theorem X_fillGiven {w n : Nat} {t o u g : Nat → Nat} {σ : Mem} (hW : WF w n t o u) (hN : NX n t o u σ) (hg : ∀ k, k < 3 → σ 26 k = nI (g k)) : ok (fX6_fillGiven σ) (fun τ => FR [27] σ τ ∧ ∀ k, k < n → t k ≤ 1 → τ 27 k = nI (gn t o g k)) := by
  have h30 := hN.1
  have key : ok (loop (fun a => fX6_fillGiven_B2 a.1 a.2) (0, σ)) (fun τ => FR [27] σ τ ∧ ∀ k, k < n → t k ≤ 1 → τ 27 k = nI (gn t o g k)) := by
    refine ok_for' (enc := fun i (τ : Mem) => (nI i, τ)) n (fun i τ => FR [27] σ τ ∧ ∀ k, k < i → t k ≤ 1 → τ 27 k = nI (gn t o g k)) (i0 := 0) (s0 := σ) (Nat.zero_le _) ⟨FR_refl _ _, fun k hk => by omega⟩ ?_ ?_
    · rintro i τ hi ⟨f, q⟩
      have hNτ := NX_F4 hN f (by decide)
      have hgτ : ∀ k, k < 3 → τ 26 k = nI (g k) := by rw [f 26 (by decide)]; exact hg
      obtain ⟨e8, e9, e10⟩ := hNτ.2.2 i hi
      have L38 : t i ≤ 1 → ok (fX6_fillGiven_L38 (nI i) τ) (Sum.elim (fun a' => ∃ s', a' = (nI (i + 1), s') ∧ FR [27] σ s' ∧ ∀ k, k < i + 1 → t k ≤ 1 → s' 27 k = nI (gn t o g k)) (fun τ => FR [27] σ τ ∧ ∀ k, k < n → t k ≤ 1 → τ 27 k = nI (gn t o g k))) := by
        intro c
        unfold fX6_fillGiven_L38 fX6_fillGiven_L49
        rw [X_numberOf hW hNτ hgτ hi c, Option.bind_some]
        dsimp only
        rw [chk_in (by omega) (by decide), nI_clamp (by omega), nI_1]
        refine ok_some ⟨_, rfl, FR_trans f (FR_up2 _ (by decide) _ _), fun k hk h1 => ?_⟩
        rw [up2_at]
        by_cases ck : k = i
        · rw [if_pos ck, ck]
        · rw [if_neg ck]; exact q k (by omega) h1
      dsimp only
      unfold fX6_fillGiven_B2
      rw [hNτ.2.1, if_neg (nI_ge hi (by omega)), chk_in (by omega) (by decide), nI_clamp (by omega), e8]
      by_cases c0 : t i = 0
      · refine ok_pos (by rw [c0]; rfl) ?_
        exact L38 (by omega)
      · refine ok_neg (t_n0 hW hi c0) ?_
        rw [chk_in (by omega) (by decide)]
        by_cases c1 : t i = 1
        · refine ok_pos (by rw [c1]; rfl) ?_
          exact L38 (by omega)
        · refine ok_neg (t_n1 hW hi c1) ?_
          unfold fX6_fillGiven_L49
          rw [nI_1]
          refine ok_some ⟨τ, rfl, f, fun k hk h1 => q k (by
            by_cases ck : k = i
            · subst ck; omega
            · omega) h1⟩
    · rintro τ ⟨f, q⟩
      dsimp only
      unfold fX6_fillGiven_B2
      rw [f 3 (by decide), hN.2.1, if_pos (Int32.le_refl _)]
      exact ok_some ⟨f, q⟩
  unfold fX6_fillGiven fX6_fillGiven_L55
  refine ok_bind (ok_mono key ?_)
  intro τ h
  exact ok_some h
theorem X_reckonAll {w n : Nat} {t o u g : Nat → Nat} {σ : Mem} (hW : WF w n t o u) (hN : NX n t o u σ) (hw : w ≤ 16) (h3 : σ 3 0 = nI (2 ^ w - 1)) (hg : ∀ k, g k < 2 ^ w) {T : Nat} (hV : ∀ k, k < n → ¬ (2 ≤ t k ∧ t k ≤ 4) → σ 27 k = nI (vpl w t o u g T k)) : ok (fX6_reckonAll σ) (fun τ => FR [27] σ τ ∧ ∀ k, k < n → τ 27 k = nI (vpl w t o u g T k)) := by
  have h30 := hN.1
  have key : ok (loop (fun a => fX6_reckonAll_B2 a.1 a.2) (0, σ)) (fun τ => FR [27] σ τ ∧ ∀ k, k < n → τ 27 k = nI (vpl w t o u g T k)) := by
    refine ok_for' (enc := fun i (τ : Mem) => (nI i, τ)) n (fun i τ => FR [27] σ τ ∧ ∀ k, k < n → (k < i ∨ ¬ (2 ≤ t k ∧ t k ≤ 4)) → τ 27 k = nI (vpl w t o u g T k)) (i0 := 0) (s0 := σ) (Nat.zero_le _) ⟨FR_refl _ _, fun k hk h => hV k hk (by omega)⟩ ?_ ?_
    · rintro i τ hi ⟨f, q⟩
      have hNτ := NX_F4 hN f (by decide)
      dsimp only
      unfold fX6_reckonAll_B2 fX6_reckonAll_L42
      rw [hNτ.2.1, if_neg (nI_ge hi (by omega)), X_isMade hW hNτ hi, Option.bind_some]
      dsimp only
      by_cases cm : 2 ≤ t i ∧ t i ≤ 4
      · refine ok_neg (by rw [if_pos cm]; decide) ?_
        obtain ⟨qq, qe⟩ := vpl_m (g := g) (T := T) hW hi cm
        rw [X_reckon hW hNτ hw (by rw [f 3 (by decide)]; exact h3) hi cm (q _ (by omega) (by omega)) (q _ (by omega) (by omega)) (vpl_lt hW hg _ _ (by omega)) (vpl_lt hW hg _ _ (by omega)), Option.bind_some]
        dsimp only
        rw [chk_in (by omega) (by decide), nI_clamp (by omega), nI_1, ← qe]
        refine ok_some ⟨_, rfl, FR_trans f (FR_up2 _ (by decide) _ _), fun k hk h1 => ?_⟩
        rw [up2_at]
        by_cases ck : k = i
        · rw [if_pos ck, ck]
        · rw [if_neg ck]; exact q k hk (by omega)
      · refine ok_pos (by rw [if_neg cm]) ?_
        rw [nI_1]
        refine ok_some ⟨τ, rfl, f, fun k hk h1 => q k hk (by
            by_cases ck : k = i
            · subst ck; exact Or.inr cm
            · omega)⟩
    · rintro τ ⟨f, q⟩
      dsimp only
      unfold fX6_reckonAll_B2
      rw [f 3 (by decide), hN.2.1, if_pos (Int32.le_refl _)]
      exact ok_some ⟨f, fun k hk => q k hk (Or.inl hk)⟩
  unfold fX6_reckonAll fX6_reckonAll_L48
  refine ok_bind (ok_mono key ?_)
  intro τ h
  exact ok_some h
theorem upR_row (σ : Mem) {k k' : Nat} (r : Nat → Int32) (h : k' ≠ k) : upR σ k r k' = σ k' := by simp [upR, h]
theorem upR_eq (σ : Mem) (k : Nat) (r : Nat → Int32) : upR σ k r k = r := by simp [upR]
/-- both sides' result of a plain run -/
def gpl (w n : Nat) (t o u g : Nat → Nat) (sh z : Int32) (a b : Nat) : Int32 × Sn := gsp (fun T => tsb z (vpl w t o u g T a) (vpl w t o u g T b)) (fun T s => seN sh (vpl w t o u g T) n s) 300 0 (0, fun _ => 0)
theorem X_goPlain {w n : Nat} {t o u g : Nat → Nat} {σ : Mem} (hW : WF w n t o u) (hN : NX n t o u σ) (hw : w ≤ 16) (h3 : σ 3 0 = nI (2 ^ w - 1)) (hg : ∀ k, g k < 2 ^ w) (h26 : ∀ k, k < 3 → σ 26 k = nI (g k)) {a b : Nat} (ha : a < n) (hb : b < n) (e9 : σ 3 9 = nI a) (e10 : σ 3 10 = nI b) :
    ok (fX6_goPlainly σ) (fun p => p.1 = (gpl w n t o u g (σ 3 7) (σ 3 8) a b).1 ∧ FR [6, 27, 28, 31] σ p.2 ∧ SX p.2 (gpl w n t o u g (σ 3 7) (σ 3 8) a b).2) := by
  have h30 := hN.1
  have turn := go_rule (body := fun x => fX6_go_B7 0 x.1 x.2) (tb := fun T => tsb (σ 3 8) (vpl w t o u g T a) (vpl w t o u g T b)) (Se := fun T s => seN (σ 3 7) (vpl w t o u g T) n s)
    (fun T τ s => FR [6, 27, 28, 31] σ τ ∧ (∀ k, k < n → t k ≤ 1 → τ 27 k = nI (gn t o g k)) ∧ (0 < T → ∀ k, k < n → τ 27 k = nI (vpl w t o u g (T - 1) k)) ∧ SX τ s)
    (fun τ s => FR [6, 27, 28, 31] σ τ ∧ SX τ s) (by
      rintro T τ s hT ⟨f, q1, q2, q3⟩
      have f1 : FR [28] τ (upR τ 28 (va_cpy (τ 27) (τ 28) 0 0 30)) := fun k hk => upR_row _ _ (fun e => hk (by rw [e]; decide))
      obtain ⟨ρ, hρ⟩ : ∃ ρ, ρ = upR τ 28 (va_cpy (τ 27) (τ 28) 0 0 30) := ⟨_, rfl⟩
      have e28 : ∀ k, k < 30 → ρ 28 k = τ 27 k := by
        intro k hk
        rw [hρ, upR_eq, pk_cpy_in (by omega) (by omega), Nat.zero_add, Nat.sub_zero]
      dsimp only
      unfold fX6_go_B7
      refine ok_neg (show ¬ nI 300 ≤ nI T from nI_ge (by omega) (by omega)) ?_
      rw [← hρ]
      rw [← hρ] at f1
      have hNρ := NX_F4 (NX_F4 hN f (by decide)) f1 (by decide)
      have gρ : ∀ k, k < 3 → ρ 26 k = nI (g k) := by rw [f1 26 (by decide), f 26 (by decide)]; exact h26
      refine ok_bind (ok_mono (X_carry (A := fun _ => true) (ix := fun k => decide (t k ≤ 1)) (fx0 := fun _ k => gn t o g k) hW hNρ gρ hT (show 0 < 2 by decide) ?_ (fun _ _ _ _ _ => rfl) (fun _ k hk c5 => ⟨rfl, decide_eq_false (by omega)⟩) (fun e => absurd e (by decide))) ?_)
      · intro h0 k hk _
        rw [e28 k (by omega)]
        exact q2 h0 k hk
      rintro ρ1 ⟨f2, q4⟩
      refine ok_pos rfl ?_
      have hN1 := NX_F4 hNρ f2 (by decide)
      have m1 : ρ1 3 = σ 3 := by rw [f2 3 (by decide), f1 3 (by decide), f 3 (by decide)]
      refine ok_bind (ok_mono (X_reckonAll (g := g) (T := T) hW hN1 hw (by rw [m1]; exact h3) hg ?_) ?_)
      · intro k hk cm
        rw [q4 k]
        by_cases c5 : t k = 5
        · rw [if_pos ⟨hk, c5, rfl, decide_eq_false (by omega)⟩]; rfl
        · have t1 : t k ≤ 1 := by have := WF_t hW hk; omega
          rw [if_neg (fun e => c5 e.2.1), vpl_g t1, f1 27 (by decide)]
          exact q1 k hk t1
      rintro ρ2 ⟨f3, q5⟩
      have hN2 := NX_F4 hN1 f3 (by decide)
      have m2 : ρ2 3 = σ 3 := by rw [f3 3 (by decide), m1]
      have S2 : SX ρ2 s := by
        refine ⟨q3.1, ?_, ?_⟩
        · rw [f3 6 (by decide), f2 6 (by decide), f1 6 (by decide)]; exact q3.2.1
        · rw [f3 31 (by decide), f2 31 (by decide), f1 31 (by decide)]; exact q3.2.2
      have F2 : FR [6, 27, 28, 31] σ ρ2 := FR_trans f (FR_trans (FR_mono f1 (by decide)) (FR_trans (FR_mono f2 (by decide)) (FR_mono f3 (by decide))))
      unfold fX6_go_L50 fX6_go_L71
      rw [X_test (w := w) hw (by omega) (by omega) (by rw [m2]; exact e9) (by rw [m2]; exact e10) (vpl_lt hW hg T a ha) (vpl_lt hW hg T b hb) (q5 a ha) (q5 b hb), Option.bind_some, m2]
      dsimp only
      by_cases ct : tsb (σ 3 8) (vpl w t o u g T a) (vpl w t o u g T b) = true
      · refine ok_neg (by rw [if_pos ct]; decide) ?_
        refine ok_bind (ok_mono (X_see hN2 (V := vpl w t o u g T) (fun k hk _ => q5 k hk) S2) ?_)
        rintro ρ3 ⟨f4, q6⟩
        refine ok_pos rfl ?_
        rw [nI_1]
        rw [m2] at q6
        refine ok_some ⟨ct, ρ3, rfl, FR_trans F2 (FR_mono f4 (by decide)), ?_, ?_, q6⟩
        · intro k hk t1
          rw [f4 27 (by decide), q5 k hk, vpl_g t1]
        · intro _ k hk
          rw [f4 27 (by decide), q5 k hk]; rfl
      · refine ok_pos (by rw [if_neg ct]) ?_
        exact ok_some ⟨Bool.eq_false_iff.mpr ct, rfl, F2, S2⟩) (by
      rintro τ s ⟨f, -, -, q3⟩
      dsimp only
      unfold fX6_go_B7
      refine ok_pos (show nI 300 ≤ nI 300 from Int32.le_refl _) ?_
      exact ok_some ⟨f, q3⟩)
  unfold fX6_goPlainly fX6_go fX6_go_L77
  refine ok_bind (ok_mono (X_fillGiven hW hN h26) ?_)
  rintro τ ⟨f, q⟩
  refine ok_bind (ok_mono (turn 300 0 (up2 τ 6 10 0) (0, fun _ => 0) rfl ⟨FR_trans (FR_mono f (by decide)) (FR_up2 _ (by decide) _ _), ?_, fun h => absurd h (by decide), by decide, by rw [up2_eq]; rfl, fun i hi => absurd hi (Nat.not_lt_zero _)⟩) ?_)
  · intro k hk t1
    rw [up2_row _ _ _ (show (27 : Nat) ≠ 6 by decide)]
    exact q k hk t1
  rintro ⟨r, ρ⟩ ⟨h1, h2, h4⟩
  exact ok_some ⟨h1, h2, h4⟩
