/-! the runs: equations, the loop, the class's carried names -/
theorem rv_ix {w : Nat} {t o u g0 : Nat → Nat} {ix : Nat → Bool} {fx0 : Nat → Nat → Nat} {T k : Nat} (h : ix k = true) : rv w t o u g0 ix fx0 T k = fx0 T k := by
  rw [rv, if_pos h]
theorem rv_5 {w : Nat} {t o u g0 : Nat → Nat} {ix : Nat → Bool} {fx0 : Nat → Nat → Nat} {T k : Nat} (h : ix k = false) (h5 : t k = 5) : rv w t o u g0 ix fx0 T k = if T = 0 then g0 (o k) else rv w t o u g0 ix fx0 (T - 1) (u k) := by
  rw [rv, if_neg (by rw [h]; decide), if_pos h5]
  by_cases c : T = 0
  · rw [dif_pos c, if_pos c]
  · rw [dif_neg c, if_neg c]
theorem rv_m {w : Nat} {t o u g0 : Nat → Nat} {ix : Nat → Bool} {fx0 : Nat → Nat → Nat} {T k : Nat} (h : ix k = false) (h5 : t k ≠ 5) (hq : o k < k ∧ u k < k) : rv w t o u g0 ix fx0 T k = wop w (t k) (rv w t o u g0 ix fx0 T (o k)) (rv w t o u g0 ix fx0 T (u k)) := by
  rw [rv, if_neg (by rw [h]; decide), if_neg h5, dif_pos hq]
theorem rv_lt {w n : Nat} {t o u g : Nat → Nat} {ix : Nat → Bool} {fx0 : Nat → Nat → Nat} (hW : WF w n t o u) (hg : ∀ k, g k < 2 ^ w) (hf : ∀ T k, k < n → ix k = true → fx0 T k < 2 ^ w) : ∀ T k, k < n → rv w t o u (gn t o g) ix fx0 T k < 2 ^ w := by
  intro T
  induction T with
  | zero =>
    intro k hk
    by_cases c : ix k = true
    · rw [rv_ix c]; exact hf _ _ hk c
    · have c := Bool.eq_false_iff.mpr c
      by_cases c5 : t k = 5
      · rw [rv_5 c c5, if_pos rfl]
        have := hW k hk
        exact gn_lt hW hg (i := o k) (by omega) (by omega)
      · rw [rv, if_neg (by rw [c]; decide), if_neg c5]
        split
        · exact wop_lt _ _ _ _
        · exact pw_pos w
  | succ T ih =>
    intro k hk
    by_cases c : ix k = true
    · rw [rv_ix c]; exact hf _ _ hk c
    · have c := Bool.eq_false_iff.mpr c
      by_cases c5 : t k = 5
      · rw [rv_5 c c5, if_neg (by omega)]
        have := hW k hk
        exact ih (u k) (by omega)
      · rw [rv, if_neg (by rw [c]; decide), if_neg c5]
        split
        · exact wop_lt _ _ _ _
        · exact pw_pos w
/-- the turns -/
def gsp (tb : Nat → Bool) (Se : Nat → Sn → Sn) : Nat → Nat → Sn → Int32 × Sn
  | 0, _, s => (-2, s)
  | f + 1, T, s => if tb T = true then gsp tb Se f (T + 1) (Se T s) else (nI T, s)
theorem go_rule {body : Int32 × Mem → Option ((Int32 × Mem) ⊕ (Mem ⊕ (Int32 × Mem)))} {tb : Nat → Bool} {Se : Nat → Sn → Sn} (I : Nat → Mem → Sn → Prop) (J : Mem → Sn → Prop)
    (hturn : ∀ T σ s, T < 300 → I T σ s → ok (body (nI T, σ)) (Sum.elim (fun a' => tb T = true ∧ ∃ σ', a' = (nI (T + 1), σ') ∧ I (T + 1) σ' (Se T s)) (Sum.elim (fun _ => False) (fun p => tb T = false ∧ p.1 = nI T ∧ J p.2 s))))
    (hend : ∀ σ s, I 300 σ s → ok (body (nI 300, σ)) (Sum.elim (fun _ => False) (Sum.elim (fun m => J m s) (fun _ => False)))) :
    ∀ (f T : Nat) (σ : Mem) (s : Sn), T + f = 300 → I T σ s → ok ((loop body (nI T, σ)).bind (Sum.elim (fun b => some ((-2 : Int32), b)) (fun r => some r))) (fun p => p.1 = (gsp tb Se f T s).1 ∧ J p.2 (gsp tb Se f T s).2) := by
  intro f
  induction f with
  | zero =>
    intro T σ s hT hI
    have e : T = 300 := by omega
    subst e
    obtain ⟨x, hx, h2⟩ := hend σ s hI
    rcases x with _ | (m | p)
    · exact h2.elim
    · refine ok_bindE (loop_eq body _ hx rfl) (ok_some ⟨rfl, h2⟩)
    · exact h2.elim
  | succ f ih =>
    intro T σ s hT hI
    obtain ⟨x, hx, h2⟩ := hturn T σ s (by omega) hI
    rcases x with a' | (m | p)
    · obtain ⟨hb, σ', rfl, hI'⟩ := h2
      have h3 := ih (T + 1) σ' (Se T s) (by omega) hI'
      unfold gsp
      rw [if_pos hb]
      obtain ⟨b, hb2, hb3⟩ := h3
      rw [Option.bind_eq_some_iff] at hb2
      obtain ⟨y, hy1, hy2⟩ := hb2
      refine ⟨b, ?_, hb3⟩
      rw [Option.bind_eq_some_iff]
      exact ⟨y, loop_eq body _ hx hy1, hy2⟩
    · exact h2.elim
    · obtain ⟨hb, h4, h5⟩ := h2
      refine ok_bindE (loop_eq body _ hx rfl) (ok_some ?_)
      unfold gsp
      rw [if_neg (by rw [hb]; decide)]
      exact ⟨h4, h5⟩
/-- carried names -/
theorem X_carry {w n : Nat} {t o u g : Nat → Nat} {ix A : Nat → Bool} {fx0 : Nat → Nat → Nat} {σ : Mem} (hW : WF w n t o u) (hN : NX n t o u σ) (hg : ∀ k, k < 3 → σ 26 k = nI (g k)) {T md : Nat} (hT : T < 300) (hm : md < 2)
    (hB : 0 < T → ∀ k, k < n → A k = true → σ 28 k = nI (rv w t o u (gn t o g) ix fx0 (T - 1) k))
    (hcl : ∀ k, k < n → t k = 5 → A k = true → ix k = false → A (u k) = true)
    (h0 : md = 0 → ∀ k, k < n → t k = 5 → A k = true ∧ ix k = false)
    (h1 : md = 1 → ∀ τ, FR [27] σ τ → ∀ k, k < n → t k = 5 → fX6_isReckoned (nI k) τ = some (if A k = true ∧ ix k = false then 1 else 0, τ)) :
    ok (fX6_carryInto (nI T) (nI md) σ) (fun τ => FR [27] σ τ ∧ ∀ k, τ 27 k = if k < n ∧ t k = 5 ∧ A k = true ∧ ix k = false then nI (rv w t o u (gn t o g) ix fx0 T k) else σ 27 k) := by
  have h30 := hN.1
  have key : ok (loop (fun a => fX6_carryInto_B2 (nI T) (nI md) a.1 a.2) (0, σ)) (fun τ => FR [27] σ τ ∧ ∀ k, τ 27 k = if k < n ∧ t k = 5 ∧ A k = true ∧ ix k = false then nI (rv w t o u (gn t o g) ix fx0 T k) else σ 27 k) := by
    refine ok_for' (enc := fun i (τ : Mem) => (nI i, τ)) n (fun i τ => FR [27] σ τ ∧ ∀ k, τ 27 k = if k < i ∧ t k = 5 ∧ A k = true ∧ ix k = false then nI (rv w t o u (gn t o g) ix fx0 T k) else σ 27 k) (i0 := 0) (s0 := σ) (Nat.zero_le _) ⟨FR_refl _ _, fun k => by rw [if_neg (by omega)]⟩ ?_ ?_
    · rintro i τ hi ⟨f, q⟩
      have f8 := f 8 (by decide)
      have f9 := f 9 (by decide)
      have f10 := f 10 (by decide)
      have f28 := f 28 (by decide)
      have hNτ : NX n t o u τ := by
        refine ⟨hN.1, by rw [f 3 (by decide)]; exact hN.2.1, ?_⟩
        rw [f8, f9, f10]; exact hN.2.2
      have hgτ : ∀ k, k < 3 → τ 26 k = nI (g k) := by rw [f 26 (by decide)]; exact hg
      obtain ⟨e8, e9, e10⟩ := hNτ.2.2 i hi
      have L38 : t i = 5 → A i = true → ix i = false → ok (fX6_carryInto_L38 (nI T) (nI md) (nI i) τ) (Sum.elim (fun a' => ∃ s', a' = (nI (i + 1), s') ∧ FR [27] σ s' ∧ ∀ k, s' 27 k = if k < i + 1 ∧ t k = 5 ∧ A k = true ∧ ix k = false then nI (rv w t o u (gn t o g) ix fx0 T k) else σ 27 k) (fun τ => FR [27] σ τ ∧ ∀ k, τ 27 k = if k < n ∧ t k = 5 ∧ A k = true ∧ ix k = false then nI (rv w t o u (gn t o g) ix fx0 T k) else σ 27 k)) := by
        intro c5 cA cx
        have un : u i < n := by have := hW i hi; omega
        have fin : ∀ v, v = nI (rv w t o u (gn t o g) ix fx0 T i) → FR [27] σ (up2 τ 27 i v) ∧ ∀ k, up2 τ 27 i v 27 k = if k < i + 1 ∧ t k = 5 ∧ A k = true ∧ ix k = false then nI (rv w t o u (gn t o g) ix fx0 T k) else σ 27 k := by
          intro v hv
          refine ⟨FR_trans f (FR_up2 _ (by decide) _ _), fun k => ?_⟩
          rw [up2_at]
          by_cases ck : k = i
          · rw [if_pos ck, if_pos (by subst ck; exact ⟨by omega, c5, cA, cx⟩), hv, ck]
          · rw [if_neg ck, q k]
            by_cases d : k < i ∧ t k = 5 ∧ A k = true ∧ ix k = false
            · rw [if_pos d, if_pos ⟨by omega, d.2⟩]
            · rw [if_neg d, if_neg (fun e => d ⟨by omega, e.2⟩)]
        unfold fX6_carryInto_L38 fX6_carryInto_L69 fX6_carryInto_L70
        by_cases cT : T = 0
        · subst cT
          refine ok_pos (show nI 0 = 0 from rfl) ?_
          rw [X_startOf hW hNτ hgτ hi c5, Option.bind_some]
          dsimp only
          rw [chk_in (by omega) (by decide), nI_clamp (by omega), nI_1]
          exact ok_some ⟨_, rfl, fin _ (by rw [rv_5 cx c5, if_pos rfl])⟩
        · refine ok_neg (show ¬ nI T = 0 from fun e => cT ((nI_eq (b := 0) (by omega) (by omega)).mp e)) ?_
          rw [chk_in (by omega) (by decide), nI_clamp (by omega), e10 (by omega), chk_in (by omega) (by decide), nI_clamp (by omega), f28, hB (by omega) (u i) un (hcl i hi c5 cA cx), chk_in (by omega) (by decide), nI_1]
          exact ok_some ⟨_, rfl, fin _ (by rw [rv_5 cx c5, if_neg cT])⟩
      have L70 : ¬ (t i = 5 ∧ A i = true ∧ ix i = false) → ok (fX6_carryInto_L70 (nI T) (nI md) (nI i) τ) (Sum.elim (fun a' => ∃ s', a' = (nI (i + 1), s') ∧ FR [27] σ s' ∧ ∀ k, s' 27 k = if k < i + 1 ∧ t k = 5 ∧ A k = true ∧ ix k = false then nI (rv w t o u (gn t o g) ix fx0 T k) else σ 27 k) (fun τ => FR [27] σ τ ∧ ∀ k, τ 27 k = if k < n ∧ t k = 5 ∧ A k = true ∧ ix k = false then nI (rv w t o u (gn t o g) ix fx0 T k) else σ 27 k)) := by
        intro hc
        unfold fX6_carryInto_L70
        rw [nI_1]
        refine ok_some ⟨τ, rfl, f, fun k => ?_⟩
        rw [q k]
        by_cases d : k < i ∧ t k = 5 ∧ A k = true ∧ ix k = false
        · rw [if_pos d, if_pos ⟨by omega, d.2⟩]
        · rw [if_neg d, if_neg (fun e => by
            by_cases ck : k = i
            · subst ck; exact hc e.2
            · exact d ⟨by omega, e.2⟩)]
      dsimp only
      unfold fX6_carryInto_B2
      rw [hNτ.2.1, if_neg (nI_ge hi (by omega)), chk_in (by omega) (by decide), nI_clamp (by omega), e8]
      by_cases c5 : t i = 5
      · refine ok_pos (show nI (t i) = 5 by rw [c5]; rfl) ?_
        rcases (show md = 0 ∨ md = 1 by omega) with rfl | rfl
        · refine ok_pos (show nI 0 = 0 from rfl) ?_
          have := h0 rfl i hi c5
          exact L38 c5 this.1 this.2
        · refine ok_neg (show ¬ nI 1 = 0 by decide) ?_
          rw [h1 rfl τ f i hi c5, Option.bind_some]
          dsimp only
          by_cases cA : A i = true ∧ ix i = false
          · refine ok_neg (by rw [if_pos cA]; decide) ?_
            exact L38 c5 cA.1 cA.2
          · refine ok_pos (by rw [if_neg cA]) ?_
            exact L70 (fun e => cA e.2)
      · refine ok_neg (t_n5 hW hi c5) ?_
        exact L70 (fun e => c5 e.1)
    · rintro τ ⟨f, q⟩
      dsimp only
      unfold fX6_carryInto_B2
      rw [f 3 (by decide), hN.2.1, if_pos (Int32.le_refl _)]
      exact ok_some ⟨f, q⟩
  unfold fX6_carryInto fX6_carryInto_L76
  refine ok_bind (ok_mono key ?_)
  intro τ h
  exact ok_some h
