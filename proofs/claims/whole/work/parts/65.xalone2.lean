/-- what the class holds of the names that are settled -/
def SXr (w n : Nat) (dn : Int32) (S : AS) (σ : Mem) : Prop := ∀ i, i < n → bt dn i = true → σ 17 i = dlX (S.1 i) ∧ σ 20 i = nI (S.2.2 i) ∧ (S.1 i ≠ 9 → fx w σ i (S.2.1 i))
theorem X_code {q : Nat} (hq : q < 3) (σ : Mem) : fX0_codeOfInput (nI q) σ = some (nI (cin q), σ) := by
  rcases (show q = 0 ∨ q = 1 ∨ q = 2 by omega) with rfl | rfl | rfl <;> rfl
theorem NX_up {n : Nat} {t o u : Nat → Nat} {σ : Mem} (h : NX n t o u σ) (k j : Nat) (v : Int32) (hk : k ∉ [3, 8, 9, 10]) : NX n t o u (up2 σ k j v) := by
  have hf : FR [k] σ (up2 σ k j v) := FR_up2 σ (by simp) j v
  have hn : ∀ x, x ∈ [3, 8, 9, 10] → x ∉ [k] := fun x hx hxk => hk (by
    simp only [List.mem_singleton] at hxk
    rw [← hxk]; exact hx)
  exact NX_FR h hf (hn _ (by decide)) (hn _ (by decide)) (hn _ (by decide)) (hn _ (by decide))
theorem X_settleAlone {w n : Nat} {t o u : Nat → Nat} {σ : Mem} {k : Nat} {dn : Int32} {S : AS} (hW : WF w n t o u) (hN : NX n t o u σ) (h : PI w σ) (hk : k < n) (hd : DNv (eg t o u) n dn) (hm : may (eg t o u) n dn k) (hA : AI w n t o dn S) (hv : ¬ via (eg t o u) n k k = true) (hX : SXr w n dn S σ) (hst : t k = 5 → bt dn (o k) = true) :
    ok (fX0_settleAlone (nI k) σ) (fun τ => PI w τ ∧ FR [15, 16, 17, 20, 21] σ τ ∧ SXr w n (dn ||| cyv (eg t o u) n k) (stl w n t o u S k) τ) := by
  have h30 := hN.1
  have hE := eg_E hW
  have hw := h.1.1
  have hAI := AI_st hW h30 hw.1 hk hd hm hA
  have hkb : bt (dn ||| cyv (eg t o u) n k) k = true := by rw [b_or, bt_cyv h30 hE hk (by omega), Cy_iff.mpr (Or.inl rfl), Bool.or_true]
  have hor : ∀ i, i < n → bt (dn ||| cyv (eg t o u) n k) i = true → i = k ∨ (i ≠ k ∧ bt dn i = true) := by
    intro i hi hb
    rw [b_or, bt_cyv h30 hE hk (by omega), Bool.or_eq_true, Cy_alone hE hk hv] at hb
    by_cases e : i = k
    · exact Or.inl e
    · rcases hb with q | q
      · exact Or.inr ⟨e, q⟩
      · exact absurd (by simpa using q) e
  obtain ⟨p, hp⟩ : ∃ p, p = aDF w t o u S.1 S.2.1 k := ⟨_, rfl⟩
  have hs : stl w n t o u S k = aset S (fun i => decide (i = k)) (fun _ => p.1) (fun _ => p.2) 4 := by unfold stl; rw [if_neg hv, hp]
  have hpk := hAI k hk hkb
  rw [hs] at hpk ⊢
  have hp1 : (aset S (fun i => decide (i = k)) (fun _ => p.1) (fun _ => p.2) 4).1 k = p.1 := by unfold aset; simp
  rw [hp1] at hpk
  have hpd : p.1 = 9 ∨ p.1 ≤ 3 := by rcases hpk.1 with q | q; exact Or.inl q; exact Or.inr q.1
  obtain ⟨hm1, hm2⟩ := (may_iff h30 hE hk).mp hm
  obtain ⟨σ1, hσ1⟩ : ∃ s, s = up2 σ 17 k (-1) := ⟨_, rfl⟩
  have hP1 : PI w σ1 := by rw [hσ1]; exact PI_up h _ _ _ (by decide)
  have hN1 : NX n t o u σ1 := by rw [hσ1]; exact NX_up hN _ _ _ (by decide)
  have hf1 : FR [15, 16, 17, 20, 21] σ σ1 := by rw [hσ1]; exact FR_up2 _ (by decide) _ _
  have ek : σ1 17 k = -1 := by rw [hσ1, up2_eq]
  have hne : ∀ i, bt dn i = true → i ≠ k := fun i hi e => by rw [e, hm1] at hi; exact absurd hi (by decide)
  have hX1 : ∀ i, i < n → bt dn i = true → σ1 17 i = dlX (S.1 i) ∧ σ1 20 i = nI (S.2.2 i) ∧ (S.1 i ≠ 9 → fx w σ1 i (S.2.1 i)) := by
    intro i hi hb
    obtain ⟨q1, q2, q3⟩ := hX i hi hb
    rw [hσ1]
    exact ⟨by rw [up2_col _ _ _ (hne i hb)]; exact q1, by rw [up2_row _ _ _ (by decide)]; exact q2, fun q => fx_up (q3 q) _ _ _ (by decide) (by decide)⟩
  have hpart : ∀ j, eg t o u k j = true → j < n ∧ bt dn j = true := by
    intro j he
    have hj := eg_lt hW hk he
    refine ⟨hj, hm2 j hj (eg_via he) ?_⟩
    rw [Cy_alone hE hk hv]
    simp only [decide_eq_false_iff_not]
    intro e
    rw [e] at he
    exact hv (eg_via he)
  -- the end
  have fin : ∀ τ, XD w k σ1 τ → τ 17 k = dlX p.1 → (p.1 ≠ 9 → fx w τ k p.2) → ok (fX0_settleAlone_L157 (nI k) τ) (fun τ => PI w τ ∧ FR [15, 16, 17, 20, 21] σ τ ∧ SXr w n (dn ||| cyv (eg t o u) n k) (aset S (fun i => decide (i = k)) (fun _ => p.1) (fun _ => p.2) 4) τ) := by
    intro τ hD h17 hfx
    unfold fX0_settleAlone_L157
    have hNτ : NX n t o u τ := NX_FR hN1 hD.2.1 (by decide) (by decide) (by decide) (by decide)
    have hbk : ∀ i, i < n → bt (bitI k) i = decide (i = k) := fun i hi => bt_bitI (by omega) (by omega)
    refine ok_bind (ok_mono (X_setKinds (w := w) (c := bitI k) (z := 4) (D := fun _ => p.1) (F := fun _ => p.2) hNτ (fun i hi hb => ?_)) ?_)
    · rw [hbk i hi] at hb
      have e : i = k := by simpa using hb
      subst e
      exact ⟨h17, hpd, hfx⟩
    · rintro ρ ⟨hf, hk20⟩
      refine ok_some ⟨PI_FR hD.1 hf (by decide) (by decide) (by decide) (by decide) (by decide) (by decide) (by decide) (by decide), FR_trans hf1 (FR_trans (FR_mono hD.2.1 (by decide)) (FR_mono hf (by decide))), fun i hi hb => ?_⟩
      have f17 : ρ 17 = τ 17 := hf 17 (by decide)
      unfold aset
      dsimp only
      rw [f17, hk20 i hi, hbk i hi]
      rcases hor i hi hb with e | ⟨e, q⟩
      · subst e
        simp only [decide_true, if_true]
        exact ⟨h17, trivial, fun q => fx_FR (hfx q) hf (by decide) (by decide)⟩
      · simp only [e, decide_false, Bool.false_eq_true, if_false]
        obtain ⟨q1, q2, q3⟩ := hX1 i hi q
        refine ⟨by rw [hD.2.2.1 i e]; exact q1, by rw [hD.2.1 20 (by decide)]; exact q2, fun q => fx_FR (XD_fx hD e (q3 q)) hf (by decide) (by decide)⟩
  obtain ⟨e2, e3, e4⟩ := hN1.2.2 k hk
  have t5 := WF_t hW hk
  unfold fX0_settleAlone
  rw [nI_clamp (by omega), ← hσ1, chk_in (by omega) (by decide), chk_in (by omega) (by decide), e2, e3]
  by_cases c0 : t k = 0
  · rw [if_pos (by rw [c0]; rfl), chk_in (by omega) (by decide)]
    have hp2 : p = (0, fOne 0 (o k)) := by rw [hp]; unfold aDF fGiv; rw [if_pos (by omega), if_pos c0]
    have ho : o k < 2 ^ w := by rcases hW k hk with ⟨-, q⟩ | ⟨q, -⟩ | ⟨q, -⟩ | ⟨q, -⟩ <;> omega
    refine ok_bind (ok_mono (X1_putOne hP1 (by omega) (m := 0) (by decide) (by decide) ho) ?_)
    intro τ hS
    rw [chk_in (by omega) (by decide)]
    refine fin _ (XD_of (XS_W hS) 0) (by rw [up2_eq, hp2]; rfl) (fun _ => ?_)
    rw [hp2]; exact fx_up hS.2.1 _ _ _ (by decide) (by decide)
  rw [if_neg (t_n0 hW hk c0)]
  by_cases c1 : t k = 1
  · rw [if_pos (by rw [c1]; rfl), chk_in (by omega) (by decide)]
    have ho : o k < 3 := by rcases hW k hk with ⟨q, -⟩ | ⟨-, q⟩ | ⟨q, -⟩ | ⟨q, -⟩ <;> omega
    have hp2 : p = (0, fOne (cin (o k)) 1) := by rw [hp]; unfold aDF fGiv; rw [if_pos (by omega), if_neg c0]
    rw [X_code ho, Option.bind_some]
    dsimp only
    have := pw16 hw.1
    refine ok_bind (ok_mono (X1_putOne hP1 (by omega) (m := cin (o k)) (v := 1) cin_ok.1 cin_ok.2 (by omega)) ?_)
    intro τ hS
    rw [chk_in (by omega) (by decide)]
    refine fin _ (XD_of (XS_W hS) 0) (by rw [up2_eq, hp2]; rfl) (fun _ => ?_)
    rw [hp2]; exact fx_up hS.2.1 _ _ _ (by decide) (by decide)
  rw [if_neg (t_n1 hW hk c1)]
  by_cases c5 : t k = 5
  · rw [if_pos (by rw [c5]; rfl), chk_in (by omega) (by decide), e4 (by omega)]
    obtain ⟨u1, u2⟩ := hpart (u k) ((eg_carr c5 _).mpr rfl)
    obtain ⟨q1, q2, q3⟩ := hX1 (u k) u1 u2
    have hok := (WF_ou hW hk (by omega)).1
    have hob := hst c5
    obtain ⟨g1, g2, g3⟩ := hX1 (o k) (by omega) hob
    have t01 : t (o k) ≤ 1 := by rcases hW k hk with ⟨q, -⟩ | ⟨q, -⟩ | ⟨q, -⟩ | ⟨-, -, -, q⟩ <;> omega
    obtain ⟨z1, z2⟩ := (hA (o k) (by omega) hob).2 t01
    rw [z2] at g3
    have hp2 : p = ltr w (S.1 (u k)) (S.2.1 (u k)) (fGiv t o (o k)) := by rw [hp]; unfold aDF; rw [if_neg (by omega), if_pos c5]
    have hAu := (hA (u k) u1 u2).1
    refine ok_bind (ok_mono (X_settleLater (d := S.1 (u k)) (A := S.2.1 (u k)) (G := fGiv t o (o k)) hP1 (by omega) (by omega) (by omega) (hne _ u2) (by omega) e3 q1 ek (by rcases hAu with q | q; exact Or.inl q; exact Or.inr q.1) (fun q => ⟨by rcases hAu with z | z; exact absurd z q; exact z.2, q3 q⟩) (g3 (by omega))) ?_)
    rintro τ ⟨hD, h17, hfx⟩
    rw [← hp2] at h17 hfx
    exact fin τ hD h17 hfx
  · rw [if_neg (t_n5 hW hk c5), chk_in (by omega) (by decide), chk_in (by omega) (by decide), e4 (by omega)]
    refine ok_bind (ok_mono (X_settleMade (S := S) hW hN1 hP1 hk (by omega) c5 ek (fun i hi => ?_)) ?_)
    · obtain ⟨u1, u2⟩ := hpart i ((eg_made (by omega) c5 _).mpr hi)
      obtain ⟨q1, q2, q3⟩ := hX1 i u1 u2
      exact ⟨q1, (hA i u1 u2).1, q3⟩
    · rintro τ ⟨hD, h17, hfx⟩
      rw [← hp] at h17 hfx
      exact fin τ hD h17 hfx
