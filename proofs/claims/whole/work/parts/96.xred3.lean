/-! the reduced run, class: its turns -/
noncomputable def grd (w n : Nat) (t o u g : Nat → Nat) (sh z : Int32) (a b : Nat) : Int32 × Sn := gsp (fun T => tsb z (vrd w n t o u g T a) (vrd w n t o u g T b)) (fun T s => seN sh (vrd w n t o u g T) n s) 300 0 (0, fun _ => 0)
theorem X_goReduced {w n : Nat} {t o u g : Nat → Nat} {S : Int32} {σ : Mem} (hW : WF w n t o u) (hN : NX n t o u σ) (hC : XC w n t o u σ) (hX : XP w n t o u S σ) (hS : lowb n S) (h3 : σ 3 0 = nI (2 ^ w - 1)) (hg : ∀ k, g k < 2 ^ w) (h26 : ∀ k, k < 3 → σ 26 k = nI (g k)) (hP : PW w g σ) {a b : Nat} (ha : a < n) (hb : b < n) (e9 : σ 3 9 = nI a) (e10 : σ 3 10 = nI b) (na : bt (ndd w n t o u S) a = true) (nb : bt (ndd w n t o u S) b = true) (nsh : ∀ k, k < n → bt (σ 3 7) k = true → bt (ndd w n t o u S) k = true) :
    ok (fX6_goReduced σ) (fun p => p.1 = (grd w n t o u g (σ 3 7) (σ 3 8) a b).1 ∧ FR [6, 27, 28, 29, 30, 31] σ p.2 ∧ SX p.2 (grd w n t o u g (σ 3 7) (σ 3 8) a b).2) := by
  have h30 := hN.1
  have hw := hC.1.1.1
  have turn := go_rule (body := fun x => fX6_go_B7 1 x.1 x.2) (tb := fun T => tsb (σ 3 8) (vrd w n t o u g T a) (vrd w n t o u g T b)) (Se := fun T s => seN (σ 3 7) (vrd w n t o u g T) n s)
    (fun T τ s => FR [6, 27, 28, 29, 30, 31] σ τ ∧ (∀ k, k < n → bt (ndd w n t o u S) k = true → (Rs w n t o u).2.2 k = 0 → τ 27 k = nI (ev w g ((Rs w n t o u).2.1 k 0))) ∧ (0 < T → ∀ k, k < n → bt (ndd w n t o u S) k = true → τ 27 k = nI (vrd w n t o u g (T - 1) k)) ∧ (∀ c, c < (cll w n t o u S).1 → τ 29 c = nI (cfv w g T (cfm (Rs w n t o u).2.1 (cll w n t o u S) c)) ∧ τ 30 c = nI (ev w g (cfm (Rs w n t o u).2.1 (cll w n t o u S) c 1))) ∧ SX τ s)
    (fun τ s => FR [6, 27, 28, 29, 30, 31] σ τ ∧ SX τ s) (by
      rintro T τ s hT ⟨f, q1, q2, qc, q3⟩
      have f1 : FR [28] τ (upR τ 28 (va_cpy (τ 27) (τ 28) 0 0 30)) := fun k hk => upR_row _ _ (fun e => hk (by rw [e]; decide))
      obtain ⟨ρ, hρ⟩ : ∃ ρ, ρ = upR τ 28 (va_cpy (τ 27) (τ 28) 0 0 30) := ⟨_, rfl⟩
      have e28 : ∀ k, k < 30 → ρ 28 k = τ 27 k := by
        intro k hk
        rw [hρ, upR_eq, pk_cpy_in (by omega) (by omega), Nat.zero_add, Nat.sub_zero]
      dsimp only
      unfold fX6_go_B7
      refine ok_neg (show ¬ nI 300 ≤ nI T from nI_ge (by omega) (by omega)) ?_
      rw [← hρ]
      rw [← hρ] at f1
      have F1 : FR [6, 27, 28, 29, 30, 31] σ ρ := FR_trans f (FR_mono f1 (by decide))
      have hNρ := NX_F4 hN F1 (by decide)
      have gρ : ∀ k, k < 3 → ρ 26 k = nI (g k) := by rw [F1 26 (by decide)]; exact h26
      refine ok_bind (ok_mono (X_carry (A := fun k => bt (ndd w n t o u S) k) (ix := fun k => !nk t (Rs w n t o u).2.2 k) (fx0 := fun T k => if (Rs w n t o u).2.2 k = 0 then ev w g ((Rs w n t o u).2.1 k 0) else cfv w g T ((Rs w n t o u).2.1 k)) hW hNρ gρ hT (show 1 < 2 by decide) ?_ ?_ (fun e => absurd e (by decide)) ?_) ?_)
      · intro h0 k hk hk2
        rw [e28 k (by omega)]
        exact q2 h0 k hk hk2
      · intro k hk c5 hA hx
        have un : u k < n := by have := hW k hk; omega
        exact nd_closed hW h30 hS hk hA (by simpa using hx) ((eg_carr c5 (u k)).mpr rfl) (by omega)
      · intro _ τ' f' k hk c5
        have F' : FR [6, 27, 28, 29, 30, 31] σ τ' := FR_trans F1 (FR_mono f' (by decide))
        rw [X_isReckoned hW h30 (XC_FR hC F' (by decide)) hk, F' 4 (by decide), hX.1]
        have e : (bt (ndd w n t o u S) k = true ∧ (Rs w n t o u).2.2 k ≠ 0) ↔ (bt (ndd w n t o u S) k = true ∧ (!nk t (Rs w n t o u).2.2 k) = false) := by
          constructor
          · rintro ⟨x, y⟩
            exact ⟨x, by rw [nk_t y (by omega)]; rfl⟩
          · rintro ⟨x, y⟩
            refine ⟨x, fun z => ?_⟩
            rw [nk_0 z] at y
            exact absurd y (by decide)
        by_cases c : bt (ndd w n t o u S) k = true ∧ (Rs w n t o u).2.2 k ≠ 0
        · rw [if_pos c, if_pos (e.mp c)]
        · rw [if_neg c, if_neg (fun x => c (e.mpr x))]
      rintro ρ1 ⟨f2, q4⟩
      refine ok_neg (by decide) ?_
      have F2 : FR [6, 27, 28, 29, 30, 31] σ ρ1 := FR_trans F1 (FR_mono f2 (by decide))
      have hN1 := NX_F4 hN F2 (by decide)
      refine ok_bind (ok_mono (X_reckonNeeded (g := g) (T := T) (S := S) hW hN1 (XC_FR hC F2 (by decide)) (XP_FR hX F2 (by decide)) hS (by rw [F2 3 (by decide)]; exact h3) hg ?_ ?_) ?_)
      · intro c hc
        rw [f2 29 (by decide), f1 29 (by decide)]
        exact (qc c hc).1
      · intro k hk hA hor
        rw [q4 k]
        by_cases c0 : (Rs w n t o u).2.2 k = 0
        · rw [if_neg (fun e => by have := e.2.2.2; rw [nk_0 c0] at this; exact absurd this (by decide)), vrd_s c0, f1 27 (by decide)]
          exact q1 k hk hA c0
        · have c5 : t k = 5 := by omega
          rw [if_pos ⟨hk, c5, hA, by rw [nk_t c0 (by omega)]; rfl⟩]; rfl
      rintro ρ2 ⟨f3, q5⟩
      have F3 : FR [6, 27, 28, 29, 30, 31] σ ρ2 := FR_trans F2 (FR_mono f3 (by decide))
      have hN2 := NX_F4 hN F3 (by decide)
      have m2 : ρ2 3 = σ 3 := F3 3 (by decide)
      have S2 : SX ρ2 s := by
        refine ⟨q3.1, ?_, ?_⟩
        · rw [f3 6 (by decide), f2 6 (by decide), f1 6 (by decide)]; exact q3.2.1
        · rw [f3 31 (by decide), f2 31 (by decide), f1 31 (by decide)]; exact q3.2.2
      unfold fX6_go_L50 fX6_go_L71
      rw [X_test (w := w) hw.2 (by omega) (by omega) (by rw [m2]; exact e9) (by rw [m2]; exact e10) (vrd_lt hW hg T a ha) (vrd_lt hW hg T b hb) (q5 a ha na) (q5 b hb nb), Option.bind_some, m2]
      dsimp only
      by_cases ct : tsb (σ 3 8) (vrd w n t o u g T a) (vrd w n t o u g T b) = true
      · refine ok_neg (by rw [if_pos ct]; decide) ?_
        refine ok_bind (ok_mono (X_see hN2 (V := vrd w n t o u g T) (fun k hk hb => q5 k hk (nsh k hk (by rw [← m2]; exact hb))) S2) ?_)
        rintro ρ3 ⟨f4, q6⟩
        have F4 : FR [6, 27, 28, 29, 30, 31] σ ρ3 := FR_trans F3 (FR_mono f4 (by decide))
        refine ok_neg (by decide) ?_
        refine ok_bind (ok_mono (X_stepCells (g := g) (T := T) (S := S) hW h30 (XC_FR hC F4 (by decide)) (XP_FR hX F4 (by decide)) (by rw [F4 3 (by decide)]; exact h3) ?_ ?_) ?_)
        · intro c hc
          rw [f4 30 (by decide), f3 30 (by decide), f2 30 (by decide), f1 30 (by decide)]
          exact (qc c hc).2
        · intro c hc
          rw [f4 29 (by decide), f3 29 (by decide), f2 29 (by decide), f1 29 (by decide)]
          exact (qc c hc).1
        rintro ρ4 ⟨f5, q7⟩
        rw [nI_1]
        rw [m2] at q6
        refine ok_some ⟨ct, ρ4, rfl, FR_trans F4 (FR_mono f5 (by decide)), ?_, ?_, ?_, ?_⟩
        · intro k hk hA c0
          rw [f5 27 (by decide), f4 27 (by decide), q5 k hk hA, vrd_s c0]
        · intro _ k hk hA
          rw [f5 27 (by decide), f4 27 (by decide), q5 k hk hA]; rfl
        · intro c hc
          refine ⟨q7 c hc, ?_⟩
          rw [f5 30 (by decide), f4 30 (by decide), f3 30 (by decide), f2 30 (by decide), f1 30 (by decide)]
          exact (qc c hc).2
        · refine ⟨q6.1, ?_, ?_⟩
          · rw [f5 6 (by decide)]; exact q6.2.1
          · rw [f5 31 (by decide)]; exact q6.2.2
      · refine ok_pos (by rw [if_neg ct]) ?_
        exact ok_some ⟨Bool.eq_false_iff.mpr ct, rfl, F3, S2⟩) (by
      rintro τ s ⟨f, -, -, -, q3⟩
      dsimp only
      unfold fX6_go_B7
      refine ok_pos (show nI 300 ≤ nI 300 from Int32.le_refl _) ?_
      exact ok_some ⟨f, q3⟩)
  unfold fX6_goReduced fX6_go fX6_go_L77
  refine ok_bind (ok_mono (X_fillSteady hW hN hC hP) ?_)
  rintro τ ⟨f, q⟩
  rw [hX.1] at q
  have hPτ : PW w g τ := by
    intro k e hk he
    rw [f 14 (by decide)]; exact hP k e hk he
  refine ok_bind (ok_mono (X_fillCells hW h30 (XC_FR hC f (by decide)) hPτ (XP_FR hX f (by decide))) ?_)
  rintro τ2 ⟨f2, q2⟩
  refine ok_bind (ok_mono (turn 300 0 (up2 τ2 6 10 0) (0, fun _ => 0) rfl ⟨FR_trans (FR_mono f (by decide)) (FR_trans (FR_mono f2 (by decide)) (FR_up2 _ (by decide) _ _)), ?_, fun h => absurd h (by decide), ?_, by decide, by rw [up2_eq]; rfl, fun i hi => absurd hi (Nat.not_lt_zero _)⟩) ?_)
  · intro k hk hA c0
    rw [up2_row _ _ _ (show (27 : Nat) ≠ 6 by decide), f2 27 (by decide)]
    exact q k hk hA c0
  · intro c hc
    rw [up2_row _ _ _ (show (29 : Nat) ≠ 6 by decide), up2_row _ _ _ (show (30 : Nat) ≠ 6 by decide)]
    exact q2 c hc
  rintro ⟨r, ρ⟩ ⟨h1, h2, h4⟩
  exact ok_some ⟨h1, h2, h4⟩
