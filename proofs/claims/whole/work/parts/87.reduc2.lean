def psum (t K : Nat → Nat) (nd : Int32) (k : Nat) : Bool := (decide (t k = 2) || decide (t k = 3)) && (bt nd k && !decide (K k = 0))
def pprod (t K : Nat → Nat) (nd : Int32) (k : Nat) : Bool := decide (t k = 4) && (bt nd k && !(decide (K k = 0) || decide (K k = 1)))
theorem X_sumsLeft {w n : Nat} {t o u : Nat → Nat} {σ : Mem} (hW : WF w n t o u) (hN : NX n t o u σ) (hC : XC w n t o u σ) : fX4_sumsLeft σ = some (nI (fb_ct (psum t (Rs w n t o u).2.2 (σ 4 3)) n), σ) := by
  have h30 := hN.1
  obtain ⟨K, hK⟩ : ∃ K, K = (Rs w n t o u).2.2 := ⟨_, rfl⟩
  rw [← hK]
  have key : ok (loop (fun x => fX4_sumsLeft_B4 x.1 x.2.1 x.2.2) (0, 0, σ)) (fun b => b = (nI (fb_ct (psum t K (σ 4 3)) n), σ)) := by
    refine ok_for' (enc := fun i (_ : Unit) => (nI (fb_ct (psum t K (σ 4 3)) i), nI i, σ)) n (fun _ _ => True) (i0 := 0) (s0 := ()) (Nat.zero_le _) trivial ?_ ?_
    · intro k _ hk _
      dsimp only
      have k4 : K k ≤ 4 := by rw [hK]; exact K_le (w := w) hW h30 hk
      have t5 := WF_t hW hk
      have e20 : σ 20 k = nI (K k) := by rw [hK]; exact (hC.2.2 k hk).2.1
      have e8 := (hN.2.2 k hk).1
      obtain ⟨c, hc⟩ : ∃ c, c = fb_ct (psum t K (σ 4 3)) k := ⟨_, rfl⟩
      rw [fb_ct_succ, ← hc]
      have hno : psum t K (σ 4 3) k = false → ok (fX4_sumsLeft_L77 (nI c) (nI k) σ) (Sum.elim (fun a' => ∃ s' : Unit, a' = (nI (c + if psum t K (σ 4 3) k = true then 1 else 0), nI (k + 1), σ) ∧ True) (fun b => b = (nI (fb_ct (psum t K (σ 4 3)) n), σ))) := by
        intro h
        unfold fX4_sumsLeft_L77
        rw [nI_1, if_neg (by rw [h]; decide)]
        exact ok_some ⟨(), rfl, trivial⟩
      have h46 : (t k = 2 ∨ t k = 3) → ok (fX4_sumsLeft_L46 (nI c) (nI k) 1 σ) (Sum.elim (fun a' => ∃ s' : Unit, a' = (nI (c + if psum t K (σ 4 3) k = true then 1 else 0), nI (k + 1), σ) ∧ True) (fun b => b = (nI (fb_ct (psum t K (σ 4 3)) n), σ))) := by
        intro ht
        unfold fX4_sumsLeft_L46
        rw [if_neg (by decide), isInE _ (by omega), Option.bind_some]
        dsimp only
        by_cases cb : bt (σ 4 3) k = true
        · rw [if_pos cb, if_neg (by decide), chk_in (by omega) (by decide), nI_clamp (by omega)]
          by_cases c0 : K k = 0
          · refine ok_pos (show σ 20 k = 0 by rw [e20, c0]; rfl) ?_
            exact hno (by unfold psum; simp [c0])
          · refine ok_neg (show ¬ σ 20 k = 0 by rw [e20]; exact nI_ne0 (by omega) (by omega)) ?_
            unfold fX4_sumsLeft_L77
            rw [nI_1, nI_1, if_pos (show psum t K (σ 4 3) k = true by unfold psum; simp [cb, c0, ht])]
            exact ok_some ⟨(), rfl, trivial⟩
        · rw [if_neg cb, if_pos rfl]
          exact hno (by unfold psum; simp [cb])
      unfold fX4_sumsLeft_B4 fX4_sumsLeft_L41
      rw [hN.2.1, if_neg (nI_ge hk (by omega)), chk_in (by omega) (by decide), chk_in (by omega) (by decide), nI_clamp (by omega), e8]
      by_cases c2 : t k = 2
      · rw [if_pos (by rw [c2]; rfl)]
        exact h46 (Or.inl c2)
      · rw [if_neg (t_n2 hW hk c2)]
        by_cases c3 : t k = 3
        · rw [if_pos (by rw [c3]; rfl)]
          exact h46 (Or.inr c3)
        · rw [if_neg (show ¬ nI (t k) = 3 from fun e => c3 ((nI_eq (b := 3) (by omega) (by decide)).mp e))]
          unfold fX4_sumsLeft_L46
          rw [if_pos rfl]
          exact hno (by unfold psum; simp [c2, c3])
    · intro _ _
      dsimp only
      unfold fX4_sumsLeft_B4
      rw [hN.2.1, if_pos (Int32.le_refl _)]
      exact ok_some rfl
  obtain ⟨b, hb, rfl⟩ := key
  unfold fX4_sumsLeft fX4_sumsLeft_L83
  rw [hb, Option.bind_some]
theorem X_productsLeft {w n : Nat} {t o u : Nat → Nat} {σ : Mem} (hW : WF w n t o u) (hN : NX n t o u σ) (hC : XC w n t o u σ) : fX4_productsLeft σ = some (nI (fb_ct (pprod t (Rs w n t o u).2.2 (σ 4 3)) n), σ) := by
  have h30 := hN.1
  obtain ⟨K, hK⟩ : ∃ K, K = (Rs w n t o u).2.2 := ⟨_, rfl⟩
  rw [← hK]
  have key : ok (loop (fun x => fX4_productsLeft_B4 x.1 x.2.1 x.2.2) (0, 0, σ)) (fun b => b = (nI (fb_ct (pprod t K (σ 4 3)) n), σ)) := by
    refine ok_for' (enc := fun i (_ : Unit) => (nI (fb_ct (pprod t K (σ 4 3)) i), nI i, σ)) n (fun _ _ => True) (i0 := 0) (s0 := ()) (Nat.zero_le _) trivial ?_ ?_
    · intro k _ hk _
      dsimp only
      have k4 : K k ≤ 4 := by rw [hK]; exact K_le (w := w) hW h30 hk
      have e20 : σ 20 k = nI (K k) := by rw [hK]; exact (hC.2.2 k hk).2.1
      have e8 := (hN.2.2 k hk).1
      obtain ⟨c, hc⟩ : ∃ c, c = fb_ct (pprod t K (σ 4 3)) k := ⟨_, rfl⟩
      rw [fb_ct_succ, ← hc]
      have hno : pprod t K (σ 4 3) k = false → ok (fX4_productsLeft_L77 (nI c) (nI k) σ) (Sum.elim (fun a' => ∃ s' : Unit, a' = (nI (c + if pprod t K (σ 4 3) k = true then 1 else 0), nI (k + 1), σ) ∧ True) (fun b => b = (nI (fb_ct (pprod t K (σ 4 3)) n), σ))) := by
        intro h
        unfold fX4_productsLeft_L77
        rw [nI_1, if_neg (by rw [h]; decide)]
        exact ok_some ⟨(), rfl, trivial⟩
      have h45 : ∀ f : Int32, (f = 0 ∧ K k ≠ 0 ∧ K k ≠ 1) ∨ (f = 1 ∧ (K k = 0 ∨ K k = 1)) → ok (fX4_productsLeft_L45 (nI c) (nI k) f σ) (Sum.elim (fun a' => ∃ s' : Unit, a' = (nI (c + if pprod t K (σ 4 3) k = true then 1 else 0), nI (k + 1), σ) ∧ True) (fun b => b = (nI (fb_ct (pprod t K (σ 4 3)) n), σ))) := by
        intro f hf
        unfold fX4_productsLeft_L45
        rw [chk_in (by omega) (by decide), nI_clamp (by omega), e8]
        by_cases c4 : t k = 4
        · rw [if_pos (by rw [c4]; rfl), isInE _ (by omega), Option.bind_some]
          dsimp only
          by_cases cb : bt (σ 4 3) k = true
          · rw [if_pos cb, if_neg (by decide)]
            rcases hf with ⟨rfl, h0, h1⟩ | ⟨rfl, h01⟩
            · rw [if_pos rfl]
              unfold fX4_productsLeft_L77
              rw [nI_1, nI_1, if_pos (show pprod t K (σ 4 3) k = true by unfold pprod; simp [cb, c4, h0, h1])]
              exact ok_some ⟨(), rfl, trivial⟩
            · rw [if_neg (by decide)]
              exact hno (by unfold pprod; rcases h01 with z | z <;> simp [z])
          · rw [if_neg cb, if_pos rfl]
            exact hno (by unfold pprod; simp [cb])
        · rw [if_neg (t_n4 hW hk c4)]
          exact hno (by unfold pprod; simp [c4])
      unfold fX4_productsLeft_B4 fX4_productsLeft_L40
      rw [hN.2.1, if_neg (nI_ge hk (by omega)), chk_in (by omega) (by decide), chk_in (by omega) (by decide), nI_clamp (by omega), e20]
      by_cases c0 : K k = 0
      · rw [if_pos (by rw [c0]; rfl)]
        exact h45 1 (Or.inr ⟨rfl, Or.inl c0⟩)
      · rw [if_neg (nI_ne0 (by omega) (by omega))]
        by_cases c1 : K k = 1
        · rw [if_pos (by rw [c1]; rfl)]
          exact h45 1 (Or.inr ⟨rfl, Or.inr c1⟩)
        · rw [if_neg (show ¬ nI (K k) = 1 from fun e => c1 ((nI_eq (b := 1) (by omega) (by decide)).mp e))]
          exact h45 0 (Or.inl ⟨rfl, c0, c1⟩)
    · intro _ _
      dsimp only
      unfold fX4_productsLeft_B4
      rw [hN.2.1, if_pos (Int32.le_refl _)]
      exact ok_some rfl
  obtain ⟨b, hb, rfl⟩ := key
  unfold fX4_productsLeft fX4_productsLeft_L83
  rw [hb, Option.bind_some]
/-- refreshed, and planned -/
theorem X_ready {w n : Nat} {t o u : Nat → Nat} {σ : Mem} (hW : WF w n t o u) (hX : CX w n t o u σ) (hp : PXc w n t o u σ) (ho : askOk n σ) {β : Type} {g : Mem → Option β} {Q : β → Prop} (h : ∀ τ, KX w n t o u σ τ → XC w n t o u τ → XP w n t o u (askd σ) τ → FR [0, 4, 15, 16, 17, 18, 19, 20, 21, 22, 23, 24, 25] σ τ → ok (g τ) Q) : ok ((fX0_refresh σ).bind fun o1 => (fX4_refresh o1).bind g) Q := by
  have h30 := hX.1.1
  refine ok_bind (ok_mono (X_refresh hW hX.1 hX.2.1 hX.2.2.1 hX.2.2.2) ?_)
  rintro τ ⟨q1, q2, q3⟩
  have hN : NX n t o u τ := NX_FR hX.1 q2 (by decide) (by decide) (by decide) (by decide)
  have ea : askd τ = askd σ := askd_FR q2 (by decide)
  refine ok_bind (ok_mono (X_plan hW hN q1 (by rw [ea]; exact lowb_ask h30 ho) (PXc_FR hp q2 (by decide))) ?_)
  rintro ρ ⟨p1, p2, p3, p4⟩
  have hfr : FR [0, 4, 15, 16, 17, 18, 19, 20, 21, 22, 23, 24, 25] σ ρ := FR_trans (FR_mono q2 (by decide)) (FR_mono p2 (by decide))
  have hC : XC w n t o u ρ := XC_FR q1 p2 (by decide)
  rw [ea] at p1
  have eρ : askd ρ = askd σ := askd_FR hfr (by decide)
  refine h ρ ⟨FR_mono hfr (by decide), ⟨NX_FR hX.1 hfr (by decide) (by decide) (by decide) (by decide), hC.1, by rw [hfr 3 (by decide)]; exact hX.2.2.1, fun _ => hC⟩, fun _ _ => by rw [eρ]; exact p1, Or.inr (by rw [p2 0 (by decide)]; exact q3), Or.inr ⟨by rw [p3, q2 3 (by decide)], by rw [p4, q2 3 (by decide)]⟩⟩ hC p1 hfr
theorem M_ready {w n : Nat} {t o u : Nat → Nat} {σX σM : Mem} (hW : WF w n t o u) (hM : CM w n t o u σM) (he : askEq σX σM) (ho : askOk n σX) {β : Type} {g : Mem → Option β} {Q : β → Prop} (h : ∀ τ, KM w n t o u σM τ → MC w n t o u τ → MP w n t o u (askd σX) τ → FR [0, 1, 5, 6, 7, 8, 10, 11] σM τ → τ 0 25 = σM 0 25 → ok (g τ) Q) : ok ((fX8_reduces (th σM)).bind g) Q := by
  have h30 := hM.1.1
  have hT := CM_th hM
  have he' : askEq σX (th σM) := ⟨by rw [← he.1]; exact up2_col _ _ _ (by decide), by rw [← he.2.1]; exact up2_col _ _ _ (by decide), by rw [← he.2.2.1]; exact up2_col _ _ _ (by decide), by rw [← he.2.2.2]; exact up2_col _ _ _ (by decide)⟩
  have ea := ask_eq he'
  refine ok_bind (ok_mono (M_reduces hW hT.2.1 (by rw [ea]; exact lowb_ask h30 ho)) ?_)
  rintro τ ⟨q1, q2, q3, q4, q5⟩
  rw [ea] at q1
  have hth : FR [0] σM (th σM) := FR_up2 _ (by decide) _ _
  have hfr : FR [0, 1, 5, 6, 7, 8, 10, 11] σM τ := FR_trans (FR_mono hth (by decide)) q4
  have hj : ∀ j, j ≠ 2 → j ≠ 11 → j ≠ 17 → j ≠ 20 → τ 0 j = σM 0 j := fun j h2 h11 h17 h20 => by rw [q5 j h11 h17 h20]; exact up2_col _ _ _ h2
  exact h τ ⟨FR_mono hfr (by decide), q3, fun j h2 h11 h17 h20 _ => hj j h2 h11 h17 h20⟩ q2 q1 hfr (hj 25 (by decide) (by decide) (by decide) (by decide))
theorem Same2_of {w n : Nat} {t o u : Nat → Nat} {σX σM : Mem} {fX fM : Option (Int32 × Mem)} (r : Int32) (hs : seenEq σX σM) (h1 : ok fX (fun p => p.1 = r ∧ KX w n t o u σX p.2 ∧ p.2 6 10 = σX 6 10 ∧ p.2 31 = σX 31)) (h2 : ok fM (fun p => p.1 = r ∧ KM w n t o u σM p.2 ∧ p.2 0 25 = σM 0 25 ∧ p.2 15 = σM 15)) : Same2 w n t o u σX σM fX fM := by
  obtain ⟨⟨rX, τX⟩, e1, a1, a2, a3, a4⟩ := h1
  obtain ⟨⟨rM, τM⟩, e2, b1, b2, b3, b4⟩ := h2
  dsimp only at a1 a2 a3 a4 b1 b2 b3 b4
  subst a1
  subst b1
  obtain ⟨m, m0, m1, m2, m3⟩ := hs
  exact ⟨rM, τX, τM, e1, e2, a2, b2, m, m0, by rw [a3]; exact m1, by rw [b3]; exact m2, fun i hi => by rw [a4, b4]; exact m3 i hi⟩
theorem P_reduced {w n : Nat} {t o u : Nat → Nat} {σX σM : Mem} (hW : WF w n t o u) (hX : CX w n t o u σX) (hM : CM w n t o u σM) (hp : PXc w n t o u σX) (he : askEq σX σM) (ho : askOk n σX) (hs : seenEq σX σM) (a : Int32) : Same2 w n t o u σX σM (fX7_reduced a σX) (fX8_reduced a σM) := by
  have ht5 : ∀ i, i < n → t i ≤ 5 := fun i hi => WF_t hW hi
  obtain ⟨S, hS⟩ : ∃ S, S = askd σX := ⟨_, rfl⟩
  obtain ⟨K, hK⟩ : ∃ K, K = (Rs w n t o u).2.2 := ⟨_, rfl⟩
  have e1 : ∀ k, pm t K (ndd w n t o u S) 0 0 k = (decide (t k = 2) || decide (t k = 3)) := fun k => by unfold pm; simp
  have e2 : ∀ k, pm t K (ndd w n t o u S) 1 0 k = decide (t k = 4) := fun k => by unfold pm; simp
  have e3 : ∀ k, pm t K (ndd w n t o u S) 0 1 k = psum t K (ndd w n t o u S) k := fun k => by
    unfold pm psum
    simp
    cases bt (ndd w n t o u S) k <;> simp
  have e4 : ∀ k, pm t K (ndd w n t o u S) 1 1 k = pprod t K (ndd w n t o u S) k := fun k => by
    unfold pm pprod
    simp
    cases bt (ndd w n t o u S) k <;> simp
  have hsum : fb_ct (fun k => decide (t k = 2)) n + fb_ct (fun k => decide (t k = 3)) n = fb_ct (pm t K (ndd w n t o u S) 0 0) n := by
    rw [fb_ct_cong (q := fun k => decide (t k = 2) || decide (t k = 3)) (fun k _ => e1 k), fb_ct_or (fun k _ q => by simp at q; omega)]
  -- the answers
  obtain ⟨r, hr⟩ : ∃ r : Int32, r = if a = 0 then ndd w n t o u S else if a = 1 then nI (cll w n t o u S).1 else if a = 2 then nI (fb_ct (pm t K (ndd w n t o u S) 0 0) n) else if a = 3 then nI (fb_ct (pm t K (ndd w n t o u S) 1 0) n) else if a = 4 then nI (fb_ct (pm t K (ndd w n t o u S) 0 1) n) + nI (cll w n t o u S).1 else if a = 5 then nI (fb_ct (pm t K (ndd w n t o u S) 1 1) n) else -1 := ⟨_, rfl⟩
  refine Same2_of r hs ?_ ?_
  · unfold fX7_reduced
    refine X_ready hW hX hp ho (fun τ q1 q2 q3 q4 => ?_)
    rw [← hS] at q3
    have e43 := q3.1
    have e44 := q3.2.1.1
    have f6 : τ 6 10 = σX 6 10 ∧ τ 31 = σX 31 := ⟨by rw [q4 6 (by decide)], q4 31 (by decide)⟩
    have hNτ := q1.2.1.1
    have a2 : fX3_amountOf 2 τ = some (nI (fb_ct (fun k => decide (t k = 2)) n), τ) := X_amountOf (v := 2) hNτ ht5 (by decide)
    have a3 : fX3_amountOf 3 τ = some (nI (fb_ct (fun k => decide (t k = 3)) n), τ) := X_amountOf (v := 3) hNτ ht5 (by decide)
    have a4 : fX3_amountOf 4 τ = some (nI (fb_ct (fun k => decide (t k = 4)) n), τ) := X_amountOf (v := 4) hNτ ht5 (by decide)
    have sL := X_sumsLeft hW hNτ q2
    have pL := X_productsLeft hW hNτ q2
    rw [e43, ← hK] at sL pL
    rw [hr]
    by_cases c0 : a = 0
    · rw [if_pos c0, if_pos c0]; exact ok_some ⟨e43, q1, f6⟩
    rw [if_neg c0, if_neg c0]
    by_cases c1 : a = 1
    · rw [if_pos c1, if_pos c1]; exact ok_some ⟨e44, q1, f6⟩
    rw [if_neg c1, if_neg c1]
    by_cases c2 : a = 2
    · rw [if_pos c2, if_pos c2, a2, Option.bind_some]
      dsimp only
      rw [a3, Option.bind_some, nI_add, hsum]
      exact ok_some ⟨rfl, q1, f6⟩
    rw [if_neg c2, if_neg c2]
    by_cases c3 : a = 3
    · rw [if_pos c3, if_pos c3, a4, Option.bind_some, fb_ct_cong (fun k _ => e2 k)]
      exact ok_some ⟨rfl, q1, f6⟩
    rw [if_neg c3, if_neg c3]
    by_cases c4 : a = 4
    · rw [if_pos c4, if_pos c4, sL, Option.bind_some, fb_ct_cong (fun k _ => e3 k)]
      dsimp only
      rw [e44]
      exact ok_some ⟨rfl, q1, f6⟩
    rw [if_neg c4, if_neg c4]
    by_cases c5 : a = 5
    · rw [if_pos c5, if_pos c5, pL, Option.bind_some, fb_ct_cong (fun k _ => e4 k)]
      exact ok_some ⟨rfl, q1, f6⟩
    rw [if_neg c5, if_neg c5]
    exact ok_some ⟨rfl, q1, f6⟩
  · unfold fX8_reduced
    rw [th_def]
    refine M_ready hW hM he ho (fun τ q1 q2 q3 q4 q5 => ?_)
    rw [← hS] at q3
    have e20 := q3.1
    have e17 := q3.2.1.1
    have f6 : τ 0 25 = σM 0 25 ∧ τ 15 = σM 15 := ⟨q5, q4 15 (by decide)⟩
    have hNτ := q1.2.1.1
    have m00 : fX8_manyOf 0 0 τ = some (nI (fb_ct (pm t (Rs w n t o u).2.2 (τ 0 20) 0 0) n), τ) := M_manyOf (p := 0) (a := 0) hW hNτ q2 (by decide) (by decide)
    have m10 : fX8_manyOf 1 0 τ = some (nI (fb_ct (pm t (Rs w n t o u).2.2 (τ 0 20) 1 0) n), τ) := M_manyOf (p := 1) (a := 0) hW hNτ q2 (by decide) (by decide)
    have m01 : fX8_manyOf 0 1 τ = some (nI (fb_ct (pm t (Rs w n t o u).2.2 (τ 0 20) 0 1) n), τ) := M_manyOf (p := 0) (a := 1) hW hNτ q2 (by decide) (by decide)
    have m11 : fX8_manyOf 1 1 τ = some (nI (fb_ct (pm t (Rs w n t o u).2.2 (τ 0 20) 1 1) n), τ) := M_manyOf (p := 1) (a := 1) hW hNτ q2 (by decide) (by decide)
    rw [e20, ← hK] at m00 m10 m01 m11
    rw [hr]
    by_cases c0 : a = 0
    · rw [if_pos c0, if_pos c0]; exact ok_some ⟨e20, q1, f6⟩
    rw [if_neg c0, if_neg c0]
    by_cases c1 : a = 1
    · rw [if_pos c1, if_pos c1]; exact ok_some ⟨e17, q1, f6⟩
    rw [if_neg c1, if_neg c1]
    by_cases c2 : a = 2
    · rw [if_pos c2, if_pos c2, m00, Option.bind_some]; exact ok_some ⟨rfl, q1, f6⟩
    rw [if_neg c2, if_neg c2]
    by_cases c3 : a = 3
    · rw [if_pos c3, if_pos c3, m10, Option.bind_some]; exact ok_some ⟨rfl, q1, f6⟩
    rw [if_neg c3, if_neg c3]
    by_cases c4 : a = 4
    · rw [if_pos c4, if_pos c4, m01, Option.bind_some]
      dsimp only
      rw [e17]
      exact ok_some ⟨rfl, q1, f6⟩
    rw [if_neg c4, if_neg c4]
    by_cases c5 : a = 5
    · rw [if_pos c5, if_pos c5, m11, Option.bind_some]; exact ok_some ⟨rfl, q1, f6⟩
    rw [if_neg c5, if_neg c5]
    exact ok_some ⟨rfl, q1, f6⟩
theorem X_cdeg {w n : Nat} {t o u : Nat → Nat} {S : Int32} {σ : Mem} (hW : WF w n t o u) (hn : n ≤ 30) (hC : XC w n t o u σ) (hP : XP w n t o u S σ) {c : Nat} (hc : c < (cll w n t o u S).1) : fX4_degree (nI c) σ = some (nI (fdeg (cfm (Rs w n t o u).2.1 (cll w n t o u S) c)), σ) := by
  have hw := hC.1.1.1
  have hCI : CI (pcl w n t o u S) (Rs w n t o u).2.1 n (cll w n t o u S) := CI_N n (Nat.le_refl n)
  have h90 := clN_le (pcl w n t o u S) (Rs w n t o u).2.1 n
  have h90' : (cll w n t o u S).1 ≤ 3 * n := h90
  obtain ⟨h1, h2, h3⟩ := hCI.1 c hc
  obtain ⟨q1, q2, q3⟩ := pcl_ok hW hn hw.1 h1 h2
  obtain ⟨o1, o2, o3⟩ := cfm_ok hW hn hw.1 hCI hc
  unfold fX4_degree
  rw [chk_in (by omega) (by decide), nI_clamp (by omega), (hP.2.1.2 c hc).1, X1_degree (by omega) ((hC.2.2 _ h1).2.2 (by omega)), Option.bind_some]
  dsimp only
  rw [chk_in (by omega) (by decide), (hP.2.1.2 c hc).2, pk_sub (by omega), o2]
theorem P_cell {w n : Nat} {t o u : Nat → Nat} {σX σM : Mem} (hW : WF w n t o u) (hX : CX w n t o u σX) (hM : CM w n t o u σM) (hp : PXc w n t o u σX) (he : askEq σX σM) (ho : askOk n σX) (hs : seenEq σX σM) (a b : Int32) : Same2 w n t o u σX σM (fX7_cell a b σX) (fX8_cell a b σM) := by
  have h30 := hX.1.1
  have hw := hX.2.1.1.1
  obtain ⟨S, hS⟩ : ∃ S, S = askd σX := ⟨_, rfl⟩
  have hCI : CI (pcl w n t o u S) (Rs w n t o u).2.1 n (cll w n t o u S) := CI_N n (Nat.le_refl n)
  have h90 : (cll w n t o u S).1 ≤ 3 * n := clN_le (pcl w n t o u S) (Rs w n t o u).2.1 n
  by_cases hin : ∃ c, c < (cll w n t o u S).1 ∧ a = nI c
  · obtain ⟨c, hc, rfl⟩ := hin
    obtain ⟨o1, o2, o3⟩ := cfm_ok hW h30 hw.1 hCI hc
    -- what is next, as the reference has it: any gd row will do
    by_cases b1 : b = 1
    · -- both rows are good
      have hX1 : ok (fX7_cell (nI c) b σX) (fun p => ∃ N : Nat → Int32, gd (Rs w n t o u).2.1 (cll w n t o u S) N c ∧ p.1 = N c ∧ KX w n t o u σX p.2 ∧ p.2 6 10 = σX 6 10 ∧ p.2 31 = σX 31) := by
        unfold fX7_cell
        refine X_ready hW hX hp ho (fun τ q1 q2 q3 q4 => ?_)
        rw [← hS] at q3
        rw [if_neg (nI_pos (by omega)), q3.2.1.1, if_pos (nI_lt hc (by omega)), if_neg (by rw [b1]; decide), if_pos b1, chk_in (by omega) (by decide), nI_clamp (by omega)]
        exact ok_some ⟨τ 24, q3.2.2.1 c hc, rfl, q1, by dsimp only; rw [q4 6 (by decide)], q4 31 (by decide)⟩
      obtain ⟨⟨rX, τX⟩, ex, NX', gx, ex2, kx⟩ := hX1
      dsimp only at ex2 kx
      refine Same2_of rX hs ⟨(rX, τX), ex, rfl, kx⟩ ?_
      unfold fX8_cell
      rw [th_def]
      refine M_ready hW hM he ho (fun τ q1 q2 q3 q4 q5 => ?_)
      rw [← hS] at q3
      rw [q3.2.1.1, nI_m1 (by omega), isInM (by omega), Option.bind_some]
      dsimp only
      have hin' : ¬ (nI c < 0 ∨ nI ((cll w n t o u S).1 - 1) < nI c) := by
        rintro (z | z)
        · exact nI_pos (by omega) z
        · exact nI_nlt (by omega) (by omega) z
      rw [if_neg hin', if_neg (show ¬ (1 : Int32) = 0 by decide), if_neg (by rw [b1]; decide), if_pos b1, chk_in (by omega) (by decide), nI_clamp (by omega)]
      unfold fX8_cell_L69
      refine ok_some ⟨?_, q1, q5, q4 15 (by decide)⟩
      dsimp only
      rw [ex2]
      exact gd_eq hCI o3 (q3.2.2 c hc) gx
    · refine Same2_of (if b = 0 then nI (fdeg (cfm (Rs w n t o u).2.1 (cll w n t o u S) c)) else if b = 2 then nI ((cll w n t o u S).2.1 c) else -1) hs ?_ ?_
      · unfold fX7_cell
        refine X_ready hW hX hp ho (fun τ q1 q2 q3 q4 => ?_)
        rw [← hS] at q3
        have f6 : τ 6 10 = σX 6 10 ∧ τ 31 = σX 31 := ⟨by rw [q4 6 (by decide)], q4 31 (by decide)⟩
        rw [if_neg (nI_pos (by omega)), q3.2.1.1, if_pos (nI_lt hc (by omega))]
        by_cases b0 : b = 0
        · rw [if_pos b0, if_pos b0, X_cdeg hW h30 q2 q3 hc, Option.bind_some]
          exact ok_some ⟨rfl, q1, f6⟩
        · rw [if_neg b0, if_neg b0, if_neg b1]
          by_cases b2 : b = 2
          · rw [if_pos b2, if_pos b2, chk_in (by omega) (by decide), nI_clamp (by omega)]
            exact ok_some ⟨(q3.2.1.2 c hc).1, q1, f6⟩
          · rw [if_neg b2, if_neg b2]
            exact ok_some ⟨rfl, q1, f6⟩
      · unfold fX8_cell
        rw [th_def]
        refine M_ready hW hM he ho (fun τ q1 q2 q3 q4 q5 => ?_)
        rw [← hS] at q3
        have f6 : τ 0 25 = σM 0 25 ∧ τ 15 = σM 15 := ⟨q5, q4 15 (by decide)⟩
        rw [q3.2.1.1, nI_m1 (by omega), isInM (by omega), Option.bind_some]
        dsimp only
        have hin' : ¬ (nI c < 0 ∨ nI ((cll w n t o u S).1 - 1) < nI c) := by
          rintro (z | z)
          · exact nI_pos (by omega) z
          · exact nI_nlt (by omega) (by omega) z
        rw [if_neg hin', if_neg (show ¬ (1 : Int32) = 0 by decide)]
        unfold fX8_cell_L69
        by_cases b0 : b = 0
        · have i34 : (34 : Int32) + nI c = nI (34 + c) := nI_add 34 c
          rw [if_pos b0, if_pos b0, i34, M_degreeOf hw.2 (by omega) (q3.2.1.2 c hc).1, Option.bind_some]
          exact ok_some ⟨rfl, q1, f6⟩
        · rw [if_neg b0, if_neg b0, if_neg b1]
          by_cases b2 : b = 2
          · rw [if_pos b2, if_pos b2, chk_in (by omega) (by decide), nI_clamp (by omega)]
            exact ok_some ⟨(q3.2.1.2 c hc).2, q1, f6⟩
          · rw [if_neg b2, if_neg b2]
            exact ok_some ⟨rfl, q1, f6⟩
  · have hout : a < 0 ∨ nI (cll w n t o u S).1 ≤ a := by
      by_cases c0 : a < 0
      · exact Or.inl c0
      · obtain ⟨j, hj, rfl⟩ := nI_of c0
        exact Or.inr (nI_le (Nat.le_of_not_lt (fun q => hin ⟨j, q, rfl⟩)) hj)
    refine Same2_of (-1) hs ?_ ?_
    · unfold fX7_cell fX7_cell_L29
      refine X_ready hW hX hp ho (fun τ q1 q2 q3 q4 => ?_)
      rw [← hS] at q3
      have f6 : τ 6 10 = σX 6 10 ∧ τ 31 = σX 31 := ⟨by rw [q4 6 (by decide)], q4 31 (by decide)⟩
      by_cases c0 : a < 0
      · rw [if_pos c0]; exact ok_some ⟨rfl, q1, f6⟩
      · rw [if_neg c0, q3.2.1.1, if_neg (fun z => by
          rcases hout with q | q
          · exact c0 q
          · exact (fa_of_lt z).2.1 q)]
        exact ok_some ⟨rfl, q1, f6⟩
    · unfold fX8_cell
      rw [th_def]
      refine M_ready hW hM he ho (fun τ q1 q2 q3 q4 q5 => ?_)
      rw [← hS] at q3
      have hz : fX8_isIn a 0 (τ 0 17 - 1) τ = some (0, τ) := by
        rw [q3.2.1.1]
        rcases Nat.eq_zero_or_pos (cll w n t o u S).1 with z | z
        · rw [z]
          unfold fX8_isIn fX8_isIn_L14 fX8_isIn_L15
          by_cases c0 : a < 0
          · rw [if_pos c0]; rfl
          · rw [if_neg c0]
            obtain ⟨j, hj, rfl⟩ := nI_of c0
            rw [if_pos (Int32.lt_of_lt_of_le (show nI 0 - 1 < 0 by decide) (nI_pos' hj))]; rfl
        · rw [nI_m1 z, isInM (by omega), if_pos]
          rcases hout with q | q
          · exact Or.inl q
          · exact Or.inr (Int32.lt_of_lt_of_le (nI_lt (by omega) (by omega)) q)
      rw [hz, Option.bind_some]
      dsimp only
      rw [if_pos rfl]
      exact ok_some ⟨rfl, q1, q5, q4 15 (by decide)⟩
