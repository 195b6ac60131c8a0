theorem XC_ctx {w n : Nat} {t o u : Nat → Nat} {σ τ : Mem} (h : CX w n t o u σ) (hC : XC w n t o u σ) (hf : FR [14, 26] σ τ) : QX w n t o u σ τ ∧ XC w n t o u τ := by
  have hC' : XC w n t o u τ := XC_FR hC hf (by decide)
  exact ⟨⟨FR_mono hf (by decide), ⟨NX_FR h.1 hf (by decide) (by decide) (by decide) (by decide), hC'.1, by rw [hf 3 (by decide)]; exact h.2.2.1, fun _ => hC'⟩, Or.inl (by rw [hf 0 (by decide)])⟩, hC'⟩
theorem MC_ctx {w n : Nat} {t o u : Nat → Nat} {σ τ : Mem} (h : CM w n t o u σ) (hC : MC w n t o u σ) (hf : FR [9] σ τ) : QM w n t o u σ τ ∧ MC w n t o u τ := by
  have e0 : τ 0 = σ 0 := hf 0 (by decide)
  have hC' : MC w n t o u τ := MC_FR hC hf (by rw [e0]) (by decide) (by decide) (by decide) (by decide)
  exact ⟨⟨FR_mono hf (by decide), ⟨NM_of h.1 hf (by rw [e0]) (by decide) (by decide) (by decide), hC'.1, fun _ => hC'⟩, fun j _ _ => by rw [e0]⟩, hC'⟩
theorem X_exponent {w : Nat} {σ : Mem} {p : Nat} (h : CT w σ) (hp : p < 84) (a : Nat → Nat) {b : Int32} (hb : b = 0 ∨ b = 1 ∨ b = 2) : fX2_exponent (nI p) b σ = some (pa a (cd p) b, σ) := by
  obtain ⟨e11, -⟩ := h.2.2.2.2 p hp
  have hc := cd_ok p hp
  obtain ⟨m, hm⟩ : ∃ m, m = cd p := ⟨_, rfl⟩
  rw [← hm] at e11 hc ⊢
  have e7 : nI m / 7 = nI (m / 7) := pk_div (d := 7) (by omega) (by decide) (by decide)
  have e49 : nI m / 49 = nI (m / 49) := pk_div (d := 49) (by omega) (by decide) (by decide)
  have r7 : nI m - nI m / 7 * 7 = nI (m % 7) := pk_rem (d := 7) (by omega) (by decide) (by decide)
  have r77 : nI (m / 7) - nI (m / 7) / 7 * 7 = nI (m / 7 % 7) := pk_rem (d := 7) (by omega) (by decide) (by decide)
  unfold fX2_exponent fX2_exponent_L35 pa
  rw [chk_in hp (by decide), nI_clamp (by omega), e11, r7, e7, r77, e49]
  rcases hb with rfl | rfl | rfl
  · rw [if_pos rfl, if_pos rfl]
  · rw [if_neg (by decide), if_pos rfl, if_neg (by decide), if_pos rfl]
  · rw [if_neg (by decide), if_neg (by decide), if_neg (by decide), if_neg (by decide), if_pos rfl]
theorem P_poly {w n : Nat} {t o u : Nat → Nat} {σX σM : Mem} (hW : WF w n t o u) (hX : CX w n t o u σX) (hM : CM w n t o u σM) (a b k q : Int32) : Same w n t o u σX σM (fX7_poly a b k q σX) (fX8_poly a b k q σM) := by
  have hT := CM_th hM
  have h30 := hX.1.1
  have hw := hX.2.1.1.1
  by_cases hp : ∃ i c, i < n ∧ c < 4 ∧ a = nI i ∧ b = nI c ∧ (Rs w n t o u).1 i ≠ 9
  · obtain ⟨i, c, hi, hc, rfl, rfl, h9⟩ := hp
    have hp : ∃ i' c', i' < n ∧ c' < 4 ∧ nI i = nI i' ∧ nI c = nI c' ∧ (Rs w n t o u).1 i' ≠ 9 := ⟨i, c, hi, hc, rfl, rfl, h9⟩
    obtain ⟨A, hA⟩ : ∃ A, A = (Rs w n t o u).2.1 i c := ⟨_, rfl⟩
    have okA : OkP w A := by rw [hA]; exact (R_ok hW h30 hw.1 hi h9).1 c
    have hXX : ∀ P : Int32 × Mem → Prop, (∀ τ, QX w n t o u σX τ → XC w n t o u τ → px w τ (4 * i + c) A → ok (if k = (-1) then (fX5_amount (nI (4 * i + c)) τ).bind (fun o6 => some (o6.1, o6.2)) else (fX5_placeOf (nI (4 * i + c)) k τ).bind fun o3 => if o3.1 = (-1) then fX7_poly_L69 o3.2 else if q < 0 then fX7_poly_L69 o3.2 else if q ≤ 3 then (if q = 3 then (fX5_factorAt (nI (4 * i + c)) o3.1 o3.2).bind (fun o5 => fX7_poly_L102 o5.1 o5.2) else (fX2_exponent o3.1 q o3.2).bind fun o4 => fX7_poly_L102 o4.1 o4.2) else fX7_poly_L69 o3.2) P) → ok (fX7_poly (nI i) (nI c) k q σX) P := by
      intro P h
      unfold fX7_poly
      refine ok_bind (ok_mono (X_ref hW hX) ?_)
      rintro τ ⟨q1, q2, -⟩
      rw [X_hasPoly hW q1.2.1.1 q2, bI_t hp, Option.bind_some]
      dsimp only
      rw [if_neg (by decide), ix4]
      exact h τ q1 q2 (by rw [hA]; exact (q2.2.2 i hi).2.2 h9 c hc)
    have hMM : ∀ P : Int32 × Mem → Prop, (∀ τ, QM w n t o u σM τ → fm w τ i ((Rs w n t o u).2.1 i) → ok ((loop (fun x => fX8_poly_B22 (nI i) (nI c) k q x.1 x.2.1 x.2.2) (0, 0, τ)).bind (Sum.elim (fun b2x0 => fX8_poly_L131 k b2x0.1 b2x0.2) (fun b2r => some b2r))) P) → ok (fX8_poly (nI i) (nI c) k q σM) P := by
      intro P h
      unfold fX8_poly
      rw [th_def]
      refine ok_bind (ok_mono (M_isPoly hW hT.2.1 (nI i) (nI c)) ?_)
      rintro ⟨r, τ⟩ ⟨q0, q1, q2⟩
      dsimp only at q0 q1 q2 ⊢
      rw [bI_t hp] at q0
      rw [q0, if_neg (by decide)]
      have hc2 := q2 (by rw [q0]; decide)
      exact h τ (QM_trans hT q1) ((hc2.2.2 i hi).2.2 h9)
    have l343 := fb_ct_le (nz A) 343
    by_cases hk : k = -1
    · refine ⟨nI (fb_ct (nz A) 343), hXX _ (fun τ q1 q2 q3 => ?_), hMM _ (fun τ q1 q3 => ?_)⟩
      · rw [if_pos hk, X_amount hw.2 (by omega) q3, Option.bind_some]
        exact ok_some ⟨rfl, q1⟩
      · have hl := (M_polyLoop hw.2 (show i < 124 by omega) hc q3 k q).2 (fun m hm _ e => by
          have := fb_ct_le (nz ((Rs w n t o u).2.1 i c)) m
          rw [hk] at e
          exact nI_nm1 (by omega) e.symm)
        rw [hl, Option.bind_some]
        show ok (fX8_poly_L131 k _ τ) _
        unfold fX8_poly_L131 fX8_poly_L142
        rw [if_pos hk, hA]
        exact ok_some ⟨rfl, q1⟩
    · by_cases hex : ∃ p, p < 84 ∧ A (cd p) ≠ 0 ∧ k = nI (fb_ct (nzp A) p)
      · obtain ⟨p, hp84, hap, hkp⟩ := hex
        have hcd := cd_ok p hp84
        refine ⟨pa A (cd p) q, hXX _ (fun τ q1 q2 q3 => ?_), hMM _ (fun τ q1 q3 => ?_)⟩
        · rw [if_neg hk, (X_placeOf hw.2 (by omega) q3 k).1 p hp84 hap hkp, Option.bind_some]
          dsimp only
          rw [if_neg (nI_nm1 (by omega))]
          unfold fX7_poly_L69 fX7_poly_L102
          rcases nm_or 4 (by decide) q with ⟨j, hj, rfl⟩ | ⟨hno, hq⟩
          · rw [if_neg (nI_pos (by omega)), if_pos (show nI j ≤ 3 from nI_le (b := 3) (by omega) (by decide))]
            by_cases c3 : j = 3
            · subst c3
              rw [if_pos (show nI 3 = 3 from rfl)]
              unfold fX5_factorAt
              rw [ix84, chk_in (by omega) (by decide), nI_clamp (by omega), q3.2.1 p hp84, Option.bind_some]
              exact ok_some ⟨rfl, q1⟩
            · rw [if_neg (show ¬ nI j = 3 from fun e => c3 ((nI_eq (b := 3) (by omega) (by decide)).mp e)), X_exponent q2.1.1 hp84 A (by rcases (show j = 0 ∨ j = 1 ∨ j = 2 by omega) with rfl | rfl | rfl; exact Or.inl rfl; exact Or.inr (Or.inl rfl); exact Or.inr (Or.inr rfl)), Option.bind_some]
              exact ok_some ⟨rfl, q1⟩
          · have hpa : pa A (cd p) q = -1 := by
              unfold pa
              rw [if_neg (show ¬ q = 0 from hno 0 (by decide)), if_neg (show ¬ q = 1 from hno 1 (by decide)), if_neg (show ¬ q = 2 from hno 2 (by decide)), if_neg (show ¬ q = 3 from hno 3 (by decide))]
            rw [hpa]
            by_cases c0 : q < 0
            · rw [if_pos c0]; exact ok_some ⟨rfl, q1⟩
            · rw [if_neg c0]
              have hge : nI 4 ≤ q := by rcases hq with z | z; exact absurd z c0; exact z
              rw [if_neg (fun z => (fa_of_lt (Int32.lt_of_lt_of_le (show (3 : Int32) < nI 4 by decide) hge)).2.1 z)]
              exact ok_some ⟨rfl, q1⟩
        · have hl := (M_polyLoop hw.2 (show i < 124 by omega) hc q3 k q).1 (cd p) hcd.1 (by rw [← hA]; exact hap) (by rw [← hA, ct_place okA hp84]; exact hkp)
          rw [hl, Option.bind_some, ← hA]
          exact ok_some ⟨rfl, q1⟩
      · have hno : ∀ p, p < 84 → A (cd p) ≠ 0 → k ≠ nI (fb_ct (nzp A) p) := fun p h1 h2 h3 => hex ⟨p, h1, h2, h3⟩
        refine ⟨-1, hXX _ (fun τ q1 q2 q3 => ?_), hMM _ (fun τ q1 q3 => ?_)⟩
        · rw [if_neg hk, (X_placeOf hw.2 (by omega) q3 k).2 hno, Option.bind_some]
          dsimp only
          rw [if_pos rfl]
          exact ok_some ⟨rfl, q1⟩
        · have hl := (M_polyLoop hw.2 (show i < 124 by omega) hc q3 k q).2 (fun m hm hne e => by
            rw [← hA] at hne e
            obtain ⟨z1, z2⟩ := okA.2 m hne
            obtain ⟨z3, z4⟩ := pl_ok m z1 z2
            refine hno (pl m) z3 (by rw [z4]; exact hne) ?_
            rw [← ct_place okA z3, z4]; exact e)
          rw [hl, Option.bind_some]
          show ok (fX8_poly_L131 k _ τ) _
          unfold fX8_poly_L131 fX8_poly_L142
          rw [if_neg hk]
          exact ok_some ⟨rfl, q1⟩
  · refine ⟨-1, ?_, ?_⟩
    · unfold fX7_poly
      refine ok_bind (ok_mono (X_ref hW hX) ?_)
      rintro τ ⟨q1, q2, -⟩
      rw [X_hasPoly hW q1.2.1.1 q2, bI_f hp, Option.bind_some]
      dsimp only
      rw [if_pos rfl]
      exact ok_some ⟨rfl, q1⟩
    · unfold fX8_poly
      rw [th_def]
      refine ok_bind (ok_mono (M_isPoly hW hT.2.1 a b) ?_)
      rintro ⟨r, τ⟩ ⟨q0, q1, q2⟩
      dsimp only at q0 q1 q2 ⊢
      rw [bI_f hp] at q0
      rw [q0, if_pos rfl]
      exact ok_some ⟨rfl, QM_trans hT q1⟩
theorem P_value {w n : Nat} {t o u : Nat → Nat} {σX σM : Mem} (hW : WF w n t o u) (hX : CX w n t o u σX) (hM : CM w n t o u σM) (a b x y z : Int32) : Same w n t o u σX σM (fX7_value a b x y z σX) (fX8_value a b x y z σM) := by
  have hT := CM_th hM
  have h30 := hX.1.1
  have hw := hX.2.1.1.1
  by_cases hp : ∃ i c, i < n ∧ c < 4 ∧ a = nI i ∧ b = nI c ∧ (Rs w n t o u).1 i ≠ 9
  · obtain ⟨i, c, hi, hc, rfl, rfl, h9⟩ := hp
    have hp : ∃ i' c', i' < n ∧ c' < 4 ∧ nI i = nI i' ∧ nI c = nI c' ∧ (Rs w n t o u).1 i' ≠ 9 := ⟨i, c, hi, hc, rfl, rfl, h9⟩
    refine ⟨nI (ev w (gv w x y z) ((Rs w n t o u).2.1 i c)), ?_, ?_⟩
    · unfold fX7_value
      refine ok_bind (ok_mono (X_ref hW hX) ?_)
      rintro τ ⟨q1, q2, -⟩
      rw [X_hasPoly hW q1.2.1.1 q2, bI_t hp, Option.bind_some]
      dsimp only
      rw [if_neg (by decide), ix4]
      refine ok_bind (ok_mono (X_give2 q2.1.1 x y z) ?_)
      rintro ρ ⟨f1, f2⟩
      obtain ⟨g1, g2⟩ := XC_ctx q1.2.1 q2 (FR_mono f1 (by decide))
      rw [X_worth g2.1.1 f2 (by omega) ((g2.2.2 i hi).2.2 h9 c hc), Option.bind_some]
      exact ok_some ⟨rfl, QX_trans q1 g1⟩
    · unfold fX8_value
      rw [th_def]
      refine ok_bind (ok_mono (M_isPoly hW hT.2.1 (nI i) (nI c)) ?_)
      rintro ⟨r, τ⟩ ⟨q0, q1, q2⟩
      dsimp only at q0 q1 q2 ⊢
      rw [bI_t hp] at q0
      rw [q0, if_neg (by decide)]
      have hc2 := q2 (by rw [q0]; decide)
      refine ok_bind (ok_mono (M_gives hc2.1 x y z) ?_)
      rintro ρ ⟨f1, f2⟩
      obtain ⟨g1, g2⟩ := MC_ctx q1.2.1 hc2 f1
      rw [M_valueOf g2.1 f2 (by omega) hc ((g2.2.2 i hi).2.2 h9), Option.bind_some]
      exact ok_some ⟨rfl, QM_trans hT (QM_trans q1 g1)⟩
  · refine ⟨-1, ?_, ?_⟩
    · unfold fX7_value
      refine ok_bind (ok_mono (X_ref hW hX) ?_)
      rintro τ ⟨q1, q2, -⟩
      rw [X_hasPoly hW q1.2.1.1 q2, bI_f hp, Option.bind_some]
      dsimp only
      rw [if_pos rfl]
      exact ok_some ⟨rfl, q1⟩
    · unfold fX8_value
      rw [th_def]
      refine ok_bind (ok_mono (M_isPoly hW hT.2.1 a b) ?_)
      rintro ⟨r, τ⟩ ⟨q0, q1, q2⟩
      dsimp only at q0 q1 q2 ⊢
      rw [bI_f hp] at q0
      rw [q0, if_pos rfl]
      exact ok_some ⟨rfl, QM_trans hT q1⟩
