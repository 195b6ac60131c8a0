/-! poly, value, told -/
theorem ct_sm (p : Nat → Bool) : ∀ n, fb_ct p n = fb_sm (fun k => if p k = true then 1 else 0) n
  | 0 => rfl
  | n + 1 => by rw [fb_ct_succ, fb_sm_succ, ct_sm p n]
def nz (a : Nat → Nat) : Nat → Bool := fun m => decide (a m ≠ 0)
def nzp (a : Nat → Nat) : Nat → Bool := fun p => decide (a (cd p) ≠ 0)
theorem sm_cdM {g : Nat → Nat} (hg : ∀ m, m < 343 → g m ≠ 0 → ex m ≤ 6) : ∀ M, M ≤ 343 → fb_sm g M = fb_sm (fun p => if cd p < M then g (cd p) else 0) 84 := by
  intro M
  induction M with
  | zero => intro _; rw [sm_0 (f := fun p => if cd p < 0 then g (cd p) else 0) (fun k _ => if_neg (Nat.not_lt_zero _))]; rfl
  | succ M ih =>
    intro hM
    rw [fb_sm_succ, ih (by omega)]
    have e : ∀ p, p < 84 → (if cd p < M + 1 then g (cd p) else 0) = (if cd p < M then g (cd p) else 0) + (if p = pl M ∧ ex M ≤ 6 then g M else 0) := by
      intro p hp
      by_cases c : cd p = M
      · have hx := cd_ok p hp
        rw [c] at hx
        rw [if_pos (by omega), if_neg (by omega), if_pos ⟨hx.2.2.symm, hx.2.1⟩, c, Nat.zero_add]
      · have : ¬ (p = pl M ∧ ex M ≤ 6) := fun q => c (by rw [q.1]; exact (pl_ok M (by omega) q.2).2)
        rw [if_neg this]
        by_cases c2 : cd p < M
        · rw [if_pos c2, if_pos (by omega)]; rfl
        · rw [if_neg c2, if_neg (by omega)]
    rw [fb_sm_cong e, fb_sm_add]
    congr 1
    by_cases c : ex M ≤ 6
    · have : fb_sm (fun p => if p = pl M ∧ ex M ≤ 6 then g M else 0) 84 = fb_sm (fun p => if p = pl M then g M else 0) 84 := fb_sm_cong (fun p _ => by simp [c])
      rw [this, sm_ind, if_pos (pl_ok M (by omega) c).1]
    · rw [sm_0 (fun p _ => if_neg (fun q => c q.2))]
      exact Decidable.byContradiction (fun q => c (hg M (by omega) q))
theorem ct_place {w : Nat} {a : Nat → Nat} (ha : OkP w a) {p0 : Nat} (hp : p0 < 84) : fb_ct (nz a) (cd p0) = fb_ct (nzp a) p0 := by
  have hc := cd_ok p0 hp
  rw [ct_sm, ct_sm, sm_cdM (g := fun m => if nz a m = true then 1 else 0) (fun m hm hne => ?_) (cd p0) (by omega)]
  · have h2 := fb_sm_split (fun p => if cd p < cd p0 then (if nz a (cd p) = true then 1 else 0) else 0) p0 (84 - p0)
    rw [show p0 + (84 - p0) = 84 by omega] at h2
    rw [h2, sm_0 (f := fun k => if cd (p0 + k) < cd p0 then (if nz a (cd (p0 + k)) = true then 1 else 0) else 0) (fun k hk => ?_), Nat.add_zero]
    · refine fb_sm_cong (fun p hp1 => ?_)
      rw [if_pos (cd_lt hp1 hp)]; rfl
    · rw [if_neg]
      intro q
      rcases Nat.eq_zero_or_pos k with e | e
      · rw [e, Nat.add_zero] at q; omega
      · have := cd_lt (show p0 < p0 + k by omega) (by omega); omega
  · have : a m ≠ 0 := fun z => hne (by rw [if_neg]; unfold nz; simp [z])
    exact (ha.2 m this).2
theorem ct_total {w : Nat} {a : Nat → Nat} (ha : OkP w a) : fb_ct (nz a) 343 = fb_ct (nzp a) (sz a) := by
  have hs := sz_le a
  have h1 : fb_ct (nz a) 343 = fb_ct (nzp a) 84 := by
    rw [ct_sm, ct_sm, sm_cd (g := fun m => if nz a m = true then 1 else 0) (fun m hm hne => ?_)]
    · rfl
    · have : a m ≠ 0 := fun z => hne (by rw [if_neg]; unfold nz; simp [z])
      exact (ha.2 m this).2
  have h2 := fb_ct_split (nzp a) (sz a) (84 - sz a)
  rw [show sz a + (84 - sz a) = 84 by omega] at h2
  have h3 : fb_ct (fun k => nzp a (sz a + k)) (84 - sz a) = 0 := fb_ct_zero.mpr (fun k hk => by
    unfold nzp
    rw [sz_beh (a := a) (p := sz a + k) (by omega) (by omega)]; rfl)
  rw [h1, h2, h3, Nat.add_zero]
theorem ct_lt {p : Nat → Bool} {i j : Nat} (h : i < j) (hi : p i = true) : fb_ct p i < fb_ct p j := by
  have h1 := fb_ct_mono p (show i + 1 ≤ j by omega)
  rw [fb_ct_succ, if_pos hi] at h1
  omega
theorem X_amount {w : Nat} {σ : Mem} {q : Nat} {a : Nat → Nat} (hw : w ≤ 16) (hq : q < 125) (ha : px w σ q a) : fX5_amount (nI q) σ = some (nI (fb_ct (nz a) 343), σ) := by
  have la := sz_le a
  have hpw := pw_le hw
  have key : ok (loop (fun s => fX5_amount_B4 (nI q) s.1 s.2.1 s.2.2) (0, 0, σ)) (fun b => b = (nI (fb_ct (nzp a) (sz a)), σ)) := by
    refine ok_for' (enc := fun i (_ : Unit) => (nI (fb_ct (nzp a) i), nI i, σ)) (sz a) (fun _ _ => True) (i0 := 0) (s0 := ()) (Nat.zero_le _) trivial ?_ ?_
    · intro i _ hi _
      dsimp only
      unfold fX5_amount_B4 fX5_amount_L34
      have e15 := ha.2.1 i (by omega)
      have hai := ha.1.1 (cd i)
      simp (disch := omega) only [chk_in, nI_clamp, ha.2.2, nI_leI, ix84, e15]
      rw [if_neg (by omega), fb_ct_succ]
      by_cases c : a (cd i) = 0
      · rw [if_pos (by rw [c]; rfl), nI_1, Int32.add_zero]
        refine ok_some ⟨(), ?_, trivial⟩
        rw [if_neg (show ¬ nzp a i = true by unfold nzp; simp [c])]; rfl
      · rw [if_neg (nI_ne0 (by omega) (by omega)), nI_1, nI_1]
        refine ok_some ⟨(), ?_, trivial⟩
        rw [if_pos (show nzp a i = true by unfold nzp; simp [c])]
    · intro _ _
      dsimp only
      unfold fX5_amount_B4
      simp (disch := omega) only [chk_in, nI_clamp, ha.2.2]
      rw [if_pos (Int32.le_refl _)]
      exact ok_some rfl
  obtain ⟨b, hb, rfl⟩ := key
  unfold fX5_amount fX5_amount_L42
  rw [hb, Option.bind_some, ct_total ha.1]
theorem X_placeOf {w : Nat} {σ : Mem} {q : Nat} {a : Nat → Nat} (hw : w ≤ 16) (hq : q < 125) (ha : px w σ q a) (k : Int32) : (∀ p, p < 84 → a (cd p) ≠ 0 → k = nI (fb_ct (nzp a) p) → fX5_placeOf (nI q) k σ = some (nI p, σ)) ∧ ((∀ p, p < 84 → a (cd p) ≠ 0 → k ≠ nI (fb_ct (nzp a) p)) → fX5_placeOf (nI q) k σ = some (-1, σ)) := by
  have la := sz_le a
  have hpw := pw_le hw
  have hstep : ∀ i, i < sz a → (a (cd i) ≠ 0 → k ≠ nI (fb_ct (nzp a) i)) → fX5_placeOf_B5 (nI q) k (nI (fb_ct (nzp a) i)) (nI i) σ = some (.inl (nI (fb_ct (nzp a) (i + 1)), nI (i + 1), σ)) := by
    intro i hi hne
    unfold fX5_placeOf_B5 fX5_placeOf_L42
    have e15 := ha.2.1 i (by omega)
    have hai := ha.1.1 (cd i)
    simp (disch := omega) only [chk_in, nI_clamp, ha.2.2, nI_leI, ix84, e15]
    rw [if_neg (by omega), fb_ct_succ]
    by_cases c : a (cd i) = 0
    · rw [if_pos (by rw [c]; rfl), nI_1, if_neg (show ¬ nzp a i = true by unfold nzp; simp [c])]; rfl
    · rw [if_neg (nI_ne0 (by omega) (by omega)), if_neg (fun z => hne c z.symm), nI_1, nI_1, if_pos (show nzp a i = true by unfold nzp; simp [c])]
  constructor
  · intro p hp hap hk
    have hps : p < sz a := Nat.lt_of_not_le (fun z => hap (sz_beh z hp))
    have key : ok (loop (fun s => fX5_placeOf_B5 (nI q) k s.1 s.2.1 s.2.2) (0, 0, σ)) (fun b => b = .inr (nI p, σ)) := by
      refine ok_for' (enc := fun i (_ : Unit) => (nI (fb_ct (nzp a) i), nI i, σ)) p (fun _ _ => True) (i0 := 0) (s0 := ()) (Nat.zero_le _) trivial ?_ ?_
      · intro i _ hi _
        dsimp only
        rw [hstep i (by omega) (fun z => ?_)]
        · exact ok_some ⟨(), rfl, trivial⟩
        · rw [hk]
          have hlt := ct_lt (p := nzp a) hi (by unfold nzp; simp [z])
          have := fb_ct_le (nzp a) p
          intro e
          have := (nI_eq (by omega) (by omega)).mp e
          omega
      · intro _ _
        dsimp only
        unfold fX5_placeOf_B5
        have e15 := ha.2.1 p (by omega)
        have hai := ha.1.1 (cd p)
        simp (disch := omega) only [chk_in, nI_clamp, ha.2.2, nI_leI, ix84, e15]
        rw [if_neg (by omega), if_neg (nI_ne0 (by omega) (by omega)), if_pos hk.symm]
        exact ok_some rfl
    obtain ⟨b, hb, rfl⟩ := key
    unfold fX5_placeOf
    rw [hb, Option.bind_some]
    rfl
  · intro hno
    have key : ok (loop (fun s => fX5_placeOf_B5 (nI q) k s.1 s.2.1 s.2.2) (0, 0, σ)) (fun b => b = .inl σ) := by
      refine ok_for' (enc := fun i (_ : Unit) => (nI (fb_ct (nzp a) i), nI i, σ)) (sz a) (fun _ _ => True) (i0 := 0) (s0 := ()) (Nat.zero_le _) trivial ?_ ?_
      · intro i _ hi _
        dsimp only
        rw [hstep i hi (hno i (by omega))]
        exact ok_some ⟨(), rfl, trivial⟩
      · intro _ _
        dsimp only
        unfold fX5_placeOf_B5
        simp (disch := omega) only [chk_in, nI_clamp, ha.2.2]
        rw [if_pos (Int32.le_refl _)]
        exact ok_some rfl
    obtain ⟨b, hb, rfl⟩ := key
    unfold fX5_placeOf fX5_placeOf_L48
    rw [hb, Option.bind_some]
    rfl
/-- what is asked of a monomial -/
def pa (a : Nat → Nat) (m : Nat) (what : Int32) : Int32 := if what = 0 then nI (m % 7) else if what = 1 then nI (m / 7 % 7) else if what = 2 then nI (m / 49) else if what = 3 then nI (a m) else -1
theorem M_polyLoop {w : Nat} {σ : Mem} {s i : Nat} {A : Fo} (hw : w ≤ 16) (hs : s < 124) (hi : i < 4) (fA : fm w σ s A) (k what : Int32) : (∀ m, m < 343 → A i m ≠ 0 → k = nI (fb_ct (nz (A i)) m) → loop (fun x => fX8_poly_B22 (nI s) (nI i) k what x.1 x.2.1 x.2.2) (0, 0, σ) = some (.inr (pa (A i) m what, σ))) ∧ ((∀ m, m < 343 → A i m ≠ 0 → k ≠ nI (fb_ct (nz (A i)) m)) → loop (fun x => fX8_poly_B22 (nI s) (nI i) k what x.1 x.2.1 x.2.2) (0, 0, σ) = some (.inl (nI (fb_ct (nz (A i)) 343), σ))) := by
  have hpw := pw_le hw
  have hstep : ∀ m, m < 343 → (A i m ≠ 0 → k ≠ nI (fb_ct (nz (A i)) m)) → fX8_poly_B22 (nI s) (nI i) k what (nI (fb_ct (nz (A i)) m)) (nI m) σ = some (.inl (nI (fb_ct (nz (A i)) (m + 1)), nI (m + 1), σ)) := by
    intro m hm hne
    unfold fX8_poly_B22 fX8_poly_L125
    have hv := fA.1.1 i |>.1 m
    rw [if_neg (n343 hm), ixG, chk_in (by omega) (by decide), nI_clamp (by omega), fm_at fA hi hm, fb_ct_succ]
    by_cases c : A i m = 0
    · rw [if_pos (by rw [c]; rfl), nI_1, if_neg (show ¬ nz (A i) m = true by unfold nz; simp [c])]; rfl
    · rw [if_neg (nI_ne0 (by omega) (by omega)), if_neg (fun z => hne c z.symm), nI_1, nI_1, if_pos (show nz (A i) m = true by unfold nz; simp [c])]
  constructor
  · intro m hm ham hk
    have key : ok (loop (fun x => fX8_poly_B22 (nI s) (nI i) k what x.1 x.2.1 x.2.2) (0, 0, σ)) (fun b => b = .inr (pa (A i) m what, σ)) := by
      refine ok_for' (enc := fun j (_ : Unit) => (nI (fb_ct (nz (A i)) j), nI j, σ)) m (fun _ _ => True) (i0 := 0) (s0 := ()) (Nat.zero_le _) trivial ?_ ?_
      · intro j _ hj _
        dsimp only
        rw [hstep j (by omega) (fun z => ?_)]
        · exact ok_some ⟨(), rfl, trivial⟩
        · rw [hk]
          have hlt := ct_lt (p := nz (A i)) hj (by unfold nz; simp [z])
          have := fb_ct_le (nz (A i)) m
          intro e
          have := (nI_eq (by omega) (by omega)).mp e
          omega
      · intro _ _
        dsimp only
        have e7 : nI m / 7 = nI (m / 7) := pk_div (d := 7) (by omega) (by decide) (by decide)
        have e49 : nI m / 49 = nI (m / 49) := pk_div (d := 49) (by omega) (by decide) (by decide)
        have r7 : nI m - nI m / 7 * 7 = nI (m % 7) := pk_rem (d := 7) (by omega) (by decide) (by decide)
        have r77 : nI (m / 7) - nI (m / 7) / 7 * 7 = nI (m / 7 % 7) := pk_rem (d := 7) (by omega) (by decide) (by decide)
        have hv := fA.1.1 i |>.1 m
        unfold fX8_poly_B22 fX8_poly_L121
        rw [if_neg (n343 hm), ixG, chk_in (by omega) (by decide), nI_clamp (by omega), fm_at fA hi hm, if_neg (nI_ne0 (by omega) (by omega)), if_pos hk.symm, r7, e7, r77, e49]
        unfold pa
        by_cases c0 : what = 0
        · rw [if_pos c0, if_pos c0]; exact ok_some rfl
        · rw [if_neg c0, if_neg c0]
          by_cases c1 : what = 1
          · rw [if_pos c1, if_pos c1]; exact ok_some rfl
          · rw [if_neg c1, if_neg c1]
            by_cases c2 : what = 2
            · rw [if_pos c2, if_pos c2]; exact ok_some rfl
            · rw [if_neg c2, if_neg c2]
              by_cases c3 : what = 3
              · rw [if_pos c3, if_pos c3]; exact ok_some rfl
              · rw [if_neg c3, if_neg c3]; exact ok_some rfl
    obtain ⟨b, hb, rfl⟩ := key
    exact hb
  · intro hno
    have key : ok (loop (fun x => fX8_poly_B22 (nI s) (nI i) k what x.1 x.2.1 x.2.2) (0, 0, σ)) (fun b => b = .inl (nI (fb_ct (nz (A i)) 343), σ)) := by
      refine ok_for' (enc := fun j (_ : Unit) => (nI (fb_ct (nz (A i)) j), nI j, σ)) 343 (fun _ _ => True) (i0 := 0) (s0 := ()) (Nat.zero_le _) trivial ?_ ?_
      · intro j _ hj _
        dsimp only
        rw [hstep j hj (hno j hj)]
        exact ok_some ⟨(), rfl, trivial⟩
      · intro _ _
        dsimp only
        unfold fX8_poly_B22
        rw [if_pos n343']
        exact ok_some rfl
    obtain ⟨b, hb, rfl⟩ := key
    exact hb
theorem X_hasPoly {w n : Nat} {t o u : Nat → Nat} {σ : Mem} (hW : WF w n t o u) (hN : NX n t o u σ) (hC : XC w n t o u σ) (a b : Int32) : fX7_hasPoly a b σ = some (bI (∃ i c, i < n ∧ c < 4 ∧ a = nI i ∧ b = nI c ∧ (Rs w n t o u).1 i ≠ 9), σ) := by
  have h30 := hN.1
  have hw := hC.1.1.1
  unfold fX7_hasPoly fX7_hasPoly_L35 fX7_hasPoly_L36
  rcases nm_or n h30 a with ⟨i, hi, rfl⟩ | ⟨hna, ha⟩
  · rw [hasX hN hi, Option.bind_some]
    dsimp only
    rw [if_neg (by decide)]
    rcases nm_or 4 (by decide) b with ⟨c, hc, rfl⟩ | ⟨hnb, hb⟩
    · rw [if_neg (nI_pos (by omega)), if_neg (n3 hc), X_isThere (by omega) (hC.2.2 i hi).1 (R_d hW h30 hw.1 hi), Option.bind_some]
      dsimp only
      by_cases c9 : (Rs w n t o u).1 i = 9
      · rw [if_pos c9, if_pos rfl, bI_f]
        · rfl
        · rintro ⟨i', c', h1, h2, h3, h4, h5⟩
          rw [(nI_eq (by omega) (by omega)).mp h3] at c9
          exact h5 c9
      · rw [if_neg c9, if_neg (by decide), bI_t ⟨i, c, hi, hc, rfl, rfl, c9⟩]; rfl
    · have : bI (∃ i' c, i' < n ∧ c < 4 ∧ nI i = nI i' ∧ b = nI c ∧ (Rs w n t o u).1 i' ≠ 9) = 0 := bI_f (fun ⟨_, c, _, hc, _, h4, _⟩ => hnb c hc h4)
      rw [this]
      by_cases c0 : b < 0
      · rw [if_pos c0]; rfl
      · rw [if_neg c0]
        have : (3 : Int32) < b := by
          rcases hb with z | z
          · exact absurd z c0
          · exact Int32.lt_of_lt_of_le (show (3 : Int32) < nI 4 by decide) z
        rw [if_pos this]; rfl
  · have : bI (∃ i' c, i' < n ∧ c < 4 ∧ a = nI i' ∧ b = nI c ∧ (Rs w n t o u).1 i' ≠ 9) = 0 := bI_f (fun ⟨i', _, h1, _, h3, _⟩ => hna i' h1 h3)
    rw [hasXn hN ha, Option.bind_some, this]
    rfl
theorem M_isPoly {w n : Nat} {t o u : Nat → Nat} {σ : Mem} (hW : WF w n t o u) (hM : CM w n t o u σ) (a b : Int32) : ok (fX8_isPoly a b σ) (fun p => p.1 = bI (∃ i c, i < n ∧ c < 4 ∧ a = nI i ∧ b = nI c ∧ (Rs w n t o u).1 i ≠ 9) ∧ QM w n t o u σ p.2 ∧ (p.1 ≠ 0 → MC w n t o u p.2)) := by
  have h30 := hM.1.1
  have hw := hM.2.1.1
  have hrefl : QM w n t o u σ σ := ⟨FR_refl _ _, hM, fun _ _ _ => rfl⟩
  unfold fX8_isPoly fX8_isPoly_L17
  rcases nm_or n h30 a with ⟨i, hi, rfl⟩ | ⟨hna, ha⟩
  · rw [isnM hM.1 hi, Option.bind_some]
    dsimp only
    rw [if_neg (by decide)]
    show ok ((fX8_isIn b 0 (nI 3) σ).bind _) _
    rw [isInM (by decide), Option.bind_some]
    dsimp only
    rcases nm_or 4 (by decide) b with ⟨c, hc, rfl⟩ | ⟨hnb, hb⟩
    · have hin : ¬ (nI c < 0 ∨ nI 3 < nI c) := by
        rintro (z | z)
        · exact nI_pos (by omega) z
        · exact nI_nlt (a := 3) (by omega) (by decide) z
      rw [if_neg hin, if_neg (by decide)]
      refine ok_bind (ok_mono (M_lay hW hM) ?_)
      rintro τ ⟨q1, q2, -⟩
      rw [M_hasForm (by omega) (q2.2.2 i hi).1 (R_d hW h30 hw.1 hi), Option.bind_some]
      dsimp only
      by_cases c9 : (Rs w n t o u).1 i = 9
      · rw [if_pos c9]
        refine ok_some ⟨?_, q1, fun z => absurd rfl z⟩
        rw [bI_f]
        rintro ⟨i', c', h1, h2, h3, h4, h5⟩
        rw [(nI_eq (by omega) (by omega)).mp h3] at c9
        exact h5 c9
      · rw [if_neg c9]
        exact ok_some ⟨by rw [bI_t ⟨i, c, hi, hc, rfl, rfl, c9⟩], q1, fun _ => q2⟩
    · have hb0 : bI (∃ i' c, i' < n ∧ c < 4 ∧ nI i = nI i' ∧ b = nI c ∧ (Rs w n t o u).1 i' ≠ 9) = 0 := bI_f (fun ⟨_, c, _, hc, _, h4, _⟩ => hnb c hc h4)
      have hout : b < 0 ∨ nI 3 < b := by
        rcases hb with z | z
        · exact Or.inl z
        · exact Or.inr (Int32.lt_of_lt_of_le (show nI 3 < nI 4 by decide) z)
      rw [if_pos hout, if_pos rfl, hb0]
      exact ok_some ⟨rfl, hrefl, fun z => absurd rfl z⟩
  · have hb0 : bI (∃ i' c, i' < n ∧ c < 4 ∧ a = nI i' ∧ b = nI c ∧ (Rs w n t o u).1 i' ≠ 9) = 0 := bI_f (fun ⟨i', _, h1, _, h3, _⟩ => hna i' h1 h3)
    rw [isnMn hM.1 ha, Option.bind_some, hb0]
    dsimp only
    rw [if_pos rfl]
    exact ok_some ⟨rfl, hrefl, fun z => absurd rfl z⟩
