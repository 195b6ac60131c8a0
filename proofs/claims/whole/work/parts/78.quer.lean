/-! the calls that ask of cycles and forms -/
def CX (w n : Nat) (t o u : Nat → Nat) (σ : Mem) : Prop := NX n t o u σ ∧ PI w σ ∧ σ 3 0 = nI (2 ^ w - 1) ∧ (σ 0 6 = σ 3 11 → XC w n t o u σ)
def CM (w n : Nat) (t o u : Nat → Nat) (σ : Mem) : Prop := NM n t o u σ ∧ MB w σ ∧ (¬ σ 0 11 = 0 → MC w n t o u σ)
def QX (w n : Nat) (t o u : Nat → Nat) (σ τ : Mem) : Prop := FR [0, 14, 15, 16, 17, 18, 19, 20, 21, 26] σ τ ∧ CX w n t o u τ ∧ (τ 0 6 = σ 0 6 ∨ τ 0 6 = σ 3 11)
def QM (w n : Nat) (t o u : Nat → Nat) (σ τ : Mem) : Prop := FR [0, 1, 5, 6, 7, 8, 9] σ τ ∧ CM w n t o u τ ∧ ∀ j, j ≠ 11 → j ≠ 2 → τ 0 j = σ 0 j
theorem QX_refl {w n : Nat} {t o u : Nat → Nat} {σ : Mem} (h : CX w n t o u σ) : QX w n t o u σ σ := ⟨FR_refl _ _, h, Or.inl rfl⟩
theorem QX_trans {w n : Nat} {t o u : Nat → Nat} {σ τ ρ : Mem} (h : QX w n t o u σ τ) (h2 : QX w n t o u τ ρ) : QX w n t o u σ ρ := by
  refine ⟨FR_trans h.1 h2.1, h2.2.1, ?_⟩
  rcases h2.2.2 with q | q
  · rw [q]; exact h.2.2
  · rw [q, h.1 3 (by decide)]; exact Or.inr rfl
theorem QM_trans {w n : Nat} {t o u : Nat → Nat} {σ τ ρ : Mem} (h : QM w n t o u σ τ) (h2 : QM w n t o u τ ρ) : QM w n t o u σ ρ := ⟨FR_trans h.1 h2.1, h2.2.1, fun j h11 h22 => (h2.2.2 j h11 h22).trans (h.2.2 j h11 h22)⟩
theorem XC_FR {w n : Nat} {t o u : Nat → Nat} {S : List Nat} {σ τ : Mem} (h : XC w n t o u σ) (hf : FR S σ τ) (hS : ∀ x, x ∈ [1, 2, 5, 11, 12, 13, 15, 16, 17, 18, 19, 20] → x ∉ S) : XC w n t o u τ := by
  refine ⟨PI_FR h.1 hf (hS _ (by decide)) (hS _ (by decide)) (hS _ (by decide)) (hS _ (by decide)) (hS _ (by decide)) (hS _ (by decide)) (hS _ (by decide)) (hS _ (by decide)), fun k hk => ?_, fun i hi => ?_⟩
  · rw [hf 18 (hS _ (by decide)), hf 19 (hS _ (by decide))]; exact h.2.1 k hk
  · rw [hf 17 (hS _ (by decide)), hf 20 (hS _ (by decide))]
    exact ⟨(h.2.2 i hi).1, (h.2.2 i hi).2.1, fun q => fx_FR ((h.2.2 i hi).2.2 q) hf (hS _ (by decide)) (hS _ (by decide))⟩
theorem MC_FR {w n : Nat} {t o u : Nat → Nat} {S : List Nat} {σ τ : Mem} (h : MC w n t o u σ) (hf : FR S σ τ) (h01 : τ 0 1 = σ 0 1) (h1 : 1 ∉ S) (h5 : 5 ∉ S) (h6 : 6 ∉ S) (h7 : 7 ∉ S) : MC w n t o u τ := by
  refine ⟨⟨h.1.1, by rw [h01]; exact h.1.2⟩, fun k hk => ?_, fun i hi => ?_⟩
  · rw [hf 5 h5]; exact h.2.1 k hk
  · rw [hf 6 h6, hf 7 h7]
    exact ⟨(h.2.2 i hi).1, (h.2.2 i hi).2.1, fun q => fm_FR ((h.2.2 i hi).2.2 q) hf h1⟩
theorem NM_of {n : Nat} {t o u : Nat → Nat} {S : List Nat} {σ τ : Mem} (h : NM n t o u σ) (hf : FR S σ τ) (h0 : τ 0 6 = σ 0 6) (h2 : 2 ∉ S) (h3 : 3 ∉ S) (h4 : 4 ∉ S) : NM n t o u τ := by
  refine ⟨h.1, by rw [h0]; exact h.2.1, fun i hi => ?_⟩
  rw [hf 2 h2, hf 3 h3, hf 4 h4]
  exact h.2.2 i hi
theorem X_ref {w n : Nat} {t o u : Nat → Nat} {σ : Mem} (hW : WF w n t o u) (h : CX w n t o u σ) : ok (fX0_refresh σ) (fun τ => QX w n t o u σ τ ∧ XC w n t o u τ ∧ τ 0 6 = τ 3 11) := by
  refine ok_mono (X_refresh hW h.1 h.2.1 h.2.2.1 h.2.2.2) ?_
  rintro τ ⟨q1, q2, q3⟩
  refine ⟨⟨FR_mono q2 (by decide), ⟨NX_FR h.1 q2 (by decide) (by decide) (by decide) (by decide), q1.1, by rw [q2 3 (by decide)]; exact h.2.2.1, fun _ => q1⟩, Or.inr q3⟩, q1, by rw [q3, q2 3 (by decide)]⟩
theorem M_lay {w n : Nat} {t o u : Nat → Nat} {σ : Mem} (hW : WF w n t o u) (h : CM w n t o u σ) : ok (fX8_lays σ) (fun τ => QM w n t o u σ τ ∧ MC w n t o u τ ∧ ¬ τ 0 11 = 0) := by
  refine ok_mono (M_lays hW h.1 h.2.1 h.2.2) ?_
  rintro τ ⟨q1, q2, q3, q4⟩
  exact ⟨⟨FR_mono q2 (by decide), ⟨NM_of h.1 q2 (q3 6 (by decide)) (by decide) (by decide) (by decide), q1.1, fun _ => q1⟩, fun j h11 _ => q3 j h11⟩, q1, q4⟩
theorem CM_th {w n : Nat} {t o u : Nat → Nat} {σ : Mem} (h : CM w n t o u σ) : QM w n t o u σ (th σ) := by
  have hf : FR [0] σ (th σ) := FR_up2 _ (by decide) _ _
  have hj : ∀ j, j ≠ 2 → th σ 0 j = σ 0 j := fun j hj => up2_col _ _ _ hj
  refine ⟨FR_mono hf (by decide), ⟨NM_of h.1 hf (hj 6 (by decide)) (by decide) (by decide) (by decide), ⟨h.2.1.1, by rw [hj 1 (by decide)]; exact h.2.1.2⟩, fun q => ?_⟩, fun j _ h2 => hj j h2⟩
  rw [hj 11 (by decide)] at q
  exact MC_FR (h.2.2 q) hf (hj 1 (by decide)) (by decide) (by decide) (by decide) (by decide)
theorem hasX {n : Nat} {t o u : Nat → Nat} {σ : Mem} (hN : NX n t o u σ) {i : Nat} (hi : i < n) : fX3_has (nI i) σ = some (1, σ) := has1 hN.2.1 hN.1 hi
theorem hasXn {n : Nat} {t o u : Nat → Nat} {σ : Mem} (hN : NX n t o u σ) {a : Int32} (h : a < 0 ∨ nI n ≤ a) : fX3_has a σ = some (0, σ) := has0 hN.2.1 h
theorem isnM {n : Nat} {t o u : Nat → Nat} {σ : Mem} (hN : NM n t o u σ) {i : Nat} (hi : i < n) : fX8_isName (nI i) σ = some (1, σ) := isn1 hN.2.1 hN.1 hi
theorem isnMn {n : Nat} {t o u : Nat → Nat} {σ : Mem} (hN : NM n t o u σ) {a : Int32} (h : a < 0 ∨ nI n ≤ a) : fX8_isName a σ = some (0, σ) := isn0 hN.2.1 hN.1 h
theorem isInM {a : Int32} {m : Nat} (hm : m < 2 ^ 31) (σ : Mem) : fX8_isIn a 0 (nI m) σ = some (if a < 0 ∨ nI m < a then 0 else 1, σ) := by
  unfold fX8_isIn fX8_isIn_L14 fX8_isIn_L15
  by_cases c1 : a < 0
  · rw [if_pos c1, if_pos (Or.inl c1)]; rfl
  · rw [if_neg c1]
    by_cases c2 : nI m < a
    · rw [if_pos c2, if_pos (Or.inr c2)]; rfl
    · rw [if_neg c2, if_neg (fun q => by rcases q with q | q; exact c1 q; exact c2 q)]; rfl
/-- both sides answer the same, and what they hold is kept -/
def Same (w n : Nat) (t o u : Nat → Nat) (σX σM : Mem) (fX fM : Option (Int32 × Mem)) : Prop := ∃ r : Int32, ok fX (fun p => p.1 = r ∧ QX w n t o u σX p.2) ∧ ok fM (fun p => p.1 = r ∧ QM w n t o u σM p.2)
theorem P_cycle {w n : Nat} {t o u : Nat → Nat} {σX σM : Mem} (hW : WF w n t o u) (hX : CX w n t o u σX) (hM : CM w n t o u σM) (a : Int32) : Same w n t o u σX σM (fX7_cycle a σX) (fX8_cycle a σM) := by
  have hT := CM_th hM
  have h30 := hX.1.1
  rcases nm_or n h30 a with ⟨i, hi, rfl⟩ | ⟨-, ha⟩
  · refine ⟨cyv (eg t o u) n i, ?_, ?_⟩
    · unfold fX7_cycle
      rw [hasX hX.1 hi, Option.bind_some]
      dsimp only
      rw [if_neg (by decide)]
      refine ok_bind (ok_mono (X_ref hW hX) ?_)
      rintro τ ⟨q1, q2, -⟩
      rw [chk_in (by omega) (by decide), nI_clamp (by omega)]
      exact ok_some ⟨(q2.2.1 i hi).2, q1⟩
    · unfold fX8_cycle
      rw [th_def, isnM hT.2.1.1 hi, Option.bind_some]
      dsimp only
      rw [if_neg (by decide)]
      refine ok_bind (ok_mono (M_laysHangs hW hT.2.1.1) ?_)
      rintro τ ⟨q1, q2⟩
      have hNτ : NM n t o u τ := NM_FR hT.2.1.1 q1 (by decide) (by decide) (by decide) (by decide)
      rw [M_cycleOf hW hNτ q2 hi, Option.bind_some]
      dsimp only
      refine ok_some ⟨rfl, QM_trans hT ⟨FR_mono q1 (by decide), ⟨hNτ, MB_FR hT.2.1.2.1 q1 (by decide), fun q => ?_⟩, fun j _ _ => by show τ 0 j = _; rw [q1 0 (by decide)]⟩⟩
      have q' : ¬ τ 0 11 = 0 := q
      rw [q1 0 (by decide)] at q'
      have hc := hT.2.1.2.2 q'
      refine ⟨MB_FR hc.1 q1 (by decide), q2, fun i hi => ?_⟩
      show τ 6 i = _ ∧ τ 7 i = _ ∧ (_ → fm w τ i _)
      rw [q1 6 (by decide), q1 7 (by decide)]
      exact ⟨(hc.2.2 i hi).1, (hc.2.2 i hi).2.1, fun z => fm_FR ((hc.2.2 i hi).2.2 z) q1 (by decide)⟩
  · refine ⟨-1, ?_, ?_⟩
    · unfold fX7_cycle
      rw [hasXn hX.1 ha, Option.bind_some]
      dsimp only
      rw [if_pos rfl]
      exact ok_some ⟨rfl, QX_refl hX⟩
    · unfold fX8_cycle
      rw [th_def, isnMn hT.2.1.1 ha, Option.bind_some]
      dsimp only
      rw [if_pos rfl]
      exact ok_some ⟨rfl, hT⟩
theorem dlX_inj {a b : Nat} (ha : a = 9 ∨ a ≤ 3) (hb : b = 9 ∨ b ≤ 3) : dlX a = dlX b ↔ a = b := by
  constructor
  · intro h
    by_cases c1 : a = 9
    · by_cases c2 : b = 9
      · omega
      · exfalso
        rw [c1, dlX_9, dlX_n c2] at h
        exact nI_nm1 (n := b) (by omega) h.symm
    · by_cases c2 : b = 9
      · exfalso
        rw [c2, dlX_9, dlX_n c1] at h
        exact nI_nm1 (n := a) (by omega) h
      · rw [dlX_n c1, dlX_n c2] at h
        exact (nI_eq (by omega) (by omega)).mp h
  · intro h; rw [h]
/-- the least name of the same delay and form -/
def LA (R : AS) (i r : Nat) : Prop := r ≤ i ∧ (R.1 r = R.1 i ∧ R.2.1 r = R.2.1 i) ∧ ∀ j, j < r → ¬ (R.1 j = R.1 i ∧ R.2.1 j = R.2.1 i)
theorem LA_ex (R : AS) (i : Nat) : ∃ r, LA R i r := by
  obtain ⟨r, h1, h2⟩ := pk_least (fun k => R.1 k = R.1 i ∧ R.2.1 k = R.2.1 i) ⟨i, rfl, rfl⟩
  refine ⟨r, ?_, h1, h2⟩
  rcases Nat.lt_or_ge i r with h | h
  · exact absurd ⟨rfl, rfl⟩ (h2 i h)
  · exact h
theorem fSh_0 (A : Fo) : fSh A 0 = A := rfl
theorem X_leastAlike {w n : Nat} {t o u : Nat → Nat} {σ : Mem} (hW : WF w n t o u) (hn : n ≤ 30) (hC : XC w n t o u σ) {i r : Nat} (hi : i < n) (h9 : (Rs w n t o u).1 i ≠ 9) (hr : LA (Rs w n t o u) i r) : fX0_leastAlike (nI i) σ = some (nI r, σ) := by
  have hw := hC.1.1.1
  obtain ⟨hri, hr1, hr2⟩ := hr
  have di := R_d hW hn hw.1 hi
  have oi := R_ok hW hn hw.1 hi h9
  have fi := (hC.2.2 i hi).2.2 h9
  have same : ∀ k, k < n → (Rs w n t o u).1 k = (Rs w n t o u).1 i → fX1_isSame (nI k) 0 (nI i) 0 σ = some (bI ((Rs w n t o u).2.1 k = (Rs w n t o u).2.1 i), σ) := by
    intro k hk hd
    have k9 : (Rs w n t o u).1 k ≠ 9 := by rw [hd]; exact h9
    exact X1_isSame (l := 0) (m := 0) hC.1 (by omega) (by omega) (by decide) (by decide) (R_ok hW hn hw.1 hk k9) oi ((hC.2.2 k hk).2.2 k9) fi
  have key : ok (loop (fun a => fX0_leastAlike_B2 (nI i) a.1 a.2) (0, σ)) (fun b => (b = .inl σ ∧ r = i) ∨ b = .inr (nI r, σ)) := by
    refine ok_for' (enc := fun k (_ : Unit) => (nI k, σ)) r (fun _ _ => True) (i0 := 0) (s0 := ()) (Nat.zero_le _) trivial ?_ ?_
    · intro k _ hk _
      dsimp only
      unfold fX0_leastAlike_B2 fX0_leastAlike_L44
      rw [if_neg (nI_ge (by omega) (by omega)), chk_in (by omega) (by decide), chk_in (by omega) (by decide), nI_clamp (by omega), nI_clamp (by omega), (hC.2.2 k (by omega)).1, (hC.2.2 i hi).1, nI_1]
      by_cases c : (Rs w n t o u).1 k = (Rs w n t o u).1 i
      · rw [if_pos (by rw [c]), same k (by omega) c, Option.bind_some]
        dsimp only
        rw [bI_f (fun q => hr2 k hk ⟨c, q⟩), if_pos rfl]
        exact ok_some ⟨(), rfl, trivial⟩
      · rw [if_neg (fun q => c ((dlX_inj (R_d hW hn hw.1 (by omega)) di).mp q))]
        exact ok_some ⟨(), rfl, trivial⟩
    · intro _ _
      dsimp only
      unfold fX0_leastAlike_B2
      by_cases e : r = i
      · rw [if_pos (by rw [e]; exact Int32.le_refl _)]
        exact ok_some (Or.inl ⟨rfl, e⟩)
      · rw [if_neg (nI_ge (by omega) (by omega)), chk_in (by omega) (by decide), chk_in (by omega) (by decide), nI_clamp (by omega), nI_clamp (by omega), (hC.2.2 r (by omega)).1, (hC.2.2 i hi).1, if_pos (by rw [hr1.1]), same r (by omega) hr1.1, Option.bind_some]
        dsimp only
        rw [bI_t hr1.2, if_neg (by decide)]
        exact ok_some (Or.inr rfl)
  unfold fX0_leastAlike fX0_leastAlike_L50
  obtain ⟨b, hb, ⟨rfl, e⟩ | rfl⟩ := key
  · rw [hb, Option.bind_some, e]; rfl
  · rw [hb, Option.bind_some]; rfl
theorem M_leastAlike {w n : Nat} {t o u : Nat → Nat} {σ : Mem} (hW : WF w n t o u) (hn : n ≤ 30) (hC : MC w n t o u σ) {i r : Nat} (hi : i < n) (h9 : (Rs w n t o u).1 i ≠ 9) (hr : LA (Rs w n t o u) i r) : loop (fun a => fX8_form_B105 (nI i) a.1 a.2) (0, σ) = some (nI r, σ) := by
  have hw := hC.1.1
  obtain ⟨hri, hr1, hr2⟩ := hr
  have di := R_d hW hn hw.1 hi
  have fi := (hC.2.2 i hi).2.2 h9
  have same : ∀ k, k < n → (Rs w n t o u).1 k = (Rs w n t o u).1 i → fX8_areAlike (nI k) (nI i) σ = some (bI ((Rs w n t o u).2.1 k = (Rs w n t o u).2.1 i), σ) := by
    intro k hk hd
    have k9 : (Rs w n t o u).1 k ≠ 9 := by rw [hd]; exact h9
    exact M_areAlike hw.2 (by omega) (by omega) ((hC.2.2 k hk).2.2 k9) fi
  have key : ok (loop (fun a => fX8_form_B105 (nI i) a.1 a.2) (0, σ)) (fun b => b = (nI r, σ)) := by
    refine ok_for' (enc := fun k (_ : Unit) => (nI k, σ)) r (fun _ _ => True) (i0 := 0) (s0 := ()) (Nat.zero_le _) trivial ?_ ?_
    · intro k _ hk _
      dsimp only
      unfold fX8_form_B105 fX8_form_L129
      have dk := R_d hW hn hw.1 (show k < n by omega)
      rw [chk_in (by omega) (by decide), chk_in (by omega) (by decide), nI_clamp (by omega), nI_clamp (by omega), (hC.2.2 k (by omega)).1, (hC.2.2 i hi).1, nI_1]
      by_cases c : (Rs w n t o u).1 k = (Rs w n t o u).1 i
      · rw [if_pos (by rw [c]), same k (by omega) c, Option.bind_some]
        dsimp only
        rw [bI_f (fun q => hr2 k hk ⟨c, q⟩), if_pos rfl]
        exact ok_some ⟨(), rfl, trivial⟩
      · rw [if_neg (fun q => c ((nI_eq (by omega) (by omega)).mp q))]
        exact ok_some ⟨(), rfl, trivial⟩
    · intro _ _
      dsimp only
      unfold fX8_form_B105
      rw [chk_in (by omega) (by decide), chk_in (by omega) (by decide), nI_clamp (by omega), nI_clamp (by omega), (hC.2.2 r (by omega)).1, (hC.2.2 i hi).1, if_pos (by rw [hr1.1]), same r (by omega) hr1.1, Option.bind_some]
      dsimp only
      rw [bI_t hr1.2, if_neg (by decide)]
      exact ok_some rfl
  obtain ⟨b, hb, rfl⟩ := key
  exact hb
theorem ct_cy {w n : Nat} {t o u : Nat → Nat} (hW : WF w n t o u) (hn : n ≤ 30) {i : Nat} (hi : i < n) : fb_ct (bt (cyv (eg t o u) n i)) 32 = fb_ct (bt (cyv (eg t o u) n i)) 30 ∧ 0 < fb_ct (bt (cyv (eg t o u) n i)) 30 := by
  have hE := eg_E hW
  refine ⟨ct_32 (fun j h1 h2 => ?_), fb_ct_pos.mpr ⟨i, by omega, ?_⟩⟩
  · rw [bt_cyv hn hE hi h2]
    cases q : Cy (eg t o u) n i j
    · rfl
    · have := Cy_lt hE hi q; omega
  · rw [bt_cyv hn hE hi (by omega)]; exact Cy_iff.mpr (Or.inl rfl)
theorem P_form {w n : Nat} {t o u : Nat → Nat} {σX σM : Mem} (hW : WF w n t o u) (hX : CX w n t o u σX) (hM : CM w n t o u σM) (a b : Int32) : Same w n t o u σX σM (fX7_form a b σX) (fX8_form a b σM) := by
  have hT := CM_th hM
  have h30 := hX.1.1
  have hw := hX.2.1.1.1
  rcases nm_or n h30 a with ⟨i, hi, rfl⟩ | ⟨-, ha⟩
  · have di := R_d hW h30 hw.1 hi
    have hE := eg_E hW
    have k4 := K_le (w := w) hW h30 hi
    obtain ⟨q, hLA⟩ := LA_ex (Rs w n t o u) i
    have hqi := hLA.1
    -- the class, refreshed
    have hXX : ∀ P : Int32 × Mem → Prop, (∀ τ, QX w n t o u σX τ → XC w n t o u τ → ok (if b = 0 then chk (inb (nI i) 30) (some (τ 20 (nI i).toNatClampNeg, τ)) else if b = 1 then (if (if (Rs w n t o u).1 i = 9 then (0 : Int32) else 1) = 0 then fX7_form_L91 (-2) τ else (fX1_degree (nI i) τ).bind fun o4 => fX7_form_L91 o4.1 o4.2) else if b = 2 then (if (if (Rs w n t o u).1 i = 9 then (0 : Int32) else 1) = 0 then fX7_form_L110 (-2) τ else chk (inb (nI i) 31) (fX7_form_L110 (τ 17 (nI i).toNatClampNeg) τ)) else if b = 3 then chk (inb (nI i) 30) (if τ 20 (nI i).toNatClampNeg = 3 then chk (inb (nI i) 30) ((fJ6_bitCount_0f7a4 (τ 19 (nI i).toNatClampNeg) τ).bind fun o5 => fX7_form_L141 o5.1 o5.2) else fX7_form_L141 (-2) τ) else if b = 4 then (if (if (Rs w n t o u).1 i = 9 then (0 : Int32) else 1) = 0 then fX7_form_L159 (-2) τ else (fX0_leastAlike (nI i) τ).bind fun o6 => fX7_form_L159 o6.1 o6.2) else some ((-1), τ)) P) → ok (fX7_form (nI i) b σX) P := by
      intro P h
      unfold fX7_form
      rw [hasX hX.1 hi, Option.bind_some]
      dsimp only
      rw [if_neg (by decide)]
      refine ok_bind (ok_mono (X_ref hW hX) ?_)
      rintro τ ⟨q1, q2, -⟩
      rw [X_isThere (by omega) (q2.2.2 i hi).1 di, Option.bind_some]
      exact h τ q1 q2
    -- the reference, laid
    have hMM : ∀ P : Int32 × Mem → Prop, ¬ (b < 0 ∨ nI 4 < b) → (∀ τ, QM w n t o u σM τ → MC w n t o u τ → ok (if b = 0 then chk (inb (nI i) 30) (some (τ 7 (nI i).toNatClampNeg, τ)) else if b = 3 then chk (inb (nI i) 30) (if τ 7 (nI i).toNatClampNeg = 3 then (fX8_cycleOf (nI i) τ).bind (fun o8 => (fX8_bits o8.1 o8.2).bind fun o9 => fX8_form_L68 o9.1 o9.2) else fX8_form_L68 (-2) τ) else (fX8_hasForm (nI i) τ).bind fun o4 => if o4.1 = 0 then some ((-2), o4.2) else if b = 1 then (fX8_degreeOf (nI i) o4.2).bind (fun o7 => some (o7.1, o7.2)) else if b = 2 then chk (inb (nI i) 30) (some (o4.2 6 (nI i).toNatClampNeg, o4.2)) else (loop (fun a => fX8_form_B105 (nI i) a.1 a.2) (0, o4.2)).bind fun b6 => fX8_form_L135 b6.1 b6.2) P) → ok (fX8_form (nI i) b σM) P := by
      intro P hb h
      unfold fX8_form
      rw [th_def, isnM hT.2.1.1 hi, Option.bind_some]
      dsimp only
      rw [if_neg (by decide)]
      show ok ((fX8_isIn b 0 (nI 4) (th σM)).bind _) P
      rw [isInM (by decide), if_neg hb, Option.bind_some]
      dsimp only
      rw [if_neg (by decide)]
      refine ok_bind (ok_mono (M_lay hW hT.2.1) ?_)
      rintro τ ⟨q1, q2, -⟩
      exact h τ (QM_trans hT q1) q2
    rcases nm_or 5 (by decide) b with ⟨j, hj, rfl⟩ | ⟨hno, hb⟩
    · have hb : ¬ (nI j < 0 ∨ nI 4 < nI j) := by
        rintro (z | z)
        · exact nI_pos (by omega) z
        · exact nI_nlt (a := 4) (by omega) (by decide) z
      rcases (show j = 0 ∨ j = 1 ∨ j = 2 ∨ j = 3 ∨ j = 4 by omega) with rfl | rfl | rfl | rfl | rfl
      · refine ⟨nI ((Rs w n t o u).2.2 i), hXX _ (fun τ q1 q2 => ?_), hMM _ hb (fun τ q1 q2 => ?_)⟩
        · rw [if_pos (show nI 0 = 0 from rfl), chk_in (by omega) (by decide), nI_clamp (by omega)]
          exact ok_some ⟨(q2.2.2 i hi).2.1, q1⟩
        · rw [if_pos (show nI 0 = 0 from rfl), chk_in (by omega) (by decide), nI_clamp (by omega)]
          exact ok_some ⟨(q2.2.2 i hi).2.1, q1⟩
      · refine ⟨if (Rs w n t o u).1 i = 9 then -2 else nI (fdeg ((Rs w n t o u).2.1 i)), hXX _ (fun τ q1 q2 => ?_), hMM _ hb (fun τ q1 q2 => ?_)⟩
        · rw [if_neg (by decide), if_pos (show nI 1 = 1 from rfl)]
          unfold fX7_form_L91
          by_cases c9 : (Rs w n t o u).1 i = 9
          · rw [if_pos c9, if_pos rfl, if_pos c9]; exact ok_some ⟨rfl, q1⟩
          · rw [if_neg c9, if_neg (by decide), if_neg c9, X1_degree (by omega) ((q2.2.2 i hi).2.2 c9), Option.bind_some]; exact ok_some ⟨rfl, q1⟩
        · rw [if_neg (by decide), if_neg (by decide), M_hasForm (by omega) (q2.2.2 i hi).1 di, Option.bind_some]
          dsimp only
          by_cases c9 : (Rs w n t o u).1 i = 9
          · rw [if_pos c9, if_pos rfl, if_pos c9]; exact ok_some ⟨rfl, q1⟩
          · rw [if_neg c9, if_neg (by decide), if_neg c9, if_pos (show nI 1 = 1 from rfl), M_degreeOf hw.2 (by omega) ((q2.2.2 i hi).2.2 c9), Option.bind_some]; exact ok_some ⟨rfl, q1⟩
      · refine ⟨if (Rs w n t o u).1 i = 9 then -2 else nI ((Rs w n t o u).1 i), hXX _ (fun τ q1 q2 => ?_), hMM _ hb (fun τ q1 q2 => ?_)⟩
        · rw [if_neg (by decide), if_neg (by decide), if_pos (show nI 2 = 2 from rfl)]
          unfold fX7_form_L110
          by_cases c9 : (Rs w n t o u).1 i = 9
          · rw [if_pos c9, if_pos rfl, if_pos c9]; exact ok_some ⟨rfl, q1⟩
          · rw [if_neg c9, if_neg (by decide), if_neg c9, chk_in (by omega) (by decide), nI_clamp (by omega), (q2.2.2 i hi).1, dlX_n c9]; exact ok_some ⟨rfl, q1⟩
        · rw [if_neg (by decide), if_neg (by decide), M_hasForm (by omega) (q2.2.2 i hi).1 di, Option.bind_some]
          dsimp only
          by_cases c9 : (Rs w n t o u).1 i = 9
          · rw [if_pos c9, if_pos rfl, if_pos c9]; exact ok_some ⟨rfl, q1⟩
          · rw [if_neg c9, if_neg (by decide), if_neg c9, if_neg (by decide), if_pos (show nI 2 = 2 from rfl), chk_in (by omega) (by decide), nI_clamp (by omega)]; exact ok_some ⟨(q2.2.2 i hi).1, q1⟩
      · obtain ⟨b1, b2⟩ := ct_cy hW h30 hi
        refine ⟨if (Rs w n t o u).2.2 i = 3 then nI (fb_ct (bt (cyv (eg t o u) n i)) 30) else -2, hXX _ (fun τ q1 q2 => ?_), hMM _ hb (fun τ q1 q2 => ?_)⟩
        · rw [if_neg (by decide), if_neg (by decide), if_neg (by decide), if_pos (show nI 3 = 3 from rfl), chk_in (by omega) (by decide), nI_clamp (by omega), (q2.2.2 i hi).2.1]
          unfold fX7_form_L141
          by_cases c3 : (Rs w n t o u).2.2 i = 3
          · rw [if_pos (by rw [c3]; rfl), if_pos c3, chk_in (by omega) (by decide), (q2.2.1 i hi).2, J_bitCount, Option.bind_some, b1]
            exact ok_some ⟨rfl, q1⟩
          · rw [if_neg (show ¬ nI _ = 3 from fun z => c3 ((nI_eq (b := 3) (by omega) (by decide)).mp z)), if_neg c3]
            exact ok_some ⟨rfl, q1⟩
        · rw [if_neg (by decide), if_pos (show nI 3 = 3 from rfl), chk_in (by omega) (by decide), nI_clamp (by omega), (q2.2.2 i hi).2.1]
          unfold fX8_form_L68
          by_cases c3 : (Rs w n t o u).2.2 i = 3
          · rw [if_pos (by rw [c3]; rfl), if_pos c3, M_cycleOf hW q1.2.1.1 q2.2.1 hi, Option.bind_some]
            dsimp only
            rw [M_bits, Option.bind_some]
            exact ok_some ⟨rfl, q1⟩
          · rw [if_neg (show ¬ nI _ = 3 from fun z => c3 ((nI_eq (b := 3) (by omega) (by decide)).mp z)), if_neg c3]
            exact ok_some ⟨rfl, q1⟩
      · refine ⟨if (Rs w n t o u).1 i = 9 then -2 else nI q, hXX _ (fun τ q1 q2 => ?_), hMM _ hb (fun τ q1 q2 => ?_)⟩
        · rw [if_neg (by decide), if_neg (by decide), if_neg (by decide), if_neg (by decide), if_pos (show nI 4 = 4 from rfl)]
          unfold fX7_form_L159
          by_cases c9 : (Rs w n t o u).1 i = 9
          · rw [if_pos c9, if_pos rfl, if_pos c9]; exact ok_some ⟨rfl, q1⟩
          · rw [if_neg c9, if_neg (by decide), if_neg c9, X_leastAlike hW h30 q2 hi c9 hLA, Option.bind_some]; exact ok_some ⟨rfl, q1⟩
        · rw [if_neg (by decide), if_neg (by decide), M_hasForm (by omega) (q2.2.2 i hi).1 di, Option.bind_some]
          dsimp only
          by_cases c9 : (Rs w n t o u).1 i = 9
          · rw [if_pos c9, if_pos rfl, if_pos c9]; exact ok_some ⟨rfl, q1⟩
          · rw [if_neg c9, if_neg (by decide), if_neg c9, if_neg (by decide), if_neg (by decide), M_leastAlike hW h30 q2 hi c9 hLA, Option.bind_some]
            exact ok_some ⟨rfl, q1⟩
    · refine ⟨-1, hXX _ (fun τ q1 q2 => ?_), ?_⟩
      · rw [if_neg (show ¬ b = 0 from hno 0 (by decide)), if_neg (show ¬ b = 1 from hno 1 (by decide)), if_neg (show ¬ b = 2 from hno 2 (by decide)), if_neg (show ¬ b = 3 from hno 3 (by decide)), if_neg (show ¬ b = 4 from hno 4 (by decide))]
        exact ok_some ⟨rfl, q1⟩
      · unfold fX8_form fX8_form_L22
        rw [th_def, isnM hT.2.1.1 hi, Option.bind_some]
        dsimp only
        rw [if_neg (by decide)]
        show ok ((fX8_isIn b 0 (nI 4) (th σM)).bind _) _
        have hout : b < 0 ∨ nI 4 < b := by
          rcases hb with z | z
          · exact Or.inl z
          · exact Or.inr (Int32.lt_of_lt_of_le (show nI 4 < nI 5 by decide) z)
        rw [isInM (by decide), if_pos hout, Option.bind_some]
        dsimp only
        rw [if_pos rfl]
        exact ok_some ⟨rfl, hT⟩
  · refine ⟨-1, ?_, ?_⟩
    · unfold fX7_form
      rw [hasXn hX.1 ha, Option.bind_some]
      dsimp only
      rw [if_pos rfl]
      exact ok_some ⟨rfl, QX_refl hX⟩
    · unfold fX8_form fX8_form_L22
      rw [th_def, isnMn hT.2.1.1 ha, Option.bind_some]
      dsimp only
      rw [if_pos rfl]
      exact ok_some ⟨rfl, hT⟩
