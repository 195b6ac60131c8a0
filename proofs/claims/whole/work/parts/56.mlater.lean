/-! the names as numbers; given forms, later forms of the reference -/
/-- the names: sorts t, first parts o, second parts u -/
def WF (w n : Nat) (t o u : Nat → Nat) : Prop := ∀ i, i < n → (t i = 0 ∧ o i < 2 ^ w) ∨ (t i = 1 ∧ o i < 3) ∨ ((t i = 2 ∨ t i = 3 ∨ t i = 4) ∧ o i < i ∧ u i < i) ∨ (t i = 5 ∧ o i < i ∧ u i < n ∧ (t (o i) = 0 ∨ t (o i) = 1))
/-- they stand in the reference -/
def NM (n : Nat) (t o u : Nat → Nat) (σ : Mem) : Prop := n ≤ 30 ∧ σ 0 6 = nI n ∧ ∀ i, i < n → σ 2 i = nI (t i) ∧ σ 3 i = nI (o i) ∧ (2 ≤ t i → σ 4 i = nI (u i))
/-- they stand in the class -/
def NX (n : Nat) (t o u : Nat → Nat) (σ : Mem) : Prop := n ≤ 30 ∧ σ 3 4 = nI n ∧ ∀ i, i < n → σ 8 i = nI (t i) ∧ σ 9 i = nI (o i) ∧ (2 ≤ t i → σ 10 i = nI (u i))
theorem NM_FR {n : Nat} {t o u : Nat → Nat} {S : List Nat} {σ τ : Mem} (h : NM n t o u σ) (hf : FR S σ τ) (h0 : 0 ∉ S) (h2 : 2 ∉ S) (h3 : 3 ∉ S) (h4 : 4 ∉ S) : NM n t o u τ := by
  unfold NM
  rw [hf 0 h0, hf 2 h2, hf 3 h3, hf 4 h4]
  exact h
theorem NX_FR {n : Nat} {t o u : Nat → Nat} {S : List Nat} {σ τ : Mem} (h : NX n t o u σ) (hf : FR S σ τ) (h0 : 3 ∉ S) (h2 : 8 ∉ S) (h3 : 9 ∉ S) (h4 : 10 ∉ S) : NX n t o u τ := by
  unfold NX
  rw [hf 3 h0, hf 8 h2, hf 9 h3, hf 10 h4]
  exact h
theorem WF_t {w n : Nat} {t o u : Nat → Nat} (h : WF w n t o u) {i : Nat} (hi : i < n) : t i ≤ 5 := by
  rcases h i hi with ⟨q, -⟩ | ⟨q, -⟩ | ⟨q | q | q, -⟩ | ⟨q, -⟩ <;> omega
def cin (q : Nat) : Nat := if q = 0 then 1 else if q = 1 then 7 else 49
theorem cin_ok {q : Nat} : cin q < 343 ∧ ex (cin q) ≤ 6 := by
  unfold cin
  split
  · decide
  · split <;> decide
def fGiv (t o : Nat → Nat) (a : Nat) : Nat → Nat → Nat := if t a = 0 then fOne 0 (o a) else fOne (cin (o a)) 1
theorem OkF_giv {w n : Nat} {t o u : Nat → Nat} (h : WF w n t o u) {a : Nat} (ha : a < n) (h01 : t a = 0 ∨ t a = 1) (hw : 4 ≤ w) : OkF w (fGiv t o a) := by
  unfold fGiv
  by_cases c : t a = 0
  · rw [if_pos c]
    refine OkF_one (by decide) (by decide) ?_
    rcases h a ha with ⟨-, q⟩ | ⟨q, -⟩ | ⟨q, -⟩ | ⟨q, -⟩ <;> omega
  · rw [if_neg c]
    exact OkF_one cin_ok.1 cin_ok.2 (Nat.lt_of_lt_of_le (by decide) (Nat.pow_le_pow_right (by decide) hw))
theorem mset_one (σ : Mem) (s : Nat) {m v : Nat} (hm : m < 343) : up2 (mset σ s f0) 1 (1372 * s + m) (nI v) = mset σ s (fOne m v) := by
  funext k j
  by_cases k1 : k = 1
  · subst k1
    by_cases hj : 1372 * s ≤ j ∧ j < 1372 * s + 1372
    · by_cases e : j = 1372 * s + m
      · subst e
        unfold mset
        rw [up2_eq, seg_in _ _ (by omega) (by omega), show 1372 * s + m - 1372 * s = 343 * 0 + m by omega, flt_at _ hm]
        show nI v = nI (one1 m v m)
        unfold one1; rw [if_pos rfl]
      · unfold mset
        rw [up2_col _ _ _ e, seg_in _ _ hj.1 hj.2, seg_in _ _ hj.1 hj.2]
        unfold flt fOne
        by_cases c : (j - 1372 * s) / 343 = 0
        · rw [if_pos c]
          unfold one1
          rw [if_neg (by omega)]; rfl
        · rw [if_neg c]; rfl
    · unfold mset
      rw [up2_col _ _ _ (by omega), seg_out _ _ (by omega), seg_out _ _ (by omega)]
  · rw [up2_row _ _ _ k1]
    unfold mset
    rw [seg_row _ _ _ _ k1, seg_row _ _ _ _ k1]
theorem M_laysGiven {w n : Nat} {t o u : Nat → Nat} {σ : Mem} {s a : Nat} (hW : WF w n t o u) (hN : NM n t o u σ) (hw : w ≤ 16) (hs : s < 124) (ha : a < n) (h01 : t a = 0 ∨ t a = 1) : fX8_laysGiven (nI s) (nI a) σ = some (mset σ s (fGiv t o a)) := by
  have h30 := hN.1
  have hpw := pw_le hw
  have hN2 : NM n t o u (mset σ s f0) := NM_FR hN (FR_mset σ s f0) (by decide) (by decide) (by decide) (by decide)
  obtain ⟨e2, e3, -⟩ := hN2.2.2 a ha
  have ix : ∀ m, 1372 * nI s + nI m = nI (1372 * s + m) := ixF s
  unfold fX8_laysGiven
  rw [M_empties hs, Option.bind_some]
  simp (disch := omega) only [chk_in, nI_clamp, e2, e3]
  unfold fX8_laysGiven_L53 fX8_laysGiven_L79
  simp (disch := omega) only [chk_in, nI_clamp, e2, e3]
  unfold fGiv
  rcases h01 with c | c
  · rw [if_pos c, c, if_pos (show nI 0 = 0 from rfl), if_pos (show nI 0 = 0 from rfl)]
    rw [show (1372 : Int32) * nI s + 0 = nI (1372 * s + 0) from ixF s 0, chk_in (by omega) (by decide), nI_clamp (by omega), mset_one σ s (by decide)]
  · have n0 : ¬ nI (t a) = 0 := by rw [c]; decide
    have t0 : ¬ t a = 0 := by omega
    rw [if_neg t0]
    simp only [if_neg n0]
    have o3 : o a < 3 := by rcases hW a ha with ⟨q, -⟩ | ⟨-, q⟩ | ⟨q, -⟩ | ⟨q, -⟩ <;> omega
    rcases (show o a = 0 ∨ o a = 1 ∨ o a = 2 by omega) with e | e | e
    · rw [e, if_pos (show nI 0 = 0 from rfl), show (1372 : Int32) * nI s + 1 = nI (1372 * s + 1) from ixF s 1, chk_in (by omega) (by decide), nI_clamp (by omega)]
      exact congrArg some (mset_one σ s (m := 1) (v := 1) (by decide))
    · rw [e, if_neg (show ¬ nI 1 = 0 by decide), if_pos (show nI 1 = 1 from rfl), show (1372 : Int32) * nI s + 7 = nI (1372 * s + 7) from ixF s 7, chk_in (by omega) (by decide), nI_clamp (by omega)]
      exact congrArg some (mset_one σ s (m := 7) (v := 1) (by decide))
    · rw [e, if_neg (show ¬ nI 2 = 0 by decide), if_neg (show ¬ nI 2 = 1 by decide), show (1372 : Int32) * nI s + 49 = nI (1372 * s + 49) from ixF s 49, chk_in (by omega) (by decide), nI_clamp (by omega)]
      exact congrArg some (mset_one σ s (m := 49) (v := 1) (by decide))
theorem mI_negN {w : Nat} (h : 4 ≤ w ∧ w ≤ 16) (x : Nat) : mI w (-(nI x)) = ((2 ^ w - 1) * x) % 2 ^ w := by
  have e : -(nI x) = (-1) * nI x := by rw [Int32.neg_mul, Int32.one_mul]
  rw [e, mI_mul h.2, mI_m1 h, mI_nI h.2, Nat.mul_mod_mod]
theorem M_laterI {w : Nat} {σ : Mem} {r s : Nat} {A : Nat → Nat → Nat} (hw : 4 ≤ w ∧ w ≤ 16) (hr : r < 124) (fA : fm w σ r A) {j m : Nat} (hj : j < 4) (hm : m < 343) : ok (loop (fun a => fX8_laysLater_B24 (nI s) (nI r) (nI j) (nI m) a.1 a.2.1 a.2.2) (0, nI j, σ)) (fun b => b.2 = σ ∧ mL w b.1 = fLater w A j m) := by
  refine ok_for' (enc := fun i (v : Int64) => (v, nI i, σ)) 4 (fun i v => (i = j ∧ v = 0) ∨ (j < i ∧ mL w v = lt w A j (i - 1 - j) m)) (i0 := j) (s0 := 0) (by omega) (Or.inl ⟨rfl, rfl⟩) ?_ ?_
  · intro i v hi hI
    dsimp only
    have hij : j ≤ i := by rcases hI with h | h <;> omega
    unfold fX8_laysLater_B24 fX8_laysLater_L87
    have e1 := fm_at fA hi hm
    simp (disch := omega) only [pk_sub, par2, chk_in, nI_clamp, ixG, e1]
    rw [if_neg (n4 hi)]
    by_cases c : (i - j) % 2 = 0
    · rw [if_pos (by rw [c]; rfl), nI_1]
      refine ok_some ⟨_, rfl, Or.inr ⟨by omega, ?_⟩⟩
      rw [mL_add hw.2, mI_64 hw.2, mI_nI hw.2, Nat.add_mod_mod]
      rcases hI with ⟨h1, h2⟩ | ⟨h1, h2⟩
      · subst h1
        have h0 : mL w v = 0 := by rw [h2]; show mL w (lN 0) = 0; rw [mL_lN hw.2, Nat.zero_mod]
        rw [h0, Nat.zero_add, show i + 1 - 1 - i = 0 by omega, Nat.mod_eq_of_lt (fA.1.1 i |>.1 m)]
        rfl
      · obtain ⟨d, rfl⟩ : ∃ d, i = j + (d + 1) := ⟨i - j - 1, by omega⟩
        rw [show j + (d + 1) - 1 - j = d by omega] at h2
        rw [h2, show j + (d + 1) + 1 - 1 - j = d + 1 by omega]
        show _ = (lt w A j d m + sg w (d + 1) * A (j + (d + 1)) m) % 2 ^ w
        unfold sg
        rw [show j + (d + 1) - j = d + 1 by omega] at c
        rw [if_pos c, Nat.one_mul]
    · rw [if_neg (show ¬ nI ((i - j) % 2) = 0 from nI_ne0 (by omega) (by omega)), nI_1]
      refine ok_some ⟨_, rfl, Or.inr ⟨by omega, ?_⟩⟩
      rw [mL_add hw.2, mI_64 hw.2, mI_negN hw, Nat.add_mod_mod]
      rcases hI with ⟨h1, h2⟩ | ⟨h1, h2⟩
      · exfalso; apply c; rw [h1, Nat.sub_self]
      · obtain ⟨d, rfl⟩ : ∃ d, i = j + (d + 1) := ⟨i - j - 1, by omega⟩
        rw [show j + (d + 1) - 1 - j = d by omega] at h2
        rw [h2, show j + (d + 1) + 1 - 1 - j = d + 1 by omega]
        show _ = (lt w A j d m + sg w (d + 1) * A (j + (d + 1)) m) % 2 ^ w
        unfold sg
        rw [show j + (d + 1) - j = d + 1 by omega] at c
        rw [if_neg c]
  · intro v hI
    dsimp only
    unfold fX8_laysLater_B24
    rw [if_pos n4']
    rcases hI with ⟨h1, -⟩ | ⟨h1, h2⟩
    · omega
    · refine ok_some ⟨rfl, ?_⟩
      rw [show 4 - 1 - j = 3 - j by omega] at h2
      exact h2
theorem M_laysLater {w : Nat} {σ : Mem} {r s : Nat} {A : Nat → Nat → Nat} (h : MB w σ) (hr : r < 124) (hs : s < 124) (hn : r ≠ s) (fA : fm w σ r A) : fX8_laysLater (nI s) (nI r) σ = some (mset σ s (fLater w A)) := by
  have hw := h.1
  have key : ok (loop (fun a => fX8_laysLater_B2 (nI s) (nI r) a.1 a.2) (0, σ)) (fun b => b = mset σ s (fLater w A)) := by
    refine ok_for' (enc := fun i (_ : Unit) => (nI i, seg σ 1 (1372 * s) (343 * i) (flt (fLater w A)))) 4 (fun _ _ => True) (i0 := 0) (s0 := ()) (Nat.zero_le _) trivial ?_ ?_ |> fun hh => by rw [seg_0] at hh; exact hh
    · intro j _ hj _
      dsimp only
      unfold fX8_laysLater_B2 fX8_laysLater_L127
      rw [if_neg (n4 hj)]
      have k2 : ok (loop (fun a => fX8_laysLater_B10 (nI s) (nI r) (nI j) a.1 a.2) (0, seg σ 1 (1372 * s) (343 * j) (flt (fLater w A)))) (fun b => b = seg σ 1 (1372 * s) (343 * (j + 1)) (flt (fLater w A))) := by
        refine ok_for' (enc := fun m (_ : Unit) => (nI m, seg σ 1 (1372 * s) (343 * j + m) (flt (fLater w A)))) 343 (fun _ _ => True) (i0 := 0) (s0 := ()) (Nat.zero_le _) trivial ?_ ?_
        · intro m _ hm _
          dsimp only
          unfold fX8_laysLater_B10 fX8_laysLater_L96
          have fr := FR_seg (S := [1]) σ (k := 1) (by decide) (1372 * s) (343 * j + m) (flt (fLater w A))
          have fA' : fm w (seg σ 1 (1372 * s) (343 * j + m) (flt (fLater w A))) r A := ⟨fA.1, fun i hi => by rw [seg_out _ _ (by omega)]; exact fA.2 i hi⟩
          rw [if_neg (n343 hm)]
          obtain ⟨⟨v, τ⟩, hb, h1, h2⟩ := M_laterI (s := s) hw hr fA' hj hm
          dsimp only at h1 h2
          subst h1
          rw [hb, Option.bind_some, cutE hw.2 (MB_FR h fr (by decide)).2, Option.bind_some]
          dsimp only
          rw [ixG, chk_in (by omega) (by decide), nI_clamp (by omega), nI_1, h2]
          refine ok_some ⟨(), ?_, trivial⟩
          have e := seg_succ σ 1 (1372 * s) (343 * j + m) (flt (fLater w A))
          rw [flt_at _ hm, ← Nat.add_assoc] at e
          rw [e, Nat.add_assoc]
        · intro _ _
          dsimp only
          unfold fX8_laysLater_B10
          rw [if_pos n343']
          exact ok_some rfl
      obtain ⟨b, hb, rfl⟩ := k2
      rw [hb, Option.bind_some, nI_1]
      exact ok_some ⟨(), rfl, trivial⟩
    · intro _ _
      dsimp only
      unfold fX8_laysLater_B2
      rw [if_pos n4']
      exact ok_some rfl
  obtain ⟨b, hb, rfl⟩ := key
  unfold fX8_laysLater fX8_laysLater_L133
  rw [hb]; rfl
