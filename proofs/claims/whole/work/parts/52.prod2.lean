theorem okM_of {w : Nat} {a b : Nat → Nat} (ha : OkP w a) (hb : OkP w b) (h : ∀ i, i < sz a → a (cd i) ≠ 0 → ∀ j, j < sz b → b (cd j) ≠ 0 → ex (cd i) + ex (cd j) ≤ 6) : okM a b := by
  intro m n hm hn
  obtain ⟨m1, m2⟩ := ha.2 m hm
  obtain ⟨n1, n2⟩ := hb.2 n hn
  obtain ⟨p1, p2⟩ := pl_ok m m1 m2
  obtain ⟨r1, r2⟩ := pl_ok n n1 n2
  have q1 : pl m < sz a := Nat.lt_of_not_le (fun q => hm (by rw [← p2]; exact sz_beh q p1))
  have q2 : pl n < sz b := Nat.lt_of_not_le (fun q => hn (by rw [← r2]; exact sz_beh q r1))
  have := h (pl m) q1 (by rw [p2]; exact hm) (pl n) q2 (by rw [r2]; exact hn)
  rw [p2, r2] at this
  exact this
theorem X_prodO {w : Nat} {σ : Mem} {q q1 q2 : Nat} {c a b : Nat → Nat} (h : PI w σ) (hq : q < 124) (hq1 : q1 < 125) (hq2 : q2 < 125) (n1 : q1 ≠ q) (n2 : q2 ≠ q) (hc : px w σ q c) (ha : px w σ q1 a) (hb : px w σ q2 b) (t : Int32) :
    ok (loop (fun s => fX5_addProduct_B3 (nI q) (nI q1) (nI q2) t s.1 s.2) (0, σ)) (fun r => (∃ z, gz (mac w c (mI w t) a b) z ∧ r = .inl (psz σ q (mac w c (mI w t) a b) z) ∧ okM a b) ∨ (∃ c' z, gz c' z ∧ r = .inr (0, psz σ q c' z) ∧ ¬ okM a b)) := by
  have hw := h.1.1.2
  have la := sz_le a
  have e0 : cur w c (mI w t) a b 0 0 = c := by
    funext x
    show (c x + mI w t * (0 + 0)) % 2 ^ w = c x
    rw [Nat.zero_add, Nat.mul_zero, Nat.add_zero, Nat.mod_eq_of_lt (hc.1.1 x)]
  have eN : ∀ i, cur w c (mI w t) a b i (sz b) = cur w c (mI w t) a b (i + 1) 0 := by
    intro i
    funext x
    show (c x + mI w t * (cvO a b i x + cvI a b i (sz b) x)) % 2 ^ w = (c x + mI w t * ((cvO a b i x + cvR a b i x) + 0)) % 2 ^ w
    rw [cvI_end hb.1, Nat.add_zero]
  have eE : cur w c (mI w t) a b (sz a) 0 = mac w c (mI w t) a b := by
    funext x
    show (c x + mI w t * (cvO a b (sz a) x + 0)) % 2 ^ w = _
    rw [cvO_end ha.1, Nat.add_zero]; rfl
  have es : (0, σ) = (nI 0, psz σ q (cur w c (mI w t) a b 0 0) (sz c)) := by rw [e0, psz_self hc]; rfl
  rw [es]
  refine ok_for' (enc := fun i z => (nI i, psz σ q (cur w c (mI w t) a b i 0) z)) (sz a) (fun i z => gz (cur w c (mI w t) a b i 0) z ∧ ∀ k, k < i → a (cd k) ≠ 0 → ∀ j, j < sz b → b (cd j) ≠ 0 → ex (cd k) + ex (cd j) ≤ 6) (i0 := 0) (s0 := sz c) (Nat.zero_le _) ⟨by rw [e0]; exact gz_sz c, fun k hk => absurd hk (Nat.not_lt_zero k)⟩ ?_ ?_
  · intro i z hi ⟨hg, hI⟩
    dsimp only
    have hp1 := px_psz_ne (a := cur w c (mI w t) a b i 0) (z := z) ha n1
    have e16 := hp1.2.2
    have e15 := hp1.2.1 i (by omega)
    unfold fX5_addProduct_B3 fX5_addProduct_L155
    simp (disch := omega) only [chk_in, nI_clamp, e16, nI_leI, ix84, e15]
    rw [if_neg (by omega)]
    by_cases c0 : a (cd i) = 0
    · have c0' : nI (a (cd i)) = 0 := by rw [c0]; rfl
      have e : cur w c (mI w t) a b (i + 1) 0 = cur w c (mI w t) a b i 0 := by
        funext x
        show (c x + mI w t * ((cvO a b i x + cvR a b i x) + 0)) % 2 ^ w = (c x + mI w t * (cvO a b i x + 0)) % 2 ^ w
        have : cvR a b i x = 0 := by
          unfold cvR; rw [c0, Nat.zero_mul]; split <;> rfl
        rw [this]
      rw [if_pos c0']
      refine ok_some ⟨z, by rw [e, nI_1], by rw [e]; exact hg, fun k hk => ?_⟩
      rcases Nat.lt_or_ge k i with h1 | h1
      · exact hI k h1
      · have : k = i := by omega
        rw [this]; exact fun q => absurd c0 q
    · have c0' : ¬ nI (a (cd i)) = 0 := by
        have := ha.1.1 (cd i)
        have := pw_le hw
        exact nI_ne0 (by omega) (by omega)
      rw [if_neg c0']
      refine ok_bind (ok_mono (X_prodI (q1 := q1) (a := a) h hq hq2 n2 hb t (i := i) (by omega) hg) ?_)
      rintro r (⟨z', hg', rfl, hj⟩ | ⟨c', z', hg', rfl, j, hj1, hj2⟩)
      · refine ok_some ⟨z', ?_, by rw [← eN]; exact hg', fun k hk => ?_⟩
        · rw [← eN, nI_1]
        · rcases Nat.lt_or_ge k i with h1 | h1
          · exact hI k h1
          · have : k = i := by omega
            rw [this]; exact fun _ => hj
      · exact ok_some (Or.inr ⟨c', z', hg', rfl, fun hM => hj2 (hM _ _ c0 hj1)⟩)
  · intro z ⟨hg, hI⟩
    dsimp only
    have e16 := (px_psz_ne (a := cur w c (mI w t) a b (sz a) 0) (z := z) ha n1).2.2
    unfold fX5_addProduct_B3
    simp (disch := omega) only [chk_in, nI_clamp, e16]
    rw [if_pos (Int32.le_refl _)]
    rw [eE] at hg ⊢
    exact ok_some (Or.inl ⟨z, hg, rfl, okM_of ha.1 hb.1 hI⟩)
theorem X_addProduct {w : Nat} {σ : Mem} {q q1 q2 : Nat} {c a b : Nat → Nat} (h : PI w σ) (hq : q < 124) (hq1 : q1 < 125) (hq2 : q2 < 125) (n1 : q1 ≠ q) (n2 : q2 ≠ q) (hc : px w σ q c) (ha : px w σ q1 a) (hb : px w σ q2 b) (t : Int32) :
    ok (fX5_addProduct (nI q) (nI q1) (nI q2) t σ) (fun o => (okM a b ∧ o = (1, pset σ q (mac w c (mI w t) a b))) ∨ (¬ okM a b ∧ ∃ c' z, gz c' z ∧ o = (0, psz σ q c' z))) := by
  have hw := pw_le h.1.1.2
  unfold fX5_addProduct fX5_addProduct_L161
  refine ok_bind (ok_mono (X_prodO h hq hq1 hq2 n1 n2 hc ha hb t) ?_)
  rintro r (⟨z, hg, rfl, hM⟩ | ⟨c', z, hg, rfl, hM⟩)
  · show ok ((fX5_trim (nI q) _).bind _) _
    rw [X_trim (by omega) hg (fun m => Nat.lt_of_lt_of_le (Nat.mod_lt _ (pw_pos w)) hw)]
    exact ok_some (Or.inl ⟨hM, rfl⟩)
  · exact ok_some (Or.inr ⟨hM, c', z, hg, rfl⟩)
/-- how often: n over k in n over i times n over j, where i + j is 3 at most -/
def cf (i j k : Nat) : Nat := if k = max i j then (if 0 < min i j then max i j else 1) else if k = max i j + 1 ∧ 0 < min i j then max i j + 1 else 0
def mstep (w : Nat) (A B : Nat → Nat → Nat) (i j : Nat) (C : Nat → Nat → Nat) : Nat → Nat → Nat := fun k => mac w (C k) (cf i j k) (A i) (B j)
def mrow (w : Nat) (A B : Nat → Nat → Nat) (i : Nat) : Nat → (Nat → Nat → Nat) → (Nat → Nat → Nat)
  | 0, C => C
  | j + 1, C => mstep w A B i j (mrow w A B i j C)
def mall (w : Nat) (A B : Nat → Nat → Nat) : Nat → (Nat → Nat → Nat)
  | 0 => f0
  | i + 1 => mrow w A B i 4 (mall w A B i)
def okF (A B : Nat → Nat → Nat) : Prop := fdeg A + fdeg B ≤ 3 ∧ ∀ i j, i < 4 → j < 4 → okM (A i) (B j)
def fMul (w : Nat) (A B : Nat → Nat → Nat) : Nat → Nat → Nat := mall w A B 4
theorem OkP_mstep {w : Nat} {A B C : Nat → Nat → Nat} {i j : Nat} (hC : ∀ k, OkP w (C k)) (hM : okM (A i) (B j)) : ∀ k, OkP w (mstep w A B i j C k) := fun k => OkP_mac (hC k) hM _
theorem okM_0 {a b : Nat → Nat} (h : a = (fun _ => 0) ∨ b = fun _ => 0) : okM a b := by
  intro m n hm hn
  rcases h with h | h
  · rw [h] at hm; exact absurd rfl hm
  · rw [h] at hn; exact absurd rfl hn
theorem mstep_0 {w : Nat} {A B C : Nat → Nat → Nat} {i j : Nat} (hC : ∀ k, OkP w (C k)) (h : A i = (fun _ => 0) ∨ B j = fun _ => 0) : mstep w A B i j C = C := by
  funext k
  exact mac_0 (hC k) (Or.inr h)
theorem fdeg_beh {w : Nat} {A : Nat → Nat → Nat} (hA : OkF w A) {c : Nat} (h : fdeg A < c) : A c = fun _ => 0 := by
  by_cases c4 : 4 ≤ c
  · exact hA.2 c c4
  · have key : sz (A c) = 0 := by
      unfold fdeg at h
      rcases (show c = 0 ∨ c = 1 ∨ c = 2 ∨ c = 3 by omega) with rfl | rfl | rfl | rfl
      · omega
      · (repeat' split at h) <;> omega
      · (repeat' split at h) <;> omega
      · (repeat' split at h) <;> omega
    exact (sz_zero (hA.1 c)).mp key
theorem fdeg_le (A : Nat → Nat → Nat) : fdeg A ≤ 3 := by
  unfold fdeg
  (repeat' split) <;> omega
theorem mrow_ok {w : Nat} {A B C : Nat → Nat → Nat} {i : Nat} (hC : ∀ k, OkP w (C k)) (hM : ∀ j, j < 4 → okM (A i) (B j)) : ∀ j, j ≤ 4 → ∀ k, OkP w (mrow w A B i j C k)
  | 0, _ => hC
  | j + 1, h => OkP_mstep (mrow_ok hC hM j (by omega)) (hM j (by omega))
theorem mall_ok {w : Nat} {A B : Nat → Nat → Nat} (hM : ∀ i j, i < 4 → j < 4 → okM (A i) (B j)) : ∀ i, i ≤ 4 → ∀ k, OkP w (mall w A B i k)
  | 0, _ => (OkF_0 w).1
  | i + 1, h => mrow_ok (mall_ok hM i (by omega)) (fun j hj => hM i j (by omega) hj) 4 (Nat.le_refl _)
theorem mrow_end {w : Nat} {A B C : Nat → Nat → Nat} {i : Nat} (hC : ∀ k, OkP w (C k)) (hM : ∀ j, j < 4 → okM (A i) (B j)) {d : Nat} (hB : ∀ j, d ≤ j → j < 4 → (A i = fun _ => 0) ∨ B j = fun _ => 0) : ∀ m, d + m ≤ 4 → mrow w A B i (d + m) C = mrow w A B i d C
  | 0, _ => rfl
  | m + 1, h => by
    show mstep w A B i (d + m) (mrow w A B i (d + m) C) = _
    rw [mstep_0 (mrow_ok hC hM (d + m) (by omega)) (hB (d + m) (by omega) (by omega)), mrow_end hC hM hB m (by omega)]
theorem mall_end {w : Nat} {A B : Nat → Nat → Nat} (hM : ∀ i j, i < 4 → j < 4 → okM (A i) (B j)) {d : Nat} (hA : ∀ i, d ≤ i → i < 4 → A i = fun _ => 0) : ∀ m, d + m ≤ 4 → mall w A B (d + m) = mall w A B d
  | 0, _ => rfl
  | m + 1, h => by
    show mrow w A B (d + m) 4 (mall w A B (d + m)) = _
    have hh := mrow_end (w := w) (A := A) (B := B) (i := d + m) (mall_ok hM (d + m) (by omega)) (fun j hj => hM _ j (by omega) hj) (d := 0) (fun j _ _ => Or.inl (hA (d + m) (by omega) (by omega))) 4 (Nat.le_refl _)
    rw [Nat.zero_add] at hh
    rw [hh]
    exact mall_end hM hA m (by omega)
/-- where i + j is 3 at most, nothing comes behind the fourth poly -/
theorem cf_big {i j k : Nat} (hij : i + j ≤ 3) (hk : 4 ≤ k) : cf i j k = 0 := by
  unfold cf
  rw [if_neg (by omega), if_neg (by omega)]
theorem mstep_beh {w : Nat} {A B C : Nat → Nat → Nat} {i j k : Nat} (hk : 4 ≤ k) (h : i + j ≤ 3 ∨ (A i = fun _ => 0) ∨ B j = fun _ => 0) (hC : C k = fun _ => 0) : mstep w A B i j C k = fun _ => 0 := by
  unfold mstep
  rw [hC]
  rcases h with h | h
  · rw [cf_big h hk]; exact mac_0 (OkP_0 w) (Or.inl rfl)
  · exact mac_0 (OkP_0 w) (Or.inr h)
theorem pair_deg {w : Nat} {A B : Nat → Nat → Nat} (hA : OkF w A) (hB : OkF w B) (hd : fdeg A + fdeg B ≤ 3) (i j : Nat) : i + j ≤ 3 ∨ (A i = fun _ => 0) ∨ B j = fun _ => 0 := by
  by_cases c1 : fdeg A < i
  · exact Or.inr (Or.inl (fdeg_beh hA c1))
  · by_cases c2 : fdeg B < j
    · exact Or.inr (Or.inr (fdeg_beh hB c2))
    · exact Or.inl (by omega)
theorem OkF_mul {w : Nat} {A B : Nat → Nat → Nat} (hA : OkF w A) (hB : OkF w B) (h : okF A B) : OkF w (fMul w A B) := by
  refine ⟨mall_ok h.2 4 (Nat.le_refl _), fun k hk => ?_⟩
  have hr : ∀ (C : Nat → Nat → Nat) (i j : Nat), (C k = fun _ => 0) → mrow w A B i j C k = fun _ => 0 := by
    intro C i j hC
    induction j with
    | zero => exact hC
    | succ j ih => exact mstep_beh hk (pair_deg hA hB h.1 i j) ih
  have ha : ∀ i, mall w A B i k = fun _ => 0 := by
    intro i
    induction i with
    | zero => rfl
    | succ i ih => exact hr _ i 4 ih
  exact ha 4
