/-! products of polys, the class's side -/
theorem sm_0 {f : Nat → Nat} : ∀ {n : Nat}, (∀ k, k < n → f k = 0) → fb_sm f n = 0
  | 0, _ => rfl
  | n + 1, h => by rw [fb_sm_succ, sm_0 (fun k hk => h k (by omega)), h n (by omega)]
theorem sm_ind (v p0 : Nat) : ∀ n, fb_sm (fun p => if p = p0 then v else 0) n = if p0 < n then v else 0
  | 0 => by rw [if_neg (Nat.not_lt_zero _)]; rfl
  | n + 1 => by
    rw [fb_sm_succ, sm_ind v p0 n]
    (repeat' split) <;> omega
theorem sm_cd {g : Nat → Nat} (hg : ∀ m, m < 343 → g m ≠ 0 → ex m ≤ 6) : fb_sm g 343 = fb_sm (fun p => g (cd p)) 84 := by
  have key : ∀ M, M ≤ 343 → fb_sm g M = fb_sm (fun p => if cd p < M then g (cd p) else 0) 84 := by
    intro M
    induction M with
    | zero => intro _; rw [sm_0 (f := fun p => if cd p < 0 then g (cd p) else 0) (fun k _ => if_neg (Nat.not_lt_zero _))]; rfl
    | succ M ih =>
      intro hM
      rw [fb_sm_succ, ih (by omega)]
      have e : ∀ p, p < 84 → (if cd p < M + 1 then g (cd p) else 0) = (if cd p < M then g (cd p) else 0) + (if p = pl M ∧ ex M ≤ 6 then g M else 0) := by
        intro p hp
        by_cases c : cd p = M
        · have hx := cd_ok p hp
          rw [c] at hx
          rw [if_pos (by omega), if_neg (by omega), if_pos ⟨hx.2.2.symm, hx.2.1⟩, c, Nat.zero_add]
        · have : ¬ (p = pl M ∧ ex M ≤ 6) := fun q => c (by rw [q.1]; exact (pl_ok M (by omega) q.2).2)
          rw [if_neg this]
          by_cases c2 : cd p < M
          · rw [if_pos c2, if_pos (by omega)]; rfl
          · rw [if_neg c2, if_neg (by omega)]
      rw [fb_sm_cong e, fb_sm_add]
      congr 1
      by_cases c : ex M ≤ 6
      · have : fb_sm (fun p => if p = pl M ∧ ex M ≤ 6 then g M else 0) 84 = fb_sm (fun p => if p = pl M then g M else 0) 84 := fb_sm_cong (fun p _ => by simp [c])
        rw [this, sm_ind, if_pos (pl_ok M (by omega) c).1]
      · rw [sm_0 (fun p _ => if_neg (fun q => c q.2))]
        exact Decidable.byContradiction (fun q => c (hg M (by omega) q))
  rw [key 343 (Nat.le_refl _)]
  exact fb_sm_cong (fun p hp => if_pos (cd_ok p hp).1)
theorem ex_dec (m : Nat) : ∃ e f g, e < 7 ∧ f < 7 ∧ m = 49 * g + 7 * f + e ∧ ex m = e + f + g := by
  refine ⟨m % 7, m / 7 % 7, m / 49, Nat.mod_lt _ (by decide), Nat.mod_lt _ (by decide), ?_, rfl⟩
  have h1 := Nat.div_add_mod m 7
  have h2 := Nat.div_add_mod (m / 7) 7
  have h3 : m / 7 / 7 = m / 49 := Nat.div_div_eq_div_mul m 7 7
  rw [h3] at h2
  generalize m / 49 = g at *
  generalize m / 7 % 7 = f at *
  generalize m / 7 = x at *
  generalize m % 7 = e at *
  omega
theorem ex_com {e f g : Nat} (he : e < 7) (hf : f < 7) : ex (49 * g + 7 * f + e) = e + f + g := by
  have h1 : (49 * g + 7 * f + e) % 7 = e := by omega
  have h2 : (49 * g + 7 * f + e) / 7 = 7 * g + f := by omega
  have h3 : (7 * g + f) % 7 = f := by omega
  have h4 : (49 * g + 7 * f + e) / 49 = g := by omega
  unfold ex
  rw [h1, h2, h3, h4]
theorem ex_add {m n : Nat} (h : ex m + ex n ≤ 6) : ex (m + n) = ex m + ex n ∧ m + n < 343 := by
  obtain ⟨e, f, g, he, hf, rfl, h1⟩ := ex_dec m
  obtain ⟨e', f', g', he', hf', rfl, h2⟩ := ex_dec n
  rw [h1, h2] at h ⊢
  have h3 : 49 * g + 7 * f + e + (49 * g' + 7 * f' + e') = 49 * (g + g') + 7 * (f + f') + (e + e') := by omega
  rw [h3, ex_com (by omega) (by omega)]
  omega
def conv (a b : Nat → Nat) (x : Nat) : Nat := fb_sm (fun m => if m ≤ x then a m * b (x - m) else 0) 343
def okM (a b : Nat → Nat) : Prop := ∀ m n, a m ≠ 0 → b n ≠ 0 → ex m + ex n ≤ 6
def mac (w : Nat) (c : Nat → Nat) (t : Nat) (a b : Nat → Nat) : Nat → Nat := fun x => (c x + t * conv a b x) % 2 ^ w
theorem conv_ne {a b : Nat → Nat} (h : okM a b) {x : Nat} (hx : conv a b x ≠ 0) : x < 343 ∧ ex x ≤ 6 := by
  have : ∃ m, m ≤ x ∧ a m ≠ 0 ∧ b (x - m) ≠ 0 := Classical.byContradiction (fun q => hx (sm_0 (fun m _ => by
    by_cases c : m ≤ x
    · rw [if_pos c]
      by_cases c1 : a m = 0
      · rw [c1, Nat.zero_mul]
      · by_cases c2 : b (x - m) = 0
        · rw [c2, Nat.mul_zero]
        · exact absurd ⟨m, c, c1, c2⟩ q
    · rw [if_neg c])))
  obtain ⟨m, h1, h2, h3⟩ := this
  have h4 := h m (x - m) h2 h3
  have h5 := ex_add h4
  rw [show m + (x - m) = x by omega] at h5
  omega
theorem OkP_mac {w : Nat} {a b c : Nat → Nat} (hc : OkP w c) (h : okM a b) (t : Nat) : OkP w (mac w c t a b) := by
  refine ⟨fun x => Nat.mod_lt _ (pw_pos w), fun x hx => ?_⟩
  by_cases c1 : c x = 0
  · by_cases c2 : conv a b x = 0
    · exfalso; apply hx; unfold mac; rw [c1, c2, Nat.mul_zero, Nat.zero_add, Nat.zero_mod]
    · exact conv_ne h c2
  · exact hc.2 x c1
theorem conv_0 {a b : Nat → Nat} (h : a = (fun _ => 0) ∨ b = fun _ => 0) (x : Nat) : conv a b x = 0 := by
  refine sm_0 (fun m _ => ?_)
  rcases h with h | h
  · subst h; split
    · exact Nat.zero_mul _
    · rfl
  · subst h; split
    · exact Nat.mul_zero _
    · rfl
theorem mac_0 {w : Nat} {a b c : Nat → Nat} (hc : OkP w c) {t : Nat} (h : t = 0 ∨ a = (fun _ => 0) ∨ b = fun _ => 0) : mac w c t a b = c := by
  funext x
  unfold mac
  have : t * conv a b x = 0 := by
    rcases h with h | h
    · rw [h, Nat.zero_mul]
    · rw [conv_0 h, Nat.mul_zero]
  rw [this, Nat.add_zero, Nat.mod_eq_of_lt (hc.1 x)]
theorem mac_val {w : Nat} (hw : w ≤ 16) (x y z : Nat) (t : Int32) : (nI x + (t * nI y) * nI z) &&& nI (2 ^ w - 1) = nI ((x + mI w t * (y * z)) % 2 ^ w) := by
  rw [i_mask, mI_add hw, mI_mul hw, mI_mul hw, mI_nI hw, mI_nI hw, mI_nI hw]
  congr 1
  simp only [Nat.add_mod_mod, Nat.mod_add_mod, Nat.mul_mod_mod, Nat.mod_mul_mod, Nat.mul_assoc]
theorem X_plprod {w : Nat} {σ : Mem} {i j : Nat} (h : CT w σ) (hi : i < 84) (hj : j < 84) : fX2_placeOfProduct (nI i) (nI j) σ = some (if ex (cd i) + ex (cd j) ≤ 6 then nI (pl (cd i + cd j)) else -1, σ) := by
  obtain ⟨-, -, -, -, ht⟩ := h
  have e1 := ht i hi
  have e2 := ht j hj
  have l1 := (cd_ok i hi).2.1
  have l2 := (cd_ok j hj).2.1
  unfold fX2_placeOfProduct
  simp (disch := omega) only [chk_in, nI_clamp, e1.2.1, e2.2.1, e1.1, e2.1, nI_add]
  by_cases c : ex (cd i) + ex (cd j) ≤ 6
  · have ha := ex_add c
    have hp := pl_ok _ ha.2 (by omega)
    rw [if_pos c, if_pos (show nI _ ≤ 6 from nI_le (b := 6) c (by decide)), chk_in ha.2 (by decide), nI_clamp (by omega)]
    have h3 := (ht (pl (cd i + cd j)) hp.1).2.2
    rw [hp.2] at h3
    rw [h3]
  · rw [if_neg c, if_neg (show ¬ nI _ ≤ 6 from nI_ge (a := 6) (by omega) (by omega))]
def cvR (a b : Nat → Nat) (i x : Nat) : Nat := if cd i ≤ x then a (cd i) * b (x - cd i) else 0
def cvI (a b : Nat → Nat) (i j x : Nat) : Nat := fb_sm (fun k => if cd i + cd k = x then a (cd i) * b (cd k) else 0) j
def cvO (a b : Nat → Nat) (i x : Nat) : Nat := fb_sm (fun k => cvR a b k x) i
theorem cvI_end {w : Nat} {a b : Nat → Nat} (hb : OkP w b) (i x : Nat) : cvI a b i (sz b) x = cvR a b i x := by
  have hs := sz_le b
  unfold cvI cvR
  by_cases c : cd i ≤ x
  · rw [if_pos c]
    by_cases c2 : b (x - cd i) = 0
    · rw [c2, Nat.mul_zero]
      refine sm_0 (fun k _ => ?_)
      by_cases c3 : cd i + cd k = x
      · rw [if_pos c3, show cd k = x - cd i by omega, c2, Nat.mul_zero]
      · rw [if_neg c3]
    · obtain ⟨h1, h2⟩ := hb.2 _ c2
      obtain ⟨p1, p2⟩ := pl_ok _ h1 h2
      have p3 : pl (x - cd i) < sz b := Nat.lt_of_not_le (fun q => c2 (by rw [← p2]; exact sz_beh q p1))
      have e : ∀ k, k < sz b → (if cd i + cd k = x then a (cd i) * b (cd k) else 0) = if k = pl (x - cd i) then a (cd i) * b (x - cd i) else 0 := by
        intro k hk
        by_cases c3 : k = pl (x - cd i)
        · have c4 : cd k = x - cd i := by rw [c3]; exact p2
          rw [if_pos c3, if_pos (by omega), c4]
        · rw [if_neg c3, if_neg]
          intro c4
          exact c3 (cd_inj (by omega) p1 (by rw [p2]; omega))
      rw [fb_sm_cong e, sm_ind, if_pos p3]
  · rw [if_neg c]
    exact sm_0 (fun k _ => if_neg (by omega))
theorem cvO_end {w : Nat} {a b : Nat → Nat} (ha : OkP w a) (x : Nat) : cvO a b (sz a) x = conv a b x := by
  have hs := sz_le a
  have h1 : conv a b x = fb_sm (fun p => cvR a b p x) 84 := by
    unfold conv
    rw [sm_cd (fun m hm hne => ?_)]
    · rfl
    · by_cases c : m ≤ x
      · rw [if_pos c] at hne
        exact (ha.2 m (fun q => hne (by rw [q, Nat.zero_mul]))).2
      · rw [if_neg c] at hne; exact absurd rfl hne
  have h2 := fb_sm_split (fun p => cvR a b p x) (sz a) (84 - sz a)
  rw [show sz a + (84 - sz a) = 84 by omega] at h2
  have h3 : fb_sm (fun k => cvR a b (sz a + k) x) (84 - sz a) = 0 := sm_0 (fun k hk => by
    unfold cvR
    rw [sz_beh (a := a) (p := sz a + k) (by omega) (by omega), Nat.zero_mul]
    split <;> rfl)
  rw [h1, h2, h3, Nat.add_zero]
  rfl
theorem psz_psz (σ : Mem) (q : Nat) (a b : Nat → Nat) (z z' : Nat) : psz (psz σ q a z) q b z' = psz σ q b z' := by
  refine psz_of (FR_trans (FR_psz σ q a z) (FR_psz _ q b z')) (fun p hp => psz_15 _ q b z' hp) (fun j hj => ?_) (psz_16 _ q b z') (fun j hj => ?_)
  · rw [psz_15o _ q b z' hj, psz_15o σ q a z hj]
  · rw [psz_16o _ q b z' hj, psz_16o σ q a z hj]
theorem psz_self {w : Nat} {σ : Mem} {q : Nat} {c : Nat → Nat} (h : px w σ q c) : psz σ q c (sz c) = σ := (psz_of (FR_refl _ σ) h.2.1 (fun _ _ => rfl) h.2.2 (fun _ _ => rfl)).symm
theorem psz_z (σ : Mem) (q : Nat) (c : Nat → Nat) (z z' : Nat) : up2 (psz σ q c z) 16 q (nI z') = psz σ q c z' := by
  refine psz_of (FR_trans (FR_psz σ q c z) (FR_up2 _ (by decide) _ _)) (fun p hp => ?_) (fun j hj => ?_) (up2_eq _ _ _ _) (fun j hj => ?_)
  · rw [up2_row _ _ _ (by decide), psz_15 σ q c z hp]
  · rw [up2_row _ _ _ (by decide), psz_15o σ q c z hj]
  · rw [up2_col _ _ _ hj, psz_16o σ q c z hj]
theorem psz_step (σ : Mem) (q z z' : Nat) {p0 v : Nat} {c c' : Nat → Nat} (hp : p0 < 84) (hc : ∀ p, p < 84 → c' (cd p) = if p = p0 then v else c (cd p)) : up2 (up2 (psz σ q c z) 15 (84 * q + p0) (nI v)) 16 q (nI z') = psz σ q c' z' := by
  refine psz_of (FR_trans (FR_trans (FR_psz σ q c z) (FR_up2 _ (by decide) _ _)) (FR_up2 _ (by decide) _ _)) (fun p hpp => ?_) (fun j hj => ?_) (up2_eq _ _ _ _) (fun j hj => ?_)
  · rw [up2_row _ _ _ (by decide), hc p hpp]
    by_cases e : p = p0
    · subst e; rw [up2_eq, if_pos rfl]
    · rw [up2_col _ _ _ (by omega), psz_15 σ q c z hpp, if_neg e]
  · rw [up2_row _ _ _ (by decide), up2_col _ _ _ (by omega), psz_15o σ q c z hj]
  · rw [up2_col _ _ _ hj, up2_row _ _ _ (by decide), psz_16o σ q c z hj]
def gz (c : Nat → Nat) (z : Nat) : Prop := z ≤ 84 ∧ ∀ p, p < 84 → z ≤ p → c (cd p) = 0
theorem gz_sz (c : Nat → Nat) : gz c (sz c) := ⟨sz_le c, fun _ hp hz => sz_beh hz hp⟩
theorem X_trim {σ : Mem} {q z : Nat} {c : Nat → Nat} (hq : q < 125) (hg : gz c z) (hc : ∀ m, c m < 65536) : fX5_trim (nI q) (psz σ q c z) = some (pset σ q c) := by
  have key : ∀ s, s ≤ 84 → loop (fun a => fX5_trim_B7 (nI q) a.1 a.2) (nI s, psz σ q c s) = some (.inl (psz σ q c (szu c s))) ∨ loop (fun a => fX5_trim_B7 (nI q) a.1 a.2) (nI s, psz σ q c s) = some (.inr (psz σ q c (szu c s))) := by
    intro s
    induction s with
    | zero =>
      intro _
      refine Or.inl (loop_out ?_)
      show fX5_trim_B7 (nI q) (nI 0) _ = _
      unfold fX5_trim_B7
      rw [if_pos (by decide)]; rfl
    | succ s ih =>
      intro hs
      have e0 : nI q * 84 + nI (s + 1) - 1 = nI (84 * q + s) := by rw [ix84]; exact nI_pred _
      have e1 : psz σ q c (s + 1) 15 (84 * q + s) = nI (c (cd s)) := psz_15 σ q c _ (by omega)
      by_cases c0 : c (cd s) = 0
      · have hz : szu c (s + 1) = szu c s := by
          show (if c (cd s) = 0 then szu c s else s + 1) = _
          rw [if_pos c0]
        have hb : fX5_trim_B7 (nI q) (nI (s + 1)) (psz σ q c (s + 1)) = some (.inl (nI s, psz σ q c s)) := by
          unfold fX5_trim_B7
          rw [if_neg (nI_nle (by omega) (by omega)), e0, chk_in (by omega) (by decide), nI_clamp (by omega), e1, if_pos (by rw [c0]; rfl), chk_in (by omega) (by decide), nI_clamp (by omega), nI_pred, psz_z, pk_m1]
        rw [hz]
        rcases ih (by omega) with h | h
        · exact Or.inl (loop_in hb h)
        · exact Or.inr (loop_in hb h)
      · have hz : szu c (s + 1) = s + 1 := by
          show (if c (cd s) = 0 then szu c s else s + 1) = _
          rw [if_neg c0]
        refine Or.inr (loop_out ?_)
        dsimp only
        unfold fX5_trim_B7
        rw [if_neg (nI_nle (by omega) (by omega)), e0, chk_in (by omega) (by decide), nI_clamp (by omega), e1, if_neg (nI_ne0 (by omega) (by have := hc (cd s); omega)), hz]
  have hz : szu c z = sz c := (szu_same hg.1 (fun p h1 h2 => hg.2 p h2 h1)).symm
  unfold fX5_trim
  rw [chk_in (by omega) (by decide), nI_clamp (by omega), psz_16]
  rcases key z hg.1 with h | h
  · rw [h, hz]; rfl
  · rw [h, hz]; rfl
def cur (w : Nat) (c : Nat → Nat) (t : Nat) (a b : Nat → Nat) (i j : Nat) : Nat → Nat := fun x => (c x + t * (cvO a b i x + cvI a b i j x)) % 2 ^ w
theorem nI_nm1 {n : Nat} (h : n < 2 ^ 31) : ¬ nI n = -1 := fun e => nI_pos h (by rw [e]; decide)
theorem X_prodI {w : Nat} {σ : Mem} {q q1 q2 : Nat} {c a b : Nat → Nat} (h : PI w σ) (hq : q < 124) (hq2 : q2 < 125) (n2 : q2 ≠ q) (hb : px w σ q2 b) (t : Int32) {i : Nat} (hi : i < 84) {z0 : Nat} (hz0 : gz (cur w c (mI w t) a b i 0) z0) :
    ok (loop (fun s => fX5_addProduct_B39 (nI q) (nI q1) (nI q2) t (nI i) (nI (a (cd i))) s.1 s.2) (0, psz σ q (cur w c (mI w t) a b i 0) z0)) (fun r => (∃ z, gz (cur w c (mI w t) a b i (sz b)) z ∧ r = .inl (psz σ q (cur w c (mI w t) a b i (sz b)) z) ∧ ∀ j, j < sz b → b (cd j) ≠ 0 → ex (cd i) + ex (cd j) ≤ 6) ∨ (∃ c' z, gz c' z ∧ r = .inr (0, psz σ q c' z) ∧ ∃ j, b (cd j) ≠ 0 ∧ ¬ ex (cd i) + ex (cd j) ≤ 6)) := by
  have hw := h.1.1.2
  have lb := sz_le b
  refine ok_for' (enc := fun j z => (nI j, psz σ q (cur w c (mI w t) a b i j) z)) (sz b) (fun j z => gz (cur w c (mI w t) a b i j) z ∧ ∀ k, k < j → b (cd k) ≠ 0 → ex (cd i) + ex (cd k) ≤ 6) (i0 := 0) (s0 := z0) (Nat.zero_le _) ⟨hz0, fun k hk => absurd hk (Nat.not_lt_zero k)⟩ ?_ ?_
  · intro j z hj ⟨hg, hI⟩
    dsimp only
    obtain ⟨C, hC⟩ : ∃ C, C = cur w c (mI w t) a b i j := ⟨_, rfl⟩
    rw [← hC] at hg ⊢
    have hp2 := px_psz_ne (a := C) (z := z) hb n2
    have e16 := hp2.2.2
    have e15 := hp2.2.1 j (by omega)
    have ct : CT w (psz σ q C z) := CT_FR h.1 (FR_psz σ q C z) (by decide) (by decide) (by decide) (by decide) (by decide) (by decide)
    have hsucc : ∀ x, cur w c (mI w t) a b i (j + 1) x = (c x + mI w t * (cvO a b i x + (cvI a b i j x + if cd i + cd j = x then a (cd i) * b (cd j) else 0))) % 2 ^ w := fun x => rfl
    unfold fX5_addProduct_B39 fX5_addProduct_L149
    simp (disch := omega) only [chk_in, nI_clamp, e16, nI_leI, ix84, e15]
    rw [if_neg (by omega)]
    by_cases c0 : b (cd j) = 0
    · have c0' : nI (b (cd j)) = 0 := by rw [c0]; rfl
      have e : cur w c (mI w t) a b i (j + 1) = C := by
        funext x
        rw [hsucc, c0, Nat.mul_zero, hC]
        have : (if cd i + cd j = x then 0 else 0) = 0 := by split <;> rfl
        rw [this, Nat.add_zero]; rfl
      rw [if_pos c0']
      refine ok_some ⟨z, by rw [e, nI_1], by rw [e]; exact hg, fun k hk => ?_⟩
      rcases Nat.lt_or_ge k j with h1 | h1
      · exact hI k h1
      · have : k = j := by omega
        rw [this]; exact fun q => absurd c0 q
    · have c0' : ¬ nI (b (cd j)) = 0 := by
        have := hb.1.1 (cd j)
        have := pw_le hw
        exact nI_ne0 (by omega) (by omega)
      rw [if_neg c0', X_plprod ct hi (by omega), Option.bind_some]
      dsimp only
      by_cases c1 : ex (cd i) + ex (cd j) ≤ 6
      · have ha := ex_add c1
        have hp := pl_ok _ ha.2 (by omega)
        rw [if_pos c1, if_neg (nI_nm1 (by omega))]
        have e5 : psz σ q C z 5 1 = nI (2 ^ w - 1) := ct.2.1
        have e15q : psz σ q C z 15 (84 * q + pl (cd i + cd j)) = nI (C (cd (pl (cd i + cd j)))) := psz_15 σ q C z hp.1
        have e16q : psz σ q C z 16 q = nI z := psz_16 σ q C z
        have hz84 := hg.1
        simp (disch := omega) only [chk_in, nI_clamp, ix84, e5, e15q, mac_val hw, up2_row, e16q, nI_1, nI_max]
        have hcc : ∀ p, p < 84 → cur w c (mI w t) a b i (j + 1) (cd p) = if p = pl (cd i + cd j) then (C (cd (pl (cd i + cd j))) + mI w t * (a (cd i) * b (cd j))) % 2 ^ w else C (cd p) := by
          intro p hpp
          rw [hsucc]
          by_cases e : p = pl (cd i + cd j)
          · rw [if_pos e, e, hp.2, if_pos rfl, hC]
            unfold cur
            rw [Nat.mod_add_mod]
            congr 1
            rw [Nat.mul_add, Nat.mul_add, Nat.mul_add]
            omega
          · rw [if_neg e, if_neg (fun e2 => e (cd_inj hpp hp.1 (by rw [hp.2]; exact e2.symm))), Nat.add_zero, hC]
            rfl
        rw [psz_step σ q z _ hp.1 hcc]
        refine ok_some ⟨_, rfl, ⟨by omega, fun p hpp hzp => ?_⟩, fun k hk => ?_⟩
        · rw [hcc p hpp, if_neg (by omega)]
          exact hg.2 p hpp (by omega)
        · rcases Nat.lt_or_ge k j with h1 | h1
          · exact hI k h1
          · have : k = j := by omega
            rw [this]; exact fun _ => c1
      · rw [if_neg c1, if_pos rfl]
        exact ok_some (Or.inr ⟨C, z, hg, rfl, j, c0, c1⟩)
  · intro z ⟨hg, hI⟩
    dsimp only
    have e16 := (px_psz_ne (a := cur w c (mI w t) a b i (sz b)) (z := z) hb n2).2.2
    unfold fX5_addProduct_B39
    simp (disch := omega) only [chk_in, nI_clamp, e16]
    rw [if_pos (Int32.le_refl _)]
    exact ok_some (Or.inl ⟨z, hg, rfl, hI⟩)
