/-! refresh and lays, with their caches -/
theorem X_refresh {w n : Nat} {t o u : Nat → Nat} {σ : Mem} (hW : WF w n t o u) (hN : NX n t o u σ) (h : PI w σ) (h3 : σ 3 0 = nI (2 ^ w - 1)) (hc : σ 0 6 = σ 3 11 → XC w n t o u σ) :
    ok (fX0_refresh σ) (fun τ => XC w n t o u τ ∧ FR [0, 15, 16, 17, 18, 19, 20, 21] σ τ ∧ τ 0 6 = σ 3 11) := by
  by_cases c : σ 0 6 = σ 3 11
  · unfold fX0_refresh
    rw [if_pos c]
    exact ok_some ⟨hc c, FR_refl _ _, c⟩
  · exact X_refresh0 hW hN h h3 c
theorem M_lays {w n : Nat} {t o u : Nat → Nat} {σ : Mem} (hW : WF w n t o u) (hN : NM n t o u σ) (hB : MB w σ) (hc : ¬ σ 0 11 = 0 → MC w n t o u σ) :
    ok (fX8_lays σ) (fun τ => MC w n t o u τ ∧ FR [0, 1, 5, 6, 7, 8] σ τ ∧ (∀ j, j ≠ 11 → τ 0 j = σ 0 j) ∧ ¬ τ 0 11 = 0) := by
  by_cases c : σ 0 11 = 0
  · refine ok_mono (M_lays0 hW hN hB c) ?_
    rintro τ ⟨q1, q2, q3⟩
    refine ⟨q1, q2, fun j hj => ?_, ?_⟩
    · rw [q3, up2_col _ _ _ hj]
    · rw [q3, up2_eq]; decide
  · unfold fX8_lays
    rw [if_neg c]
    exact ok_some ⟨hc c, FR_refl _ _, fun _ _ => rfl, c⟩
/-- what the spec's result is like -/
theorem AI_sw {w n : Nat} {t o u : Nat → Nat} (hW : WF w n t o u) (hn : n ≤ 30) (hw : 4 ≤ w) {q : Int32 × AS} (hd : DNv (eg t o u) n q.1) (hA : AI w n t o q.1 q.2) : ∀ k, k ≤ n → AI w n t o (sw w n t o u k q).1 (sw w n t o u k q).2
  | 0, _ => hA
  | k + 1, hk => by
    have ih := AI_sw hW hn hw hd hA k (by omega)
    have hdk := sw_DN hW hn hd k (by omega)
    show AI w n t o (st1 w n t o u k (sw w n t o u k q)).1 (st1 w n t o u k (sw w n t o u k q)).2
    unfold st1
    by_cases c : may (eg t o u) n (sw w n t o u k q).1 k
    · rw [pif_t c]; exact AI_st hW hn hw (by omega) hdk c ih
    · rw [pif_f c]; exact ih
theorem AI_pss {w n : Nat} {t o u : Nat → Nat} (hW : WF w n t o u) (hn : n ≤ 30) (hw : 4 ≤ w) : ∀ p, AI w n t o (pss w n t o u p (0, S0)).1 (pss w n t o u p (0, S0)).2
  | 0 => fun i _ hb => by
    have : bt 0 i = true := hb
    rw [b_0] at this; exact absurd this (by decide)
  | p + 1 => AI_sw hW hn hw (pss_DN hW hn p) (AI_pss hW hn hw p) n (Nat.le_refl n)
theorem AI_R {w n : Nat} {t o u : Nat → Nat} (hW : WF w n t o u) (hn : n ≤ 30) (hw : 4 ≤ w) {i : Nat} (hi : i < n) : ((Rs w n t o u).1 i = 9 ∨ ((Rs w n t o u).1 i ≤ 3 ∧ OkF w ((Rs w n t o u).2.1 i))) ∧ (t i ≤ 1 → (Rs w n t o u).1 i = 0 ∧ (Rs w n t o u).2.1 i = fGiv t o i) := AI_pss hW hn hw n i hi (pss_done hW hn i hi)
theorem R_d {w n : Nat} {t o u : Nat → Nat} (hW : WF w n t o u) (hn : n ≤ 30) (hw : 4 ≤ w) {i : Nat} (hi : i < n) : (Rs w n t o u).1 i = 9 ∨ (Rs w n t o u).1 i ≤ 3 := by
  rcases (AI_R hW hn hw hi).1 with q | q
  · exact Or.inl q
  · exact Or.inr q.1
theorem R_ok {w n : Nat} {t o u : Nat → Nat} (hW : WF w n t o u) (hn : n ≤ 30) (hw : 4 ≤ w) {i : Nat} (hi : i < n) (h9 : (Rs w n t o u).1 i ≠ 9) : OkF w ((Rs w n t o u).2.1 i) := by
  rcases (AI_R hW hn hw hi).1 with q | q
  · exact absurd q h9
  · exact q.2
/-- kinds: by delay and form; formless ones go round or are wild -/
def KD (n : Nat) (t o u : Nat → Nat) (dn : Int32) (S : AS) : Prop := ∀ i, i < n → bt dn i = true → ∃ z, (z = 3 ∨ z = 4) ∧ S.2.2 i = kd (S.1 i) (S.2.1 i) z ∧ (z = 3 → via (eg t o u) n i i = true ∧ ∀ j, Cy (eg t o u) n i j = true → t j = 5)
theorem Cy_tr {E : Nat → Nat → Bool} {n k i j : Nat} (hE : ∀ i j, i < n → E i j = true → j < n) (hk : k < n) (h1 : Cy E n k i = true) (h2 : Cy E n i j = true) : Cy E n k j = true := by
  have hi := Cy_lt hE hk h1
  rcases Cy_iff.mp h1 with e | ⟨a1, a2⟩
  · rw [e] at h2; exact h2
  · rcases Cy_iff.mp h2 with e | ⟨b1, b2⟩
    · rw [e]; exact h1
    · exact Cy_iff.mpr (Or.inr ⟨via_mid E n k i j hi a1 b1, via_mid E n j i k hi b2 a2⟩)
theorem KD_aset {n : Nat} {t o u : Nat → Nat} {dn dn' : Int32} {S : AS} {m : Nat → Bool} {d : Nat → Nat} {f : Nat → Fo} {z : Nat} (hK : KD n t o u dn S) (hd : ∀ i, i < n → bt dn' i = true → m i = true ∨ bt dn i = true) (hz : z = 3 ∨ z = 4) (hm : z = 3 → ∀ i, i < n → m i = true → via (eg t o u) n i i = true ∧ ∀ j, Cy (eg t o u) n i j = true → t j = 5) : KD n t o u dn' (aset S m d f z) := by
  intro i hi hb
  unfold aset
  dsimp only
  by_cases c : m i = true
  · rw [if_pos c, if_pos c, if_pos c]
    exact ⟨z, hz, rfl, fun e => hm e i hi c⟩
  · rw [if_neg c, if_neg c, if_neg c]
    rcases hd i hi hb with q | q
    · exact absurd q c
    · exact hK i hi q
theorem KD_st {w n : Nat} {t o u : Nat → Nat} (hW : WF w n t o u) (hn : n ≤ 30) {dn : Int32} {S : AS} {k : Nat} (hk : k < n) (hK : KD n t o u dn S) : KD n t o u (dn ||| cyv (eg t o u) n k) (stl w n t o u S k) := by
  have hE := eg_E hW
  have hor : ∀ i, i < n → bt (dn ||| cyv (eg t o u) n k) i = true → Cy (eg t o u) n k i = true ∨ bt dn i = true := by
    intro i hi hb
    rw [b_or, bt_cyv hn hE hk (by omega), Bool.or_eq_true] at hb
    exact hb.symm
  unfold stl
  by_cases hv : via (eg t o u) n k k = true
  · rw [if_pos hv]
    unfold cyc
    by_cases c1 : fb_ct (isC t (Cy (eg t o u) n k)) n = 1
    · rw [if_pos c1]
      cases hq : trn w n t o u S.1 S.2.1 (Cy (eg t o u) n k) (lc t (Cy (eg t o u) n k) n) with
      | none => exact KD_aset hK hor (Or.inr rfl) (fun e => by omega)
      | some q => exact KD_aset hK hor (Or.inr rfl) (fun e => by omega)
    · rw [if_neg c1]
      by_cases ca : fb_ct (isC t (Cy (eg t o u) n k)) n = fb_ct (Cy (eg t o u) n k) n
      · rw [if_pos ca]
        refine KD_aset hK hor (Or.inl rfl) (fun _ i hi hm => ⟨Cy_self hE hk hv hm, fun j hj => ?_⟩)
        have hkj := Cy_tr hE hk hm hj
        have hjn := Cy_lt hE hk hkj
        apply Classical.byContradiction
        intro h5
        have hlt := ct_strict (p := isC t (Cy (eg t o u) n k)) (q := Cy (eg t o u) n k) (n := n) (x := j) (fun i _ h => (isC_m h).1) hjn (by unfold isC; simp [h5]) hkj
        omega
      · rw [if_neg ca]
        exact KD_aset hK hor (Or.inr rfl) (fun e => by omega)
  · rw [if_neg hv]
    exact KD_aset hK (fun i hi hb => by
      rcases hor i hi hb with q | q
      · rw [Cy_alone hE hk hv] at q; exact Or.inl q
      · exact Or.inr q) (Or.inr rfl) (fun e => by omega)
theorem KD_sw {w n : Nat} {t o u : Nat → Nat} (hW : WF w n t o u) (hn : n ≤ 30) {q : Int32 × AS} (hK : KD n t o u q.1 q.2) : ∀ k, k ≤ n → KD n t o u (sw w n t o u k q).1 (sw w n t o u k q).2
  | 0, _ => hK
  | k + 1, hk => by
    have ih := KD_sw hW hn hK k (by omega)
    show KD n t o u (st1 w n t o u k (sw w n t o u k q)).1 (st1 w n t o u k (sw w n t o u k q)).2
    unfold st1
    by_cases c : may (eg t o u) n (sw w n t o u k q).1 k
    · rw [pif_t c]; exact KD_st hW hn (by omega) ih
    · rw [pif_f c]; exact ih
theorem KD_pss {w n : Nat} {t o u : Nat → Nat} (hW : WF w n t o u) (hn : n ≤ 30) : ∀ p, KD n t o u (pss w n t o u p (0, S0)).1 (pss w n t o u p (0, S0)).2
  | 0 => fun i _ hb => by
    have : bt 0 i = true := hb
    rw [b_0] at this; exact absurd this (by decide)
  | p + 1 => KD_sw hW hn (KD_pss hW hn p) n (Nat.le_refl n)
theorem KD_R {w n : Nat} {t o u : Nat → Nat} (hW : WF w n t o u) (hn : n ≤ 30) {i : Nat} (hi : i < n) : ∃ z, (z = 3 ∨ z = 4) ∧ (Rs w n t o u).2.2 i = kd ((Rs w n t o u).1 i) ((Rs w n t o u).2.1 i) z ∧ (z = 3 → via (eg t o u) n i i = true ∧ ∀ j, Cy (eg t o u) n i j = true → t j = 5) := KD_pss hW hn n i hi (pss_done hW hn i hi)
theorem K_le {w n : Nat} {t o u : Nat → Nat} (hW : WF w n t o u) (hn : n ≤ 30) {i : Nat} (hi : i < n) : (Rs w n t o u).2.2 i ≤ 4 := by
  obtain ⟨z, hz, h, -⟩ := KD_R (w := w) hW hn hi
  rw [h]
  unfold kd
  (repeat' split) <;> omega
/-- what goes round is carried -/
theorem K_round {w n : Nat} {t o u : Nat → Nat} (hW : WF w n t o u) (hn : n ≤ 30) {i : Nat} (hi : i < n) (h3 : (Rs w n t o u).2.2 i = 3) : via (eg t o u) n i i = true ∧ ∀ j, Cy (eg t o u) n i j = true → t j = 5 := by
  obtain ⟨z, hz, h, hr⟩ := KD_R (w := w) hW hn hi
  rw [h3] at h
  have : z = 3 := by
    unfold kd at h
    split at h
    · exact h.symm
    · split at h
      · omega
      · split at h <;> omega
  exact hr this
/-- what is steady or grows has a form at once -/
theorem K_form {w n : Nat} {t o u : Nat → Nat} (hW : WF w n t o u) (hn : n ≤ 30) {i : Nat} (hi : i < n) (h : (Rs w n t o u).2.2 i ≤ 1) : (Rs w n t o u).1 i = 0 ∧ ((Rs w n t o u).2.2 i = 1 → 0 < fdeg ((Rs w n t o u).2.1 i)) ∧ ((Rs w n t o u).2.2 i = 0 → fdeg ((Rs w n t o u).2.1 i) = 0) := by
  obtain ⟨z, hz, hk, -⟩ := KD_R (w := w) hW hn hi
  rw [hk] at h ⊢
  unfold kd at h ⊢
  by_cases c9 : (Rs w n t o u).1 i = 9
  · rw [if_pos c9] at h; omega
  · rw [if_neg c9] at h ⊢
    by_cases c0 : 0 < (Rs w n t o u).1 i
    · rw [if_pos c0] at h; omega
    · rw [if_neg c0] at h ⊢
      by_cases cd' : 0 < fdeg ((Rs w n t o u).2.1 i)
      · rw [if_pos cd']; exact ⟨by omega, fun _ => cd', fun q => by omega⟩
      · rw [if_neg cd']; exact ⟨by omega, fun q => by omega, fun _ => by omega⟩
theorem K_step {w n : Nat} {t o u : Nat → Nat} (hW : WF w n t o u) (hn : n ≤ 30) {i : Nat} (hi : i < n) (h3 : (Rs w n t o u).2.2 i = 3) {x : Nat} (hx : Cy (eg t o u) n i x = true) : x < n ∧ t x = 5 ∧ Cy (eg t o u) n i (u x) = true := by
  have hE := eg_E hW
  obtain ⟨hv, h5⟩ := K_round hW hn hi h3
  have hxn := Cy_lt hE hi hx
  have hx5 := h5 x hx
  refine ⟨hxn, hx5, ?_⟩
  obtain ⟨s, q1, q2⟩ := via_first (Cy_self hE hi hv hx)
  have hs := (eg_carr hx5 s).mp q1
  subst hs
  rcases q2 with e | e
  · rw [e]; exact hx
  · rcases Cy_iff.mp hx with c | ⟨c1, c2⟩
    · subst c; exact Cy_iff.mpr (Or.inr ⟨eg_via q1, e⟩)
    · exact Cy_iff.mpr (Or.inr ⟨via_mid _ n i x _ hxn c1 (eg_via q1), via_mid _ n _ x i hxn e c2⟩)
