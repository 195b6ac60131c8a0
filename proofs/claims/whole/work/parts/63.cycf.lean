/-! facts of cycles -/
theorem via_first {E : Nat → Nat → Bool} : ∀ {v i j : Nat}, via E v i j = true → ∃ s, E i s = true ∧ (s = j ∨ via E v s j = true)
  | 0, i, j, h => ⟨j, h, Or.inl rfl⟩
  | v + 1, i, j, h => by
    simp only [via, Bool.or_eq_true, Bool.and_eq_true] at h
    rcases h with h | ⟨h, h'⟩
    · obtain ⟨s, h1, h2⟩ := via_first h
      refine ⟨s, h1, ?_⟩
      rcases h2 with h2 | h2
      · exact Or.inl h2
      · exact Or.inr (by simp only [via, Bool.or_eq_true]; exact Or.inl h2)
    · obtain ⟨s, h1, h2⟩ := via_first h
      refine ⟨s, h1, Or.inr ?_⟩
      simp only [via, Bool.or_eq_true, Bool.and_eq_true]
      rcases h2 with h2 | h2
      · rw [h2]; exact Or.inl h'
      · exact Or.inr ⟨h2, h'⟩
theorem eg_t {t o u : Nat → Nat} {i j : Nat} (h : eg t o u i j = true) : 2 ≤ t i := by
  unfold eg at h
  by_cases c5 : t i = 5
  · omega
  · rw [if_neg c5] at h
    by_cases c1 : t i ≤ 1
    · rw [if_pos c1] at h; exact absurd h (by decide)
    · omega
theorem eg_made {t o u : Nat → Nat} {i : Nat} (h2 : 2 ≤ t i) (h5 : t i ≠ 5) (j : Nat) : eg t o u i j = true ↔ j = o i ∨ j = u i := by
  unfold eg
  rw [if_neg h5, if_neg (by omega)]
  simp only [Bool.or_eq_true, decide_eq_true_eq]
theorem eg_carr {t o u : Nat → Nat} {i : Nat} (h5 : t i = 5) (j : Nat) : eg t o u i j = true ↔ j = u i := by
  unfold eg
  rw [if_pos h5]
  simp only [decide_eq_true_eq]
theorem eg_via {E : Nat → Nat → Bool} {n i j : Nat} (h : E i j = true) : via E n i j = true := via_up E (Nat.zero_le n) (v := 0) h
/-- what is known of a cycle that is settled now -/
def CF (n : Nat) (t o u : Nat → Nat) (m : Nat → Bool) (dn : Int32) : Prop := (∀ i, m i = true → i < n ∧ 2 ≤ t i ∧ bt dn i = false) ∧ (∀ i j, m i = true → eg t o u i j = true → m j = true ∨ bt dn j = true) ∧ ∀ i, m i = true → ∃ s, eg t o u i s = true ∧ m s = true
theorem CF_of {w n : Nat} {t o u : Nat → Nat} (hW : WF w n t o u) (hn : n ≤ 30) {dn : Int32} {k : Nat} (hk : k < n) (hd : DNv (eg t o u) n dn) (hm : may (eg t o u) n dn k) (hv : via (eg t o u) n k k = true) : CF n t o u (Cy (eg t o u) n k) dn := by
  have hE := eg_E hW
  rw [may_iff hn hE hk] at hm
  have hself : ∀ i, Cy (eg t o u) n k i = true → i < n ∧ via (eg t o u) n i i = true ∧ via (eg t o u) n k i = true ∧ via (eg t o u) n i k = true := by
    intro i hi
    have hin := Cy_lt hE hk hi
    rcases Cy_iff.mp hi with e | ⟨e1, e2⟩
    · subst e; exact ⟨hin, hv, hv, hv⟩
    · exact ⟨hin, via_mid _ n i k i hk e2 e1, e1, e2⟩
  have hstep : ∀ i j, Cy (eg t o u) n k i = true → eg t o u i j = true → (j = i ∨ via (eg t o u) n j i = true) → Cy (eg t o u) n k j = true := by
    intro i j hi he hj
    obtain ⟨h1, h2, h3, h4⟩ := hself i hi
    rcases hj with e | e
    · rw [e]; exact hi
    · exact Cy_iff.mpr (Or.inr ⟨via_mid _ n k i j h1 h3 (eg_via he), via_mid _ n j i k h1 e h4⟩)
  refine ⟨fun i hi => ?_, fun i j hi he => ?_, fun i hi => ?_⟩
  · obtain ⟨h1, h2, h3, h4⟩ := hself i hi
    obtain ⟨s, h5, -⟩ := via_first h2
    refine ⟨h1, eg_t h5, ?_⟩
    cases c : bt dn i
    · rfl
    · have := hd.2 i k h1 c h4
      rw [hm.1] at this; exact absurd this (by decide)
  · obtain ⟨h1, h2, h3, h4⟩ := hself i hi
    have hjn := eg_lt hW h1 he
    have hkj : via (eg t o u) n k j = true := via_mid _ n k i j h1 h3 (eg_via he)
    cases c : Cy (eg t o u) n k j
    · exact Or.inr (hm.2 j hjn hkj c)
    · exact Or.inl rfl
  · obtain ⟨h1, h2, h3, h4⟩ := hself i hi
    obtain ⟨s, h5, h6⟩ := via_first h2
    exact ⟨s, h5, hstep i s hi h5 h6⟩
theorem Cy_alone {E : Nat → Nat → Bool} {n : Nat} (hE : ∀ i j, i < n → E i j = true → j < n) {k : Nat} (hk : k < n) (hv : ¬ via E n k k = true) (i : Nat) : Cy E n k i = decide (i = k) := by
  cases c : Cy E n k i
  · simp only [Bool.false_eq, decide_eq_false_iff_not]
    intro e
    rw [Cy_iff.mpr (Or.inl e)] at c; exact absurd c (by decide)
  · rcases Cy_iff.mp c with e | ⟨e1, e2⟩
    · simp [e]
    · exact absurd (via_mid E n k i k (Cy_lt hE hk c) e1 e2) hv
theorem lc_ok {t : Nat → Nat} {m : Nat → Bool} : ∀ {n : Nat}, (∃ i, i < n ∧ isC t m i = true) → lc t m n < n ∧ isC t m (lc t m n) = true
  | 0, ⟨i, hi, _⟩ => absurd hi (Nat.not_lt_zero i)
  | n + 1, ⟨i, hi, hc⟩ => by
    unfold lc
    by_cases c : isC t m n = true
    · rw [if_pos c]; exact ⟨by omega, c⟩
    · rw [if_neg c]
      have hin : i < n := by
        rcases Nat.lt_or_ge i n with h | h
        · exact h
        · have : i = n := by omega
          rw [this] at hc; exact absurd hc c
      have := lc_ok (n := n) ⟨i, hin, hc⟩
      exact ⟨by omega, this.2⟩
theorem one_C {t : Nat → Nat} {m : Nat → Bool} {n x : Nat} (h : fb_ct (isC t m) n = 1) (hx : x < n) (hc : isC t m x = true) : ∀ i, i < n → isC t m i = true → i = x := by
  intro i hi hci
  have e := fb_ct_upd (isC t m) false hx
  rw [hc, h] at e
  have z : fb_ct (fun k => if k = x then false else isC t m k) n = 0 := by simpa using e
  have := fb_ct_zero.mp z i hi
  by_cases c : i = x
  · exact c
  · rw [if_neg c, hci] at this; exact absurd this (by decide)
/-- a cycle has a carried name -/
theorem CF_carr {w n : Nat} {t o u : Nat → Nat} (hW : WF w n t o u) {m : Nat → Bool} {dn : Int32} (hC : CF n t o u m dn) : ∀ (N i : Nat), i < N → m i = true → ∃ x, x ≤ i ∧ isC t m x = true
  | 0, _, h, _ => absurd h (Nat.not_lt_zero _)
  | N + 1, i, h, hi => by
    by_cases c : t i = 5
    · exact ⟨i, Nat.le_refl i, by unfold isC; simp [hi, c]⟩
    · obtain ⟨h1, h2, -⟩ := hC.1 i hi
      obtain ⟨s, h3, h4⟩ := hC.2.2 i hi
      have h5 := WF_made hW h1 h2 c
      have hs : s < i := by rcases (eg_made h2 c s).mp h3 with e | e <;> omega
      obtain ⟨x, h6, h7⟩ := CF_carr hW hC N s (by omega) h4
      exact ⟨x, by omega, h7⟩
theorem isC_m {t : Nat → Nat} {m : Nat → Bool} {i : Nat} (h : isC t m i = true) : m i = true ∧ t i = 5 := by
  unfold isC at h
  simpa using h
/-- what is known of the one carried name -/
theorem CF_x {w n : Nat} {t o u : Nat → Nat} (hW : WF w n t o u) {m : Nat → Bool} {dn : Int32} (hC : CF n t o u m dn) (h1 : fb_ct (isC t m) n = 1) : lc t m n < n ∧ m (lc t m n) = true ∧ t (lc t m n) = 5 ∧ (∀ i, m i = true → t i = 5 → i = lc t m n) ∧ ∀ i, m i = true → lc t m n ≤ i := by
  have hex : ∃ i, i < n ∧ isC t m i = true := fb_ct_pos.mp (by omega)
  obtain ⟨h2, h3⟩ := lc_ok hex
  have h4 := isC_m h3
  have h5 := one_C h1 h2 h3
  refine ⟨h2, h4.1, h4.2, fun i hi h6 => h5 i (hC.1 i hi).1 (by unfold isC; simp [hi, h6]), fun i hi => ?_⟩
  obtain ⟨x, h7, h8⟩ := CF_carr hW hC (i + 1) i (by omega) hi
  have h9 := isC_m h8
  rw [← h5 x (hC.1 x h9.1).1 h8]
  exact h7
/-! what is known of the spec's states -/
def AI (w n : Nat) (t o : Nat → Nat) (dn : Int32) (S : AS) : Prop := ∀ i, i < n → bt dn i = true → (S.1 i = 9 ∨ (S.1 i ≤ 3 ∧ OkF w (S.2.1 i))) ∧ (t i ≤ 1 → S.1 i = 0 ∧ S.2.1 i = fGiv t o i)
theorem pw16 {w : Nat} (h : 4 ≤ w) : 16 ≤ 2 ^ w := Nat.pow_le_pow_right (n := 2) (by decide) h
theorem wst_ok {w n : Nat} {t o u : Nat → Nat} {D : Nat → Nat} {F : Nat → Fo} {m : Nat → Bool} {k : Nat} {s s' : WS} (hs : ∀ i, OkF w (s.2 i) ∧ s.1 i < 2 ^ w) (hF : ∀ i, (i = o k ∨ i = u k) → m i = true ∨ (D i = 0 → OkF w (F i))) (h : wst w t o u D F m k s = some s') : ∀ i, OkF w (s'.2 i) ∧ s'.1 i < 2 ^ w := by
  have hput : ∀ (a : Nat) (f : Fo), OkF w f → ∀ i, OkF w ((wput s k (a % 2 ^ w) f).2 i) ∧ (wput s k (a % 2 ^ w) f).1 i < 2 ^ w := by
    intro a f hf i
    unfold wput
    dsimp only
    by_cases e : i = k
    · rw [if_pos e, if_pos e]; exact ⟨hf, Nat.mod_lt _ (pw_pos w)⟩
    · rw [if_neg e, if_neg e]; exact hs i
  have hS : ∀ i, (i = o k ∨ i = u k) → wok m D i → OkF w (wS m F s i) := by
    intro i hi hw
    unfold wS
    by_cases c : m i = true
    · rw [if_pos c]; exact (hs i).1
    · rw [if_neg c]
      rcases hw with q | q
      · exact absurd q c
      · rcases hF i hi with z | z
        · exact absurd z c
        · exact z q
  unfold wst at h
  by_cases c : wok m D (o k) ∧ wok m D (u k)
  · rw [pif_t c] at h
    have h1 := hS (o k) (Or.inl rfl) c.1
    have h2 := hS (u k) (Or.inr rfl) c.2
    by_cases c4 : t k ≠ 4
    · rw [if_pos c4] at h; cases h; exact hput _ _ (OkF_lin h1 h2 _)
    · rw [if_neg c4] at h
      by_cases ca : t (o k) = 0
      · rw [if_pos ca] at h; cases h; exact hput _ _ (OkF_lin (OkF_0 w) h2 _)
      · rw [if_neg ca] at h
        by_cases cb : t (u k) = 0
        · rw [if_pos cb] at h; cases h; exact hput _ _ (OkF_lin (OkF_0 w) h1 _)
        · rw [if_neg cb] at h; cases h
  · rw [pif_f c] at h; cases h
theorem wf_ok {w n : Nat} {t o u : Nat → Nat} (hw : 4 ≤ w) {D : Nat → Nat} {F : Nat → Fo} {m : Nat → Bool} {x : Nat} (hF : ∀ k i, m k = true → k ≠ x → (i = o k ∨ i = u k) → m i = true ∨ (D i = 0 → OkF w (F i))) : ∀ (j : Nat) {s : WS}, wf w t o u D F m x j = some s → ∀ i, OkF w (s.2 i) ∧ s.1 i < 2 ^ w
  | 0, s, h => by
    cases h
    intro i
    have := pw16 hw
    exact ⟨OkF_0 w, by show 1 < 2 ^ w; omega⟩
  | j + 1, s', h => by
    obtain ⟨s, h1, h2⟩ := bind_some h
    have ih := wf_ok (n := n) hw hF j h1
    by_cases c : m j = true ∧ j ≠ x
    · rw [if_pos c] at h2
      exact wst_ok (n := n) ih (fun i hi => hF j i c.1 c.2 hi) h2
    · rw [if_neg c] at h2; cases h2; exact ih
theorem CF_F {w n : Nat} {t o u : Nat → Nat} (hW : WF w n t o u) {m : Nat → Bool} {dn : Int32} (hC : CF n t o u m dn) {S : AS} (hA : AI w n t o dn S) {x : Nat} (hx : ∀ i, m i = true → t i = 5 → i = x) : ∀ k i, m k = true → k ≠ x → (i = o k ∨ i = u k) → m i = true ∨ (S.1 i = 0 → OkF w (S.2.1 i)) := by
  intro k i hk hne hi
  obtain ⟨h1, h2, -⟩ := hC.1 k hk
  have h5 : t k ≠ 5 := fun e => hne (hx k hk e)
  have he := (eg_made (o := o) (u := u) h2 h5 i).mpr hi
  rcases hC.2.1 k i hk he with q | q
  · exact Or.inl q
  · right
    intro h0
    rcases (hA i (eg_lt hW h1 he) q).1 with z | z
    · omega
    · exact z.2
theorem OkF_spread {w : Nat} {s : WS} (hs : ∀ i, OkF w (s.2 i) ∧ s.1 i < 2 ^ w) {X : Fo} (hX : OkF w X) (x i : Nat) : OkF w (spread w s x X i) := by
  unfold spread
  by_cases e : i = x
  · rw [if_pos e]; exact hX
  · rw [if_neg e]; exact OkF_lin (hs i).1 hX _
theorem ltr_ok {w d : Nat} {A G : Fo} (hd : d = 9 ∨ d ≤ 3) (hA : d ≠ 9 → OkF w A) : (ltr w d A G).1 = 9 ∨ ((ltr w d A G).1 ≤ 3 ∧ OkF w (ltr w d A G).2) := by
  unfold ltr
  by_cases c : d = 9 ∨ d = 3
  · rw [if_pos c]; exact Or.inl rfl
  · rw [if_neg c]
    refine Or.inr ⟨?_, OkF_later (hA (fun e => c (Or.inl e)))⟩
    dsimp only
    by_cases q : d = 0 ∧ fLater w A 0 = G 0
    · rw [pif_t q]; omega
    · rw [pif_f q]; omega
theorem AI_aset {w n : Nat} {t o : Nat → Nat} {dn dn' : Int32} {S : AS} {m : Nat → Bool} {d : Nat → Nat} {f : Nat → Fo} {z : Nat} (hA : AI w n t o dn S) (hd : ∀ i, i < n → bt dn' i = true → m i = true ∨ bt dn i = true) (hm : ∀ i, m i = true → i < n → (d i = 9 ∨ (d i ≤ 3 ∧ OkF w (f i))) ∧ (t i ≤ 1 → d i = 0 ∧ f i = fGiv t o i)) : AI w n t o dn' (aset S m d f z) := by
  intro i hi hb
  unfold aset
  dsimp only
  by_cases c : m i = true
  · rw [if_pos c, if_pos c]; exact hm i c hi
  · rw [if_neg c, if_neg c]
    rcases hd i hi hb with q | q
    · exact absurd q c
    · exact hA i hi q
theorem trn_ok {w n : Nat} {t o u : Nat → Nat} (hW : WF w n t o u) (hw : 4 ≤ w) {m : Nat → Bool} {dn : Int32} (hC : CF n t o u m dn) {S : AS} (hA : AI w n t o dn S) (h1 : fb_ct (isC t m) n = 1) {q : Nat × (Nat → Fo)} (h : trn w n t o u S.1 S.2.1 m (lc t m n) = some q) : (q.1 = 9 ∨ q.1 ≤ 3) ∧ ∀ i, OkF w (q.2 i) := by
  obtain ⟨x1, x2, x3, x4, x5⟩ := CF_x hW hC h1
  obtain ⟨s, hs, h2⟩ := bind_some h
  have hok := wf_ok (n := n) hw (CF_F hW hC hA x4) n hs
  have hg : OkF w (fGiv t o (o (lc t m n))) := by
    rcases hW _ x1 with ⟨q, -⟩ | ⟨q, -⟩ | ⟨q, -⟩ | ⟨-, q1, q2, q3⟩
    · omega
    · omega
    · omega
    · exact OkF_giv hW (by omega) q3 hw
  have hu := hok (u (lc t m n))
  by_cases c : s.1 (u (lc t m n)) = 1 ∧ fdeg (s.2 (u (lc t m n))) ≤ 2
  · rw [if_pos c] at h2; cases h2
    exact ⟨Or.inr (Nat.zero_le _), OkF_spread hok (OkF_add hg hu.1) _⟩
  · rw [if_neg c] at h2
    by_cases c0 : s.1 (u (lc t m n)) = 0
    · rw [if_pos c0] at h2; cases h2
      refine ⟨?_, OkF_spread hok (OkF_later hu.1) _⟩
      rcases ltr_ok (d := 0) (G := fGiv t o (o (lc t m n))) (Or.inr (Nat.zero_le _)) (fun _ => hu.1) with z | z
      · exact Or.inl z
      · exact Or.inr z.1
    · rw [if_neg c0] at h2; cases h2
theorem AI_st {w n : Nat} {t o u : Nat → Nat} (hW : WF w n t o u) (hn : n ≤ 30) (hw : 4 ≤ w) {dn : Int32} {S : AS} {k : Nat} (hk : k < n) (hd : DNv (eg t o u) n dn) (hm : may (eg t o u) n dn k) (hA : AI w n t o dn S) : AI w n t o (dn ||| cyv (eg t o u) n k) (stl w n t o u S k) := by
  have hE := eg_E hW
  have hor : ∀ i, i < n → bt (dn ||| cyv (eg t o u) n k) i = true → Cy (eg t o u) n k i = true ∨ bt dn i = true := by
    intro i hi hb
    rw [b_or, bt_cyv hn hE hk (by omega), Bool.or_eq_true] at hb
    exact hb.symm
  unfold stl
  by_cases hv : via (eg t o u) n k k = true
  · rw [if_pos hv]
    have hC := CF_of hW hn hk hd hm hv
    have hnone : ∀ z, AI w n t o (dn ||| cyv (eg t o u) n k) (aset S (Cy (eg t o u) n k) (fun _ => 9) (fun _ => f0) z) := fun z => AI_aset hA hor (fun i hi hin => ⟨Or.inl rfl, fun h1 => by have := (hC.1 i hi).2.1; omega⟩)
    unfold cyc
    by_cases c1 : fb_ct (isC t (Cy (eg t o u) n k)) n = 1
    · rw [if_pos c1]
      cases hq : trn w n t o u S.1 S.2.1 (Cy (eg t o u) n k) (lc t (Cy (eg t o u) n k) n) with
      | none => exact hnone 4
      | some q =>
        have hok := trn_ok hW hw hC hA c1 hq
        refine AI_aset hA hor (fun i hi hin => ⟨?_, fun h1 => by have := (hC.1 i hi).2.1; omega⟩)
        rcases hok.1 with z | z
        · exact Or.inl z
        · exact Or.inr ⟨z, hok.2 i⟩
    · rw [if_neg c1]; exact hnone _
  · rw [if_neg hv]
    rw [may_iff hn hE hk] at hm
    have hpart : ∀ j, eg t o u k j = true → j < n ∧ bt dn j = true := by
      intro j he
      have hj := eg_lt hW hk he
      refine ⟨hj, hm.2 j hj (eg_via he) ?_⟩
      rw [Cy_alone hE hk hv]
      simp only [decide_eq_false_iff_not]
      intro e
      rw [e] at he
      exact hv (eg_via he)
    refine AI_aset hA (fun i hi hb => by
      rcases hor i hi hb with q | q
      · rw [Cy_alone hE hk hv] at q; exact Or.inl q
      · exact Or.inr q) (fun i hi hin => ?_)
    have e : i = k := by simpa using hi
    subst e
    have hpo : ∀ j, eg t o u i j = true → (S.1 j = 9 ∨ S.1 j ≤ 3) ∧ (S.1 j ≠ 9 → OkF w (S.2.1 j)) := by
      intro j he
      obtain ⟨h1, h2⟩ := hpart j he
      rcases (hA j h1 h2).1 with z | z
      · exact ⟨Or.inl z, fun q => absurd z q⟩
      · exact ⟨Or.inr z.1, fun _ => z.2⟩
    unfold aDF
    by_cases c1 : t i ≤ 1
    · rw [if_pos c1]
      exact ⟨Or.inr ⟨Nat.zero_le _, OkF_giv hW hin (by omega) hw⟩, fun _ => ⟨rfl, rfl⟩⟩
    · rw [if_neg c1]
      refine ⟨?_, fun q => absurd q c1⟩
      by_cases c5 : t i = 5
      · rw [if_pos c5]
        have := hpo (u i) ((eg_carr c5 _).mpr rfl)
        exact ltr_ok this.1 this.2
      · rw [if_neg c5]
        have ha := hpo (o i) ((eg_made (by omega) c5 _).mpr (Or.inl rfl))
        have hb := hpo (u i) ((eg_made (by omega) c5 _).mpr (Or.inr rfl))
        by_cases c9 : S.1 (o i) = 9 ∨ S.1 (u i) = 9
        · rw [if_pos c9]; exact Or.inl rfl
        · rw [if_neg c9]
          have oa := ha.2 (fun e => c9 (Or.inl e))
          have ob := hb.2 (fun e => c9 (Or.inr e))
          have hmax : max (S.1 (o i)) (S.1 (u i)) ≤ 3 := by omega
          by_cases c4 : t i = 4
          · rw [if_pos c4]
            by_cases cf' : okF (S.2.1 (o i)) (S.2.1 (u i))
            · rw [pif_t cf']; exact Or.inr ⟨hmax, OkF_mul oa ob cf'⟩
            · rw [pif_f cf']; exact Or.inl rfl
          · rw [if_neg c4]; exact Or.inr ⟨hmax, OkF_lin oa ob _⟩
