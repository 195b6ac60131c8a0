/-! the spec: how the names are settled -/
noncomputable def pif {α : Type} (p : Prop) (a b : α) : α := @ite _ p (Classical.propDecidable p) a b
theorem pif_t {α : Type} {p : Prop} (h : p) (a b : α) : pif p a b = a := if_pos h
theorem pif_f {α : Type} {p : Prop} (h : ¬ p) (a b : α) : pif p a b = b := if_neg h
abbrev Fo : Type := Nat → Nat → Nat
abbrev AS : Type := (Nat → Nat) × (Nat → Fo) × (Nat → Nat)
def kd (d : Nat) (A : Fo) (z : Nat) : Nat := if d = 9 then z else if 0 < d then 2 else if 0 < fdeg A then 1 else 0
noncomputable def ltr (w d : Nat) (A G : Fo) : Nat × Fo := if d = 9 ∨ d = 3 then (9, f0) else (pif (d = 0 ∧ fLater w A 0 = G 0) 0 (d + 1), fLater w A)
def sgt (w : Nat) (t : Nat → Nat) (k : Nat) : Nat := if t k = 2 then 1 else 2 ^ w - 1
noncomputable def aDF (w : Nat) (t o u : Nat → Nat) (D : Nat → Nat) (F : Nat → Fo) (k : Nat) : Nat × Fo :=
  if t k ≤ 1 then (0, fGiv t o k)
  else if t k = 5 then ltr w (D (u k)) (F (u k)) (fGiv t o (o k))
  else if D (o k) = 9 ∨ D (u k) = 9 then (9, f0)
  else if t k = 4 then pif (okF (F (o k)) (F (u k))) (max (D (o k)) (D (u k)), fMul w (F (o k)) (F (u k))) (9, f0)
  else (max (D (o k)) (D (u k)), fLin w (F (o k)) (sgt w t k) (F (u k)))
def aset (S : AS) (m : Nat → Bool) (d : Nat → Nat) (f : Nat → Fo) (z : Nat) : AS := (fun i => if m i = true then d i else S.1 i, fun i => if m i = true then f i else S.2.1 i, fun i => if m i = true then kd (d i) (f i) z else S.2.2 i)
abbrev WS : Type := (Nat → Nat) × (Nat → Fo)
def wA (m : Nat → Bool) (s : WS) (i : Nat) : Nat := if m i = true then s.1 i else 0
def wS (m : Nat → Bool) (F : Nat → Fo) (s : WS) (i : Nat) : Fo := if m i = true then s.2 i else F i
def wok (m : Nat → Bool) (D : Nat → Nat) (i : Nat) : Prop := m i = true ∨ D i = 0
def wput (s : WS) (k a : Nat) (f : Fo) : WS := (fun i => if i = k then a else s.1 i, fun i => if i = k then f else s.2 i)
noncomputable def wst (w : Nat) (t o u : Nat → Nat) (D : Nat → Nat) (F : Nat → Fo) (m : Nat → Bool) (k : Nat) (s : WS) : Option WS :=
  pif (wok m D (o k) ∧ wok m D (u k))
    (if t k ≠ 4 then some (wput s k ((wA m s (o k) + sgt w t k * wA m s (u k)) % 2 ^ w) (fLin w (wS m F s (o k)) (sgt w t k) (wS m F s (u k))))
    else if t (o k) = 0 then some (wput s k ((o (o k) * wA m s (u k)) % 2 ^ w) (fLin w f0 (o (o k)) (wS m F s (u k))))
    else if t (u k) = 0 then some (wput s k ((o (u k) * wA m s (o k)) % 2 ^ w) (fLin w f0 (o (u k)) (wS m F s (o k))))
    else none) none
noncomputable def wf (w : Nat) (t o u : Nat → Nat) (D : Nat → Nat) (F : Nat → Fo) (m : Nat → Bool) (x : Nat) : Nat → Option WS
  | 0 => some (fun _ => 1, fun _ => f0)
  | k + 1 => (wf w t o u D F m x k).bind fun s => if m k = true ∧ k ≠ x then wst w t o u D F m k s else some s
def spread (w : Nat) (s : WS) (x : Nat) (X : Fo) : Nat → Fo := fun i => if i = x then X else fLin w (s.2 i) (s.1 i) X
noncomputable def trn (w n : Nat) (t o u : Nat → Nat) (D : Nat → Nat) (F : Nat → Fo) (m : Nat → Bool) (x : Nat) : Option (Nat × (Nat → Fo)) :=
  (wf w t o u D F m x n).bind fun s =>
    if s.1 (u x) = 1 ∧ fdeg (s.2 (u x)) ≤ 2 then some (0, spread w s x (fAdd (fGiv t o (o x)) (s.2 (u x))))
    else if s.1 (u x) = 0 then some ((ltr w 0 (s.2 (u x)) (fGiv t o (o x))).1, spread w s x (fLater w (s.2 (u x))))
    else none
def isC (t : Nat → Nat) (m : Nat → Bool) (i : Nat) : Bool := m i && decide (t i = 5)
def lc (t : Nat → Nat) (m : Nat → Bool) : Nat → Nat
  | 0 => 0
  | i + 1 => if isC t m i = true then i else lc t m i
noncomputable def cyc (w n : Nat) (t o u : Nat → Nat) (S : AS) (m : Nat → Bool) : AS :=
  if fb_ct (isC t m) n = 1 then (match trn w n t o u S.1 S.2.1 m (lc t m n) with
    | none => aset S m (fun _ => 9) (fun _ => f0) 4
    | some q => aset S m (fun _ => q.1) q.2 4)
  else aset S m (fun _ => 9) (fun _ => f0) (if fb_ct (isC t m) n = fb_ct m n then 3 else 4)
noncomputable def stl (w n : Nat) (t o u : Nat → Nat) (S : AS) (k : Nat) : AS :=
  if via (eg t o u) n k k = true then cyc w n t o u S (Cy (eg t o u) n k)
  else aset S (fun i => decide (i = k)) (fun _ => (aDF w t o u S.1 S.2.1 k).1) (fun _ => (aDF w t o u S.1 S.2.1 k).2) 4
/-- it may be settled -/
def may (E : Nat → Nat → Bool) (n : Nat) (dn : Int32) (k : Nat) : Prop := bt dn k = false ∧ (hgv E n k &&& (cyv E n k ^^^ (-1))) &&& (dn ^^^ (-1)) = 0
noncomputable def st1 (w n : Nat) (t o u : Nat → Nat) (k : Nat) (q : Int32 × AS) : Int32 × AS := pif (may (eg t o u) n q.1 k) (q.1 ||| cyv (eg t o u) n k, stl w n t o u q.2 k) q
noncomputable def sw (w n : Nat) (t o u : Nat → Nat) : Nat → Int32 × AS → Int32 × AS
  | 0, q => q
  | k + 1, q => st1 w n t o u k (sw w n t o u k q)
noncomputable def pss (w n : Nat) (t o u : Nat → Nat) : Nat → Int32 × AS → Int32 × AS
  | 0, q => q
  | p + 1, q => sw w n t o u n (pss w n t o u p q)
def S0 : AS := (fun _ => 9, fun _ => f0, fun _ => 4)
noncomputable def Rs (w n : Nat) (t o u : Nat → Nat) : AS := (pss w n t o u n (0, S0)).2
/-! sets that are settled -/
def DNv (E : Nat → Nat → Bool) (n : Nat) (dn : Int32) : Prop := (∀ i, n ≤ i → i < 32 → bt dn i = false) ∧ ∀ i j, i < n → bt dn i = true → via E n i j = true → bt dn j = true
theorem b_sub0 (a b c : Int32) : (a &&& (b ^^^ (-1))) &&& (c ^^^ (-1)) = 0 ↔ ∀ j, j < 32 → bt a j = true → bt b j = false → bt c j = true := by
  have hb : ∀ j, j < 32 → bt ((a &&& (b ^^^ (-1))) &&& (c ^^^ (-1))) j = ((bt a j && !bt b j) && !bt c j) := by
    intro j hj
    rw [b_and, b_and, b_xor, b_xor, b_m1 j hj, Bool.xor_true, Bool.xor_true]
  constructor
  · intro h j hj h1 h2
    have := hb j hj
    rw [h, b_0, h1, h2] at this
    cases hc : bt c j
    · rw [hc] at this; exact absurd this (by decide)
    · rfl
  · intro h
    refine b_ext (fun j hj => ?_)
    rw [hb j hj, b_0]
    cases h1 : bt a j
    · rfl
    · cases h2 : bt b j
      · rw [h j hj h1 h2]; rfl
      · rfl
theorem may_iff {E : Nat → Nat → Bool} {n : Nat} (hn : n ≤ 30) (hE : ∀ i j, i < n → E i j = true → j < n) {dn : Int32} {k : Nat} (hk : k < n) : may E n dn k ↔ bt dn k = false ∧ ∀ j, j < n → via E n k j = true → Cy E n k j = false → bt dn j = true := by
  unfold may
  rw [b_sub0]
  constructor
  · rintro ⟨h1, h2⟩
    refine ⟨h1, fun j hj h3 h4 => h2 j (by omega) ?_ ?_⟩
    · rw [bt_hgv hn hE hk (by omega)]; exact h3
    · rw [bt_cyv hn hE hk (by omega)]; exact h4
  · rintro ⟨h1, h2⟩
    refine ⟨h1, fun j hj h3 h4 => ?_⟩
    rw [bt_hgv hn hE hk hj] at h3
    rw [bt_cyv hn hE hk hj] at h4
    exact h2 j (via_lt hE (Nat.le_refl n) hk h3) h3 h4
theorem Cy_iff {E : Nat → Nat → Bool} {n i j : Nat} : Cy E n i j = true ↔ j = i ∨ (via E n i j = true ∧ via E n j i = true) := by
  unfold Cy
  simp only [Bool.or_eq_true, Bool.and_eq_true, decide_eq_true_eq]
theorem DNv_st {E : Nat → Nat → Bool} {n : Nat} (hn : n ≤ 30) (hE : ∀ i j, i < n → E i j = true → j < n) {dn : Int32} {k : Nat} (hk : k < n) (hd : DNv E n dn) (hm : may E n dn k) : DNv E n (dn ||| cyv E n k) := by
  rw [may_iff hn hE hk] at hm
  refine ⟨fun i hi hi2 => ?_, fun i j hi hb hv => ?_⟩
  · rw [b_or, hd.1 i hi hi2, bt_cyv hn hE hk hi2, Bool.false_or]
    cases hc : Cy E n k i
    · rfl
    · have := Cy_lt hE hk hc; omega
  · have hj := via_lt hE (Nat.le_refl n) hi hv
    rw [b_or, bt_cyv hn hE hk (by omega), Bool.or_eq_true] at hb
    rw [b_or, bt_cyv hn hE hk (by omega), Bool.or_eq_true]
    rcases hb with hb | hb
    · exact Or.inl (hd.2 i j hi hb hv)
    · have hkj : via E n k j = true := by
        rcases Cy_iff.mp hb with e | ⟨e, -⟩
        · rw [← e]; exact hv
        · exact via_mid E n k i j hi e hv
      cases hc : Cy E n k j
      · exact Or.inl (hm.2 j hj hkj hc)
      · exact Or.inr rfl
theorem sw_DN {w n : Nat} {t o u : Nat → Nat} (hW : WF w n t o u) (hn : n ≤ 30) {q : Int32 × AS} (hd : DNv (eg t o u) n q.1) : ∀ k, k ≤ n → DNv (eg t o u) n (sw w n t o u k q).1
  | 0, _ => hd
  | k + 1, hk => by
    have ih := sw_DN hW hn hd k (by omega)
    show DNv _ n (st1 w n t o u k (sw w n t o u k q)).1
    unfold st1
    by_cases c : may (eg t o u) n (sw w n t o u k q).1 k
    · rw [pif_t c]; exact DNv_st hn (eg_E hW) (by omega) ih c
    · rw [pif_f c]; exact ih
theorem pss_DN {w n : Nat} {t o u : Nat → Nat} (hW : WF w n t o u) (hn : n ≤ 30) : ∀ p, DNv (eg t o u) n (pss w n t o u p (0, S0)).1
  | 0 => ⟨fun i _ _ => b_0 i, fun i j _ h => by
    have : bt 0 i = true := h
    rw [b_0] at this; exact absurd this (by decide)⟩
  | p + 1 => sw_DN hW hn (pss_DN hW hn p) n (Nat.le_refl n)
theorem st1_grow {w n : Nat} {t o u : Nat → Nat} {k : Nat} {q : Int32 × AS} {i : Nat} (h : bt q.1 i = true) : bt (st1 w n t o u k q).1 i = true := by
  unfold st1
  by_cases c : may (eg t o u) n q.1 k
  · rw [pif_t c]
    show bt (_ ||| _) i = true
    rw [b_or, h, Bool.true_or]
  · rw [pif_f c]; exact h
theorem sw_grow {w n : Nat} {t o u : Nat → Nat} {q : Int32 × AS} {i : Nat} (h : bt q.1 i = true) : ∀ k, bt (sw w n t o u k q).1 i = true
  | 0 => h
  | k + 1 => st1_grow (sw_grow h k)
theorem sw_grow2 {w n : Nat} {t o u : Nat → Nat} {q : Int32 × AS} {i k m : Nat} (h : bt (sw w n t o u k q).1 i = true) (hkm : k ≤ m) : bt (sw w n t o u m q).1 i = true := by
  induction m with
  | zero => have : k = 0 := by omega
            subst this; exact h
  | succ m ih =>
    rcases Nat.lt_or_ge k (m + 1) with h1 | h1
    · exact st1_grow (ih (by omega))
    · have : k = m + 1 := by omega
      subst this; exact h
/-- a name that could be settled ahead of a sweep is settled behind it -/
theorem sw_takes {w n : Nat} {t o u : Nat → Nat} (hW : WF w n t o u) (hn : n ≤ 30) {q : Int32 × AS} {k : Nat} (hk : k < n) (hm : ∀ j, j < n → via (eg t o u) n k j = true → Cy (eg t o u) n k j = false → bt q.1 j = true) : bt (sw w n t o u (k + 1) q).1 k = true := by
  show bt (st1 w n t o u k (sw w n t o u k q)).1 k = true
  cases c : bt (sw w n t o u k q).1 k
  · have : may (eg t o u) n (sw w n t o u k q).1 k := (may_iff hn (eg_E hW) hk).mpr ⟨c, fun j hj h1 h2 => sw_grow (hm j hj h1 h2) k⟩
    unfold st1
    rw [pif_t this]
    show bt (_ ||| _) k = true
    rw [b_or, bt_cyv hn (eg_E hW) hk (by omega), Cy_iff.mpr (Or.inl rfl), Bool.or_true]
  · exact st1_grow c
theorem ct_strict {p q : Nat → Bool} {n x : Nat} (h : ∀ k, k < n → p k = true → q k = true) (hx : x < n) (h1 : p x = false) (h2 : q x = true) : fb_ct p n < fb_ct q n := by
  have e := fb_ct_upd p true hx
  rw [h1] at e
  have h3 : fb_ct (fun k => if k = x then true else p k) n ≤ fb_ct q n := fb_ct_sub (fun k hk hp => by
    by_cases c : k = x
    · rw [c]; exact h2
    · rw [if_neg c] at hp; exact h k hk hp)
  rw [if_neg (show ¬ (false = true) by decide), if_pos (show true = true from rfl)] at e
  omega
/-- as long as one is left, one may be settled -/
theorem DN_next {E : Nat → Nat → Bool} {n : Nat} (hE : ∀ i j, i < n → E i j = true → j < n) {dn : Int32} : ∀ (N k : Nat), fb_ct (fun j => decide (j = k) || via E n k j) n ≤ N → k < n → bt dn k = false → ∃ k', k' < n ∧ bt dn k' = false ∧ ∀ j, j < n → via E n k' j = true → Cy E n k' j = false → bt dn j = true
  | 0, k, h, hk, _ => by
    exfalso
    have : 0 < fb_ct (fun j => decide (j = k) || via E n k j) n := fb_ct_pos.mpr ⟨k, hk, by simp⟩
    omega
  | N + 1, k, h, hk, hb => by
    by_cases c : ∀ j, j < n → via E n k j = true → Cy E n k j = false → bt dn j = true
    · exact ⟨k, hk, hb, c⟩
    · obtain ⟨j, hj⟩ := Classical.not_forall.mp c
      simp only [Classical.not_imp, Bool.not_eq_true] at hj
      obtain ⟨hjn, hv, hc, hbj⟩ := hj
      have hjk : via E n j k = false := by
        cases q : via E n j k
        · rfl
        · rw [Cy_iff.mpr (Or.inr ⟨hv, q⟩)] at hc; exact absurd hc (by decide)
      have hne : j ≠ k := fun e => by rw [Cy_iff.mpr (Or.inl e)] at hc; exact absurd hc (by decide)
      have hlt : fb_ct (fun i => decide (i = j) || via E n j i) n < fb_ct (fun i => decide (i = k) || via E n k i) n := ct_strict (x := k) (fun i hi hp => by
        simp only [Bool.or_eq_true, decide_eq_true_eq] at hp ⊢
        rcases hp with e | e
        · rw [e]; exact Or.inr hv
        · exact Or.inr (via_mid E n k j i hjn hv e)) hk (by simp [hjk]; exact fun e => hne e.symm) (by simp)
      exact DN_next hE N j (by omega) hjn hbj
theorem sw_more {w n : Nat} {t o u : Nat → Nat} (hW : WF w n t o u) (hn : n ≤ 30) {q : Int32 × AS} (h : ∃ k, k < n ∧ bt q.1 k = false) : fb_ct (bt q.1) n < fb_ct (bt (sw w n t o u n q).1) n := by
  obtain ⟨k, hk, hb⟩ := h
  obtain ⟨k', hk', hb', hm⟩ := DN_next (eg_E hW) _ k (Nat.le_refl _) hk hb
  exact ct_strict (x := k') (fun i _ hi => sw_grow hi n) hk' hb' (sw_grow2 (sw_takes hW hn hk' hm) (by omega))
theorem sw_all {w n : Nat} {t o u : Nat → Nat} {q : Int32 × AS} (h : ∀ i, i < n → bt q.1 i = true) : ∀ k, k ≤ n → sw w n t o u k q = q
  | 0, _ => rfl
  | k + 1, hk => by
    show st1 w n t o u k (sw w n t o u k q) = q
    rw [sw_all h k (by omega)]
    unfold st1
    rw [pif_f]
    intro hm
    have := hm.1
    rw [h k (by omega)] at this
    exact absurd this (by decide)
theorem pss_count {w n : Nat} {t o u : Nat → Nat} (hW : WF w n t o u) (hn : n ≤ 30) : ∀ p, (∀ i, i < n → bt (pss w n t o u p (0, S0)).1 i = true) ∨ p ≤ fb_ct (bt (pss w n t o u p (0, S0)).1) n
  | 0 => Or.inr (Nat.zero_le _)
  | p + 1 => by
    by_cases c : ∀ i, i < n → bt (pss w n t o u p (0, S0)).1 i = true
    · exact Or.inl (fun i hi => sw_grow (c i hi) n)
    · obtain ⟨i, hi⟩ := Classical.not_forall.mp c
      simp only [Classical.not_imp, Bool.not_eq_true] at hi
      have h1 := sw_more hW hn (q := pss w n t o u p (0, S0)) ⟨i, hi.1, hi.2⟩
      rcases pss_count hW hn p with h2 | h2
      · exact absurd h2 c
      · exact Or.inr (by show p + 1 ≤ fb_ct (bt (sw w n t o u n (pss w n t o u p (0, S0))).1) n; omega)
theorem pss_done {w n : Nat} {t o u : Nat → Nat} (hW : WF w n t o u) (hn : n ≤ 30) : ∀ i, i < n → bt (pss w n t o u n (0, S0)).1 i = true := by
  rcases pss_count hW hn n with h | h
  · exact h
  · have h2 := fb_ct_le (bt (pss w n t o u n (0, S0)).1) n
    exact fb_ct_all.mp (by omega)
theorem pss_stay {w n : Nat} {t o u : Nat → Nat} {p : Nat} (h : ∀ i, i < n → bt (pss w n t o u p (0, S0)).1 i = true) : ∀ m, pss w n t o u (p + m) (0, S0) = pss w n t o u p (0, S0)
  | 0 => rfl
  | m + 1 => by
    show sw w n t o u n (pss w n t o u (p + m) (0, S0)) = _
    rw [pss_stay h m]
    exact sw_all h n (Nat.le_refl n)
theorem all_X : ∀ n, n < 31 → (1 <<< (nI n &&& 31)) - 1 = bs (fun _ => true) n := by decide +kernel
theorem all_M : ∀ n, n < 31 → ((lshlV 1 (nI n)) - 1).toInt32 = bs (fun _ => true) n := by decide +kernel
theorem DN_all {E : Nat → Nat → Bool} {n : Nat} (hn : n ≤ 30) {dn : Int32} (hd : DNv E n dn) : dn = bs (fun _ => true) n ↔ ∀ i, i < n → bt dn i = true := by
  constructor
  · intro h i hi
    rw [h, bt_bs _ (by omega) (by omega)]
    simp [hi]
  · intro h
    refine b_ext (fun j hj => ?_)
    rw [bt_bs _ (by omega) hj]
    by_cases c : j < n
    · rw [h j c]; simp [c]
    · rw [hd.1 j (by omega) hj]; simp [c]
