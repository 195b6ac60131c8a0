/-! cells: the spec -/
abbrev CLs : Type := Nat × (Nat → Nat) × (Nat → Nat)
def cfm (F : Nat → Fo) (s : CLs) (c : Nat) : Fo := fSh (F (s.2.1 c)) (s.2.2 c)
noncomputable def clA (F : Nat → Fo) (k l : Nat) (s : CLs) : CLs := pif (∃ c, c < s.1 ∧ cfm F s c = fSh (F k) l) s (s.1 + 1, fun c => if c = s.1 then k else s.2.1 c, fun c => if c = s.1 then l else s.2.2 c)
noncomputable def clC (F : Nat → Fo) (k : Nat) : Nat → CLs → CLs
  | 0, s => s
  | l + 1, s => clA F k l (clC F k l s)
noncomputable def clN (P : Nat → Bool) (F : Nat → Fo) : Nat → CLs
  | 0 => (0, fun _ => 0, fun _ => 0)
  | k + 1 => if P k = true then clC F k (fdeg (F k)) (clN P F k) else clN P F k
theorem clA_le (F : Nat → Fo) (k l : Nat) (s : CLs) : s.1 ≤ (clA F k l s).1 ∧ (clA F k l s).1 ≤ s.1 + 1 := by
  unfold clA
  by_cases c : ∃ c, c < s.1 ∧ cfm F s c = fSh (F k) l
  · rw [pif_t c]; omega
  · rw [pif_f c]; dsimp only; omega
theorem clA_old (F : Nat → Fo) (k l : Nat) (s : CLs) {c : Nat} (hc : c < s.1) : (clA F k l s).2.1 c = s.2.1 c ∧ (clA F k l s).2.2 c = s.2.2 c ∧ cfm F (clA F k l s) c = cfm F s c := by
  unfold cfm clA
  by_cases q : ∃ c, c < s.1 ∧ cfm F s c = fSh (F k) l
  · rw [pif_t q]; exact ⟨rfl, rfl, rfl⟩
  · rw [pif_f q]
    dsimp only
    rw [if_neg (by omega), if_neg (by omega)]
    exact ⟨rfl, rfl, rfl⟩
theorem clA_has (F : Nat → Fo) (k l : Nat) (s : CLs) : ∃ c, c < (clA F k l s).1 ∧ cfm F (clA F k l s) c = fSh (F k) l := by
  by_cases q : ∃ c, c < s.1 ∧ cfm F s c = fSh (F k) l
  · unfold clA; rw [pif_t q]; exact q
  · unfold clA; rw [pif_f q]
    refine ⟨s.1, by dsimp only; omega, ?_⟩
    unfold cfm
    dsimp only
    rw [if_pos rfl, if_pos rfl]
/-- what is known of a list of cells -/
def CI (P : Nat → Bool) (F : Nat → Fo) (n : Nat) (s : CLs) : Prop := (∀ c, c < s.1 → s.2.1 c < n ∧ P (s.2.1 c) = true ∧ s.2.2 c < fdeg (F (s.2.1 c))) ∧ ∀ c c', c < s.1 → c' < s.1 → cfm F s c = cfm F s c' → c = c'
theorem CI_A {P : Nat → Bool} {F : Nat → Fo} {n k l : Nat} {s : CLs} (h : CI P F n s) (hk : k < n) (hP : P k = true) (hl : l < fdeg (F k)) : CI P F n (clA F k l s) := by
  by_cases q : ∃ c, c < s.1 ∧ cfm F s c = fSh (F k) l
  · unfold clA; rw [pif_t q]; exact h
  · have hold := fun c (hc : c < s.1) => clA_old F k l s hc
    have hnew : (clA F k l s).1 = s.1 + 1 ∧ (clA F k l s).2.1 s.1 = k ∧ (clA F k l s).2.2 s.1 = l := by
      unfold clA; rw [pif_f q]
      dsimp only
      rw [if_pos rfl, if_pos rfl]
      exact ⟨rfl, rfl, rfl⟩
    have hcn : cfm F (clA F k l s) s.1 = fSh (F k) l := by unfold cfm; rw [hnew.2.1, hnew.2.2]
    rw [CI, hnew.1]
    refine ⟨fun c hc => ?_, fun c c' hc hc' e => ?_⟩
    · rcases Nat.lt_or_ge c s.1 with z | z
      · rw [(hold c z).1, (hold c z).2.1]; exact h.1 c z
      · have : c = s.1 := by omega
        subst this
        rw [hnew.2.1, hnew.2.2]; exact ⟨hk, hP, hl⟩
    · rcases Nat.lt_or_ge c s.1 with z | z
      · rcases Nat.lt_or_ge c' s.1 with z' | z'
        · rw [(hold c z).2.2, (hold c' z').2.2] at e; exact h.2 c c' z z' e
        · have e2 : c' = s.1 := by omega
          rw [e2, hcn, (hold c z).2.2] at e
          exact absurd ⟨c, z, e⟩ q
      · have e1 : c = s.1 := by omega
        rcases Nat.lt_or_ge c' s.1 with z' | z'
        · rw [e1, hcn, (hold c' z').2.2] at e
          exact absurd ⟨c', z', e.symm⟩ q
        · omega
theorem CI_C {P : Nat → Bool} {F : Nat → Fo} {n k : Nat} {s : CLs} (h : CI P F n s) (hk : k < n) (hP : P k = true) : ∀ l, l ≤ fdeg (F k) → CI P F n (clC F k l s)
  | 0, _ => h
  | l + 1, hl => CI_A (CI_C h hk hP l (by omega)) hk hP (by omega)
theorem CI_N {P : Nat → Bool} {F : Nat → Fo} {n : Nat} : ∀ k, k ≤ n → CI P F n (clN P F k)
  | 0, _ => ⟨fun c hc => absurd hc (Nat.not_lt_zero c), fun c _ hc => absurd hc (Nat.not_lt_zero c)⟩
  | k + 1, hk => by
    unfold clN
    split
    · rename_i hP
      exact CI_C (CI_N k (by omega)) (by omega) hP _ (Nat.le_refl _)
    · exact CI_N k (by omega)
theorem clC_le (F : Nat → Fo) (k : Nat) (s : CLs) : ∀ l, s.1 ≤ (clC F k l s).1 ∧ (clC F k l s).1 ≤ s.1 + l
  | 0 => ⟨Nat.le_refl _, Nat.le_refl _⟩
  | l + 1 => by
    have h1 := clC_le F k s l
    have h2 := clA_le F k l (clC F k l s)
    show s.1 ≤ (clA F k l (clC F k l s)).1 ∧ (clA F k l (clC F k l s)).1 ≤ s.1 + (l + 1)
    omega
theorem clN_le (P : Nat → Bool) (F : Nat → Fo) : ∀ k, (clN P F k).1 ≤ 3 * k
  | 0 => Nat.le_refl _
  | k + 1 => by
    have h1 := clN_le P F k
    unfold clN
    split
    · have h2 := clC_le F k (clN P F k) (fdeg (F k))
      have h3 := fdeg_le (F k)
      omega
    · omega
theorem clC_old (F : Nat → Fo) (k : Nat) (s : CLs) {c : Nat} (hc : c < s.1) : ∀ l, (clC F k l s).2.1 c = s.2.1 c ∧ (clC F k l s).2.2 c = s.2.2 c ∧ cfm F (clC F k l s) c = cfm F s c
  | 0 => ⟨rfl, rfl, rfl⟩
  | l + 1 => by
    have h1 := clC_old F k s hc l
    have h2 := clA_old F k l (clC F k l s) (c := c) (by have := clC_le F k s l; omega)
    exact ⟨h2.1.trans h1.1, h2.2.1.trans h1.2.1, h2.2.2.trans h1.2.2⟩
theorem sz_0f : sz (fun _ => 0) = 0 := (sz_zero (OkP_0 0)).mpr rfl
/-- the degree of a form without its first polys -/
theorem fdeg_sh {w : Nat} {A : Fo} (hA : OkF w A) {l : Nat} (hl : l ≤ fdeg A) : fdeg (fSh A l) = fdeg A - l := by
  have z : ∀ c, 4 ≤ c → sz (A c) = 0 := fun c hc => by rw [hA.2 c hc]; exact sz_0f
  have h3 := fdeg_le A
  have e : fdeg (fSh A l) = if 0 < sz (A (3 + l)) then 3 else if 0 < sz (A (2 + l)) then 2 else if 0 < sz (A (1 + l)) then 1 else 0 := rfl
  have d : fdeg A = if 0 < sz (A 3) then 3 else if 0 < sz (A 2) then 2 else if 0 < sz (A 1) then 1 else 0 := rfl
  rcases (show l = 0 ∨ l = 1 ∨ l = 2 ∨ l = 3 by omega) with rfl | rfl | rfl | rfl
  · rfl
  · rw [e, z (3 + 1) (by omega)]
    rw [d] at hl ⊢
    (repeat' split) <;> first | omega | (rename_i q1 q2 q3; simp at *; omega)
  · rw [e, z (3 + 2) (by omega), z (2 + 2) (by omega)]
    rw [d] at hl ⊢
    (repeat' split) <;> first | omega | (simp at *; omega)
  · rw [e, z (3 + 3) (by omega), z (2 + 3) (by omega), z (1 + 3) (by omega)]
    rw [d] at hl ⊢
    (repeat' split) <;> first | omega | (simp at *; omega)
theorem fSh_fSh (A : Fo) (l m : Nat) : fSh (fSh A l) m = fSh A (m + l) := by
  funext c
  show A (c + m + l) = A (c + (m + l))
  rw [Nat.add_assoc]
theorem OkF_sh {w : Nat} {A : Fo} (hA : OkF w A) (l : Nat) : OkF w (fSh A l) := ⟨fun c => hA.1 _, fun c hc => hA.2 _ (by omega)⟩
/-- the next of a cell is right -/
def gd (F : Nat → Fo) (s : CLs) (N : Nat → Int32) (c : Nat) : Prop := (fdeg (cfm F s c) = 1 → N c = -2) ∧ (2 ≤ fdeg (cfm F s c) → ∃ c', c' < s.1 ∧ N c = nI c' ∧ cfm F s c' = fSh (cfm F s c) 1)
theorem gd_A {F : Nat → Fo} {k l : Nat} {s : CLs} {N N' : Nat → Int32} {c : Nat} (hc : c < s.1) (h : gd F s N c) (hN : N' c = N c) : gd F (clA F k l s) N' c := by
  have ho := clA_old F k l s hc
  have hle := clA_le F k l s
  refine ⟨fun q => by rw [hN]; exact h.1 (by rw [← ho.2.2]; exact q), fun q => ?_⟩
  rw [ho.2.2] at q
  obtain ⟨c', h1, h2, h3⟩ := h.2 q
  exact ⟨c', by omega, by rw [hN]; exact h2, by rw [ho.2.2, (clA_old F k l s h1).2.2]; exact h3⟩
theorem gd_eq {P : Nat → Bool} {F : Nat → Fo} {n : Nat} {s : CLs} {N N' : Nat → Int32} {c : Nat} (hs : CI P F n s) (hpos : 0 < fdeg (cfm F s c)) (h : gd F s N c) (h' : gd F s N' c) : N c = N' c := by
  by_cases e : fdeg (cfm F s c) = 1
  · rw [h.1 e, h'.1 e]
  · obtain ⟨a, a1, a2, a3⟩ := h.2 (by omega)
    obtain ⟨b, b1, b2, b3⟩ := h'.2 (by omega)
    rw [a2, b2, hs.2 a b a1 b1 (a3.trans b3.symm)]
/-- the names whose products are made of cells -/
noncomputable def pcl (w n : Nat) (t o u : Nat → Nat) (s : Int32) : Nat → Bool := fun k => bt (ndd w n t o u s) k && (decide (t k = 4) && decide ((Rs w n t o u).2.2 k = 1))
noncomputable def cll (w n : Nat) (t o u : Nat → Nat) (s : Int32) : CLs := clN (pcl w n t o u s) (Rs w n t o u).2.1 n
theorem pcl_iff {w n : Nat} {t o u : Nat → Nat} {s : Int32} {k : Nat} : pcl w n t o u s k = true ↔ bt (ndd w n t o u s) k = true ∧ t k = 4 ∧ (Rs w n t o u).2.2 k = 1 := by
  unfold pcl
  simp only [Bool.and_eq_true, decide_eq_true_eq]
theorem pcl_ok {w n : Nat} {t o u : Nat → Nat} {s : Int32} (hW : WF w n t o u) (hn : n ≤ 30) (hw : 4 ≤ w) {k : Nat} (hk : k < n) (h : pcl w n t o u s k = true) : (Rs w n t o u).1 k = 0 ∧ OkF w ((Rs w n t o u).2.1 k) ∧ 0 < fdeg ((Rs w n t o u).2.1 k) := by
  obtain ⟨-, -, h1⟩ := pcl_iff.mp h
  obtain ⟨q1, q2, -⟩ := K_form (w := w) hW hn hk (by omega)
  exact ⟨q1, R_ok hW hn hw hk (by omega), q2 h1⟩
theorem cfm_ok {w n : Nat} {t o u : Nat → Nat} {S : Int32} (hW : WF w n t o u) (hn : n ≤ 30) (hw : 4 ≤ w) {s : CLs} (hs : CI (pcl w n t o u S) (Rs w n t o u).2.1 n s) {c : Nat} (hc : c < s.1) : OkF w (cfm (Rs w n t o u).2.1 s c) ∧ fdeg (cfm (Rs w n t o u).2.1 s c) = fdeg ((Rs w n t o u).2.1 (s.2.1 c)) - s.2.2 c ∧ 0 < fdeg (cfm (Rs w n t o u).2.1 s c) := by
  obtain ⟨h1, h2, h3⟩ := hs.1 c hc
  obtain ⟨-, o1, -⟩ := pcl_ok hW hn hw h1 h2
  have e : fdeg (cfm (Rs w n t o u).2.1 s c) = fdeg ((Rs w n t o u).2.1 (s.2.1 c)) - s.2.2 c := fdeg_sh o1 (by omega)
  exact ⟨OkF_sh o1 _, e, by rw [e]; omega⟩
