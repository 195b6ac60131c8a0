/-! what is needed -/
def nk (t K : Nat → Nat) (k : Nat) : Bool := !(decide (K k = 0) || (decide (t k = 4) && decide (K k = 1)))
def ns1 (t o u K : Nat → Nat) (k : Nat) (s : Int32) : Int32 := if bt s k = true ∧ nk t K k = true then s ||| dr t o u k else s
def nsw (t o u K : Nat → Nat) : Nat → Int32 → Int32
  | 0, s => s
  | k + 1, s => ns1 t o u K k (nsw t o u K k s)
def nit (n : Nat) (t o u K : Nat → Nat) : Nat → Int32 → Int32
  | 0, s => s
  | p + 1, s => nsw t o u K n (nit n t o u K p s)
def lowb (n : Nat) (s : Int32) : Prop := ∀ i, n ≤ i → i < 32 → bt s i = false
theorem lowb_nsw {w n : Nat} {t o u K : Nat → Nat} (hW : WF w n t o u) (hn : n ≤ 30) {s : Int32} (h : lowb n s) : ∀ k, k ≤ n → lowb n (nsw t o u K k s)
  | 0, _ => h
  | k + 1, hk => by
    have ih := lowb_nsw (K := K) hW hn h k (by omega)
    intro i hi hi2
    show bt (ns1 t o u K k (nsw t o u K k s)) i = false
    unfold ns1
    split
    · rw [b_or, ih i hi hi2, bt_dr hW hn (by omega) hi2, Bool.false_or]
      cases q : eg t o u k i
      · rfl
      · have := eg_lt hW (show k < n by omega) q; omega
    · exact ih i hi hi2
theorem lowb_nit {w n : Nat} {t o u K : Nat → Nat} (hW : WF w n t o u) (hn : n ≤ 30) {s : Int32} (h : lowb n s) : ∀ p, lowb n (nit n t o u K p s)
  | 0 => h
  | p + 1 => lowb_nsw hW hn (lowb_nit hW hn h p) n (Nat.le_refl n)
theorem nsw_grow {t o u K : Nat → Nat} {s : Int32} {i : Nat} (h : bt s i = true) : ∀ k, bt (nsw t o u K k s) i = true
  | 0 => h
  | k + 1 => by
    show bt (ns1 t o u K k (nsw t o u K k s)) i = true
    unfold ns1
    split
    · rw [b_or, nsw_grow h k, Bool.true_or]
    · exact nsw_grow h k
theorem nsw_more {w n : Nat} {t o u K : Nat → Nat} (hW : WF w n t o u) (hn : n ≤ 30) {s : Int32} (h : lowb n s) (hne : nsw t o u K n s ≠ s) : fb_ct (bt s) n < fb_ct (bt (nsw t o u K n s)) n := by
  have hex : ∃ j, j < n ∧ bt s j = false ∧ bt (nsw t o u K n s) j = true := by
    apply Classical.byContradiction
    intro hno
    apply hne
    refine b_ext (fun j hj => ?_)
    rcases Nat.lt_or_ge j n with hjn | hjn
    · cases q : bt s j
      · cases q2 : bt (nsw t o u K n s) j
        · rfl
        · exact absurd ⟨j, hjn, q, q2⟩ hno
      · exact nsw_grow q n
    · rw [h j hjn hj, lowb_nsw hW hn h n (Nat.le_refl n) j hjn hj]
  obtain ⟨j, h1, h2, h3⟩ := hex
  exact ct_strict (x := j) (fun i _ hi => nsw_grow hi n) h1 h2 h3
def FP (n : Nat) (t o u K : Nat → Nat) (s : Int32) (p : Nat) : Prop := nsw t o u K n (nit n t o u K p s) = nit n t o u K p s
theorem FP_stay {n : Nat} {t o u K : Nat → Nat} {s : Int32} {p : Nat} (h : FP n t o u K s p) : ∀ m, nit n t o u K (p + m) s = nit n t o u K p s
  | 0 => rfl
  | m + 1 => by
    show nsw t o u K n (nit n t o u K (p + m) s) = _
    rw [FP_stay h m]; exact h
theorem nsw_0 {t o u K : Nat → Nat} : ∀ k, nsw t o u K k 0 = 0
  | 0 => rfl
  | k + 1 => by
    show ns1 t o u K k (nsw t o u K k 0) = 0
    rw [nsw_0 k]
    unfold ns1
    rw [if_neg (fun q => by rw [b_0] at q; exact absurd q.1 (by decide))]
theorem FP_count {w n : Nat} {t o u K : Nat → Nat} (hW : WF w n t o u) (hn : n ≤ 30) {s : Int32} (h : lowb n s) : ∀ p, (∃ p', p' ≤ p ∧ FP n t o u K s p') ∨ p + 1 ≤ fb_ct (bt (nit n t o u K p s)) n
  | 0 => by
    rcases Nat.eq_zero_or_pos (fb_ct (bt s) n) with q | q
    · left
      have hz : s = 0 := b_ext (fun j hj => by
        rw [b_0]
        rcases Nat.lt_or_ge j n with hjn | hjn
        · exact fb_ct_zero.mp q j hjn
        · exact h j hjn hj)
      refine ⟨0, Nat.le_refl _, ?_⟩
      show nsw t o u K n s = s
      rw [hz, nsw_0]
    · exact Or.inr q
  | p + 1 => by
    rcases FP_count (K := K) hW hn h p with ⟨p', h1, h2⟩ | h1
    · exact Or.inl ⟨p', by omega, h2⟩
    · by_cases c : FP n t o u K s p
      · exact Or.inl ⟨p, by omega, c⟩
      · have := nsw_more hW hn (lowb_nit hW hn h p) c
        exact Or.inr (by show p + 1 + 1 ≤ fb_ct (bt (nsw t o u K n (nit n t o u K p s))) n; omega)
theorem FP_n {w n : Nat} {t o u K : Nat → Nat} (hW : WF w n t o u) (hn : n ≤ 30) {s : Int32} (h : lowb n s) : FP n t o u K s n := by
  rcases FP_count (K := K) hW hn h n with ⟨p', h1, h2⟩ | h1
  · have e := FP_stay h2 (n - p')
    rw [show p' + (n - p') = n by omega] at e
    unfold FP
    rw [e]; exact h2
  · have := fb_ct_le (bt (nit n t o u K n s)) n
    omega
theorem FP_eq {w n : Nat} {t o u K : Nat → Nat} (hW : WF w n t o u) (hn : n ≤ 30) {s : Int32} (h : lowb n s) {p : Nat} (hp : FP n t o u K s p) : nit n t o u K n s = nit n t o u K p s := by
  rcases Nat.le_total p n with q | q
  · have e := FP_stay hp (n - p)
    rw [show p + (n - p) = n by omega] at e
    exact e
  · have e := FP_stay (FP_n (K := K) hW hn h) (p - n)
    rw [show n + (p - n) = p by omega] at e
    exact e.symm
/-- what is needed for a set, by the spec's kinds -/
noncomputable def ndd (w n : Nat) (t o u : Nat → Nat) (s : Int32) : Int32 := nit n t o u (Rs w n t o u).2.2 n s
theorem X_isOfCells {w n : Nat} {t o u : Nat → Nat} {σ : Mem} (hW : WF w n t o u) (hN : NX n t o u σ) (hC : XC w n t o u σ) {k : Nat} (hk : k < n) : fX4_isOfCells (nI k) σ = some (if t k = 4 ∧ (Rs w n t o u).2.2 k = 1 then 1 else 0, σ) := by
  have h30 := hN.1
  have k4 := K_le (w := w) hW h30 hk
  obtain ⟨e8, -⟩ := hN.2.2 k hk
  have e20 := (hC.2.2 k hk).2.1
  unfold fX4_isOfCells fX4_isOfCells_L30 fX4_isOfCells_L31
  rw [chk_in (by omega) (by decide), nI_clamp (by omega), e8, e20]
  by_cases c4 : t k = 4
  · rw [if_pos (by rw [c4]; rfl), chk_in (by omega) (by decide)]
    by_cases c1 : (Rs w n t o u).2.2 k = 1
    · rw [if_pos (by rw [c1]; rfl), if_pos ⟨c4, c1⟩]; rfl
    · rw [if_neg (show ¬ nI _ = 1 from fun e => c1 ((nI_eq (b := 1) (by omega) (by decide)).mp e)), if_neg (fun q => c1 q.2)]; rfl
  · rw [if_neg (t_n4 hW hk c4), if_neg (fun q => c4 q.1)]; rfl
theorem X_neededFor {w n : Nat} {t o u : Nat → Nat} {σ : Mem} (hW : WF w n t o u) (hN : NX n t o u σ) (hC : XC w n t o u σ) {s : Int32} (hs : lowb n s) : fX4_neededFor s σ = some (ndd w n t o u s, σ) := by
  have h30 := hN.1
  obtain ⟨K, hK⟩ : ∃ K, K = (Rs w n t o u).2.2 := ⟨_, rfl⟩
  have sweep : ∀ (x l3 l2 : Int32), loop (fun a => fX4_neededFor_B21 l2 l3 a.1 a.2.1 a.2.2) (x, 0, σ) = some (nsw t o u K n x, σ) := by
    intro x l3 l2
    have key : ok (loop (fun a => fX4_neededFor_B21 l2 l3 a.1 a.2.1 a.2.2) (x, 0, σ)) (fun b => b = (nsw t o u K n x, σ)) := by
      refine ok_for' (enc := fun k (_ : Unit) => (nsw t o u K k x, nI k, σ)) n (fun _ _ => True) (i0 := 0) (s0 := ()) (Nat.zero_le _) trivial ?_ ?_
      · intro k _ hk _
        dsimp only
        have k4 : K k ≤ 4 := by rw [hK]; exact K_le (w := w) hW h30 hk
        have e20 : σ 20 k = nI (K k) := by rw [hK]; exact (hC.2.2 k hk).2.1
        have hic := X_isOfCells hW hN hC hk
        rw [← hK] at hic
        unfold fX4_neededFor_B21 fX4_neededFor_L79
        rw [hN.2.1, if_neg (nI_ge hk (by omega)), isInE _ (by omega), Option.bind_some]
        dsimp only
        have hs1 : nsw t o u K (k + 1) x = ns1 t o u K k (nsw t o u K k x) := rfl
        rw [nI_1]
        by_cases cb : bt (nsw t o u K k x) k = true
        · rw [if_pos cb, if_neg (by decide), chk_in (by omega) (by decide), nI_clamp (by omega)]
          by_cases c0 : K k = 0
          · refine ok_pos (show σ 20 k = 0 by rw [e20, c0]; rfl) ?_
            refine ok_some ⟨(), ?_, trivial⟩
            rw [hs1]; unfold ns1
            rw [if_neg (fun q => by have := q.2; unfold nk at this; simp [c0] at this)]
          · refine ok_neg (show ¬ σ 20 k = 0 by rw [e20]; exact nI_ne0 (by omega) (by omega)) ?_
            rw [hic, Option.bind_some]
            dsimp only
            by_cases cc : t k = 4 ∧ K k = 1
            · rw [if_pos cc, if_neg (by decide)]
              refine ok_some ⟨(), ?_, trivial⟩
              rw [hs1]; unfold ns1
              rw [if_neg (fun q => by have := q.2; unfold nk at this; simp [cc.1, cc.2] at this)]
            · rw [if_neg cc, if_pos rfl, X_parts hW hN hk, Option.bind_some]
              refine ok_some ⟨(), ?_, trivial⟩
              rw [hs1]; unfold ns1
              rw [if_pos ⟨cb, by unfold nk; simp [c0]; exact Decidable.not_and_iff_or_not.mp cc⟩]
        · rw [if_neg cb, if_pos rfl]
          refine ok_some ⟨(), ?_, trivial⟩
          rw [hs1]; unfold ns1
          rw [if_neg (fun q => cb q.1)]
      · intro _ _
        dsimp only
        unfold fX4_neededFor_B21
        rw [hN.2.1, if_pos (Int32.le_refl _)]
        exact ok_some rfl
    obtain ⟨b, hb, rfl⟩ := key
    exact hb
  have key : ok (loop (fun a => fX4_neededFor_B4 a.1 a.2.1 a.2.2) (s, 0, σ)) (fun b => b = (nit n t o u K n s, σ)) := by
    refine ok_for' (enc := fun p (_ : Unit) => (nit n t o u K p s, nI p, σ)) n (fun _ _ => True) (i0 := 0) (s0 := ()) (Nat.zero_le _) trivial ?_ ?_
    · intro p _ hp _
      dsimp only
      unfold fX4_neededFor_B4 fX4_neededFor_L85
      rw [hN.2.1, if_neg (nI_ge hp (by omega)), sweep, Option.bind_some, nI_1]
      dsimp only
      by_cases c : nsw t o u K n (nit n t o u K p s) = nit n t o u K p s
      · rw [if_pos c]
        refine ok_some ?_
        show (_, σ) = _
        rw [FP_eq hW h30 hs c]
      · rw [if_neg c]
        exact ok_some ⟨(), rfl, trivial⟩
    · intro _ _
      dsimp only
      unfold fX4_neededFor_B4
      rw [hN.2.1, if_pos (Int32.le_refl _)]
      exact ok_some rfl
  obtain ⟨b, hb, rfl⟩ := key
  unfold fX4_neededFor fX4_neededFor_L103 ndd
  rw [hb, Option.bind_some, hK]
theorem M_neededBy {w n : Nat} {t o u : Nat → Nat} {σ : Mem} (hW : WF w n t o u) (hN : NM n t o u σ) (hC : MC w n t o u σ) {s : Int32} (hs : lowb n s) : fX8_neededBy s σ = some (ndd w n t o u s, σ) := by
  have h30 := hN.1
  obtain ⟨K, hK⟩ : ∃ K, K = (Rs w n t o u).2.2 := ⟨_, rfl⟩
  have sweep : ∀ (x l3 : Int32), loop (fun a => fX8_neededBy_B14 a.1 l3 a.2.1 a.2.2) (x, 0, σ) = some (nsw t o u K n x, σ) := by
    intro x l3
    have key : ok (loop (fun a => fX8_neededBy_B14 a.1 l3 a.2.1 a.2.2) (x, 0, σ)) (fun b => b = (nsw t o u K n x, σ)) := by
      refine ok_for' (enc := fun k (_ : Unit) => (nsw t o u K k x, nI k, σ)) n (fun _ _ => True) (i0 := 0) (s0 := ()) (Nat.zero_le _) trivial ?_ ?_
      · intro k _ hk _
        dsimp only
        have k4 : K k ≤ 4 := by rw [hK]; exact K_le (w := w) hW h30 hk
        have e7 : σ 7 k = nI (K k) := by rw [hK]; exact (hC.2.2 k hk).2.1
        obtain ⟨e2, -⟩ := hN.2.2 k hk
        have hs1 : nsw t o u K (k + 1) x = ns1 t o u K k (nsw t o u K k x) := rfl
        have L60 : ∀ f : Int32, (f = 0 ∧ nk t K k = true) ∨ (f = 1 ∧ nk t K k = false) → ok (fX8_neededBy_L60 (nsw t o u K k x) l3 (nI k) f σ) (Sum.elim (fun a' => ∃ s' : Unit, a' = (nsw t o u K (k + 1) x, nI (k + 1), σ) ∧ True) (fun b => b = (nsw t o u K n x, σ))) := by
          intro f hf
          unfold fX8_neededBy_L60 fX8_neededBy_L86 fX8_neededBy_L87
          rw [hasE _ (by omega), Option.bind_some, nI_1]
          dsimp only
          have or0 : ∀ y : Int32, y ||| 0 = y := fun y => b_ext (fun j _ => by rw [b_or, b_0, Bool.or_false])
          by_cases cb : bt (nsw t o u K k x) k = true
          · rw [if_pos cb, if_neg (by decide)]
            rcases hf with ⟨rfl, hn⟩ | ⟨rfl, hn⟩
            · rw [if_pos rfl, M_direct hW hN hk, Option.bind_some]
              refine ok_some ⟨(), ?_, trivial⟩
              rw [hs1]; unfold ns1
              rw [if_pos ⟨cb, hn⟩]
            · rw [if_neg (by decide), or0]
              refine ok_some ⟨(), ?_, trivial⟩
              rw [hs1]; unfold ns1
              rw [if_neg (fun q => by rw [hn] at q; exact absurd q.2 (by decide))]
          · rw [if_neg cb, if_pos rfl, or0]
            refine ok_some ⟨(), ?_, trivial⟩
            rw [hs1]; unfold ns1
            rw [if_neg (fun q => cb q.1)]
        unfold fX8_neededBy_B14 fX8_neededBy_L55 fX8_neededBy_L59
        rw [hN.2.1, if_neg (nI_ge hk (by omega)), chk_in (by omega) (by decide), chk_in (by omega) (by decide), chk_in (by omega) (by decide), nI_clamp (by omega), e7, e2]
        by_cases c0 : K k = 0
        · rw [if_pos (by rw [c0]; rfl)]
          exact L60 1 (Or.inr ⟨rfl, by unfold nk; simp [c0]⟩)
        · rw [if_neg (nI_ne0 (by omega) (by omega))]
          by_cases c4 : t k = 4
          · rw [if_pos (by rw [c4]; rfl)]
            by_cases c1 : K k = 1
            · rw [if_pos (by rw [c1]; rfl)]
              exact L60 1 (Or.inr ⟨rfl, by unfold nk; simp [c1, c4]⟩)
            · rw [if_neg (show ¬ nI _ = 1 from fun e => c1 ((nI_eq (b := 1) (by omega) (by decide)).mp e))]
              exact L60 0 (Or.inl ⟨rfl, by unfold nk; simp [c0, c1]⟩)
          · rw [if_neg (t_n4 hW hk c4)]
            exact L60 0 (Or.inl ⟨rfl, by unfold nk; simp [c0, c4]⟩)
      · intro _ _
        dsimp only
        unfold fX8_neededBy_B14
        rw [hN.2.1, if_pos (Int32.le_refl _)]
        exact ok_some rfl
    obtain ⟨b, hb, rfl⟩ := key
    exact hb
  have key : ok (loop (fun a => fX8_neededBy_B4 a.1 a.2.1 a.2.2) (s, 0, σ)) (fun b => b = (nit n t o u K n s, σ)) := by
    refine ok_loop (fun a : Int32 × Int32 × Mem => a.2.2 = σ ∧ ∃ p, a.1 = nit n t o u K p s ∧ ((p = 0 ∧ a.2.1 = 0) ∨ ∃ q, p = q + 1 ∧ a.2.1 = nit n t o u K q s)) (fun a => 2 * (n - fb_ct (bt a.1) n) + (if a.2.1 = a.1 then 0 else 1)) ⟨rfl, 0, rfl, Or.inl ⟨rfl, rfl⟩⟩ ?_
    rintro ⟨x, y, τ⟩ ⟨e, p, hx, hy⟩
    dsimp only at e hx hy ⊢
    subst e
    unfold fX8_neededBy_B4 fX8_neededBy_L95
    by_cases c : y = x
    · rw [if_pos c]
      refine ok_some ?_
      show (x, τ) = _
      have : nit n t o u K n s = x := by
        rcases hy with ⟨h1, h2⟩ | ⟨q, h1, h2⟩
        · have hz : s = 0 := by rw [h1] at hx; rw [← c, h2] at hx; exact hx.symm
          have f0 : FP n t o u K s 0 := by
            show nsw t o u K n s = s
            rw [hz, nsw_0]
          rw [FP_eq hW h30 hs f0, hx, h1]
        · have fq : FP n t o u K s q := by
            show nit n t o u K (q + 1) s = nit n t o u K q s
            rw [← h1, ← hx, ← h2]; exact c.symm
          rw [FP_eq hW h30 hs fq, ← h2]; exact c
      rw [this]
    · rw [if_neg c, sweep, Option.bind_some]
      dsimp only
      have hl := fb_ct_le (bt (nsw t o u K n x)) n
      refine ok_some ⟨⟨rfl, p + 1, by rw [hx]; rfl, Or.inr ⟨p, rfl, hx⟩⟩, ?_⟩
      dsimp only
      rw [if_neg c]
      by_cases d : x = nsw t o u K n x
      · rw [if_pos d, ← d]; omega
      · rw [if_neg d]
        have := nsw_more (K := K) hW h30 (s := x) (by rw [hx]; exact lowb_nit hW h30 hs p) (fun z => d z.symm)
        omega
  obtain ⟨b, hb, rfl⟩ := key
  unfold fX8_neededBy fX8_neededBy_L98 ndd
  rw [hb, Option.bind_some, hK]
