/-! forms of the class -/
theorem loop_in {α β : Type} {body : α → Option (α ⊕ β)} {a a' : α} {b : β} (hx : body a = some (.inl a')) (h : loop body a' = some b) : loop body a = some b := loop_eq body a hx h
theorem loop_out {α β : Type} {body : α → Option (α ⊕ β)} {a : α} {b : β} (hx : body a = some (.inr b)) : loop body a = some b := loop_eq body a hx rfl
def OkF (w : Nat) (A : Nat → Nat → Nat) : Prop := (∀ c, OkP w (A c)) ∧ ∀ c, 4 ≤ c → A c = fun _ => 0
def fx (w : Nat) (σ : Mem) (s : Nat) (A : Nat → Nat → Nat) : Prop := ∀ c, c < 4 → px w σ (4 * s + c) (A c)
/-- slot s has become A, and nothing else has changed -/
def XS (w s : Nat) (A : Nat → Nat → Nat) (σ τ : Mem) : Prop := PI w τ ∧ fx w τ s A ∧ FR [15, 16] σ τ ∧ ∀ q b, q / 4 ≠ s → px w σ q b → px w τ q b
/-- slot s has become something -/
def XW (w s : Nat) (σ τ : Mem) : Prop := PI w τ ∧ FR [15, 16] σ τ ∧ ∀ q b, q / 4 ≠ s → px w σ q b → px w τ q b
theorem XS_W {w s : Nat} {A : Nat → Nat → Nat} {σ τ : Mem} (h : XS w s A σ τ) : XW w s σ τ := ⟨h.1, h.2.2.1, h.2.2.2⟩
theorem XW_trans {w s : Nat} {σ τ ρ : Mem} (h : XW w s σ τ) (h2 : XW w s τ ρ) : XW w s σ ρ := ⟨h2.1, FR_trans h.2.1 h2.2.1, fun q b hq hp => h2.2.2 q b hq (h.2.2 q b hq hp)⟩
theorem XS_of {w s : Nat} {A : Nat → Nat → Nat} {σ τ ρ : Mem} (h : XW w s σ τ) (h2 : XS w s A τ ρ) : XS w s A σ ρ := ⟨h2.1, h2.2.1, FR_trans h.2.1 h2.2.2.1, fun q b hq hp => h2.2.2.2 q b hq (h.2.2 q b hq hp)⟩
theorem XW_fx {w s s' : Nat} {B : Nat → Nat → Nat} {σ τ : Mem} (h : XW w s σ τ) (hs : s' ≠ s) (hf : fx w σ s' B) : fx w τ s' B := fun c hc => h.2.2 _ _ (by omega) (hf c hc)
theorem XS_fx {w s s' : Nat} {A B : Nat → Nat → Nat} {σ τ : Mem} (h : XS w s A σ τ) (hs : s' ≠ s) (hf : fx w σ s' B) : fx w τ s' B := XW_fx (XS_W h) hs hf
def psets (σ : Mem) (s : Nat) (A : Nat → Nat → Nat) : Nat → Mem
  | 0 => σ
  | i + 1 => pset (psets σ s A i) (4 * s + i) (A i)
theorem psets_out {w : Nat} {σ : Mem} {s : Nat} {A : Nat → Nat → Nat} {q : Nat} {b : Nat → Nat} : ∀ {i : Nat}, (q < 4 * s ∨ 4 * s + i ≤ q) → px w σ q b → px w (psets σ s A i) q b
  | 0, _, h => h
  | i + 1, hq, h => px_pset_ne (psets_out (i := i) (by omega) h) (by omega)
theorem psets_in {w : Nat} {σ : Mem} {s : Nat} {A : Nat → Nat → Nat} (hA : ∀ c, OkP w (A c)) : ∀ {i c : Nat}, c < i → px w (psets σ s A i) (4 * s + c) (A c)
  | 0, _, h => absurd h (Nat.not_lt_zero _)
  | i + 1, c, h => by
    by_cases e : c = i
    · subst e; exact px_pset _ _ (hA c)
    · exact px_pset_ne (psets_in hA (i := i) (by omega)) (by omega)
theorem PI_psets {w : Nat} {σ : Mem} {s : Nat} {A : Nat → Nat → Nat} (h : PI w σ) (hs : s < 31) : ∀ {i : Nat}, i ≤ 4 → PI w (psets σ s A i)
  | 0, _ => h
  | i + 1, hi => PI_pset (PI_psets h hs (i := i) (by omega)) (by omega)
theorem FR_psets (σ : Mem) (s : Nat) (A : Nat → Nat → Nat) : ∀ i, FR [15, 16] σ (psets σ s A i)
  | 0 => FR_refl _ _
  | i + 1 => FR_trans (FR_psets σ s A i) (FR_psz _ _ _ _)
theorem XS_psets {w : Nat} {σ : Mem} {s : Nat} {A : Nat → Nat → Nat} (h : PI w σ) (hs : s < 31) (hA : ∀ c, OkP w (A c)) : XS w s A σ (psets σ s A 4) :=
  ⟨PI_psets h hs (Nat.le_refl _), fun c hc => psets_in hA hc, FR_psets _ _ _ _, fun q b hq hp => psets_out (by omega) hp⟩
def f0 : Nat → Nat → Nat := fun _ _ => 0
theorem OkF_0 (w : Nat) : OkF w f0 := ⟨fun _ => OkP_0 w, fun _ _ => rfl⟩
theorem n3 {i : Nat} (h : i < 4) : ¬ (3 : Int32) < nI i := nI_nlt (a := 3) (by omega) (by decide)
theorem n3' : (3 : Int32) < nI 4 := by decide
theorem X1_clear {w : Nat} {σ : Mem} {s : Nat} (h : PI w σ) (hs : s < 31) : fX1_clear (nI s) σ = some (psets σ s f0 4) := by
  have key : ok (loop (fun a => fX1_clear_B2 (nI s) a.1 a.2) (0, σ)) (fun b => b = psets σ s f0 4) := by
    refine ok_for' (enc := fun i (_ : Unit) => (nI i, psets σ s f0 i)) 4 (fun _ _ => True) (i0 := 0) (s0 := ()) (Nat.zero_le _) trivial ?_ ?_
    · intro i _ hi _
      dsimp only
      unfold fX1_clear_B2
      rw [if_neg (n3 hi), ix4, X_clear (PI_psets h hs (by omega)) (by omega)]
      exact ok_some ⟨(), by rw [nI_1]; rfl, trivial⟩
    · intro _ _
      dsimp only
      unfold fX1_clear_B2
      rw [if_pos n3']
      exact ok_some rfl
  obtain ⟨b, hb, rfl⟩ := key
  unfold fX1_clear fX1_clear_L25
  rw [hb]; rfl
def fOne (m v : Nat) : Nat → Nat → Nat := fun c => if c = 0 then one1 m v else fun _ => 0
theorem OkF_one {w m v : Nat} (hm : m < 343) (he : ex m ≤ 6) (hv : v < 2 ^ w) : OkF w (fOne m v) := by
  refine ⟨fun c => ?_, fun c hc => ?_⟩
  · unfold fOne
    by_cases e : c = 0
    · rw [if_pos e]; exact OkP_one hm he hv
    · rw [if_neg e]; exact OkP_0 w
  · unfold fOne; rw [if_neg (by omega)]
theorem X1_putOne {w : Nat} {σ : Mem} {s m v : Nat} (h : PI w σ) (hs : s < 31) (hm : m < 343) (he : ex m ≤ 6) (hv : v < 2 ^ w) : ok (fX1_putOne (nI s) (nI m) (nI v) σ) (XS w s (fOne m v) σ) := by
  have h1 := XS_psets (σ := σ) h hs (OkF_0 w).1
  have h2 : PI w (psets σ s f0 4) := h1.1
  unfold fX1_putOne
  rw [X1_clear h hs, Option.bind_some, ix4', X_putOne h2 (by omega) hm he hv]
  refine ok_some ⟨PI_pset h2 (by omega), fun c hc => ?_, FR_trans h1.2.2.1 (FR_psz _ _ _ _), fun q b hq hp => px_pset_ne (h1.2.2.2 q b hq hp) (by omega)⟩
  by_cases e : c = 0
  · subst e
    exact px_pset _ _ (OkP_one hm he hv)
  · have : fOne m v c = f0 c := by unfold fOne; rw [if_neg e]; rfl
    rw [this]
    exact px_pset_ne (h1.2.1 c hc) (by omega)
def fLin (w : Nat) (A : Nat → Nat → Nat) (t : Nat) (B : Nat → Nat → Nat) : Nat → Nat → Nat := fun c => lin w (A c) t (B c)
theorem lin_0 (w t : Nat) : lin w (fun _ => 0) t (fun _ => 0) = fun _ => 0 := by
  funext m; unfold lin; rw [Nat.mul_zero, Nat.zero_add, Nat.zero_mod]
theorem OkF_lin {w : Nat} {A B : Nat → Nat → Nat} (hA : OkF w A) (hB : OkF w B) (t : Nat) : OkF w (fLin w A t B) := ⟨fun c => OkP_lin (hA.1 c) (hB.1 c) t, fun c hc => by unfold fLin; rw [hA.2 c hc, hB.2 c hc, lin_0]⟩
theorem X1_putSum {w : Nat} {σ : Mem} {s s1 s2 : Nat} {A B : Nat → Nat → Nat} (h : PI w σ) (hs : s < 31) (hs1 : s1 < 31) (hs2 : s2 < 31) (hA : OkF w A) (hB : OkF w B) (fA : fx w σ s1 A) (fB : fx w σ s2 B) (t : Int32) : ok (fX1_putSum (nI s) (nI s1) (nI s2) t σ) (XS w s (fLin w A (mI w t) B) σ) := by
  obtain ⟨C, hC⟩ : ∃ C, C = fLin w A (mI w t) B := ⟨_, rfl⟩
  have oC : OkF w C := by rw [hC]; exact OkF_lin hA hB _
  rw [← hC]
  have key : ok (loop (fun a => fX1_putSum_B3 (nI s) (nI s1) (nI s2) t a.1 a.2) (0, σ)) (fun b => b = psets σ s C 4) := by
    refine ok_for' (enc := fun i (_ : Unit) => (nI i, psets σ s C i)) 4 (fun _ _ => True) (i0 := 0) (s0 := ()) (Nat.zero_le _) trivial ?_ ?_
    · intro i _ hi _
      dsimp only
      unfold fX1_putSum_B3
      rw [if_neg (n3 hi), ix4, ix4, ix4, X_putSum (PI_psets h hs (by omega)) (by omega) (by omega) (by omega) (psets_out (by omega) (fA i hi)) (psets_out (by omega) (fB i hi))]
      exact ok_some ⟨(), by rw [nI_1]; show _ = (nI (i + 1), pset _ _ (C i)); rw [hC]; rfl, trivial⟩
    · intro _ _
      dsimp only
      unfold fX1_putSum_B3
      rw [if_pos n3']
      exact ok_some rfl
  obtain ⟨b, hb, rfl⟩ := key
  unfold fX1_putSum fX1_putSum_L42
  rw [hb]
  exact ok_some (XS_psets h hs oC.1)
theorem X1_putTimes {w : Nat} {σ : Mem} {s s2 : Nat} {B : Nat → Nat → Nat} (h : PI w σ) (hs : s < 31) (hs2 : s2 < 31) (hB : OkF w B) (fB : fx w σ s2 B) (t : Int32) : ok (fX1_putTimes (nI s) (nI s2) t σ) (XS w s (fLin w f0 (mI w t) B) σ) := by
  obtain ⟨C, hC⟩ : ∃ C, C = fLin w f0 (mI w t) B := ⟨_, rfl⟩
  have oC : OkF w C := by rw [hC]; exact OkF_lin (OkF_0 w) hB _
  rw [← hC]
  have key : ok (loop (fun a => fX1_putTimes_B3 (nI s) (nI s2) t a.1 a.2) (0, σ)) (fun b => b = psets σ s C 4) := by
    refine ok_for' (enc := fun i (_ : Unit) => (nI i, psets σ s C i)) 4 (fun _ _ => True) (i0 := 0) (s0 := ()) (Nat.zero_le _) trivial ?_ ?_
    · intro i _ hi _
      dsimp only
      unfold fX1_putTimes_B3
      rw [if_neg (n3 hi), ix4, ix4]
      show ok ((fX5_putSum (nI (4 * s + i)) (nI 124) (nI (4 * s2 + i)) t (psets σ s C i)).bind _) _
      rw [X_putSum (PI_psets h hs (by omega)) (by omega) (by omega) (by omega) (PI_psets h hs (by omega)).2.2 (psets_out (by omega) (fB i hi))]
      exact ok_some ⟨(), by rw [nI_1]; show _ = (nI (i + 1), pset _ _ (C i)); rw [hC]; rfl, trivial⟩
    · intro _ _
      dsimp only
      unfold fX1_putTimes_B3
      rw [if_pos n3']
      exact ok_some rfl
  obtain ⟨b, hb, rfl⟩ := key
  unfold fX1_putTimes fX1_putTimes_L37
  rw [hb]
  exact ok_some (XS_psets h hs oC.1)
theorem lin_id {w : Nat} {a : Nat → Nat} (ha : OkP w a) : lin w a 1 (fun _ => 0) = a := by
  funext m; unfold lin; rw [Nat.mul_zero, Nat.add_zero, Nat.mod_eq_of_lt (ha.1 m)]
theorem mI_1 {w : Nat} (h : 4 ≤ w ∧ w ≤ 16) : mI w 1 = 1 := by
  show mI w (nI 1) = 1
  rw [mI_nI h.2, Nat.mod_eq_of_lt]
  exact Nat.lt_of_lt_of_le (by decide) (Nat.pow_le_pow_right (by decide) h.1)
theorem mI_m1 {w : Nat} (h : 4 ≤ w ∧ w ≤ 16) : mI w (-1) = 2 ^ w - 1 := by
  rw [mI_neg h.2, mI_1 h, Nat.mod_eq_of_lt]
  have := pw_pos w
  omega
/-- copying a poly -/
theorem X_copy {w : Nat} {σ : Mem} {q q1 : Nat} {a : Nat → Nat} (h : PI w σ) (hq : q < 124) (hq1 : q1 < 125) (ha : px w σ q1 a) : fX5_putSum (nI q) (nI q1) 124 1 σ = some (pset σ q a) := by
  have e := X_putSum h hq hq1 (q2 := 124) (by omega) ha h.2.2 1
  rw [mI_1 h.1.1, lin_id ha.1] at e
  exact e
def fdeg (A : Nat → Nat → Nat) : Nat := if 0 < sz (A 3) then 3 else if 0 < sz (A 2) then 2 else if 0 < sz (A 1) then 1 else 0
theorem X1_degree {w : Nat} {σ : Mem} {s : Nat} {A : Nat → Nat → Nat} (hs : s < 31) (hA : fx w σ s A) : fX1_degree (nI s) σ = some (nI (fdeg A), σ) := by
  have e : ∀ c, c < 4 → σ 16 (4 * s + c) = nI (sz (A c)) := fun c hc => (hA c hc).2.2
  have l : ∀ c, sz (A c) ≤ 84 := fun c => sz_le _
  have z : ∀ c, (nI (sz (A c)) ≤ 0) = (sz (A c) = 0) := fun c => propext ⟨fun h => by
    have := (nI_leI (b := 0) (by have := l c; omega) (by decide)).mp h; omega, fun h => by rw [h]; decide⟩
  have b : ∀ c, c < 4 → 0 < c → fX1_degree_B2 (nI s) (nI c) σ = if sz (A c) = 0 then some (.inl (nI (c - 1), σ)) else some (.inr (.inr (nI c, σ))) := by
    intro c hc h0
    unfold fX1_degree_B2
    rw [if_neg (nI_nle h0 (by omega))]
    simp (disch := omega) only [ix4, chk_in, nI_clamp, e c hc, z]
    obtain ⟨d, rfl⟩ : ∃ d, c = d + 1 := ⟨c - 1, by omega⟩
    rw [pk_m1, Nat.add_sub_cancel]
  have b0 : fX1_degree_B2 (nI s) (nI 0) σ = some (.inr (.inl σ)) := by
    unfold fX1_degree_B2
    rw [if_pos (by decide)]
  have b1 := b 1 (by omega) (by omega)
  have b2 := b 2 (by omega) (by omega)
  have b3 := b 3 (by omega) (by omega)
  have key : loop (fun a => fX1_degree_B2 (nI s) a.1 a.2) (nI 3, σ) = some (if fdeg A = 0 then .inl σ else .inr (nI (fdeg A), σ)) := by
    by_cases c3 : sz (A 3) = 0
    · rw [if_pos c3] at b3
      by_cases c2 : sz (A 2) = 0
      · rw [if_pos c2] at b2
        by_cases c1 : sz (A 1) = 0
        · rw [if_pos c1] at b1
          have hd : fdeg A = 0 := by unfold fdeg; rw [if_neg (by omega), if_neg (by omega), if_neg (by omega)]
          rw [if_pos hd]
          exact loop_in b3 (loop_in b2 (loop_in b1 (loop_out b0)))
        · rw [if_neg c1] at b1
          have hd : fdeg A = 1 := by unfold fdeg; rw [if_neg (by omega), if_neg (by omega), if_pos (by omega)]
          rw [hd, if_neg (by decide)]
          exact loop_in b3 (loop_in b2 (loop_out b1))
      · rw [if_neg c2] at b2
        have hd : fdeg A = 2 := by unfold fdeg; rw [if_neg (by omega), if_pos (by omega)]
        rw [hd, if_neg (by decide)]
        exact loop_in b3 (loop_out b2)
    · rw [if_neg c3] at b3
      have hd : fdeg A = 3 := by unfold fdeg; rw [if_pos (by omega)]
      rw [hd, if_neg (by decide)]
      exact loop_out b3
  unfold fX1_degree fX1_degree_L30
  show (loop _ (nI 3, σ)).bind _ = _
  rw [key, Option.bind_some]
  by_cases c : fdeg A = 0
  · rw [if_pos c, c]; rfl
  · rw [if_neg c]; rfl
