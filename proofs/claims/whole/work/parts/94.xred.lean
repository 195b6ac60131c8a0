/-! the reduced run: what is needed, cells -/
theorem nsw_mono {t o u K : Nat → Nat} {s : Int32} {i k : Nat} (h : bt (nsw t o u K k s) i = true) : ∀ m, bt (nsw t o u K (k + m) s) i = true
  | 0 => h
  | m + 1 => by
    show bt (ns1 t o u K (k + m) (nsw t o u K (k + m) s)) i = true
    unfold ns1
    split
    · rw [b_or, nsw_mono h m]; rfl
    · exact nsw_mono h m
theorem nd_sub {w n : Nat} {t o u : Nat → Nat} {s : Int32} {i : Nat} (h : bt s i = true) : bt (ndd w n t o u s) i = true := by
  unfold ndd
  have : ∀ p, bt (nit n t o u (Rs w n t o u).2.2 p s) i = true := by
    intro p
    induction p with
    | zero => exact h
    | succ p ih => exact nsw_grow ih n
  exact this n
theorem nd_closed {w n : Nat} {t o u : Nat → Nat} {s : Int32} (hW : WF w n t o u) (hn : n ≤ 30) (hs : lowb n s) {k j : Nat} (hk : k < n) (h : bt (ndd w n t o u s) k = true) (hnk : nk t (Rs w n t o u).2.2 k = true) (he : eg t o u k j = true) (hj : j < 32) : bt (ndd w n t o u s) j = true := by
  have fp : nsw t o u (Rs w n t o u).2.2 n (ndd w n t o u s) = ndd w n t o u s := FP_n (K := (Rs w n t o u).2.2) hW hn hs
  rw [← fp]
  have h1 : bt (nsw t o u (Rs w n t o u).2.2 (k + 1) (ndd w n t o u s)) j = true := by
    show bt (ns1 t o u (Rs w n t o u).2.2 k (nsw t o u (Rs w n t o u).2.2 k (ndd w n t o u s))) j = true
    unfold ns1
    rw [if_pos ⟨nsw_grow h k, hnk⟩, b_or, bt_dr hW hn hk hj, he, Bool.or_true]
  have := nsw_mono h1 (n - (k + 1))
  rwa [show k + 1 + (n - (k + 1)) = n by omega] at this
theorem K_given {w n : Nat} {t o u : Nat → Nat} (hW : WF w n t o u) (hn : n ≤ 30) (hw : 4 ≤ w) {i : Nat} (hi : i < n) (h : t i ≤ 1) : (Rs w n t o u).2.2 i = 0 := by
  obtain ⟨e1, e2⟩ := (AI_R hW hn hw hi).2 h
  obtain ⟨z, -, hk, -⟩ := KD_R (w := w) hW hn hi
  have hz : ∀ (m v c : Nat), 0 < c → sz (fOne m v c) = 0 := by
    intro m v c hc
    have : fOne m v c = fun _ => 0 := by
      unfold fOne
      rw [if_neg (by omega)]
    rw [this]; exact sz_0f
  have hd : ∀ m v, fdeg (fOne m v) = 0 := by
    intro m v
    unfold fdeg
    rw [hz m v 3 (by decide), hz m v 2 (by decide), hz m v 1 (by decide)]; rfl
  have hF : fdeg (fGiv t o i) = 0 := by
    unfold fGiv
    split
    · exact hd _ _
    · exact hd _ _
  rw [hk, e1, e2]
  unfold kd
  rw [if_neg (by decide), if_neg (by decide), hF]; rfl
/-- what a cell of this form holds in turn T -/
def cfv (w : Nat) (g : Nat → Nat) : Nat → Fo → Nat
  | 0, A => ev w g (A 0)
  | T + 1, A => (cfv w g T A + (if fdeg A = 1 then ev w g (A 1) else cfv w g T (fSh A 1))) % 2 ^ w
theorem cfv_lt (w : Nat) (g : Nat → Nat) : ∀ (T : Nat) (A : Fo), cfv w g T A < 2 ^ w
  | 0, A => ev_lt _ _ _
  | T + 1, A => Nat.mod_lt _ (pw_pos w)
noncomputable def vrd (w n : Nat) (t o u g : Nat → Nat) (T k : Nat) : Nat := rv w t o u (gn t o g) (fun k => !nk t (Rs w n t o u).2.2 k) (fun T k => if (Rs w n t o u).2.2 k = 0 then ev w g ((Rs w n t o u).2.1 k 0) else cfv w g T ((Rs w n t o u).2.1 k)) T k
theorem vrd_lt {w n : Nat} {t o u g : Nat → Nat} (hW : WF w n t o u) (hg : ∀ k, g k < 2 ^ w) (T k : Nat) (hk : k < n) : vrd w n t o u g T k < 2 ^ w := rv_lt hW hg (fun T k hk h => by
  split
  · exact ev_lt _ _ _
  · exact cfv_lt _ _ _ _) T k hk
theorem nk_0 {t K : Nat → Nat} {k : Nat} (h : K k = 0) : nk t K k = false := by unfold nk; simp [h]
theorem nk_1 {t K : Nat → Nat} {k : Nat} (h4 : t k = 4) (h : K k = 1) : nk t K k = false := by unfold nk; simp [h, h4]
theorem nk_t {t K : Nat → Nat} {k : Nat} (h0 : K k ≠ 0) (h : ¬ (t k = 4 ∧ K k = 1)) : nk t K k = true := by
  unfold nk
  by_cases c : t k = 4
  · have : K k ≠ 1 := fun e => h ⟨c, e⟩
    simp [h0, c, this]
  · simp [h0, c]
theorem vrd_s {w n : Nat} {t o u g : Nat → Nat} {T k : Nat} (h : (Rs w n t o u).2.2 k = 0) : vrd w n t o u g T k = ev w g ((Rs w n t o u).2.1 k 0) := by
  unfold vrd
  rw [rv_ix (ix := fun k => !nk t (Rs w n t o u).2.2 k) (by rw [nk_0 h]; rfl), if_pos h]
theorem vrd_c {w n : Nat} {t o u g : Nat → Nat} {T k : Nat} (h4 : t k = 4) (h : (Rs w n t o u).2.2 k = 1) : vrd w n t o u g T k = cfv w g T ((Rs w n t o u).2.1 k) := by
  unfold vrd
  rw [rv_ix (ix := fun k => !nk t (Rs w n t o u).2.2 k) (by rw [nk_1 h4 h]; rfl), if_neg (by omega)]
theorem vrd_m {w n : Nat} {t o u g : Nat → Nat} (hW : WF w n t o u) {T k : Nat} (hk : k < n) (h : 2 ≤ t k ∧ t k ≤ 4) (hnk : nk t (Rs w n t o u).2.2 k = true) : (o k < k ∧ u k < k) ∧ vrd w n t o u g T k = wop w (t k) (vrd w n t o u g T (o k)) (vrd w n t o u g T (u k)) := by
  have q : o k < k ∧ u k < k := by rcases hW k hk with ⟨q, -⟩ | ⟨q, -⟩ | ⟨-, q⟩ | ⟨q, -⟩ <;> omega
  exact ⟨q, rv_m (ix := fun k => !nk t (Rs w n t o u).2.2 k) (by rw [hnk]; rfl) (by omega) q⟩
theorem X_fillSteady {w n : Nat} {t o u g : Nat → Nat} {σ : Mem} (hW : WF w n t o u) (hN : NX n t o u σ) (hC : XC w n t o u σ) (hP : PW w g σ) : ok (fX6_fillSteady σ) (fun τ => FR [27] σ τ ∧ ∀ k, k < n → bt (σ 4 3) k = true → (Rs w n t o u).2.2 k = 0 → τ 27 k = nI (ev w g ((Rs w n t o u).2.1 k 0))) := by
  have h30 := hN.1
  have hw := hC.1.1.1
  have key : ok (loop (fun a => fX6_fillSteady_B2 a.1 a.2) (0, σ)) (fun τ => FR [27] σ τ ∧ ∀ k, k < n → bt (σ 4 3) k = true → (Rs w n t o u).2.2 k = 0 → τ 27 k = nI (ev w g ((Rs w n t o u).2.1 k 0))) := by
    refine ok_for' (enc := fun i (τ : Mem) => (nI i, τ)) n (fun i τ => FR [27] σ τ ∧ ∀ k, k < i → bt (σ 4 3) k = true → (Rs w n t o u).2.2 k = 0 → τ 27 k = nI (ev w g ((Rs w n t o u).2.1 k 0))) (i0 := 0) (s0 := σ) (Nat.zero_le _) ⟨FR_refl _ _, fun k hk => by omega⟩ ?_ ?_
    · rintro i τ hi ⟨f, q⟩
      have hNτ := NX_F4 hN f (by decide)
      have hCτ := XC_FR hC f (by decide)
      have hPτ : PW w g τ := by
        intro k e hk he
        rw [f 14 (by decide)]; exact hP k e hk he
      have stay : ¬ (bt (σ 4 3) i = true ∧ (Rs w n t o u).2.2 i = 0) → ∀ k, k < i + 1 → bt (σ 4 3) k = true → (Rs w n t o u).2.2 k = 0 → τ 27 k = nI (ev w g ((Rs w n t o u).2.1 k 0)) := by
        intro hc k hk h1 h2
        refine q k ?_ h1 h2
        by_cases ck : k = i
        · subst ck; exact absurd ⟨h1, h2⟩ hc
        · omega
      dsimp only
      unfold fX6_fillSteady_B2 fX6_fillSteady_L54
      rw [hNτ.2.1, if_neg (nI_ge hi (by omega)), isInE _ (by omega), Option.bind_some, f 4 (by decide), nI_1]
      dsimp only
      by_cases cb : bt (σ 4 3) i = true
      · refine ok_neg (by rw [if_pos cb]; decide) ?_
        have k4 := K_le (w := w) hW h30 hi
        rw [chk_in (by omega) (by decide), nI_clamp (by omega)]
        have e20 := (hCτ.2.2 i hi).2.1
        by_cases ck : (Rs w n t o u).2.2 i = 0
        · refine ok_pos (by rw [e20, ck]; rfl) ?_
          have kf := K_form (w := w) hW h30 hi (by omega)
          rw [show (0 : Int32) = nI 0 from rfl, X1_worth hCτ.1 hPτ (by omega) (by decide) (R_ok hW h30 hw.1 hi (by omega)) ((hCτ.2.2 i hi).2.2 (by omega)), Option.bind_some]
          dsimp only
          rw [chk_in (by omega) (by decide)]
          refine ok_some ⟨_, rfl, FR_trans f (FR_up2 _ (by decide) _ _), fun k hk h1 h2 => ?_⟩
          rw [up2_at]
          by_cases ck : k = i
          · rw [if_pos ck, ck]
          · rw [if_neg ck]; exact q k (by omega) h1 h2
        · refine ok_neg (by rw [e20]; exact fun e => ck ((nI_eq (b := 0) (by omega) (by omega)).mp e)) ?_
          exact ok_some ⟨τ, rfl, f, stay (fun e => ck e.2)⟩
      · refine ok_pos (by rw [if_neg cb]) ?_
        exact ok_some ⟨τ, rfl, f, stay (fun e => cb e.1)⟩
    · rintro τ ⟨f, q⟩
      dsimp only
      unfold fX6_fillSteady_B2
      rw [f 3 (by decide), hN.2.1, if_pos (Int32.le_refl _)]
      exact ok_some ⟨f, q⟩
  unfold fX6_fillSteady fX6_fillSteady_L60
  refine ok_bind (ok_mono key ?_)
  intro τ h
  exact ok_some h
theorem X_fillCells {w n : Nat} {t o u g : Nat → Nat} {S : Int32} {σ : Mem} (hW : WF w n t o u) (hn : n ≤ 30) (hC : XC w n t o u σ) (hP : PW w g σ) (hX : XP w n t o u S σ) : ok (fX6_fillCells σ) (fun τ => FR [29, 30] σ τ ∧ ∀ c, c < (cll w n t o u S).1 → τ 29 c = nI (ev w g (cfm (Rs w n t o u).2.1 (cll w n t o u S) c 0)) ∧ τ 30 c = nI (ev w g (cfm (Rs w n t o u).2.1 (cll w n t o u S) c 1))) := by
  have hw := hC.1.1.1
  have hCI : CI (pcl w n t o u S) (Rs w n t o u).2.1 n (cll w n t o u S) := CI_N n (Nat.le_refl n)
  have h90 : (cll w n t o u S).1 ≤ 3 * n := clN_le (pcl w n t o u S) (Rs w n t o u).2.1 n
  obtain ⟨s, hs⟩ : ∃ s, s = cll w n t o u S := ⟨_, rfl⟩
  obtain ⟨F, hF⟩ : ∃ F, F = (Rs w n t o u).2.1 := ⟨_, rfl⟩
  have hX1 := hX.2.1
  rw [← hs] at hCI h90 hX1 ⊢
  have key : ok (loop (fun a => fX6_fillCells_B2 a.1 a.2) (0, σ)) (fun τ => FR [29, 30] σ τ ∧ ∀ c, c < s.1 → τ 29 c = nI (ev w g (cfm (Rs w n t o u).2.1 s c 0)) ∧ τ 30 c = nI (ev w g (cfm (Rs w n t o u).2.1 s c 1))) := by
    refine ok_for' (enc := fun i (τ : Mem) => (nI i, τ)) s.1 (fun i τ => FR [29, 30] σ τ ∧ ∀ c, c < i → τ 29 c = nI (ev w g (cfm (Rs w n t o u).2.1 s c 0)) ∧ τ 30 c = nI (ev w g (cfm (Rs w n t o u).2.1 s c 1))) (i0 := 0) (s0 := σ) (Nat.zero_le _) ⟨FR_refl _ _, fun k hk => by omega⟩ ?_ ?_
    · rintro i τ hi ⟨f, q⟩
      obtain ⟨ow, op, ol⟩ := hCI.1 i hi
      obtain ⟨d0, oA, -⟩ := pcl_ok hW hn hw.1 ow op
      have l3 := fdeg_le ((Rs w n t o u).2.1 (s.2.1 i))
      have W : ∀ ρ, FR [29, 30] σ ρ → ∀ l, l < 8 → fX1_worth (nI (s.2.1 i)) (nI l) ρ = some (nI (ev w g ((Rs w n t o u).2.1 (s.2.1 i) l)), ρ) := by
        intro ρ fρ l hl
        have hCρ := XC_FR hC fρ (by decide)
        have hPρ : PW w g ρ := by
          intro k e hk he
          rw [fρ 14 (by decide)]; exact hP k e hk he
        exact X1_worth hCρ.1 hPρ (by omega) hl oA ((hCρ.2.2 _ ow).2.2 (by omega))
      have f2 : FR [29, 30] σ (up2 τ 29 i (nI (ev w g ((Rs w n t o u).2.1 (s.2.1 i) (s.2.2 i))))) := FR_trans f (FR_up2 _ (by decide) _ _)
      dsimp only
      unfold fX6_fillCells_B2
      rw [f 4 (by decide), hX1.1, if_neg (nI_ge hi (by omega)), chk_in (by omega) (by decide), chk_in (by omega) (by decide), nI_clamp (by omega), f 22 (by decide), f 23 (by decide), (hX1.2 i hi).1, (hX1.2 i hi).2, W τ f _ (by omega), Option.bind_some]
      dsimp only
      rw [chk_in (by omega) (by decide), chk_in (by omega) (by decide), chk_in (by omega) (by decide), f2 22 (by decide), f2 23 (by decide), (hX1.2 i hi).1, (hX1.2 i hi).2, nI_1, W _ f2 _ (by omega), Option.bind_some]
      dsimp only
      rw [chk_in (by omega) (by decide), nI_1]
      refine ok_some ⟨_, rfl, FR_trans f2 (FR_up2 _ (by decide) _ _), fun c hc => ?_⟩
      rw [up2_row _ _ _ (show (29 : Nat) ≠ 30 by decide), up2_at, up2_at, up2_row _ _ _ (show (30 : Nat) ≠ 29 by decide)]
      by_cases cc : c = i
      · rw [if_pos cc, if_pos cc, cc]
        unfold cfm fSh
        rw [Nat.zero_add, Nat.add_comm 1]
        exact ⟨rfl, rfl⟩
      · rw [if_neg cc, if_neg cc]
        exact q c (by omega)
    · rintro τ ⟨f, q⟩
      dsimp only
      unfold fX6_fillCells_B2
      rw [f 4 (by decide), hX1.1, if_pos (Int32.le_refl _)]
      exact ok_some ⟨f, q⟩
  unfold fX6_fillCells fX6_fillCells_L83
  refine ok_bind (ok_mono key ?_)
  intro τ h
  exact ok_some h
