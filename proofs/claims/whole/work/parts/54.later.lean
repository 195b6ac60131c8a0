/-! later, added up, the same; the class's side -/
def sg (w d : Nat) : Nat := if d % 2 = 0 then 1 else 2 ^ w - 1
def lt (w : Nat) (A : Nat → Nat → Nat) (i : Nat) : Nat → Nat → Nat
  | 0 => A i
  | d + 1 => lin w (lt w A i d) (sg w (d + 1)) (A (i + (d + 1)))
def fLater (w : Nat) (A : Nat → Nat → Nat) : Nat → Nat → Nat := fun c => lt w A c (3 - c)
theorem OkP_lt {w : Nat} {A : Nat → Nat → Nat} (hA : ∀ c, OkP w (A c)) (i : Nat) : ∀ d, OkP w (lt w A i d)
  | 0 => hA i
  | d + 1 => OkP_lin (OkP_lt hA i d) (hA _) _
theorem OkF_later {w : Nat} {A : Nat → Nat → Nat} (hA : OkF w A) : OkF w (fLater w A) := ⟨fun c => OkP_lt hA.1 c _, fun c hc => by
  unfold fLater
  rw [show 3 - c = 0 by omega]
  exact hA.2 c hc⟩
theorem pset_pset (σ : Mem) (q : Nat) (a b : Nat → Nat) : pset (pset σ q a) q b = pset σ q b := psz_psz _ _ _ _ _ _
theorem par2 {a : Nat} (h : a < 2 ^ 31) : nI a - nI a / 2 * 2 = nI (a % 2) := pk_rem (d := 2) h (by decide) (by decide)
theorem X1_putLater {w : Nat} {σ : Mem} {s r : Nat} {A : Nat → Nat → Nat} (h : PI w σ) (hs : s < 31) (hr : r < 31) (hn : r ≠ s) (hA : OkF w A) (fA : fx w σ r A) : ok (fX1_putLater (nI s) (nI r) σ) (XS w s (fLater w A) σ) := by
  have hw := h.1.1
  have key : ok (loop (fun a => fX1_putLater_B2 (nI s) (nI r) a.1 a.2) (0, σ)) (fun b => b = psets σ s (fLater w A) 4) := by
    refine ok_for' (enc := fun i (_ : Unit) => (nI i, psets σ s (fLater w A) i)) 4 (fun _ _ => True) (i0 := 0) (s0 := ()) (Nat.zero_le _) trivial ?_ ?_
    · intro i _ hi _
      dsimp only
      unfold fX1_putLater_B2 fX1_putLater_L79
      have hP : PI w (psets σ s (fLater w A) i) := PI_psets h hs (by omega)
      have fA' : ∀ c, c < 4 → px w (psets σ s (fLater w A) i) (4 * r + c) (A c) := fun c hc => psets_out (by omega) (fA c hc)
      obtain ⟨ρ, hρ⟩ : ∃ ρ, ρ = psets σ s (fLater w A) i := ⟨_, rfl⟩
      rw [← hρ] at hP fA' ⊢
      rw [if_neg (n3 hi), ix4, ix4, X_copy hP (by omega) (by omega) (fA' i hi), Option.bind_some, nI_1]
      have k2 : ok (loop (fun a => fX1_putLater_B36 (nI s) (nI r) (nI i) (nI (4 * s + i)) a.1 a.2) (nI (i + 1), pset ρ (4 * s + i) (A i))) (fun b => b = pset ρ (4 * s + i) (fLater w A i)) := by
        refine ok_for' (enc := fun j (_ : Unit) => (nI j, pset ρ (4 * s + i) (lt w A i (j - (i + 1))))) 4 (fun j _ => i + 1 ≤ j) (i0 := i + 1) (s0 := ()) (by omega) (Nat.le_refl _) ?_ ?_ |> fun hh => by rw [Nat.sub_self] at hh; exact hh
        · intro j _ hj hij
          dsimp only
          unfold fX1_putLater_B36 fX1_putLater_L70
          have hl := OkP_lt hA.1 i (j - (i + 1))
          have p1 : px w (pset ρ (4 * s + i) (lt w A i (j - (i + 1)))) (4 * s + i) (lt w A i (j - (i + 1))) := px_pset _ _ hl
          have p2 : px w (pset ρ (4 * s + i) (lt w A i (j - (i + 1)))) (4 * r + j) (A j) := px_pset_ne (fA' j hj) (by omega)
          have hP2 : PI w (pset ρ (4 * s + i) (lt w A i (j - (i + 1)))) := PI_pset hP (by omega)
          have e : lt w A i (j + 1 - (i + 1)) = lin w (lt w A i (j - (i + 1))) (sg w (j - i)) (A j) := by
            obtain ⟨d, rfl⟩ : ∃ d, j = i + 1 + d := ⟨j - (i + 1), by omega⟩
            rw [show i + 1 + d + 1 - (i + 1) = d + 1 by omega, show i + 1 + d - (i + 1) = d by omega, show i + 1 + d - i = d + 1 by omega, show i + 1 + d = i + (d + 1) by omega]
            rfl
          rw [if_neg (n3 hj), pk_sub (by omega), par2 (by omega), ix4]
          by_cases c : (j - i) % 2 = 0
          · rw [if_pos (by rw [c]; rfl), X_putSum hP2 (by omega) (by omega) (by omega) p1 p2, Option.bind_some, pset_pset, nI_1, mI_1 hw]
            refine ok_some ⟨(), ?_, by omega⟩
            rw [e]; unfold sg; rw [if_pos c]
          · rw [if_neg (show ¬ nI ((j - i) % 2) = 0 from nI_ne0 (by omega) (by omega)), X_putSum hP2 (by omega) (by omega) (by omega) p1 p2, Option.bind_some, pset_pset, nI_1, mI_m1 hw]
            refine ok_some ⟨(), ?_, by omega⟩
            rw [e]; unfold sg; rw [if_neg c]
        · intro _ hij
          dsimp only
          unfold fX1_putLater_B36
          rw [if_pos n3']
          refine ok_some ?_
          show pset ρ (4 * s + i) (lt w A i (4 - (i + 1))) = pset ρ (4 * s + i) (lt w A i (3 - i))
          rw [show 4 - (i + 1) = 3 - i by omega]
      obtain ⟨b, hb, rfl⟩ := k2
      rw [hb, Option.bind_some]
      refine ok_some ⟨(), ?_, trivial⟩
      rw [hρ]; rfl
    · intro _ _
      dsimp only
      unfold fX1_putLater_B2
      rw [if_pos n3']
      exact ok_some rfl
  obtain ⟨b, hb, rfl⟩ := key
  unfold fX1_putLater fX1_putLater_L85
  rw [hb]
  exact ok_some (XS_psets h hs (OkF_later hA).1)
def fAdd (S A : Nat → Nat → Nat) : Nat → Nat → Nat := fun c => if c = 0 then S 0 else if c < 4 then A (c - 1) else fun _ => 0
theorem OkF_add {w : Nat} {S A : Nat → Nat → Nat} (hS : OkF w S) (hA : OkF w A) : OkF w (fAdd S A) := by
  refine ⟨fun c => ?_, fun c hc => ?_⟩
  · unfold fAdd
    split
    · exact hS.1 0
    · split
      · exact hA.1 _
      · exact OkP_0 w
  · unfold fAdd; rw [if_neg (by omega), if_neg (by omega)]
theorem X1_putAddedUp {w : Nat} {σ : Mem} {s r0 r : Nat} {S A : Nat → Nat → Nat} (h : PI w σ) (hs : s < 31) (hr0 : r0 < 31) (hr : r < 31) (hn : r0 ≠ s) (hS : OkF w S) (hA : OkF w A) (fS : fx w σ r0 S) (fA : fx w σ r A) : ok (fX1_putAddedUp (nI s) (nI r0) (nI r) σ) (XS w s (fAdd S A) σ) := by
  have b : ∀ (c : Nat) (τ : Mem), c < 3 → PI w τ → px w τ (4 * r + c) (A c) → fX1_putAddedUp_B3 (nI s) (nI r0) (nI r) (nI (c + 1)) τ = some (.inl (nI c, pset τ (4 * s + (c + 1)) (A c))) := by
    intro c τ hc hP hp
    unfold fX1_putAddedUp_B3
    have e : nI r * 4 + nI (c + 1) - 1 = nI (4 * r + c) := by rw [ix4]; exact nI_pred _
    rw [if_neg (nI_nle (by omega) (by omega)), ix4, e, X_copy hP (by omega) (by omega) hp, Option.bind_some, pk_m1]
  have b0 : ∀ τ : Mem, fX1_putAddedUp_B3 (nI s) (nI r0) (nI r) (nI 0) τ = some (.inr τ) := by
    intro τ
    unfold fX1_putAddedUp_B3
    rw [if_pos (by decide)]
  have P1 : PI w (pset σ (4 * s + 3) (A 2)) := PI_pset h (by omega)
  have P2 : PI w (pset (pset σ (4 * s + 3) (A 2)) (4 * s + 2) (A 1)) := PI_pset P1 (by omega)
  have P3 : PI w (pset (pset (pset σ (4 * s + 3) (A 2)) (4 * s + 2) (A 1)) (4 * s + 1) (A 0)) := PI_pset P2 (by omega)
  have key : loop (fun a => fX1_putAddedUp_B3 (nI s) (nI r0) (nI r) a.1 a.2) (nI 3, σ) = some (pset (pset (pset σ (4 * s + 3) (A 2)) (4 * s + 2) (A 1)) (4 * s + 1) (A 0)) :=
    loop_in (b 2 σ (by omega) h (fA 2 (by omega))) (loop_in (b 1 _ (by omega) P1 (px_pset_ne (fA 1 (by omega)) (by omega))) (loop_in (b 0 _ (by omega) P2 (px_pset_ne (px_pset_ne (fA 0 (by omega)) (by omega)) (by omega))) (loop_out (b0 _))))
  have pS : px w (pset (pset (pset σ (4 * s + 3) (A 2)) (4 * s + 2) (A 1)) (4 * s + 1) (A 0)) (4 * r0) (S 0) := px_pset_ne (px_pset_ne (px_pset_ne (fS 0 (by omega)) (by omega)) (by omega)) (by omega)
  unfold fX1_putAddedUp fX1_putAddedUp_L38
  show ok ((loop _ (nI 3, σ)).bind _) _
  rw [key, Option.bind_some, ix4', ix4', X_copy P3 (by omega) (by omega) pS]
  refine ok_some ⟨PI_pset P3 (by omega), fun c hc => ?_, FR_trans (FR_trans (FR_trans (FR_psz _ _ _ _) (FR_psz _ _ _ _)) (FR_psz _ _ _ _)) (FR_psz _ _ _ _), fun q b hq hp => px_pset_ne (px_pset_ne (px_pset_ne (px_pset_ne hp (by omega)) (by omega)) (by omega)) (by omega)⟩
  rcases (show c = 0 ∨ c = 1 ∨ c = 2 ∨ c = 3 by omega) with rfl | rfl | rfl | rfl
  · exact px_pset _ _ (hS.1 0)
  · exact px_pset_ne (px_pset _ _ (hA.1 0)) (by omega)
  · exact px_pset_ne (px_pset_ne (px_pset _ _ (hA.1 1)) (by omega)) (by omega)
  · exact px_pset_ne (px_pset_ne (px_pset_ne (px_pset _ _ (hA.1 2)) (by omega)) (by omega)) (by omega)
theorem X1_startsAlike {w : Nat} {σ : Mem} {s r : Nat} {A B : Nat → Nat → Nat} (hw : w ≤ 16) (hs : s < 31) (hr : r < 31) (fA : fx w σ s A) (fB : fx w σ r B) : fX1_startsAlike (nI s) (nI r) σ = some (bI (A 0 = B 0), σ) := by
  unfold fX1_startsAlike
  rw [ix4', ix4', X_isSame (q1 := 4 * s) (q2 := 4 * r) hw (by omega) (by omega) (fA 0 (by omega)) (fB 0 (by omega)), Option.bind_some]
  dsimp only
  rw [bI_chk]
def fSh (A : Nat → Nat → Nat) (l : Nat) : Nat → Nat → Nat := fun c => A (c + l)
theorem X1_polyBehind {s i : Nat} {σ : Mem} (hi : i < 8) : fX1_polyBehind (nI s) (nI i) σ = some (nI (if i < 4 then 4 * s + i else 124), σ) := by
  unfold fX1_polyBehind fX1_polyBehind_L15
  by_cases c : i < 4
  · rw [if_neg (n3 c), if_pos c, ix4]
  · rw [if_pos (show (3 : Int32) < nI i from nI_lt (a := 3) (by omega) (by omega)), if_neg c]; rfl
theorem px_beh {w : Nat} {σ : Mem} {s i : Nat} {A : Nat → Nat → Nat} (h : PI w σ) (hA : OkF w A) (fA : fx w σ s A) : px w σ (if i < 4 then 4 * s + i else 124) (A i) := by
  by_cases c : i < 4
  · rw [if_pos c]; exact fA i c
  · rw [if_neg c, hA.2 i (by omega)]; exact h.2.2
theorem X1_isSame {w : Nat} {σ : Mem} {s l r m : Nat} {A B : Nat → Nat → Nat} (h : PI w σ) (hs : s < 31) (hr : r < 31) (hl : l < 4) (hm : m < 4) (hA : OkF w A) (hB : OkF w B) (fA : fx w σ s A) (fB : fx w σ r B) : fX1_isSame (nI s) (nI l) (nI r) (nI m) σ = some (bI (fSh A l = fSh B m), σ) := by
  have hw := h.1.1.2
  have key : ok (loop (fun a => fX1_isSame_B3 (nI s) (nI l) (nI r) (nI m) a.1 a.2) (0, σ)) (fun x => (x = .inl σ ∧ ∀ c, c < 4 → A (c + l) = B (c + m)) ∨ (x = .inr (0, σ) ∧ ∃ c, A (c + l) ≠ B (c + m))) := by
    refine ok_for' (enc := fun i (_ : Unit) => (nI i, σ)) 4 (fun i _ => ∀ c, c < i → A (c + l) = B (c + m)) (i0 := 0) (s0 := ()) (Nat.zero_le _) (fun c hc => absurd hc (Nat.not_lt_zero c)) ?_ ?_
    · intro i _ hi hI
      dsimp only
      unfold fX1_isSame_B3
      rw [if_neg (n3 hi), nI_add, nI_add, X1_polyBehind (by omega), Option.bind_some]
      dsimp only
      rw [X1_polyBehind (by omega), Option.bind_some]
      dsimp only
      rw [X_isSame hw (by split <;> omega) (by split <;> omega) (px_beh h hA fA) (px_beh h hB fB), Option.bind_some]
      dsimp only
      by_cases c : A (i + l) = B (i + m)
      · rw [bI_t c, if_neg (by decide), nI_1]
        refine ok_some ⟨(), rfl, fun c' hc' => ?_⟩
        rcases Nat.lt_or_ge c' i with h1 | h1
        · exact hI c' h1
        · have : c' = i := by omega
          rw [this]; exact c
      · rw [bI_f c, if_pos rfl]
        exact ok_some (Or.inr ⟨rfl, i, c⟩)
    · intro _ hI
      dsimp only
      unfold fX1_isSame_B3
      rw [if_pos n3']
      exact ok_some (Or.inl ⟨rfl, hI⟩)
  unfold fX1_isSame fX1_isSame_L46
  obtain ⟨x, hx, ⟨rfl, h1⟩ | ⟨rfl, c, h1⟩⟩ := key
  · rw [hx, Option.bind_some, bI_t]
    · rfl
    · funext c
      show A (c + l) = B (c + m)
      by_cases c4 : c < 4
      · exact h1 c c4
      · rw [hA.2 _ (by omega), hB.2 _ (by omega)]
  · rw [hx, Option.bind_some, bI_f (fun e => h1 (congrFun e c))]
    rfl
