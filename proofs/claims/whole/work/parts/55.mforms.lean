/-! forms of the reference -/
def flt (A : Nat → Nat → Nat) : Nat → Int32 := fun j => nI (A (j / 343) (j % 343))
def mset (σ : Mem) (s : Nat) (A : Nat → Nat → Nat) : Mem := seg σ 1 (1372 * s) 1372 (flt A)
def fm (w : Nat) (σ : Mem) (s : Nat) (A : Nat → Nat → Nat) : Prop := OkF w A ∧ ∀ j, j < 1372 → σ 1 (1372 * s + j) = flt A j
def MB (w : Nat) (σ : Mem) : Prop := (4 ≤ w ∧ w ≤ 16) ∧ σ 0 1 = nI (2 ^ w)
theorem MB_FR {w : Nat} {S : List Nat} {σ τ : Mem} (h : MB w σ) (hf : FR S σ τ) (h0 : 0 ∉ S) : MB w τ := ⟨h.1, by rw [hf 0 h0]; exact h.2⟩
theorem flt_at (A : Nat → Nat → Nat) {c m : Nat} (hm : m < 343) : flt A (343 * c + m) = nI (A c m) := by
  unfold flt
  rw [show (343 * c + m) / 343 = c by omega, show (343 * c + m) % 343 = m by omega]
theorem fm_at {w : Nat} {σ : Mem} {s : Nat} {A : Nat → Nat → Nat} (h : fm w σ s A) {c m : Nat} (hc : c < 4) (hm : m < 343) : σ 1 (1372 * s + 343 * c + m) = nI (A c m) := by
  have e := h.2 (343 * c + m) (by omega)
  rw [← Nat.add_assoc] at e
  rw [e, flt_at A hm]
theorem fm_mset {w : Nat} (σ : Mem) (s : Nat) {A : Nat → Nat → Nat} (hA : OkF w A) : fm w (mset σ s A) s A := ⟨hA, fun j hj => by
  unfold mset
  rw [seg_in _ _ (by omega) (by omega), show 1372 * s + j - 1372 * s = j by omega]⟩
theorem fm_ne {w : Nat} {σ : Mem} {s r : Nat} {A B : Nat → Nat → Nat} (h : fm w σ r B) (hr : r ≠ s) : fm w (mset σ s A) r B := ⟨h.1, fun j hj => by
  unfold mset
  rw [seg_out _ _ (by omega)]
  exact h.2 j hj⟩
theorem fm_FR {w : Nat} {S : List Nat} {σ τ : Mem} {s : Nat} {A : Nat → Nat → Nat} (h : fm w σ s A) (hf : FR S σ τ) (h1 : 1 ∉ S) : fm w τ s A := ⟨h.1, fun j hj => by rw [hf 1 h1]; exact h.2 j hj⟩
theorem FR_mset (σ : Mem) (s : Nat) (A : Nat → Nat → Nat) : FR [1] σ (mset σ s A) := FR_seg σ (by decide) _ _ _
theorem mset_mset (σ : Mem) (s : Nat) (A B : Nat → Nat → Nat) : mset (mset σ s A) s B = mset σ s B := by
  funext k j
  by_cases k1 : k = 1
  · subst k1
    unfold mset
    by_cases hj : 1372 * s ≤ j ∧ j < 1372 * s + 1372
    · rw [seg_in _ _ hj.1 hj.2, seg_in _ _ hj.1 hj.2]
    · rw [seg_out _ _ (by omega), seg_out _ _ (by omega), seg_out _ _ (by omega)]
  · unfold mset; rw [seg_row _ _ _ _ k1, seg_row _ _ _ _ k1, seg_row _ _ _ _ k1]
theorem mset_self {w : Nat} {σ : Mem} {s : Nat} {A : Nat → Nat → Nat} (h : fm w σ s A) : mset σ s A = σ := by
  funext k j
  by_cases k1 : k = 1
  · subst k1
    unfold mset
    by_cases hj : 1372 * s ≤ j ∧ j < 1372 * s + 1372
    · rw [seg_in _ _ hj.1 hj.2, ← h.2 (j - 1372 * s) (by omega), show 1372 * s + (j - 1372 * s) = j by omega]
    · rw [seg_out _ _ (by omega)]
  · unfold mset; rw [seg_row _ _ _ _ k1]
theorem fm_fun {w : Nat} {σ : Mem} {s : Nat} {A B : Nat → Nat → Nat} (hw : w ≤ 16) (hA : fm w σ s A) (hB : fm w σ s B) : A = B := by
  funext c
  by_cases c4 : c < 4
  · refine OkP_ext (hA.1.1 c) (hB.1.1 c) (fun p hp => ?_)
    have hm := (cd_ok p hp).1
    have e := (fm_at hA c4 hm).symm.trans (fm_at hB c4 hm)
    rw [nI_inj16 hw (hA.1.1 c |>.1 _) (hB.1.1 c |>.1 _)] at e
    exact e
  · rw [hA.1.2 c (by omega), hB.1.2 c (by omega)]
theorem ixF (s j : Nat) : 1372 * nI s + nI j = nI (1372 * s + j) := by
  show nI 1372 * nI s + nI j = _
  rw [pk_mul, nI_add]
theorem ixG (s c m : Nat) : 1372 * nI s + 343 * nI c + nI m = nI (1372 * s + 343 * c + m) := by
  show nI 1372 * nI s + nI 343 * nI c + nI m = _
  rw [pk_mul, pk_mul, nI_add, nI_add]
theorem n1372 {i : Nat} (h : i < 1372) : ¬ (1372 : Int32) ≤ nI i := nI_ge (b := 1372) h (by decide)
theorem n1372' : (1372 : Int32) ≤ nI 1372 := Int32.le_refl _
theorem n343 {i : Nat} (h : i < 343) : ¬ (343 : Int32) ≤ nI i := nI_ge (b := 343) h (by decide)
theorem n343' : (343 : Int32) ≤ nI 343 := Int32.le_refl _
theorem n4 {i : Nat} (h : i < 4) : ¬ (4 : Int32) ≤ nI i := nI_ge (b := 4) h (by decide)
theorem n4' : (4 : Int32) ≤ nI 4 := Int32.le_refl _
theorem M_empties {σ : Mem} {s : Nat} (hs : s < 124) : fX8_empties (nI s) σ = some (mset σ s f0) := by
  have key : ok (loop (fun a => fX8_empties_B2 (nI s) a.1 a.2) (0, σ)) (fun b => b = mset σ s f0) := by
    refine ok_for' (enc := fun i (_ : Unit) => (nI i, seg σ 1 (1372 * s) i (flt f0))) 1372 (fun _ _ => True) (i0 := 0) (s0 := ()) (Nat.zero_le _) trivial ?_ ?_ |> fun hh => by rw [seg_0] at hh; exact hh
    · intro i _ hi _
      dsimp only
      unfold fX8_empties_B2
      rw [if_neg (n1372 hi), ixF, chk_in (by omega) (by decide), nI_clamp (by omega), nI_1]
      exact ok_some ⟨(), by rw [← seg_succ σ 1 (1372 * s) i (flt f0)]; rfl, trivial⟩
    · intro _ _
      dsimp only
      unfold fX8_empties_B2
      rw [if_pos n1372']
      exact ok_some rfl
  obtain ⟨b, hb, rfl⟩ := key
  unfold fX8_empties fX8_empties_L28
  rw [hb]; rfl
theorem M_copies {w : Nat} {σ : Mem} {r s : Nat} {A : Nat → Nat → Nat} (hr : r < 124) (hs : s < 124) (fA : fm w σ r A) : fX8_copies (nI r) (nI s) σ = some (mset σ s A) := by
  have key : ok (loop (fun a => fX8_copies_B2 (nI r) (nI s) a.1 a.2) (0, σ)) (fun b => b = mset σ s A) := by
    refine ok_for' (enc := fun i (_ : Unit) => (nI i, seg σ 1 (1372 * s) i (flt A))) 1372 (fun _ _ => True) (i0 := 0) (s0 := ()) (Nat.zero_le _) trivial ?_ ?_ |> fun hh => by rw [seg_0] at hh; exact hh
    · intro i _ hi _
      dsimp only
      unfold fX8_copies_B2
      have e : seg σ 1 (1372 * s) i (flt A) 1 (1372 * r + i) = flt A i := by
        rw [seg_out σ _ (by omega), fA.2 i hi]
      simp (disch := omega) only [chk_in, nI_clamp, ixF, e]
      rw [if_neg (n1372 hi), nI_1]
      exact ok_some ⟨(), by rw [← seg_succ σ 1 (1372 * s) i (flt A)], trivial⟩
    · intro _ _
      dsimp only
      unfold fX8_copies_B2
      rw [if_pos n1372']
      exact ok_some rfl
  obtain ⟨b, hb, rfl⟩ := key
  unfold fX8_copies fX8_copies_L39
  rw [hb]; rfl
def fJoin (w u : Nat) (A : Nat → Nat → Nat) (t : Nat) (B : Nat → Nat → Nat) : Nat → Nat → Nat := fun c m => (u * A c m + t * B c m) % 2 ^ w
theorem fJoin_1 (w : Nat) (A : Nat → Nat → Nat) (t : Nat) (B : Nat → Nat → Nat) : fJoin w 1 A t B = fLin w A t B := by
  funext c m
  show (1 * A c m + t * B c m) % 2 ^ w = (A c m + t * B c m) % 2 ^ w
  rw [Nat.one_mul]
theorem fJoin_0 (w u : Nat) (A B : Nat → Nat → Nat) : fJoin w u A 0 B = fLin w f0 u A := by
  funext c m
  show (u * A c m + 0 * B c m) % 2 ^ w = (0 + u * A c m) % 2 ^ w
  rw [Nat.zero_mul, Nat.zero_add, Nat.add_zero]
theorem join_val {w : Nat} {σ : Mem} (h : MB w σ) (x y : Nat) (u t : Int32) : fX8_cut (u.toInt64 * (nI x).toInt64 + t.toInt64 * (nI y).toInt64) σ = some (nI ((mI w u * x + mI w t * y) % 2 ^ w), σ) := by
  have hw := h.1.2
  have e : mL w (u.toInt64 * (nI x).toInt64 + t.toInt64 * (nI y).toInt64) = (mI w u * x + mI w t * y) % 2 ^ w := by
    rw [mL_add hw, mL_mul hw, mL_mul hw, mI_64 hw, mI_64 hw, mI_64 hw, mI_64 hw, mI_nI hw, mI_nI hw]
    simp only [Nat.add_mod_mod, Nat.mod_add_mod, Nat.mul_mod_mod]
  rw [cutE hw h.2, e]
theorem M_joins {w : Nat} {σ : Mem} {s r1 r2 : Nat} {A B : Nat → Nat → Nat} (h : MB w σ) (hs : s < 124) (hr1 : r1 < 124) (hr2 : r2 < 124) (fA : fm w σ r1 A) (fB : fm w σ r2 B) (u t : Int32) : fX8_joins (nI s) (nI r1) u (nI r2) t σ = some (mset σ s (fJoin w (mI w u) A (mI w t) B)) := by
  obtain ⟨F, hF⟩ : ∃ F, F = fJoin w (mI w u) A (mI w t) B := ⟨_, rfl⟩
  rw [← hF]
  have key : ok (loop (fun a => fX8_joins_B3 (nI s) (nI r1) u (nI r2) t a.1 a.2) (0, σ)) (fun b => b = mset σ s F) := by
    refine ok_for' (enc := fun i (_ : Unit) => (nI i, seg σ 1 (1372 * s) i (flt F))) 1372 (fun _ _ => True) (i0 := 0) (s0 := ()) (Nat.zero_le _) trivial ?_ ?_ |> fun hh => by rw [seg_0] at hh; exact hh
    · intro i _ hi _
      dsimp only
      unfold fX8_joins_B3
      have e1 : seg σ 1 (1372 * s) i (flt F) 1 (1372 * r1 + i) = nI (A (i / 343) (i % 343)) := by
        rw [seg_out σ _ (by omega), fA.2 i hi]; rfl
      have e2 : seg σ 1 (1372 * s) i (flt F) 1 (1372 * r2 + i) = nI (B (i / 343) (i % 343)) := by
        rw [seg_out σ _ (by omega), fB.2 i hi]; rfl
      have hb : MB w (seg σ 1 (1372 * s) i (flt F)) := MB_FR h (FR_seg σ (S := [1]) (by decide) _ _ _) (by decide)
      simp (disch := omega) only [chk_in, nI_clamp, ixF, e1, e2, join_val hb, Option.bind_some]
      rw [if_neg (n1372 hi), nI_1]
      exact ok_some ⟨(), by rw [← seg_succ σ 1 (1372 * s) i (flt F)]; rw [hF]; rfl, trivial⟩
    · intro _ _
      dsimp only
      unfold fX8_joins_B3
      rw [if_pos n1372']
      exact ok_some rfl
  obtain ⟨b, hb, rfl⟩ := key
  unfold fX8_joins fX8_joins_L71
  rw [hb]; rfl
theorem nI_z16 {w x : Nat} (hw : w ≤ 16) (hx : x < 2 ^ w) : (nI x = 0) = (x = 0) := nI_inj16 (y := 0) hw hx (pw_pos w)
theorem M_isNought {w : Nat} {σ : Mem} {s c : Nat} {A : Nat → Nat → Nat} (hw : w ≤ 16) (hs : s < 124) (hc : c < 4) (fA : fm w σ s A) : fX8_isNought (nI s) (nI c) σ = some (bI (A c = fun _ => 0), σ) := by
  have key : ok (loop (fun a => fX8_isNought_B2 (nI s) (nI c) a.1 a.2) (0, σ)) (fun x => (x = .inl σ ∧ ∀ m, m < 343 → A c m = 0) ∨ (x = .inr (0, σ) ∧ ∃ m, A c m ≠ 0)) := by
    refine ok_for' (enc := fun i (_ : Unit) => (nI i, σ)) 343 (fun i _ => ∀ m, m < i → A c m = 0) (i0 := 0) (s0 := ()) (Nat.zero_le _) (fun m hm => absurd hm (Nat.not_lt_zero m)) ?_ ?_
    · intro i _ hi hI
      dsimp only
      unfold fX8_isNought_B2
      rw [if_neg (n343 hi), ixG, chk_in (by omega) (by decide), nI_clamp (by omega), fm_at fA hc hi]
      by_cases e : A c i = 0
      · rw [if_pos (by rw [e]; rfl), nI_1]
        refine ok_some ⟨(), rfl, fun m hm => ?_⟩
        rcases Nat.lt_or_ge m i with h1 | h1
        · exact hI m h1
        · have : m = i := by omega
          rw [this]; exact e
      · rw [if_neg (by rw [nI_z16 hw (fA.1.1 c |>.1 i)]; exact e)]
        exact ok_some (Or.inr ⟨rfl, i, e⟩)
    · intro _ hI
      dsimp only
      unfold fX8_isNought_B2
      rw [if_pos n343']
      exact ok_some (Or.inl ⟨rfl, hI⟩)
  unfold fX8_isNought fX8_isNought_L38
  obtain ⟨x, hx, ⟨rfl, h1⟩ | ⟨rfl, m, h1⟩⟩ := key
  · rw [hx, Option.bind_some, bI_t]
    · rfl
    · exact OkP_ext (fA.1.1 c) (OkP_0 w) (fun p hp => h1 _ (cd_ok p hp).1)
  · rw [hx, Option.bind_some, bI_f (fun e => h1 (by rw [e]))]
    rfl
theorem M_degreeOf {w : Nat} {σ : Mem} {s : Nat} {A : Nat → Nat → Nat} (hw : w ≤ 16) (hs : s < 124) (fA : fm w σ s A) : fX8_degreeOf (nI s) σ = some (nI (fdeg A), σ) := by
  have b : ∀ c, c < 4 → 0 < c → fX8_degreeOf_B2 (nI s) (nI c) σ = if sz (A c) = 0 then some (.inl (nI (c - 1), σ)) else some (.inr (nI c, σ)) := by
    intro c hc h0
    unfold fX8_degreeOf_B2
    rw [if_neg (nI_nle h0 (by omega)), M_isNought hw hs hc fA, Option.bind_some]
    dsimp only
    by_cases e : sz (A c) = 0
    · rw [bI_t ((sz_zero (fA.1.1 c)).mp e), if_neg (by decide), if_pos e]
      obtain ⟨d, rfl⟩ : ∃ d, c = d + 1 := ⟨c - 1, by omega⟩
      rw [pk_m1, Nat.add_sub_cancel]
    · rw [bI_f (fun q => e ((sz_zero (fA.1.1 c)).mpr q)), if_pos rfl, if_neg e]
  have b0 : fX8_degreeOf_B2 (nI s) (nI 0) σ = some (.inr (nI 0, σ)) := by
    unfold fX8_degreeOf_B2
    rw [if_pos (by decide)]
  have b1 := b 1 (by omega) (by omega)
  have b2 := b 2 (by omega) (by omega)
  have b3 := b 3 (by omega) (by omega)
  have key : loop (fun a => fX8_degreeOf_B2 (nI s) a.1 a.2) (nI 3, σ) = some (nI (fdeg A), σ) := by
    by_cases c3 : sz (A 3) = 0
    · rw [if_pos c3] at b3
      by_cases c2 : sz (A 2) = 0
      · rw [if_pos c2] at b2
        by_cases c1 : sz (A 1) = 0
        · rw [if_pos c1] at b1
          have hd : fdeg A = 0 := by unfold fdeg; rw [if_neg (by omega), if_neg (by omega), if_neg (by omega)]
          rw [hd]
          exact loop_in b3 (loop_in b2 (loop_in b1 (loop_out b0)))
        · rw [if_neg c1] at b1
          have hd : fdeg A = 1 := by unfold fdeg; rw [if_neg (by omega), if_neg (by omega), if_pos (by omega)]
          rw [hd]
          exact loop_in b3 (loop_in b2 (loop_out b1))
      · rw [if_neg c2] at b2
        have hd : fdeg A = 2 := by unfold fdeg; rw [if_neg (by omega), if_pos (by omega)]
        rw [hd]
        exact loop_in b3 (loop_out b2)
    · rw [if_neg c3] at b3
      have hd : fdeg A = 3 := by unfold fdeg; rw [if_pos (by omega)]
      rw [hd]
      exact loop_out b3
  unfold fX8_degreeOf fX8_degreeOf_L21
  show (loop _ (nI 3, σ)).bind _ = _
  rw [key, Option.bind_some]
theorem M_areAlike {w : Nat} {σ : Mem} {s r : Nat} {A B : Nat → Nat → Nat} (hw : w ≤ 16) (hs : s < 124) (hr : r < 124) (fA : fm w σ s A) (fB : fm w σ r B) : fX8_areAlike (nI s) (nI r) σ = some (bI (A = B), σ) := by
  have key : ok (loop (fun a => fX8_areAlike_B2 (nI s) (nI r) a.1 a.2) (0, σ)) (fun x => (x = .inl σ ∧ ∀ j, j < 1372 → A (j / 343) (j % 343) = B (j / 343) (j % 343)) ∨ (x = .inr (0, σ) ∧ ∃ c m, A c m ≠ B c m)) := by
    refine ok_for' (enc := fun i (_ : Unit) => (nI i, σ)) 1372 (fun i _ => ∀ j, j < i → A (j / 343) (j % 343) = B (j / 343) (j % 343)) (i0 := 0) (s0 := ()) (Nat.zero_le _) (fun m hm => absurd hm (Nat.not_lt_zero m)) ?_ ?_
    · intro i _ hi hI
      dsimp only
      unfold fX8_areAlike_B2
      rw [if_neg (n1372 hi), ixF, ixF, chk_in (by omega) (by decide), chk_in (by omega) (by decide), nI_clamp (by omega), nI_clamp (by omega), fA.2 i hi, fB.2 i hi]
      unfold flt
      by_cases e : A (i / 343) (i % 343) = B (i / 343) (i % 343)
      · rw [if_pos (by rw [e]), nI_1]
        refine ok_some ⟨(), rfl, fun m hm => ?_⟩
        rcases Nat.lt_or_ge m i with h1 | h1
        · exact hI m h1
        · have : m = i := by omega
          rw [this]; exact e
      · rw [if_neg (by rw [nI_inj16 hw (fA.1.1 _ |>.1 _) (fB.1.1 _ |>.1 _)]; exact e)]
        exact ok_some (Or.inr ⟨rfl, _, _, e⟩)
    · intro _ hI
      dsimp only
      unfold fX8_areAlike_B2
      rw [if_pos n1372']
      exact ok_some (Or.inl ⟨rfl, hI⟩)
  unfold fX8_areAlike fX8_areAlike_L44
  obtain ⟨x, hx, ⟨rfl, h1⟩ | ⟨rfl, c, m, h1⟩⟩ := key
  · rw [hx, Option.bind_some, bI_t]
    · rfl
    · funext c
      by_cases c4 : c < 4
      · refine OkP_ext (fA.1.1 c) (fB.1.1 c) (fun p hp => ?_)
        have hm := (cd_ok p hp).1
        have e := h1 (343 * c + cd p) (by omega)
        rw [show (343 * c + cd p) / 343 = c by omega, show (343 * c + cd p) % 343 = cd p by omega] at e
        exact e
      · rw [fA.1.2 c (by omega), fB.1.2 c (by omega)]
  · rw [hx, Option.bind_some, bI_f (fun e => h1 (by rw [e]))]
    rfl
