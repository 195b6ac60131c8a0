def one1 (m v : Nat) : Nat → Nat := fun j => if j = m then v else 0
def lin (w : Nat) (a : Nat → Nat) (t : Nat) (b : Nat → Nat) : Nat → Nat := fun m => (a m + t * b m) % 2 ^ w
theorem OkP_one {w m v : Nat} (hm : m < 343) (he : ex m ≤ 6) (hv : v < 2 ^ w) : OkP w (one1 m v) := by
  refine ⟨fun j => ?_, fun j hj => ?_⟩
  · unfold one1
    by_cases e : j = m
    · rw [if_pos e]; exact hv
    · rw [if_neg e]; exact pw_pos w
  · unfold one1 at hj
    by_cases e : j = m
    · rw [e]; exact ⟨hm, he⟩
    · rw [if_neg e] at hj; exact absurd rfl hj
theorem OkP_lin {w : Nat} {a b : Nat → Nat} (ha : OkP w a) (hb : OkP w b) (t : Nat) : OkP w (lin w a t b) := by
  refine ⟨fun j => Nat.mod_lt _ (pw_pos w), fun j hj => ?_⟩
  by_cases c1 : a j = 0
  · by_cases c2 : b j = 0
    · exfalso; apply hj; unfold lin; rw [c1, c2, Nat.mul_zero, Nat.zero_add, Nat.zero_mod]
    · exact hb.2 j c2
  · exact ha.2 j c1
theorem lin_val {w : Nat} (hw : w ≤ 16) (x y : Nat) (t : Int32) : (nI x + t * nI y) &&& nI (2 ^ w - 1) = nI ((x + mI w t * y) % 2 ^ w) := by
  rw [i_mask, mI_add hw, mI_mul hw, mI_nI hw, mI_nI hw]
  congr 1
  rw [Nat.add_mod_mod, Nat.mod_add_mod, Nat.add_mod, Nat.mul_mod, Nat.mod_mod, ← Nat.mul_mod, ← Nat.add_mod]
theorem sz_one {w m v : Nat} (hm : m < 343) (he : ex m ≤ 6) : sz (one1 m v) = if v = 0 then 0 else pl m + 1 := by
  obtain ⟨h1, h2⟩ := pl_ok m hm he
  by_cases c : v = 0
  · rw [if_pos c]
    refine szu_of (Nat.zero_le _) (fun p _ _ => ?_) (fun q => absurd q (Nat.lt_irrefl 0))
    unfold one1; rw [c]; split <;> rfl
  · rw [if_neg c]
    refine szu_of (by omega) (fun p hp1 hp2 => ?_) (fun _ => ?_)
    · unfold one1
      rw [if_neg]
      intro e
      have := cd_inj hp2 h1 (by rw [h2]; exact e)
      omega
    · rw [Nat.add_sub_cancel, h2]
      unfold one1
      rw [if_pos rfl]; exact c
theorem X_putOne {w : Nat} {σ : Mem} {q m v : Nat} (h : PI w σ) (hq : q < 124) (hm : m < 343) (he : ex m ≤ 6) (hv : v < 2 ^ w) : fX5_putOne (nI q) (nI m) (nI v) σ = some (pset σ q (one1 m v)) := by
  have hc := X_clear h hq
  obtain ⟨h1, h2⟩ := pl_ok m hm he
  have h13 : (pset σ q (fun _ => 0)) 13 m = nI (pl m) := by
    rw [show pset σ q (fun _ => 0) 13 = σ 13 from FR_psz σ q _ _ 13 (by decide)]
    have := (h.1.2.2.2.2 (pl m) h1).2.2
    rw [h2] at this; exact this
  have hw := pw_le h.1.1.2
  have hv0 : (nI v = 0) = (v = 0) := propext ⟨fun e => (nI_eq (b := 0) (by omega) (by decide)).mp e, fun e => by rw [e]; rfl⟩
  unfold fX5_putOne fX5_putOne_L46
  rw [hc, Option.bind_some]
  simp (disch := omega) only [chk_in, nI_clamp, h13, ix84, hv0]
  have key : ∀ z, z = (if v = 0 then 0 else pl m + 1) → up2 (up2 (pset σ q (fun _ => 0)) 15 (84 * q + pl m) (nI v)) 16 q (nI z) = pset σ q (one1 m v) := by
    intro z hz
    rw [← sz_one (w := w) (v := v) hm he] at hz
    unfold pset
    rw [← hz]
    refine psz_of (FR_trans (FR_trans (FR_psz σ q _ _) (FR_up2 _ (by decide) _ _)) (FR_up2 _ (by decide) _ _)) (fun p hp => ?_) (fun j hj => ?_) (up2_eq _ _ _ _) (fun j hj => ?_)
    · rw [up2_row _ _ _ (by decide)]
      by_cases e : p = pl m
      · subst e
        rw [up2_eq, h2]
        unfold one1; rw [if_pos rfl]
      · rw [up2_col _ _ _ (by omega), psz_15 σ q _ _ hp]
        unfold one1
        rw [if_neg (fun e2 => e (cd_inj hp h1 (by rw [h2]; exact e2)))]
    · rw [up2_row _ _ _ (by decide), up2_col _ _ _ (by omega), psz_15o σ q _ _ hj]
    · rw [up2_col _ _ _ hj, up2_row _ _ _ (by decide), psz_16o σ q _ _ hj]
  by_cases c : v = 0
  · rw [if_pos c, ← key 0 (by rw [if_pos c])]; rfl
  · rw [if_neg c, ← key (pl m + 1) (by rw [if_neg c]), nI_1]
theorem nI_max {a b : Nat} (ha : a < 2 ^ 31) (hb : b < 2 ^ 31) : (if nI a < nI b then nI b else nI a) = nI (max a b) := by
  by_cases c : a < b
  · rw [if_pos (nI_lt c hb), Nat.max_eq_right (by omega)]
  · rw [if_neg (nI_nlt (by omega) ha), Nat.max_eq_left (by omega)]
theorem X_putSum {w : Nat} {σ : Mem} {q q1 q2 : Nat} {a b : Nat → Nat} (h : PI w σ) (hq : q < 124) (hq1 : q1 < 125) (hq2 : q2 < 125) (ha : px w σ q1 a) (hb : px w σ q2 b) (t : Int32) : fX5_putSum (nI q) (nI q1) (nI q2) t σ = some (pset σ q (lin w a (mI w t) b)) := by
  obtain ⟨z, hz, h16, h15⟩ := h.2.1 q (by omega)
  have hw := h.1.1.2
  have ea := ha.2.2
  have eb := hb.2.2
  have la := sz_le a
  have lb := sz_le b
  obtain ⟨c, hc⟩ : ∃ c, c = lin w a (mI w t) b := ⟨_, rfl⟩
  have hcv : ∀ p, c (cd p) = (a (cd p) + mI w t * b (cd p)) % 2 ^ w := fun p => by rw [hc]; rfl
  obtain ⟨Z, hZ⟩ : ∃ Z, Z = max z (max (sz a) (sz b)) := ⟨_, rfl⟩
  have hZ84 : Z ≤ 84 := by omega
  have hc0 : ∀ p, p < 84 → Z ≤ p → c (cd p) = 0 := fun p hp hzp => by
    rw [hcv, sz_beh (a := a) (by omega) hp, sz_beh (a := b) (by omega) hp, Nat.mul_zero, Nat.zero_add, Nat.zero_mod]
  have hclt : ∀ p, c (cd p) < 2 ^ w := fun p => by rw [hcv]; exact Nat.mod_lt _ (pw_pos w)
  have hpw := pw_le hw
  rw [← hc]
  have hsz : (if (σ 16 q) < (if (σ 16 q1) < (σ 16 q2) then (σ 16 q2) else (σ 16 q1)) then (if (σ 16 q1) < (σ 16 q2) then (σ 16 q2) else (σ 16 q1)) else (σ 16 q)) = nI Z := by
    rw [h16, ea, eb, nI_max (by omega) (by omega), nI_max (by omega) (by omega), hZ]
  have key : ok (loop (fun a => fX5_putSum_B32 (nI q) (nI q1) (nI q2) t (nI Z) a.1 a.2.1 a.2.2) (0, 0, σ)) (fun b => b = (nI (szu c Z), seg σ 15 (84 * q) Z (fun p => nI (c (cd p))))) := by
    refine ok_for' (enc := fun i (_ : Unit) => (nI (szu c i), nI i, seg σ 15 (84 * q) i (fun p => nI (c (cd p))))) Z (fun _ _ => True) (i0 := 0) (s0 := ()) (Nat.zero_le _) trivial ?_ ?_ |> fun hh => by rw [seg_0] at hh; exact hh
    · intro i _ hi _
      dsimp only
      unfold fX5_putSum_B32 fX5_putSum_L106
      have e1 : seg σ 15 (84 * q) i (fun p => nI (c (cd p))) 15 (84 * q1 + i) = nI (a (cd i)) := by
        rw [seg_out σ _ (by omega), ha.2.1 i (by omega)]
      have e2 : seg σ 15 (84 * q) i (fun p => nI (c (cd p))) 15 (84 * q2 + i) = nI (b (cd i)) := by
        rw [seg_out σ _ (by omega), hb.2.1 i (by omega)]
      have e3 : seg σ 15 (84 * q) i (fun p => nI (c (cd p))) 5 1 = nI (2 ^ w - 1) := by
        rw [seg_row σ _ _ _ (by decide), h.1.2.1]
      simp (disch := omega) only [chk_in, nI_clamp, nI_leI, ix84, e1, e2, e3, lin_val hw, ← hcv]
      rw [if_neg (by omega)]
      have hs := seg_succ σ 15 (84 * q) i (fun p => nI (c (cd p)))
      by_cases c0 : c (cd i) = 0
      · have c0' : nI (c (cd i)) = 0 := by rw [c0]; rfl
        rw [if_pos c0']
        refine ok_some ⟨(), ?_, trivial⟩
        have : szu c (i + 1) = szu c i := by
          show (if c (cd i) = 0 then szu c i else i + 1) = _
          rw [if_pos c0]
        rw [this, ← hs, nI_1]
      · have c0' : ¬ nI (c (cd i)) = 0 := nI_ne0 (by omega) (by have := hclt i; omega)
        rw [if_neg c0']
        refine ok_some ⟨(), ?_, trivial⟩
        have : szu c (i + 1) = i + 1 := by
          show (if c (cd i) = 0 then szu c i else i + 1) = _
          rw [if_neg c0]
        rw [this, ← hs, nI_1]
    · intro _ _
      dsimp only
      unfold fX5_putSum_B32
      rw [if_pos (Int32.le_refl _)]
      exact ok_some rfl
  obtain ⟨b', hb', rfl⟩ := key
  unfold fX5_putSum fX5_putSum_L114
  rw [chk_in (by omega) (by decide), chk_in (by omega) (by decide), chk_in (by omega) (by decide), nI_clamp (by omega), nI_clamp (by omega), nI_clamp (by omega), hsz, hb', Option.bind_some]
  dsimp only
  rw [chk_in (by omega) (by decide)]
  congr 1
  have hs : sz c = szu c Z := szu_same hZ84 (fun p h1 h2 => hc0 p h2 h1)
  unfold pset
  rw [hs]
  refine psz_of (FR_trans (FR_seg σ (by decide) _ _ _) (FR_up2 _ (by decide) _ _)) (fun p hp => ?_) (fun j hj => ?_) (up2_eq _ _ _ _) (fun j hj => ?_)
  · rw [up2_row _ _ _ (by decide)]
    rcases Nat.lt_or_ge p Z with c' | c'
    · rw [seg_in σ _ (by omega) (by omega)]
      have : 84 * q + p - 84 * q = p := by omega
      rw [this]
    · rw [seg_out σ _ (by omega), h15 p hp (by omega), hc0 p hp c']; rfl
  · rw [up2_row _ _ _ (by decide), seg_out σ _ (by omega)]
  · rw [up2_col _ _ _ hj, seg_row _ _ _ _ (by decide)]
theorem nI_inj16 {w x y : Nat} (hw : w ≤ 16) (hx : x < 2 ^ w) (hy : y < 2 ^ w) : (nI x = nI y) = (x = y) := by
  have := pw_le hw
  exact propext (nI_eq (by omega) (by omega))
theorem X_isSame {w : Nat} {σ : Mem} {q1 q2 : Nat} {a b : Nat → Nat} (hw : w ≤ 16) (hq1 : q1 < 125) (hq2 : q2 < 125) (ha : px w σ q1 a) (hb : px w σ q2 b) : fX5_isSame (nI q1) (nI q2) σ = some (bI (a = b), σ) := by
  have ea := ha.2.2
  have eb := hb.2.2
  have la := sz_le a
  have lb := sz_le b
  unfold fX5_isSame fX5_isSame_L62
  simp (disch := omega) only [chk_in, nI_clamp, ea, eb, nI_eq]
  by_cases hs : sz a = sz b
  · rw [if_pos hs]
    have key : ok (loop (fun x => fX5_isSame_B19 (nI q1) (nI q2) x.1 x.2) (0, σ)) (fun r => (r = .inl σ ∧ ∀ p, p < sz a → a (cd p) = b (cd p)) ∨ (r = .inr (0, σ) ∧ ∃ p, a (cd p) ≠ b (cd p))) := by
      refine ok_for' (enc := fun i (_ : Unit) => (nI i, σ)) (sz a) (fun i _ => ∀ p, p < i → a (cd p) = b (cd p)) (i0 := 0) (s0 := ()) (Nat.zero_le _) (fun p hp => absurd hp (Nat.not_lt_zero p)) ?_ ?_
      · intro i _ hi hI
        dsimp only
        unfold fX5_isSame_B19
        simp (disch := omega) only [chk_in, nI_clamp, ea, nI_leI, ix84, ha.2.1 i (by omega), hb.2.1 i (by omega), nI_inj16 hw (ha.1.1 _) (hb.1.1 _)]
        rw [if_neg (by omega)]
        by_cases c : a (cd i) = b (cd i)
        · rw [if_pos c]
          refine ok_some ⟨(), by rw [nI_1], fun p hp => ?_⟩
          rcases Nat.lt_or_ge p i with h1 | h1
          · exact hI p h1
          · have : p = i := by omega
            rw [this]; exact c
        · rw [if_neg c]
          exact ok_some (Or.inr ⟨rfl, i, c⟩)
      · intro _ hI
        dsimp only
        unfold fX5_isSame_B19
        simp (disch := omega) only [chk_in, nI_clamp, ea]
        rw [if_pos (Int32.le_refl _)]
        exact ok_some (Or.inl ⟨rfl, hI⟩)
    obtain ⟨r, hr, ⟨rfl, h1⟩ | ⟨rfl, p, h1⟩⟩ := key
    · rw [hr, Option.bind_some]
      show some ((1 : Int32), σ) = _
      rw [bI_t]
      exact OkP_ext ha.1 hb.1 (fun p hp => by
        rcases Nat.lt_or_ge p (sz a) with h2 | h2
        · exact h1 p h2
        · rw [sz_beh (a := a) h2 hp, sz_beh (a := b) (by omega) hp])
    · rw [hr, Option.bind_some]
      show some ((0 : Int32), σ) = _
      rw [bI_f (fun e => h1 (by rw [e]))]
  · rw [if_neg hs, bI_f (fun e => hs (by rw [e]))]
