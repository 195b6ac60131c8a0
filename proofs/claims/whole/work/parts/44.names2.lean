/-! P1, the calls: number, input, carried, op, next, test, show, count, of -/
theorem ok_for' {α β S : Type} {body : α → Option (α ⊕ β)} {Q : β → Prop} (enc : Nat → S → α) (n : Nat) (I : Nat → S → Prop) {s0 : S} {i0 : Nat} (h0 : i0 ≤ n) (hI : I i0 s0)
    (hstep : ∀ (i : Nat) (s : S), i < n → I i s → ok (body (enc i s)) (Sum.elim (fun a' => ∃ s', a' = enc (i + 1) s' ∧ I (i + 1) s') Q))
    (hend : ∀ s : S, I n s → ok (body (enc n s)) (Sum.elim (fun _ => False) Q)) : ok (loop body (enc i0 s0)) Q := by
  have key : ∀ (m i : Nat) (s : S), i + m = n → I i s → ok (loop body (enc i s)) Q := by
    intro m
    induction m with
    | zero =>
      intro i s h hi
      have e : i = n := by omega
      subst e
      obtain ⟨x, hx, h2⟩ := hend s hi
      cases x with
      | inl _ => exact h2.elim
      | inr b => exact ⟨b, loop_eq body _ hx rfl, h2⟩
    | succ m ih =>
      intro i s h hi
      obtain ⟨x, hx, h2⟩ := hstep i s (by omega) hi
      cases x with
      | inl a' =>
        obtain ⟨s', rfl, hi'⟩ := h2
        obtain ⟨b, hb, hq⟩ := ih (i + 1) s' (by omega) hi'
        exact ⟨b, loop_eq body _ hx hb, hq⟩
      | inr b => exact ⟨b, loop_eq body _ hx rfl, h2⟩
  exact key (n - i0) i0 s0 (by omega) hI
def th (σ : Mem) : Mem := up2 σ 0 2 0
theorem EQ_th {w n : Nat} {σX σM : Mem} (h : EQ w n σX σM) : EQ w n σX (th σM) := by
  obtain ⟨e6, e1, harr, e7, e8, e9, e10⟩ := h
  exact ⟨by simp [th, up2, e6], by simp [th, up2, e1], fun i hi => by simpa [th, up2] using harr i hi, by simp [th, up2, e7], by simp [th, up2, e8], by simp [th, up2, e9], by simp [th, up2, e10]⟩
/-- nothing came, or one name -/
def Out1 (w n : Nat) (σX σM τX τM : Mem) : Prop := (τX = σX ∧ τM = th σM) ∨ ∃ t o u : Int32, n < 30 ∧ NewOk w n (σX 8) t o u ∧ τX = addX σX n t o u ∧ τM = addM (th σM) n t o u
theorem add_both {w n : Nat} {σX σM : Mem} (hB : BX w n σX) (hE : EQ w n σX σM) {t o u : Int32} (hw : n < 30 → NewOk w n (σX 8) t o u) : ∃ (r : Int32) (τX τM : Mem), fX3_add t o u σX = some (r, τX) ∧ fX8_comes t o u (th σM) = some (r, τM) ∧ Out1 w n σX σM τX τM := by
  have hn := hB.2.2.1
  have hn2 := (EQ_th hE).1
  rcases Nat.lt_or_ge n 30 with h | h
  · exact ⟨nI n, _, _, X_add hn h t o u, M_add hn2 h t o u, Or.inr ⟨t, o, u, h, hw h, rfl, rfl⟩⟩
  · have e : n = 30 := by have := hB.2.1; omega
    exact ⟨-1, _, _, X_addN hn e t o u, M_addN hn2 e t o u, Or.inl ⟨rfl, rfl⟩⟩
theorem P_number {w n : Nat} {σX σM : Mem} (hB : BX w n σX) (hE : EQ w n σX σM) (v : Int32) : ∃ (r : Int32) (τX τM : Mem), fX7_number v σX = some (r, τX) ∧ fX8_number v σM = some (r, τM) ∧ Out1 w n σX σM τX τM := by
  obtain ⟨r, τX, τM, h1, h2, h3⟩ := add_both hB hE (t := 0) (o := nI (mI w v)) (u := -2) (fun _ => Or.inl ⟨rfl, rfl, _, mI_lt w v, rfl⟩)
  refine ⟨r, τX, τM, ?_, ?_, h3⟩
  · unfold fX7_number
    rw [hB.2.2.2.1, i_mask, h1]
    rfl
  · unfold fX8_number
    show (fX8_cut v.toInt64 (th σM)).bind _ = _
    rw [cutE hB.1.2 (EQ_th hE).2.1, mI_64 hB.1.2]
    show (fX8_comes 0 (nI (mI w v)) (-2) (th σM)).bind _ = _
    rw [h2]
    rfl
theorem M_many {n : Nat} {σ : Mem} (hn : σ 0 6 = nI n) (h30 : n ≤ 30) (t : Int32) : fX8_many t σ = some (nI (fb_ct (isT (σ 2) t) n), σ) := by
  have key : ok (loop (fun a => fX8_many_B4 t a.1 a.2.1 a.2.2) (0, 0, σ)) (fun b => b = (nI (fb_ct (isT (σ 2) t) n), σ)) := by
    refine ok_for' (enc := fun i (_ : Unit) => (nI (fb_ct (isT (σ 2) t) i), nI i, σ)) n (fun _ _ => True) (i0 := 0) (s0 := ()) (Nat.zero_le _) trivial ?_ ?_
    · intro i _ hi _
      show ok (fX8_many_B4 t (nI (fb_ct (isT (σ 2) t) i)) (nI i) σ) _
      unfold fX8_many_B4 fX8_many_L28
      rw [hn, if_neg (nI_ge hi (by omega)), chk_in (by omega) (by decide), nI_clamp (by omega)]
      by_cases c : σ 2 i = t
      · rw [if_pos c]
        refine ok_some ⟨(), ?_, trivial⟩
        rw [fb_ct_succ]
        simp only [isT, c, beq_self_eq_true, if_true]
        rw [nI_1, nI_1]
      · rw [if_neg c]
        refine ok_some ⟨(), ?_, trivial⟩
        rw [fb_ct_succ]
        have : (σ 2 i == t) = false := by simp [c]
        simp only [isT, this, Nat.add_zero]
        rw [nI_1, Int32.add_zero]
        rfl
    · intro _ _
      show ok (fX8_many_B4 t (nI (fb_ct (isT (σ 2) t) n)) (nI n) σ) _
      unfold fX8_many_B4
      rw [hn, if_pos (Int32.le_refl _)]
      exact ok_some rfl
  obtain ⟨b, hb, rfl⟩ := key
  unfold fX8_many fX8_many_L36
  rw [hb]
  rfl
theorem ct_EQ {w n : Nat} {σX σM : Mem} (hE : EQ w n σX σM) (t : Int32) : fb_ct (isT (σM 2) t) n = fb_ct (isT (σX 8) t) n := fb_ct_cong (fun k hk => by simp [isT, (hE.2.2.1 k hk).1])
theorem P_input {w n : Nat} {σX σM : Mem} (hB : BX w n σX) (hE : EQ w n σX σM) : ∃ (r : Int32) (τX τM : Mem), fX7_input σX = some (r, τX) ∧ fX8_input σM = some (r, τM) ∧ Out1 w n σX σM τX τM := by
  obtain ⟨c, hc⟩ : ∃ c, c = fb_ct (isT (σX 8) 1) n := ⟨_, rfl⟩
  have e5 : σX 3 5 = nI c := by rw [hc]; exact hB.2.2.2.2.2.1
  have c3 : c ≤ 3 := by rw [hc]; exact hB.2.2.2.2.2.2.1
  have hE2 := EQ_th hE
  have hm : fX8_many 1 (th σM) = some (nI c, th σM) := by rw [M_many hE2.1 hB.2.1, ct_EQ hE2, hc]
  rcases Nat.lt_or_ge c 3 with h | h
  · obtain ⟨r, τX, τM, h1, h2, h3⟩ := add_both hB hE (t := 1) (o := nI c) (u := -2) (fun _ => Or.inr (Or.inl ⟨rfl, rfl, ⟨c, h, rfl⟩, by rw [← hc]; exact h⟩))
    refine ⟨r, τX, τM, ?_, ?_, h3⟩
    · unfold fX7_input
      rw [e5, if_pos (show nI c < 3 from nI_lt (b := 3) h (by decide)), h1]
      rfl
    · unfold fX8_input fX8_input_L30
      show (fX8_many 1 (th σM)).bind _ = _
      rw [hm]
      show (if nI c = 3 then _ else _) = _
      rw [if_neg (fun e => by have := (nI_eq (b := 3) (by omega) (by decide)).mp e; omega)]
      show (fX8_many 1 (th σM)).bind _ = _
      rw [hm]
      show (fX8_comes 1 (nI c) (-2) (th σM)).bind _ = _
      rw [h2]
      rfl
  · have e : c = 3 := by omega
    refine ⟨-1, σX, th σM, ?_, ?_, Or.inl ⟨rfl, rfl⟩⟩
    · unfold fX7_input
      rw [e5, e]
      rfl
    · unfold fX8_input fX8_input_L30
      show (fX8_many 1 (th σM)).bind _ = _
      rw [hm, e]
      rfl
theorem P_op {w n : Nat} {σX σM : Mem} (hB : BX w n σX) (hE : EQ w n σX σM) (k a b : Int32) : ∃ (r : Int32) (τX τM : Mem), fX7_op k a b σX = some (r, τX) ∧ fX8_op k a b σM = some (r, τM) ∧ Out1 w n σX σM τX τM := by
  have hn := hB.2.2.1
  have h30 := hB.2.1
  have hn2 := (EQ_th hE).1
  have hno : ∀ {p : Prop}, p → p := fun h => h
  by_cases k0 : k < 0
  · refine ⟨-1, σX, th σM, ?_, ?_, Or.inl ⟨rfl, rfl⟩⟩
    · unfold fX7_op fX7_op_L31; rw [if_pos k0]
    · unfold fX8_op fX8_op_L42 fX8_op_L43
      show (fX8_isIn k 0 2 (th σM)).bind _ = _
      unfold fX8_isIn fX8_isIn_L14 fX8_isIn_L15
      rw [if_pos k0]; rfl
  by_cases k2 : 2 < k
  · refine ⟨-1, σX, th σM, ?_, ?_, Or.inl ⟨rfl, rfl⟩⟩
    · unfold fX7_op fX7_op_L31; rw [if_neg k0, if_pos k2]
    · unfold fX8_op fX8_op_L42 fX8_op_L43
      show (fX8_isIn k 0 2 (th σM)).bind _ = _
      unfold fX8_isIn fX8_isIn_L14 fX8_isIn_L15
      rw [if_neg k0, if_pos k2]; rfl
  have eX : fX7_op k a b σX = (fX3_has a σX).bind fun o1 => if o1.1 = 0 then fX7_op_L31 o1.2 else (fX3_has b o1.2).bind fun o2 => if o2.1 = 0 then fX7_op_L31 o2.2 else (fX3_add (2 + k) a b o2.2).bind fun o3 => some (o3.1, o3.2) := by
    unfold fX7_op; rw [if_neg k0, if_neg k2]
  have eM : fX8_op k a b σM = (fX8_isName a (th σM)).bind fun o2 => if o2.1 = 0 then fX8_op_L42 o2.2 else (fX8_isName b o2.2).bind fun o3 => if o3.1 = 0 then fX8_op_L42 o3.2 else (fX8_comes (2 + k) a b o3.2).bind fun o4 => fX8_op_L43 o4.1 o4.2 := by
    unfold fX8_op
    show (fX8_isIn k 0 2 (th σM)).bind _ = _
    unfold fX8_isIn fX8_isIn_L14 fX8_isIn_L15
    rw [if_neg k0, if_neg k2]; rfl
  rw [eX, eM]
  rcases nm_or n h30 a with ⟨i, hi, rfl⟩ | ⟨-, ha⟩
  · rcases nm_or n h30 b with ⟨j, hj, rfl⟩ | ⟨-, hb⟩
    · have hk : k = 0 ∨ k = 1 ∨ k = 2 := by
        obtain ⟨z, hz, rfl⟩ := nI_of k0
        have h2 : z ≤ 2 := Nat.not_lt.mp (fun q => k2 (nI_lt (a := 2) q hz))
        rcases (show z = 0 ∨ z = 1 ∨ z = 2 by omega) with rfl | rfl | rfl
        · exact Or.inl rfl
        · exact Or.inr (Or.inl rfl)
        · exact Or.inr (Or.inr rfl)
      obtain ⟨r, τX, τM, h1, h2, h3⟩ := add_both hB hE (t := 2 + k) (o := nI i) (u := nI j) (fun _ => Or.inr (Or.inr (Or.inl ⟨by rcases hk with rfl | rfl | rfl <;> decide, i, j, hi, hj, rfl, rfl⟩)))
      refine ⟨r, τX, τM, ?_, ?_, h3⟩
      · rw [has1 hn h30 hi]
        show (fX3_has (nI j) σX).bind _ = _
        rw [has1 hn h30 hj]
        show (fX3_add (2 + k) (nI i) (nI j) σX).bind _ = _
        rw [h1]; rfl
      · rw [isn1 hn2 h30 hi]
        show (fX8_isName (nI j) (th σM)).bind _ = _
        rw [isn1 hn2 h30 hj]
        show (fX8_comes (2 + k) (nI i) (nI j) (th σM)).bind _ = _
        rw [h2]; rfl
    · refine ⟨-1, σX, th σM, ?_, ?_, Or.inl ⟨rfl, rfl⟩⟩
      · rw [has1 hn h30 hi]
        show (fX3_has b σX).bind _ = _
        rw [has0 hn hb]; rfl
      · rw [isn1 hn2 h30 hi]
        show (fX8_isName b (th σM)).bind _ = _
        rw [isn0 hn2 h30 hb]; rfl
  · refine ⟨-1, σX, th σM, ?_, ?_, Or.inl ⟨rfl, rfl⟩⟩
    · rw [has0 hn ha]; rfl
    · rw [isn0 hn2 h30 ha]; rfl
