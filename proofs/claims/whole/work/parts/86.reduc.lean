/-! reduced, cell, needed -/
def askEq (σX σM : Mem) : Prop := σM 0 7 = σX 3 7 ∧ σM 0 8 = σX 3 8 ∧ σM 0 9 = σX 3 9 ∧ σM 0 10 = σX 3 10
def askOk (n : Nat) (σ : Mem) : Prop := lowb n (σ 3 7) ∧ ((σ 3 8 = -1) ∨ ((σ 3 8 = 0 ∨ σ 3 8 = 1) ∧ ∃ a b, a < n ∧ b < n ∧ σ 3 9 = nI a ∧ σ 3 10 = nI b))
theorem lowb_or {n : Nat} {x y : Int32} (hx : lowb n x) (hy : lowb n y) : lowb n (x ||| y) := fun i hi hi2 => by rw [b_or, hx i hi hi2, hy i hi hi2]; rfl
theorem lowb_bit {n i : Nat} (hn : n ≤ 30) (hi : i < n) : lowb n (bitI i) := fun j hj hj2 => by
  rw [bt_bitI (by omega) hj2]
  simp; omega
theorem lowb_ask {n : Nat} {σ : Mem} (hn : n ≤ 30) (h : askOk n σ) : lowb n (askd σ) := by
  unfold askd
  by_cases c : σ 3 8 = -1
  · rw [if_pos c]; exact h.1
  · rw [if_neg c]
    rcases h.2 with q | ⟨-, a, b, ha, hb, e1, e2⟩
    · exact absurd q c
    · rw [e1, e2]
      exact lowb_or (lowb_or h.1 (lowb_bit hn ha)) (lowb_bit hn hb)
theorem ask_eq {σX σM : Mem} (h : askEq σX σM) : askm σM = askd σX := by
  unfold askm askd
  rw [h.1, h.2.1, h.2.2.1, h.2.2.2]
/-- the plan's cache -/
def PXc (w n : Nat) (t o u : Nat → Nat) (σ : Mem) : Prop := σ 4 9 = σ 3 11 → σ 4 10 = σ 3 12 → XP w n t o u (askd σ) σ
theorem XP_FR {w n : Nat} {t o u : Nat → Nat} {S : Int32} {L : List Nat} {σ τ : Mem} (h : XP w n t o u S σ) (hf : FR L σ τ) (hL : ∀ x, x ∈ [4, 22, 23, 24, 25] → x ∉ L) : XP w n t o u S τ := by
  unfold XP XPs
  rw [hf 4 (hL _ (by decide)), hf 22 (hL _ (by decide)), hf 23 (hL _ (by decide)), hf 24 (hL _ (by decide)), hf 25 (hL _ (by decide))]
  exact h
theorem askd_FR {L : List Nat} {σ τ : Mem} (hf : FR L σ τ) (h3 : 3 ∉ L) : askd τ = askd σ := by unfold askd; rw [hf 3 h3]
theorem PXc_FR {w n : Nat} {t o u : Nat → Nat} {L : List Nat} {σ τ : Mem} (h : PXc w n t o u σ) (hf : FR L σ τ) (hL : ∀ x, x ∈ [3, 4, 22, 23, 24, 25] → x ∉ L) : PXc w n t o u τ := by
  intro q1 q2
  rw [hf 4 (hL _ (by decide)), hf 3 (hL _ (by decide))] at q1 q2
  rw [askd_FR hf (hL _ (by decide))]
  exact XP_FR (h q1 q2) hf (fun x hx => hL x (by
    simp only [List.mem_cons, List.not_mem_nil, or_false] at hx ⊢
    omega))
/-- what a call that asks leaves behind; seen numbers aside -/
def KX (w n : Nat) (t o u : Nat → Nat) (σ τ : Mem) : Prop := FR [0, 4, 6, 14, 15, 16, 17, 18, 19, 20, 21, 22, 23, 24, 25, 26, 27, 28, 29, 30, 31] σ τ ∧ CX w n t o u τ ∧ PXc w n t o u τ ∧ (τ 0 6 = σ 0 6 ∨ τ 0 6 = σ 3 11) ∧ ((τ 4 9 = σ 4 9 ∧ τ 4 10 = σ 4 10) ∨ (τ 4 9 = σ 3 11 ∧ τ 4 10 = σ 3 12))
def KM (w n : Nat) (t o u : Nat → Nat) (σ τ : Mem) : Prop := FR [0, 1, 5, 6, 7, 8, 9, 10, 11, 12, 13, 14, 15] σ τ ∧ CM w n t o u τ ∧ ∀ j, j ≠ 2 → j ≠ 11 → j ≠ 17 → j ≠ 20 → j ≠ 25 → τ 0 j = σ 0 j
def seenEq (σX σM : Mem) : Prop := ∃ m, m ≤ 400 ∧ σX 6 10 = nI m ∧ σM 0 25 = nI m ∧ ∀ i, i < m → σX 31 i = σM 15 i
/-- both sides answer the same, what they hold is kept, and the seen numbers are the same -/
def Same2 (w n : Nat) (t o u : Nat → Nat) (σX σM : Mem) (fX fM : Option (Int32 × Mem)) : Prop := ∃ (r : Int32) (τX τM : Mem), fX = some (r, τX) ∧ fM = some (r, τM) ∧ KX w n t o u σX τX ∧ KM w n t o u σM τM ∧ seenEq τX τM
theorem KX_Q {w n : Nat} {t o u : Nat → Nat} {σ τ : Mem} (h : QX w n t o u σ τ) (hp : PXc w n t o u σ) : KX w n t o u σ τ := ⟨FR_mono h.1 (by decide), h.2.1, PXc_FR hp h.1 (by decide), h.2.2, Or.inl ⟨by rw [h.1 4 (by decide)], by rw [h.1 4 (by decide)]⟩⟩
theorem KM_Q {w n : Nat} {t o u : Nat → Nat} {σ τ : Mem} (h : QM w n t o u σ τ) : KM w n t o u σ τ := ⟨FR_mono h.1 (by decide), h.2.1, fun j h2 h11 _ _ _ => h.2.2 j h11 h2⟩
theorem Same_2 {w n : Nat} {t o u : Nat → Nat} {σX σM : Mem} {fX fM : Option (Int32 × Mem)} (h : Same w n t o u σX σM fX fM) (hp : PXc w n t o u σX) (hs : seenEq σX σM) : Same2 w n t o u σX σM fX fM := by
  obtain ⟨r, ⟨⟨rX, τX⟩, e1, h1, q1⟩, ⟨⟨rM, τM⟩, e2, h2, q2⟩⟩ := h
  dsimp only at h1 h2 q1 q2
  subst h1
  subst h2
  refine ⟨rM, τX, τM, e1, e2, KX_Q q1 hp, KM_Q q2, ?_⟩
  obtain ⟨m, m0, m1, m2, m3⟩ := hs
  refine ⟨m, m0, by rw [q1.1 6 (by decide)]; exact m1, by rw [q2.2.2 25 (by decide) (by decide)]; exact m2, fun i hi => ?_⟩
  rw [q1.1 31 (by decide), q2.1 15 (by decide)]
  exact m3 i hi
theorem P_needed {w n : Nat} {t o u : Nat → Nat} {σX σM : Mem} (hW : WF w n t o u) (hX : CX w n t o u σX) (hM : CM w n t o u σM) (he : askEq σX σM) (ho : askOk n σX) (a : Int32) : Same w n t o u σX σM (fX7_needed a σX) (fX8_needed a σM) := by
  have hT := CM_th hM
  have h30 := hX.1.1
  have t8 : th σM 0 8 = σX 3 8 := by rw [← he.2.1]; exact up2_col _ _ _ (by decide)
  have t7 : th σM 0 7 = σX 3 7 := by rw [← he.1]; exact up2_col _ _ _ (by decide)
  rcases nm_or n h30 a with ⟨i, hi, rfl⟩ | ⟨-, ha⟩
  · by_cases c : σX 3 8 = -1
    · refine ⟨-1, ?_, ?_⟩
      · unfold fX7_needed fX7_needed_L22
        rw [hasX hX.1 hi, Option.bind_some]
        dsimp only
        rw [if_neg (by decide)]
        refine ok_pos c ?_
        exact ok_some ⟨rfl, QX_refl hX⟩
      · unfold fX8_needed fX8_needed_L21
        rw [th_def, isnM hT.2.1.1 hi, Option.bind_some]
        dsimp only
        rw [if_neg (by decide)]
        refine ok_pos (show th σM 0 8 = -1 by rw [t8]; exact c) ?_
        exact ok_some ⟨rfl, hT⟩
    · have hl : lowb n ((σX 3 7) ||| bitI i) := lowb_or ho.1 (lowb_bit h30 hi)
      refine ⟨ndd w n t o u ((σX 3 7) ||| bitI i), ?_, ?_⟩
      · unfold fX7_needed fX7_needed_L22
        rw [hasX hX.1 hi, Option.bind_some]
        dsimp only
        rw [if_neg (by decide)]
        refine ok_neg c ?_
        refine ok_bind (ok_mono (X_ref hW hX) ?_)
        rintro τ ⟨q1, q2, -⟩
        rw [q1.1 3 (by decide)]
        show ok ((fX4_neededFor ((σX 3 7) ||| bitI i) τ).bind _) _
        rw [X_neededFor hW q1.2.1.1 q2 hl, Option.bind_some]
        exact ok_some ⟨rfl, q1⟩
      · unfold fX8_needed fX8_needed_L21
        rw [th_def, isnM hT.2.1.1 hi, Option.bind_some]
        dsimp only
        rw [if_neg (by decide)]
        refine ok_neg (show ¬ th σM 0 8 = -1 by rw [t8]; exact c) ?_
        refine ok_bind (ok_mono (M_lay hW hT.2.1) ?_)
        rintro τ ⟨q1, q2, -⟩
        have e7 : τ 0 7 = σX 3 7 := by rw [q1.2.2 7 (by decide) (by decide)]; exact t7
        rw [e7]
        show ok ((fX8_neededBy ((σX 3 7) ||| bitI i) τ).bind _) _
        rw [M_neededBy hW q1.2.1.1 q2 hl, Option.bind_some]
        exact ok_some ⟨rfl, QM_trans hT q1⟩
  · refine ⟨-1, ?_, ?_⟩
    · unfold fX7_needed fX7_needed_L22
      rw [hasXn hX.1 ha, Option.bind_some]
      dsimp only
      rw [if_pos rfl]
      exact ok_some ⟨rfl, QX_refl hX⟩
    · unfold fX8_needed fX8_needed_L21
      rw [th_def, isnMn hT.2.1.1 ha, Option.bind_some]
      dsimp only
      rw [if_pos rfl]
      exact ok_some ⟨rfl, hT⟩
/-! counting -/
theorem X_amountOf {n : Nat} {t o u : Nat → Nat} {σ : Mem} (hN : NX n t o u σ) (ht : ∀ i, i < n → t i ≤ 5) {v : Nat} (hv : v ≤ 5) : fX3_amountOf (nI v) σ = some (nI (fb_ct (fun k => decide (t k = v)) n), σ) := by
  have h30 := hN.1
  have key : ok (loop (fun a => fX3_amountOf_B4 (nI v) a.1 a.2.1 a.2.2) (0, 0, σ)) (fun b => b = (nI (fb_ct (fun k => decide (t k = v)) n), σ)) := by
    refine ok_for' (enc := fun i (_ : Unit) => (nI (fb_ct (fun k => decide (t k = v)) i), nI i, σ)) n (fun _ _ => True) (i0 := 0) (s0 := ()) (Nat.zero_le _) trivial ?_ ?_
    · intro i _ hi _
      dsimp only
      unfold fX3_amountOf_B4 fX3_amountOf_L28
      rw [hN.2.1, if_neg (nI_ge hi (by omega)), chk_in (by omega) (by decide), nI_clamp (by omega), (hN.2.2 i hi).1, nI_1, fb_ct_succ]
      have := ht i hi
      by_cases c : t i = v
      · rw [if_pos (by rw [c]), nI_1]
        refine ok_some ⟨(), ?_, trivial⟩
        rw [if_pos (by simp [c])]
      · rw [if_neg (fun e => c ((nI_eq (by omega) (by omega)).mp e)), Int32.add_zero]
        refine ok_some ⟨(), ?_, trivial⟩
        rw [if_neg (by simp [c]), nI_1]; rfl
    · intro _ _
      dsimp only
      unfold fX3_amountOf_B4
      rw [hN.2.1, if_pos (Int32.le_refl _)]
      exact ok_some rfl
  obtain ⟨b, hb, rfl⟩ := key
  unfold fX3_amountOf fX3_amountOf_L36
  rw [hb, Option.bind_some]
/-- what the reference's count takes -/
def pm (t K : Nat → Nat) (nd : Int32) (p a k : Nat) : Bool := (if p = 0 then decide (t k = 2) || decide (t k = 3) else decide (t k = 4)) && (decide (a = 0) || (!decide (K k = 0) && (decide (p = 0) || !decide (K k = 1)) && bt nd k))
theorem M_manyOf {w n : Nat} {t o u : Nat → Nat} {σ : Mem} (hW : WF w n t o u) (hN : NM n t o u σ) (hC : MC w n t o u σ) {p a : Nat} (hp : p < 2) (ha : a < 2) : fX8_manyOf (nI p) (nI a) σ = some (nI (fb_ct (pm t (Rs w n t o u).2.2 (σ 0 20) p a) n), σ) := by
  have h30 := hN.1
  obtain ⟨K, hK⟩ : ∃ K, K = (Rs w n t o u).2.2 := ⟨_, rfl⟩
  rw [← hK]
  have key : ok (loop (fun x => fX8_manyOf_B5 (nI p) (nI a) x.1 x.2.1 x.2.2) (0, 0, σ)) (fun b => b = (nI (fb_ct (pm t K (σ 0 20) p a) n), σ)) := by
    refine ok_for' (enc := fun i (_ : Unit) => (nI (fb_ct (pm t K (σ 0 20) p a) i), nI i, σ)) n (fun _ _ => True) (i0 := 0) (s0 := ()) (Nat.zero_le _) trivial ?_ ?_
    · intro k _ hk _
      dsimp only
      have k4 : K k ≤ 4 := by rw [hK]; exact K_le (w := w) hW h30 hk
      have e7 : σ 7 k = nI (K k) := by rw [hK]; exact (hC.2.2 k hk).2.1
      have e2 := (hN.2.2 k hk).1
      obtain ⟨c, hc⟩ : ∃ c, c = fb_ct (pm t K (σ 0 20) p a) k := ⟨_, rfl⟩
      rw [fb_ct_succ, ← hc]
      have L108 : ∀ f5 f0 : Int32, fX8_manyOf_L108 (nI p) (nI a) (nI c) (nI k) f5 f0 σ = some (.inl (nI (c + if f5 ≠ 0 ∧ (a = 0 ∨ f0 ≠ 0) then 1 else 0), nI (k + 1), σ)) := by
        intro f5 f0
        unfold fX8_manyOf_L108 fX8_manyOf_L129 fX8_manyOf_L125 fX8_manyOf_L130
        rw [nI_1, nI_1, Int32.add_zero]
        by_cases c5 : f5 = 0
        · rw [if_pos c5, if_neg (fun q => q.1 c5)]; rfl
        · rw [if_neg c5]
          by_cases ca : a = 0
          · rw [if_pos (by rw [ca]; rfl), if_pos ⟨c5, Or.inl ca⟩]
          · rw [if_neg (show ¬ nI a = 0 from nI_ne0 (by omega) (by omega))]
            by_cases c0 : f0 = 0
            · rw [if_pos c0, if_neg (fun q => by rcases q.2 with z | z; exact ca z; exact z c0)]; rfl
            · rw [if_neg c0, if_pos ⟨c5, Or.inr c0⟩]
      have L64 : ∀ f5 : Int32, fX8_manyOf_L64 (nI p) (nI a) (nI c) (nI k) f5 σ = some (.inl (nI (c + if f5 ≠ 0 ∧ (a = 0 ∨ (K k ≠ 0 ∧ (p = 0 ∨ K k ≠ 1) ∧ bt (σ 0 20) k = true)) then 1 else 0), nI (k + 1), σ)) := by
        intro f5
        have L91 : fX8_manyOf_L91 (nI p) (nI a) (nI c) (nI k) f5 σ = some (.inl (nI (c + if f5 ≠ 0 ∧ (a = 0 ∨ bt (σ 0 20) k = true) then 1 else 0), nI (k + 1), σ)) := by
          unfold fX8_manyOf_L91 fX8_manyOf_L107
          rw [hasE _ (by omega), Option.bind_some]
          dsimp only
          by_cases cb : bt (σ 0 20) k = true
          · rw [if_pos cb, if_neg (by decide), L108]
            simp [cb]
          · rw [if_neg cb, if_pos rfl, L108]
            simp [cb]
        unfold fX8_manyOf_L64 fX8_manyOf_L107
        rw [chk_in (by omega) (by decide), chk_in (by omega) (by decide), nI_clamp (by omega), e7]
        by_cases c0 : K k = 0
        · rw [if_pos (by rw [c0]; rfl), L108]
          simp [c0]
        · rw [if_neg (nI_ne0 (by omega) (by omega))]
          by_cases cp : p = 0
          · rw [if_pos (show nI p = 0 by rw [cp]; rfl), L91]
            simp [c0, cp]
          · rw [if_neg (show ¬ nI p = 0 from nI_ne0 (by omega) (by omega))]
            by_cases c1 : K k = 1
            · rw [if_pos (by rw [c1]; rfl), L108]
              simp [c1, cp]
            · rw [if_neg (show ¬ nI _ = 1 from fun e => c1 ((nI_eq (b := 1) (by omega) (by decide)).mp e)), L91]
              simp [c0, c1]
      unfold fX8_manyOf_B5 fX8_manyOf_L59
      rw [hN.2.1, if_neg (nI_ge hk (by omega)), chk_in (by omega) (by decide), chk_in (by omega) (by decide), chk_in (by omega) (by decide), nI_clamp (by omega), e2]
      have hfin : ∀ f5 : Int32, (f5 ≠ 0 ↔ (if p = 0 then decide (t k = 2) || decide (t k = 3) else decide (t k = 4)) = true) → ok (fX8_manyOf_L64 (nI p) (nI a) (nI c) (nI k) f5 σ) (Sum.elim (fun a' => ∃ s' : Unit, a' = (nI (c + if pm t K (σ 0 20) p a k = true then 1 else 0), nI (k + 1), σ) ∧ True) (fun b => b = (nI (fb_ct (pm t K (σ 0 20) p a) n), σ))) := by
        intro f5 h5
        rw [L64]
        refine ok_some ⟨(), ?_, trivial⟩
        have : (f5 ≠ 0 ∧ (a = 0 ∨ (K k ≠ 0 ∧ (p = 0 ∨ K k ≠ 1) ∧ bt (σ 0 20) k = true))) ↔ pm t K (σ 0 20) p a k = true := by
          unfold pm
          rw [Bool.and_eq_true, ← h5]
          simp only [Bool.or_eq_true, Bool.and_eq_true, decide_eq_true_eq, Bool.not_eq_true', decide_eq_false_iff_not, ne_eq, and_assoc]
        by_cases q : pm t K (σ 0 20) p a k = true
        · rw [if_pos q, if_pos (this.mpr q)]
        · rw [if_neg q, if_neg (fun z => q (this.mp z))]
      by_cases cp : p = 0
      · rw [if_pos (show nI p = 0 by rw [cp]; rfl)]
        by_cases c2 : t k = 2
        · rw [if_pos (by rw [c2]; rfl)]
          exact hfin 1 (by simp [cp, c2])
        · rw [if_neg (t_n2 hW hk c2)]
          by_cases c3 : t k = 3
          · rw [if_pos (by rw [c3]; rfl)]
            exact hfin 1 (by simp [cp, c3])
          · have t5 := WF_t hW hk
            rw [if_neg (show ¬ nI (t k) = 3 from fun e => c3 ((nI_eq (b := 3) (by omega) (by decide)).mp e))]
            exact hfin 0 (by simp [cp, c2, c3])
      · rw [if_neg (show ¬ nI p = 0 from nI_ne0 (by omega) (by omega))]
        by_cases c4 : t k = 4
        · rw [if_pos (by rw [c4]; rfl)]
          exact hfin 1 (by simp [cp, c4])
        · rw [if_neg (t_n4 hW hk c4)]
          exact hfin 0 (by simp [cp, c4])
    · intro _ _
      dsimp only
      unfold fX8_manyOf_B5
      rw [hN.2.1, if_pos (Int32.le_refl _)]
      exact ok_some rfl
  obtain ⟨b, hb, rfl⟩ := key
  unfold fX8_manyOf fX8_manyOf_L138
  rw [hb, Option.bind_some]
