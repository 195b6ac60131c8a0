/-! the relation, and that it is kept -/
def Bt (σ : Mem) (i : Nat) : Nat := (σ 8 i).toNatClampNeg
def Bo (σ : Mem) (i : Nat) : Nat := (σ 9 i).toNatClampNeg
def Bu (σ : Mem) (i : Nat) : Nat := (σ 10 i).toNatClampNeg
theorem BX_nums {w n : Nat} {σ : Mem} (h : BX w n σ) : WF w n (Bt σ) (Bo σ) (Bu σ) ∧ NX n (Bt σ) (Bo σ) (Bu σ) σ := by
  obtain ⟨a1, a2, a3, a4, a5, -⟩ := h
  have hp := pw_le a1.2
  constructor
  · intro i hi
    unfold Bt Bo Bu
    rcases a5 i hi with ⟨q, -, v, hv, e⟩ | ⟨q, -, v, hv, e⟩ | ⟨q, a, b, ha, hb, e1, e2⟩ | ⟨q, a, b, ha, hb, e1, e2, e3⟩
    · rw [q, e, nI_clamp (by omega)]
      exact Or.inl ⟨rfl, hv⟩
    · rw [q, e, nI_clamp (by omega)]
      exact Or.inr (Or.inl ⟨rfl, hv⟩)
    · rw [e1, e2, nI_clamp (by omega), nI_clamp (by omega)]
      refine Or.inr (Or.inr (Or.inl ⟨?_, ha, hb⟩))
      rcases q with q | q | q <;> rw [q] <;> decide
    · rw [q, e1, e2, nI_clamp (by omega), nI_clamp (by omega)]
      refine Or.inr (Or.inr (Or.inr ⟨rfl, ha, hb, ?_⟩))
      rcases e3 with e3 | e3 <;> rw [e3] <;> decide
  · refine ⟨a2, a3, fun i hi => ?_⟩
    unfold Bt Bo Bu
    rcases a5 i hi with ⟨q, -, v, hv, e⟩ | ⟨q, -, v, hv, e⟩ | ⟨q, a, b, ha, hb, e1, e2⟩ | ⟨q, a, b, ha, hb, e1, e2, e3⟩
    · rw [q, e, nI_clamp (by omega)]
      exact ⟨rfl, rfl, fun h => absurd h (by decide)⟩
    · rw [q, e, nI_clamp (by omega)]
      exact ⟨rfl, rfl, fun h => absurd h (by decide)⟩
    · rw [e1, e2, nI_clamp (by omega), nI_clamp (by omega)]
      refine ⟨?_, rfl, fun _ => rfl⟩
      rcases q with q | q | q <;> rw [q] <;> rfl
    · rw [q, e1, e2, nI_clamp (by omega), nI_clamp (by omega)]
      exact ⟨rfl, rfl, fun _ => rfl⟩
theorem EQ_nums {w n : Nat} {σX σM : Mem} (hB : BX w n σX) (hE : EQ w n σX σM) : NM n (Bt σX) (Bo σX) (Bu σX) σM ∧ MB w σM := by
  have hN := (BX_nums hB).2
  refine ⟨⟨hN.1, hE.1, fun i hi => ?_⟩, hB.1, hE.2.1⟩
  obtain ⟨e2, e3, e4⟩ := hE.2.2.1 i hi
  rw [e2, e3, e4]
  exact hN.2.2 i hi
/-- the versions -/
def VS (k : Nat) (σ : Mem) : Prop := ∃ a b c d e, σ 3 11 = nI a ∧ σ 0 6 = nI b ∧ σ 4 9 = nI c ∧ σ 3 12 = nI d ∧ σ 4 10 = nI e ∧ b ≤ a ∧ c ≤ a ∧ e ≤ d ∧ a ≤ 1 + k ∧ d ≤ 1 + k
def RelW (w n k : Nat) (σX σM : Mem) : Prop := BX w n σX ∧ EQ w n σX σM ∧ PI w σX ∧ (σX 0 6 = σX 3 11 → XC w n (Bt σX) (Bo σX) (Bu σX) σX) ∧ (¬ σM 0 11 = 0 → MC w n (Bt σX) (Bo σX) (Bu σX) σM) ∧ PXc w n (Bt σX) (Bo σX) (Bu σX) σX ∧ seenEq σX σM ∧ VS k σX
def Rel (k : Nat) (σX σM : Mem) : Prop := ∃ w n, RelW w n k σX σM
theorem Rel_CX {w n k : Nat} {σX σM : Mem} (h : RelW w n k σX σM) : WF w n (Bt σX) (Bo σX) (Bu σX) ∧ CX w n (Bt σX) (Bo σX) (Bu σX) σX ∧ CM w n (Bt σX) (Bo σX) (Bu σX) σM ∧ askEq σX σM ∧ askOk n σX := by
  obtain ⟨h1, h2, h3, h4, h5, -⟩ := h
  obtain ⟨n1, n2⟩ := BX_nums h1
  obtain ⟨m1, m2⟩ := EQ_nums h1 h2
  refine ⟨n1, ⟨n2, h3, h1.2.2.2.1, h4⟩, ⟨m1, m2, h5⟩, h2.2.2.2, fun i hi _ => h1.2.2.2.2.2.2.2.2.1 i hi, ?_⟩
  rcases h1.2.2.2.2.2.2.2.2.2 with q | q
  · exact Or.inl q.1
  · exact Or.inr q
theorem Rel_K {w n k : Nat} {σX σM τX τM : Mem} (h : RelW w n k σX σM) (hX : KX w n (Bt σX) (Bo σX) (Bu σX) σX τX) (hM : KM w n (Bt σX) (Bo σX) (Bu σX) σM τM) (hs : seenEq τX τM) : Rel (k + 1) τX τM := by
  obtain ⟨h1, h2, h3, h4, h5, h6, h7, a, b, c, d, e, va, vb, vc, vd, ve, v1, v2, v3, v4, v5⟩ := h
  obtain ⟨x1, x2, x3, x4, x5⟩ := hX
  obtain ⟨m1, m2, m3⟩ := hM
  have f3 := x1 3 (by decide)
  have f8 := x1 8 (by decide)
  have f9 := x1 9 (by decide)
  have f10 := x1 10 (by decide)
  have et : Bt τX = Bt σX := by funext i; unfold Bt; rw [f8]
  have eo : Bo τX = Bo σX := by funext i; unfold Bo; rw [f9]
  have eu : Bu τX = Bu σX := by funext i; unfold Bu; rw [f10]
  have g : ∀ j, j ≠ 2 → j ≠ 11 → j ≠ 17 → j ≠ 20 → j ≠ 25 → τM 0 j = σM 0 j := m3
  refine ⟨w, n, ?_, ?_, x2.2.1, by rw [et, eo, eu]; exact x2.2.2.2, by rw [et, eo, eu]; exact m2.2.2, by rw [et, eo, eu]; exact x3, hs, ?_⟩
  · unfold BX
    rw [f3, f8, f9, f10]; exact h1
  · unfold EQ
    rw [f3, f8, f9, f10, m1 2 (by decide), m1 3 (by decide), m1 4 (by decide), g 6 (by decide) (by decide) (by decide) (by decide) (by decide), g 1 (by decide) (by decide) (by decide) (by decide) (by decide), g 7 (by decide) (by decide) (by decide) (by decide) (by decide), g 8 (by decide) (by decide) (by decide) (by decide) (by decide), g 9 (by decide) (by decide) (by decide) (by decide) (by decide), g 10 (by decide) (by decide) (by decide) (by decide) (by decide)]
    exact h2
  · unfold VS
    rw [f3, va, vd]
    rcases x4 with y4 | y4 <;> rcases x5 with ⟨y5, y6⟩ | ⟨y5, y6⟩
    · exact ⟨a, b, c, d, e, rfl, y4.trans vb, y5.trans vc, rfl, y6.trans ve, v1, v2, v3, by omega, by omega⟩
    · exact ⟨a, b, a, d, d, rfl, y4.trans vb, y5.trans va, rfl, y6.trans vd, v1, by omega, by omega, by omega, by omega⟩
    · exact ⟨a, a, c, d, e, rfl, y4.trans va, y5.trans vc, rfl, y6.trans ve, by omega, v2, v3, by omega, by omega⟩
    · exact ⟨a, a, a, d, d, rfl, y4.trans va, y5.trans va, rfl, y6.trans vd, by omega, by omega, by omega, by omega, by omega⟩
theorem Rel_2 {w n k : Nat} {σX σM : Mem} (h : RelW w n k σX σM) (v : Int32) : Rel (k + 1) σX (up2 σM 0 2 v) := by
  obtain ⟨c1, c2, c3, -, -⟩ := Rel_CX h
  refine Rel_K h (KX_Q (QX_refl c2) h.2.2.2.2.2.1) (KM_FR (L := [0]) c3 (FR_up2 _ (by decide) _ _) (by decide) (fun j h2 _ _ _ => up2_col _ _ _ h2)) ?_
  obtain ⟨m, m0, m1, m2, m3⟩ := h.2.2.2.2.2.2.1
  exact ⟨m, m0, m1, by rw [up2_col _ _ _ (by decide)]; exact m2, fun i hi => by rw [up2_row _ _ _ (show (15 : Nat) ≠ 0 by decide)]; exact m3 i hi⟩
theorem Rel_S {w n k : Nat} {σX σM : Mem} {fX fM : Option (Int32 × Mem)} (h : RelW w n k σX σM) (hs : Same2 w n (Bt σX) (Bo σX) (Bu σX) σX σM fX fM) : ∃ oX oM : Int32 × Mem, fX = some oX ∧ fM = some oM ∧ oX.1 = oM.1 ∧ Rel (k + 1) oX.2 oM.2 := by
  obtain ⟨r, τX, τM, e1, e2, k1, k2, s⟩ := hs
  exact ⟨(r, τX), (r, τM), e1, e2, rfl, Rel_K h k1 k2 s⟩
/-- the names change -/
theorem Rel_names {w n n' k : Nat} {σX σM τX τM : Mem} (hk : k < 512) (h : RelW w n k σX σM) (fX : FR [3, 8, 9, 10] σX τX) (e11 : τX 3 11 = σX 3 11 + 1) (e12 : τX 3 12 = σX 3 12) (fM : FR [0, 2, 3, 4] σM τM) (m11 : τM 0 11 = 0) (m25 : τM 0 25 = σM 0 25) (hB : BX w n' τX) (hE : EQ w n' τX τM) : Rel (k + 1) τX τM := by
  obtain ⟨h1, h2, h3, h4, h5, h6, ⟨m, s0, s1, s2, s3⟩, a, b, c, d, e, va, vb, vc, vd, ve, v1, v2, v3, v4, v5⟩ := h
  have ea : τX 3 11 = nI (a + 1) := by rw [e11, va, nI_1]
  have eb : τX 0 6 = nI b := by rw [fX 0 (by decide)]; exact vb
  have ec : τX 4 9 = nI c := by rw [fX 4 (by decide)]; exact vc
  refine ⟨w, n', hB, hE, PI_FR h3 fX (by decide) (by decide) (by decide) (by decide) (by decide) (by decide) (by decide) (by decide), ?_, fun q => absurd m11 q, ?_, ⟨m, s0, ?_, ?_, ?_⟩, a + 1, b, c, d, e, ea, eb, ec, by rw [e12]; exact vd, by rw [fX 4 (by decide)]; exact ve, by omega, by omega, v3, by omega, by omega⟩
  · rw [ea, eb]
    intro q
    have := (nI_eq (by omega) (by omega)).mp q
    omega
  · intro q
    rw [ea, ec] at q
    have := (nI_eq (by omega) (by omega)).mp q
    omega
  · rw [fX 6 (by decide)]; exact s1
  · rw [m25]; exact s2
  · rw [fX 31 (by decide), fM 15 (by decide)]; exact s3
/-- what is asked changes -/
theorem Rel_ask {w n k : Nat} {σX σM τX τM : Mem} (hk : k < 512) (h : RelW w n k σX σM) (fX : FR [3] σX τX) (e11 : τX 3 11 = σX 3 11) (e12 : τX 3 12 = σX 3 12 + 1) (fM : FR [0] σM τM) (m11 : τM 0 11 = σM 0 11) (m1 : τM 0 1 = σM 0 1) (m25 : τM 0 25 = σM 0 25) (hB : BX w n τX) (hE : EQ w n τX τM) : Rel (k + 1) τX τM := by
  obtain ⟨h1, h2, h3, h4, h5, h6, ⟨m, s0, s1, s2, s3⟩, a, b, c, d, e, va, vb, vc, vd, ve, v1, v2, v3, v4, v5⟩ := h
  have ed : τX 3 12 = nI (d + 1) := by rw [e12, vd, nI_1]
  have ee : τX 4 10 = nI e := by rw [fX 4 (by decide)]; exact ve
  have et : Bt τX = Bt σX := by funext i; unfold Bt; rw [fX 8 (by decide)]
  have eo : Bo τX = Bo σX := by funext i; unfold Bo; rw [fX 9 (by decide)]
  have eu : Bu τX = Bu σX := by funext i; unfold Bu; rw [fX 10 (by decide)]
  refine ⟨w, n, hB, hE, PI_FR h3 fX (by decide) (by decide) (by decide) (by decide) (by decide) (by decide) (by decide) (by decide), ?_, ?_, ?_, ⟨m, s0, ?_, ?_, ?_⟩, a, b, c, d + 1, e, e11.trans va, by rw [fX 0 (by decide)]; exact vb, by rw [fX 4 (by decide)]; exact vc, ed, ee, v1, v2, by omega, by omega, by omega⟩
  · rw [e11, fX 0 (by decide), et, eo, eu]
    intro q
    exact XC_FR (h4 q) fX (by decide)
  · rw [m11, et, eo, eu]
    intro q
    exact MC_FR (h5 q) fM m1 (by decide) (by decide) (by decide) (by decide)
  · intro _ q
    rw [ed, ee] at q
    have := (nI_eq (by omega) (by omega)).mp q
    omega
  · rw [fX 6 (by decide)]; exact s1
  · rw [m25]; exact s2
  · rw [fX 31 (by decide), fM 15 (by decide)]; exact s3
theorem RelW_th {w n k : Nat} {σX σM : Mem} (h : RelW w n k σX σM) : RelW w n k σX (th σM) := by
  obtain ⟨c1, c2, c3, -, -⟩ := Rel_CX h
  have q := CM_th c3
  obtain ⟨h1, h2, h3, h4, h5, h6, ⟨m, s0, s1, s2, s3⟩, hv⟩ := h
  exact ⟨h1, EQ_th h2, h3, h4, q.2.1.2.2, h6, ⟨m, s0, s1, by rw [q.2.2 25 (by decide) (by decide)]; exact s2, by rw [q.1 15 (by decide)]; exact s3⟩, hv⟩
theorem FR_addX (σ : Mem) (n : Nat) (t o v : Int32) : FR [3, 8, 9, 10] σ (addX σ n t o v) := by
  unfold addX
  exact FR_trans (FR_up2 _ (by decide) _ _) (FR_trans (FR_up2 _ (by decide) _ _) (FR_trans (FR_up2 _ (by decide) _ _) (FR_trans (FR_up2 _ (by decide) _ _) (FR_trans (FR_up2 _ (by decide) _ _) (FR_trans (FR_up2 _ (by decide) _ _) (FR_up2 _ (by decide) _ _))))))
theorem FR_addM (σ : Mem) (n : Nat) (t o v : Int32) : FR [0, 2, 3, 4] σ (addM σ n t o v) := by
  unfold addM
  exact FR_trans (FR_up2 _ (by decide) _ _) (FR_trans (FR_up2 _ (by decide) _ _) (FR_trans (FR_up2 _ (by decide) _ _) (FR_trans (FR_up2 _ (by decide) _ _) (FR_up2 _ (by decide) _ _))))
theorem Rel_1 {w n k : Nat} {σX σM τX τM : Mem} (hk : k < 512) (h : RelW w n k σX σM) (ho : Out1 w n σX σM τX τM) : Rel (k + 1) τX τM := by
  rcases ho with ⟨rfl, rfl⟩ | ⟨t, o, u, hn, hw, rfl, rfl⟩
  · exact Rel_2 h 0
  · have h' := RelW_th h
    refine Rel_names hk h' (FR_addX _ _ _ _ _) ?_ ?_ (FR_addM _ _ _ _ _) ?_ ?_ (BX_add h.1 hn hw) (EQ_add h'.2.1 t o u)
    · unfold addX; simp [up2]
    · unfold addX; simp [up2]
    · unfold addM; simp [up2]
    · unfold addM; simp [up2]
theorem Sim_1 {w n k : Nat} {σX σM : Mem} {fX fM : Option (Int32 × Mem)} (hk : k < 512) (h : RelW w n k σX σM) (ho : ∃ (r : Int32) (τX τM : Mem), fX = some (r, τX) ∧ fM = some (r, τM) ∧ Out1 w n σX σM τX τM) : ∃ oX oM : Int32 × Mem, fX = some oX ∧ fM = some oM ∧ oX.1 = oM.1 ∧ Rel (k + 1) oX.2 oM.2 := by
  obtain ⟨r, τX, τM, e1, e2, q⟩ := ho
  exact ⟨(r, τX), (r, τM), e1, e2, rfl, Rel_1 hk h q⟩
theorem showM_at (σ : Mem) (i : Nat) {j : Nat} (h : j ≠ 7) : showM σ i 0 j = σ 0 j := up2_col _ _ _ h
theorem rel_sim : Sim Rel := by
  rintro k σX σM hk ⟨w, n, h⟩
  obtain ⟨hW, hX, hM, he, ho⟩ := Rel_CX h
  have hB := h.1
  have hE := h.2.1
  have hp := h.2.2.2.2.2.1
  have hs := h.2.2.2.2.2.2.1
  have h' := RelW_th h
  refine ⟨?_, fun a => Sim_1 hk h (P_number hB hE a), Sim_1 hk h (P_input hB hE), fun a => Sim_1 hk h (P_carried hB hE a), fun a b c => Sim_1 hk h (P_op hB hE a b c), ?_, ?_, ?_, ?_, ?_, ?_, fun a => Rel_S h (Same_2 (P_cycle hW hX hM a) hp hs), fun a b => Rel_S h (Same_2 (P_form hW hX hM a b) hp hs), fun a b c d => Rel_S h (Same_2 (P_poly hW hX hM a b c d) hp hs), fun a b c d e => Rel_S h (Same_2 (P_value hW hX hM a b c d e) hp hs), fun a b c d e => Rel_S h (Same_2 (P_told hW hX hM a b c d e) hp hs), fun a => Rel_S h (P_reduced hW hX hM hp he ho hs a), fun a b => Rel_S h (P_cell hW hX hM hp he ho hs a b), fun a => Rel_S h (Same_2 (P_needed hW hX hM he ho a) hp hs), fun a b c => Rel_S h (P_run hW hX hM hp he ho hs a b c), fun a b c => Rel_S h (P_runReduced hW hX hM hp he ho hs a b c), fun a => Rel_S h (P_seen hX hM hp hs a), fun a b c => Rel_S h (Same_2 (P_ahead hW hX hM he ho a b c) hp hs), fun q a b c => Rel_S h (Same_2 (P_swapped hW hX hM he ho q a b c) hp hs)⟩
  · exact Rel_K h (KX_Q (QX_refl hX) hp) (KM_FR (L := []) hM (FR_refl _ _) (by decide) (fun _ _ _ _ _ => rfl)) hs
  · intro a b
    obtain ⟨r, τX, τM, e1, e2, q⟩ := P_next hB hE a b
    refine ⟨(r, τX), (r, τM), e1, e2, rfl, ?_⟩
    rcases q with ⟨rfl, rfl⟩ | ⟨i, j, hi, hj, h5, rfl, rfl⟩
    · exact Rel_2 h 0
    · refine Rel_names hk h' ?_ ?_ ?_ ?_ ?_ ?_ (BX_next hB hi hj h5) (EQ_next h'.2.1 i (nI j))
      · exact FR_trans (FR_up2 _ (by decide) _ _) (FR_up2 _ (by decide) _ _)
      · show nextX σX i (nI j) 3 11 = σX 3 11 + 1
        unfold nextX; simp [up2]
      · show nextX σX i (nI j) 3 12 = σX 3 12
        unfold nextX; simp [up2]
      · exact FR_trans (FR_up2 _ (by decide) _ _) (FR_up2 _ (by decide) _ _)
      · show nextM (th σM) i (nI j) 0 11 = 0
        unfold nextM; simp [up2]
      · show nextM (th σM) i (nI j) 0 25 = th σM 0 25
        unfold nextM; simp [up2]
  · obtain ⟨r, τX, τM, e1, e2, q⟩ := P_pop hB hE
    refine ⟨(r, τX), (r, τM), e1, e2, rfl, ?_⟩
    rcases q with ⟨rfl, rfl⟩ | ⟨h0, ha, hu, rfl, rfl⟩
    · exact Rel_2 h 0
    · refine Rel_names hk h' (FR_mono (FR_popX _ _) (by decide)) (popX_at σX n 11) (popX_at σX n 12) ?_ ?_ ?_ (BX_pop hB h0 ha hu) (EQ_pop h'.2.1 h0)
      · exact FR_trans (FR_up2 _ (by decide) _ _) (FR_up2 _ (by decide) _ _)
      · show popM (th σM) n 0 11 = 0
        unfold popM; simp [up2]
      · show popM (th σM) n 0 25 = th σM 0 25
        unfold popM; simp [up2]
  · intro z a b
    obtain ⟨r, τX, τM, e1, e2, q⟩ := P_test hB hE z a b
    refine ⟨(r, τX), (r, τM), e1, e2, rfl, ?_⟩
    rcases q with ⟨rfl, rfl⟩ | ⟨i, j, hi, hj, hz, rfl, rfl⟩
    · exact Rel_2 h 0
    · exact Rel_ask hk h' (FR_testX _ _ _ _) (testX_at σX z (nI i) (nI j) 11) (testX_at σX z (nI i) (nI j) 12) (FR_testM _ _ _ _) (testM_at (th σM) z (nI i) (nI j) 11) (testM_at (th σM) z (nI i) (nI j) 1) (testM_at (th σM) z (nI i) (nI j) 25) (BX_test hB hz hi hj) (EQ_test h'.2.1 z (nI i) (nI j))
  · intro a b _
    obtain ⟨r, τX, τM, e1, e2, q⟩ := P_show hB hE a b
    refine ⟨(r, τX), (r, τM), e1, e2, rfl, ?_⟩
    rcases q with ⟨rfl, rfl⟩ | ⟨i, hi, rfl, rfl⟩
    · exact Rel_2 h 0
    · exact Rel_ask hk h' (FR_showX _ _) (showX_at σX i 11) (showX_at σX i 12) (FR_up2 _ (by decide) _ _) (showM_at (j := 11) (th σM) i (by decide)) (showM_at (j := 1) (th σM) i (by decide)) (showM_at (j := 25) (th σM) i (by decide)) (BX_show hB hi) (EQ_show h'.2.1 i)
  · intro a
    obtain ⟨r, e1, e2⟩ := P_count hB hE a
    exact ⟨(r, σX), (r, th σM), e1, e2, rfl, Rel_2 h 0⟩
  · intro a b
    rcases P_of hB hE a b with ⟨r, e1, e2⟩ | ⟨r, e1, e2⟩
    · exact ⟨.inl (r, σX), (r, up2 σM 0 2 0), e1, e2, (show up2 σM 0 2 0 0 2 = 0 from up2_eq _ _ _ _), rfl, Rel_2 h 0⟩
    · exact ⟨.inr σX, (r, up2 σM 0 2 1), e1, e2, (show up2 σM 0 2 1 0 2 = 1 from up2_eq _ _ _ _), Rel_2 h 1⟩
