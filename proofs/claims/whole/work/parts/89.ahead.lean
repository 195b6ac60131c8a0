/-! ahead, swapped -/
/-- the test's difference -/
noncomputable def dfB (w n : Nat) (t o u : Nat → Nat) (x y : Nat) : Fo := fLin w ((Rs w n t o u).2.1 x) (2 ^ w - 1) ((Rs w n t o u).2.1 y)
def gdA (w n : Nat) (t o u : Nat → Nat) (k : Int32) (x y : Nat) : Prop := k = 0 ∧ (Rs w n t o u).1 x = 0 ∧ (Rs w n t o u).1 y = 0 ∧ fdeg (dfB w n t o u x y) ≤ 1
def TA (w n : Nat) (t o u : Nat → Nat) (k : Int32) (x y : Nat) (g : Nat → Nat) (r : Int32) : Prop := (¬ gdA w n t o u k x y ∧ r = -2) ∨ (gdA w n t o u k x y ∧ ((∃ n0, n0 < 2 ^ w ∧ r = nI n0 ∧ FZ w (ev w g (dfB w n t o u x y 0)) (ev w g (dfB w n t o u x y 1)) n0) ∨ (r = -1 ∧ ∀ m, (ev w g (dfB w n t o u x y 0) + m * ev w g (dfB w n t o u x y 1)) % 2 ^ w ≠ 0)))
theorem FZ_one {w b s p q : Nat} (hp : FZ w b s p) (hq : FZ w b s q) : p = q := by
  rcases Nat.lt_trichotomy p q with h | h | h
  · exact absurd hp.1 (hq.2 p h)
  · exact h
  · exact absurd hq.1 (hp.2 q h)
theorem TA_one {w n : Nat} {t o u : Nat → Nat} {k : Int32} {x y : Nat} {g : Nat → Nat} {r r' : Int32} (h : TA w n t o u k x y g r) (h' : TA w n t o u k x y g r') : r = r' := by
  rcases h with ⟨a, b⟩ | ⟨a, b⟩
  · rcases h' with ⟨a', b'⟩ | ⟨a', b'⟩
    · rw [b, b']
    · exact absurd a' a
  · rcases h' with ⟨a', b'⟩ | ⟨a', b'⟩
    · exact absurd a a'
    · rcases b with ⟨p, p1, p2, p3⟩ | ⟨p1, p2⟩
      · rcases b' with ⟨q, q1, q2, q3⟩ | ⟨q1, q2⟩
        · rw [p2, q2, FZ_one p3 q3]
        · exact absurd p3.1 (q2 p)
      · rcases b' with ⟨q, q1, q2, q3⟩ | ⟨q1, q2⟩
        · exact absurd q3.1 (p2 q)
        · rw [p1, q1]
theorem XC_30 {w n : Nat} {t o u : Nat → Nat} {σ τ : Mem} {A : Fo} (hn : n ≤ 30) (h : XC w n t o u σ) (hX : XS w 30 A σ τ) : XC w n t o u τ := by
  refine ⟨hX.1, fun k hk => ?_, fun i hi => ?_⟩
  · rw [hX.2.2.1 18 (by decide), hX.2.2.1 19 (by decide)]; exact h.2.1 k hk
  · rw [hX.2.2.1 17 (by decide), hX.2.2.1 20 (by decide)]
    exact ⟨(h.2.2 i hi).1, (h.2.2 i hi).2.1, fun q => XS_fx hX (by omega) ((h.2.2 i hi).2.2 q)⟩
theorem dl0 {w n : Nat} {t o u : Nat → Nat} (hW : WF w n t o u) (hn : n ≤ 30) (hw : 4 ≤ w) {i : Nat} (hi : i < n) : (dlX ((Rs w n t o u).1 i) = 0) = ((Rs w n t o u).1 i = 0) := by
  have := R_d hW hn hw hi
  exact propext (dlX_inj (b := 0) this (Or.inr (Nat.zero_le _)))
theorem OkF_df {w n : Nat} {t o u : Nat → Nat} (hW : WF w n t o u) (hn : n ≤ 30) (hw : 4 ≤ w) {x y : Nat} (hx : x < n) (hy : y < n) (dx : (Rs w n t o u).1 x = 0) (dy : (Rs w n t o u).1 y = 0) : OkF w (dfB w n t o u x y) := OkF_lin (R_ok hW hn hw hx (by omega)) (R_ok hW hn hw hy (by omega)) _
/-- the test's names, as numbers -/
def tst (n : Nat) (σ : Mem) (x y : Nat) : Prop := σ 3 8 = 0 → x < n ∧ y < n ∧ σ 3 9 = nI x ∧ σ 3 10 = nI y
theorem tst_ex {n : Nat} {σ : Mem} (h : askOk n σ) : ∃ x y, tst n σ x y := by
  rcases h.2 with q | ⟨-, a, b, h1, h2, h3, h4⟩
  · exact ⟨0, 0, fun z => by rw [z] at q; exact absurd q (by decide)⟩
  · exact ⟨a, b, fun _ => ⟨h1, h2, h3, h4⟩⟩
theorem X_turnAhead {w n : Nat} {t o u : Nat → Nat} {σ : Mem} (hW : WF w n t o u) (hX : CX w n t o u σ) (hC : XC w n t o u σ) {x y : Nat} (ht : tst n σ x y) (a b c : Int32) :
    ok (fX7_turnAhead a b c σ) (fun p => TA w n t o u (σ 3 8) x y (gv w a b c) p.1 ∧ QX w n t o u σ p.2 ∧ XC w n t o u p.2 ∧ (¬ p.1 < 0 → PW w (gv w a b c) p.2)) := by
  have h30 := hX.1.1
  have hw := hC.1.1.1
  unfold fX7_turnAhead fX7_turnAhead_L49
  by_cases c8 : σ 3 8 = 0
  · obtain ⟨hx, hy, e9, e10⟩ := ht c8
    have hno : ¬ gdA w n t o u (σ 3 8) x y → TA w n t o u (σ 3 8) x y (gv w a b c) (-2) := fun q => Or.inl ⟨q, rfl⟩
    rw [if_pos c8, e9, e10, chk_in (by omega) (by decide), nI_clamp (by omega), (hC.2.2 x hx).1]
    by_cases dx : (Rs w n t o u).1 x = 0
    · rw [if_pos (by rw [dl0 hW h30 hw.1 hx]; exact dx), chk_in (by omega) (by decide), nI_clamp (by omega), (hC.2.2 y hy).1]
      by_cases dy : (Rs w n t o u).1 y = 0
      · rw [if_pos (by rw [dl0 hW h30 hw.1 hy]; exact dy)]
        have oB := OkF_df hW h30 hw.1 hx hy dx dy
        have hps := X1_putSum (s := 30) hC.1 (by decide) (show x < 31 by omega) (show y < 31 by omega) (R_ok hW h30 hw.1 hx (by omega)) (R_ok hW h30 hw.1 hy (by omega)) ((hC.2.2 x hx).2.2 (by omega)) ((hC.2.2 y hy).2.2 (by omega)) (-1)
        rw [mI_m1 hw] at hps
        have hps' : ok (fX1_putSum 30 (nI x) (nI y) (-1) σ) (XS w 30 (dfB w n t o u x y) σ) := hps
        refine ok_bind (ok_mono hps' ?_)
        intro τ hS
        have hCτ := XC_30 h30 hC hS
        have hQ : QX w n t o u σ τ := ⟨FR_mono hS.2.2.1 (by decide), ⟨NX_FR hX.1 hS.2.2.1 (by decide) (by decide) (by decide) (by decide), hCτ.1, by rw [hS.2.2.1 3 (by decide)]; exact hX.2.2.1, fun _ => hCτ⟩, Or.inl (by rw [hS.2.2.1 0 (by decide)])⟩
        have hdg : fX1_degree 30 τ = some (nI (fdeg (dfB w n t o u x y)), τ) := X1_degree (s := 30) (by decide) hS.2.1
        have d3 := fdeg_le (dfB w n t o u x y)
        rw [hdg, Option.bind_some]
        dsimp only
        by_cases d1 : fdeg (dfB w n t o u x y) ≤ 1
        · rw [if_pos (show nI _ ≤ 1 from nI_le (b := 1) d1 (by decide))]
          refine ok_bind (ok_mono (X_give2 hCτ.1.1 a b c) ?_)
          rintro ρ ⟨f1, f2⟩
          obtain ⟨g1, g2⟩ := XC_ctx hQ.2.1 hCτ (FR_mono f1 (by decide))
          have f30 : fx w ρ 30 (dfB w n t o u x y) := fx_FR hS.2.1 f1 (by decide) (by decide)
          have w0 : fX5_worth 120 ρ = some (nI (ev w (gv w a b c) (dfB w n t o u x y 0)), ρ) := X_worth (q := 120) g2.1.1 f2 (by decide) (f30 0 (by decide))
          have w1 : fX5_worth 121 ρ = some (nI (ev w (gv w a b c) (dfB w n t o u x y 1)), ρ) := X_worth (q := 121) g2.1.1 f2 (by decide) (f30 1 (by decide))
          rw [w0, Option.bind_some]
          dsimp only
          rw [w1, Option.bind_some]
          dsimp only
          obtain ⟨r, hr, hz⟩ := X_firstZero (σ := ρ) hw.2 (by rw [f1 3 (by decide), hS.2.2.1 3 (by decide)]; exact hX.2.2.1) (ev_lt w (gv w a b c) (dfB w n t o u x y 0)) (ev_lt w (gv w a b c) (dfB w n t o u x y 1))
          rw [hr, Option.bind_some]
          exact ok_some ⟨Or.inr ⟨⟨c8, dx, dy, d1⟩, hz⟩, QX_trans hQ g1, g2, fun _ => f2⟩
        · rw [if_neg (show ¬ nI _ ≤ 1 from nI_ge (a := 1) (by omega) (by omega))]
          exact ok_some ⟨hno (fun q => d1 q.2.2.2), hQ, hCτ, fun z => absurd (show (-2 : Int32) < 0 by decide) z⟩
      · rw [if_neg (by rw [dl0 hW h30 hw.1 hy]; exact dy)]
        exact ok_some ⟨hno (fun q => dy q.2.2.1), QX_refl hX, hC, fun z => absurd (show (-2 : Int32) < 0 by decide) z⟩
    · rw [if_neg (by rw [dl0 hW h30 hw.1 hx]; exact dx)]
      exact ok_some ⟨hno (fun q => dx q.2.1), QX_refl hX, hC, fun z => absurd (show (-2 : Int32) < 0 by decide) z⟩
  · rw [if_neg c8]
    exact ok_some ⟨Or.inl ⟨fun q => c8 q.1, rfl⟩, QX_refl hX, hC, fun z => absurd (show (-2 : Int32) < 0 by decide) z⟩
theorem MC_hi {w n : Nat} {t o u : Nat → Nat} {σ : Mem} {s : Nat} {A : Fo} (hn : n ≤ 30) (h : MC w n t o u σ) (hs : 30 ≤ s) : MC w n t o u (mset σ s A) := by
  have hf := FR_mset σ s A
  refine ⟨MB_FR h.1 hf (by decide), fun k hk => by rw [hf 5 (by decide)]; exact h.2.1 k hk, fun i hi => ?_⟩
  rw [hf 6 (by decide), hf 7 (by decide)]
  exact ⟨(h.2.2 i hi).1, (h.2.2 i hi).2.1, fun q => fm_ne ((h.2.2 i hi).2.2 q) (by omega)⟩
theorem FZ_lt {w b s n0 : Nat} (h : FZ w b s n0) : n0 < 2 ^ w := by
  rcases Nat.lt_or_ge n0 (2 ^ w) with q | q
  · exact q
  · exfalso
    have hp := pw_pos w
    apply h.2 (n0 - 2 ^ w) (by omega)
    have e : b + n0 * s = b + (n0 - 2 ^ w) * s + 2 ^ w * s := by
      have : n0 * s = (n0 - 2 ^ w) * s + 2 ^ w * s := by rw [← Nat.add_mul, Nat.sub_add_cancel q]
      omega
    have h1 := h.1
    rw [e, Nat.add_mul_mod_self_left] at h1
    exact h1
theorem M_lay2 {w n : Nat} {t o u : Nat → Nat} {σ : Mem} (hW : WF w n t o u) (h : CM w n t o u σ) : ok (fX8_lays σ) (fun τ => QM w n t o u σ τ ∧ MC w n t o u τ ∧ FR [0, 1, 5, 6, 7, 8] σ τ) := by
  refine ok_mono (M_lays hW h.1 h.2.1 h.2.2) ?_
  rintro τ ⟨q1, q2, q3, q4⟩
  exact ⟨⟨FR_mono q2 (by decide), ⟨NM_of h.1 q2 (q3 6 (by decide)) (by decide) (by decide) (by decide), q1.1, fun _ => q1⟩, fun j h11 _ => q3 j h11⟩, q1, q2⟩
theorem M_aheadOf {w n : Nat} {t o u : Nat → Nat} {σX σ : Mem} (hW : WF w n t o u) (hM : CM w n t o u σ) (he : askEq σX σ) {x y : Nat} (ht : tst n σX x y) {g : Nat → Nat} (hg : MG w g σ) :
    ok (fX8_aheadOf σ) (fun p => TA w n t o u (σX 3 8) x y g p.1 ∧ QM w n t o u σ p.2 ∧ (¬ p.1 < 0 → MC w n t o u p.2 ∧ MG w g p.2)) := by
  have h30 := hM.1.1
  have hw := hM.2.1.1
  have hrefl : QM w n t o u σ σ := ⟨FR_refl _ _, hM, fun _ _ _ => rfl⟩
  unfold fX8_aheadOf fX8_aheadOf_L38
  rw [he.2.1]
  by_cases c8 : σX 3 8 = 0
  · obtain ⟨hx, hy, e9, e10⟩ := ht c8
    have hno : ¬ gdA w n t o u (σX 3 8) x y → TA w n t o u (σX 3 8) x y g (-2) := fun q => Or.inl ⟨q, rfl⟩
    rw [if_pos c8]
    refine ok_bind (ok_mono (M_lay2 hW hM) ?_)
    rintro τ ⟨hQ, hCτ, hf6⟩
    have hgτ : MG w g τ := fun k hk => by rw [hf6 9 (by decide)]; exact hg k hk
    have t9 : τ 0 9 = nI x := by rw [hQ.2.2 9 (by decide) (by decide), he.2.2.1]; exact e9
    have t10 : τ 0 10 = nI y := by rw [hQ.2.2 10 (by decide) (by decide), he.2.2.2]; exact e10
    have dxr := R_d hW h30 hw.1 hx
    have dyr := R_d hW h30 hw.1 hy
    rw [t9, t10, chk_in (by omega) (by decide), nI_clamp (by omega), (hCτ.2.2 x hx).1]
    by_cases dx : (Rs w n t o u).1 x = 0
    · rw [if_pos (by rw [dx]; rfl), chk_in (by omega) (by decide), nI_clamp (by omega), (hCτ.2.2 y hy).1]
      by_cases dy : (Rs w n t o u).1 y = 0
      · rw [if_pos (by rw [dy]; rfl)]
        have oB := OkF_df hW h30 hw.1 hx hy dx dy
        have hj : fX8_joins 32 (nI x) 1 (nI y) (-1) τ = some (mset τ 32 (dfB w n t o u x y)) := by
          have := M_joins (s := 32) hCτ.1 (by decide) (show x < 124 by omega) (show y < 124 by omega) ((hCτ.2.2 x hx).2.2 (by omega)) ((hCτ.2.2 y hy).2.2 (by omega)) 1 (-1)
          rw [mI_1 hw, mI_m1 hw, fJoin_1] at this
          exact this
        rw [hj, Option.bind_some]
        obtain ⟨ρ, hρ⟩ : ∃ s, s = mset τ 32 (dfB w n t o u x y) := ⟨_, rfl⟩
        have hfr : FR [1] τ ρ := by rw [hρ]; exact FR_mset τ 32 _
        have hCρ : MC w n t o u ρ := by rw [hρ]; exact MC_hi h30 hCτ (by decide)
        have f32 : fm w ρ 32 (dfB w n t o u x y) := by rw [hρ]; exact fm_mset τ 32 oB
        rw [← hρ]
        have hQ2 : QM w n t o u τ ρ := ⟨FR_mono hfr (by decide), ⟨NM_FR hQ.2.1.1 hfr (by decide) (by decide) (by decide) (by decide), hCρ.1, fun _ => hCρ⟩, fun j _ _ => by rw [hfr 0 (by decide)]⟩
        have hdg : fX8_degreeOf 32 ρ = some (nI (fdeg (dfB w n t o u x y)), ρ) := M_degreeOf (s := 32) hw.2 (by decide) f32
        have d3 := fdeg_le (dfB w n t o u x y)
        rw [hdg, Option.bind_some]
        dsimp only
        by_cases d1 : fdeg (dfB w n t o u x y) ≤ 1
        · rw [if_pos (show nI _ ≤ 1 from nI_le (b := 1) d1 (by decide))]
          have hgρ : MG w g ρ := fun k hk => by rw [hfr 9 (by decide)]; exact hgτ k hk
          have w0 : fX8_valueOf 32 0 ρ = some (nI (ev w g (dfB w n t o u x y 0)), ρ) := M_valueOf (s := 32) (i := 0) hCρ.1 hgρ (by decide) (by decide) f32
          have w1 : fX8_valueOf 32 1 ρ = some (nI (ev w g (dfB w n t o u x y 1)), ρ) := M_valueOf (s := 32) (i := 1) hCρ.1 hgρ (by decide) (by decide) f32
          rw [w0, Option.bind_some]
          dsimp only
          rw [w1, Option.bind_some]
          dsimp only
          have hfn := M_firstNought (σ := ρ) hCρ.1 (ev_lt w g (dfB w n t o u x y 0)) (ev_lt w g (dfB w n t o u x y 1))
          by_cases hex : ∃ m, (ev w g (dfB w n t o u x y 0) + m * ev w g (dfB w n t o u x y 1)) % 2 ^ w = 0
          · obtain ⟨n0, z1, z2⟩ := pk_least _ hex
            have hfz : FZ w (ev w g (dfB w n t o u x y 0)) (ev w g (dfB w n t o u x y 1)) n0 := ⟨z1, z2⟩
            rw [hfn.1 n0 (FZ_lt hfz) hfz, Option.bind_some]
            exact ok_some ⟨Or.inr ⟨⟨c8, dx, dy, d1⟩, Or.inl ⟨n0, FZ_lt hfz, rfl, hfz⟩⟩, QM_trans hQ hQ2, fun _ => ⟨hCρ, hgρ⟩⟩
          · have hno2 : ∀ m, (ev w g (dfB w n t o u x y 0) + m * ev w g (dfB w n t o u x y 1)) % 2 ^ w ≠ 0 := fun m z => hex ⟨m, z⟩
            rw [hfn.2 hno2, Option.bind_some]
            exact ok_some ⟨Or.inr ⟨⟨c8, dx, dy, d1⟩, Or.inr ⟨rfl, hno2⟩⟩, QM_trans hQ hQ2, fun _ => ⟨hCρ, hgρ⟩⟩
        · rw [if_neg (show ¬ nI _ ≤ 1 from nI_ge (a := 1) (by omega) (by omega))]
          exact ok_some ⟨hno (fun q => d1 q.2.2.2), QM_trans hQ hQ2, fun z => absurd (show (-2 : Int32) < 0 by decide) z⟩
      · rw [if_neg (show ¬ nI _ = 0 from nI_ne0 (by omega) (by omega))]
        exact ok_some ⟨hno (fun q => dy q.2.2.1), hQ, fun z => absurd (show (-2 : Int32) < 0 by decide) z⟩
    · rw [if_neg (show ¬ nI _ = 0 from nI_ne0 (by omega) (by omega))]
      exact ok_some ⟨hno (fun q => dx q.2.1), hQ, fun z => absurd (show (-2 : Int32) < 0 by decide) z⟩
  · rw [if_neg c8]
    exact ok_some ⟨Or.inl ⟨fun q => c8 q.1, rfl⟩, hrefl, fun z => absurd (show (-2 : Int32) < 0 by decide) z⟩
theorem CM_gives {w n : Nat} {t o u : Nat → Nat} {σ : Mem} (hM : CM w n t o u σ) (a b c : Int32) : ok (fX8_gives a b c σ) (fun τ => QM w n t o u σ τ ∧ MG w (gv w a b c) τ) := by
  refine ok_mono (M_gives hM.2.1 a b c) ?_
  rintro τ ⟨f1, f2⟩
  have e0 : τ 0 = σ 0 := f1 0 (by decide)
  refine ⟨⟨FR_mono f1 (by decide), ⟨NM_of hM.1 f1 (by rw [e0]) (by decide) (by decide) (by decide), MB_FR hM.2.1 f1 (by decide), fun q => ?_⟩, fun j _ _ => by rw [e0]⟩, f2⟩
  rw [e0] at q
  exact MC_FR (hM.2.2 q) f1 (by rw [e0]) (by decide) (by decide) (by decide) (by decide)
theorem askEq_Q {w n : Nat} {t o u : Nat → Nat} {σX σ τ : Mem} (h : askEq σX σ) (hQ : QM w n t o u σ τ) : askEq σX τ := ⟨by rw [hQ.2.2 7 (by decide) (by decide)]; exact h.1, by rw [hQ.2.2 8 (by decide) (by decide)]; exact h.2.1, by rw [hQ.2.2 9 (by decide) (by decide)]; exact h.2.2.1, by rw [hQ.2.2 10 (by decide) (by decide)]; exact h.2.2.2⟩
theorem tst_FR {n : Nat} {L : List Nat} {σ τ : Mem} {x y : Nat} (h : tst n σ x y) (hf : FR L σ τ) (h3 : 3 ∉ L) : tst n τ x y := by
  unfold tst
  rw [hf 3 h3]
  exact h
theorem P_ahead {w n : Nat} {t o u : Nat → Nat} {σX σM : Mem} (hW : WF w n t o u) (hX : CX w n t o u σX) (hM : CM w n t o u σM) (he : askEq σX σM) (ho : askOk n σX) (a b c : Int32) : Same w n t o u σX σM (fX7_ahead a b c σX) (fX8_ahead a b c σM) := by
  have hT := CM_th hM
  obtain ⟨x, y, ht⟩ := tst_ex ho
  have h1 : ok (fX7_ahead a b c σX) (fun p => TA w n t o u (σX 3 8) x y (gv w a b c) p.1 ∧ QX w n t o u σX p.2) := by
    unfold fX7_ahead
    refine ok_bind (ok_mono (X_ref hW hX) ?_)
    rintro τ ⟨q1, q2, -⟩
    refine ok_bind (ok_mono (X_turnAhead hW q1.2.1 q2 (tst_FR ht q1.1 (by decide)) a b c) ?_)
    rintro ⟨r, ρ⟩ ⟨p1, p2, -, -⟩
    rw [q1.1 3 (by decide)] at p1
    exact ok_some ⟨p1, QX_trans q1 p2⟩
  have h2 : ok (fX8_ahead a b c σM) (fun p => TA w n t o u (σX 3 8) x y (gv w a b c) p.1 ∧ QM w n t o u σM p.2) := by
    unfold fX8_ahead
    rw [th_def]
    refine ok_bind (ok_mono (CM_gives hT.2.1 a b c) ?_)
    rintro τ ⟨q1, q2⟩
    refine ok_bind (ok_mono (M_aheadOf hW q1.2.1 (askEq_Q (askEq_Q he hT) q1) ht q2) ?_)
    rintro ⟨r, ρ⟩ ⟨p1, p2, -⟩
    exact ok_some ⟨p1, QM_trans hT (QM_trans q1 p2)⟩
  obtain ⟨⟨rX, τX⟩, e1, t1, k1⟩ := h1
  obtain ⟨⟨rM, τM⟩, e2, t2, k2⟩ := h2
  exact ⟨rX, ⟨_, e1, rfl, k1⟩, ⟨_, e2, (TA_one t1 t2).symm, k2⟩⟩
/-- where the same comes again -/
theorem FZ_back {w T v e d : Nat} (he : e ≤ w) (hv : v = 2 ^ e * (2 * d + 1)) {b : Nat} (hb : (b + T * v) % 2 ^ w = 0) : FZ w b v (T % 2 ^ (w - e)) := by
  subst hv
  refine FZ_of he ?_ (Nat.mod_lt _ (Nat.two_pow_pos _))
  have hT : T = T % 2 ^ (w - e) + 2 ^ (w - e) * (T / 2 ^ (w - e)) := (Nat.mod_add_div T (2 ^ (w - e))).symm
  have h1 : 2 ^ w ∣ (2 ^ (w - e) * (T / 2 ^ (w - e))) * (2 ^ e * (2 * d + 1)) := (step_dvd he).mpr (Nat.dvd_mul_right _ _)
  obtain ⟨k, hk⟩ := h1
  have e1 : b + T * (2 ^ e * (2 * d + 1)) = b + T % 2 ^ (w - e) * (2 ^ e * (2 * d + 1)) + 2 ^ w * k := by
    rw [← hk, Nat.add_assoc, ← Nat.add_mul, ← hT]
  rw [e1, Nat.add_mul_mod_self_left] at hb
  exact hb
theorem P_swapped {w n : Nat} {t o u : Nat → Nat} {σX σM : Mem} (hW : WF w n t o u) (hX : CX w n t o u σX) (hM : CM w n t o u σM) (he : askEq σX σM) (ho : askOk n σX) (q a b c : Int32) : Same w n t o u σX σM (fX7_swapped q a b c σX) (fX8_swapped q a b c σM) := by
  have hT := CM_th hM
  have h30 := hX.1.1
  have hw := hX.2.1.1.1
  have hpw := pw_le hw.2
  obtain ⟨x, y, ht⟩ := tst_ex ho
  obtain ⟨g, hg⟩ : ∃ g, g = gv w a b c := ⟨_, rfl⟩
  -- the turn ahead, on both sides
  have h1 : ok ((fX0_refresh σX).bind fun o1 => fX7_turnAhead a b c o1) (fun p => TA w n t o u (σX 3 8) x y g p.1 ∧ QX w n t o u σX p.2 ∧ XC w n t o u p.2 ∧ (¬ p.1 < 0 → PW w g p.2)) := by
    refine ok_bind (ok_mono (X_ref hW hX) ?_)
    rintro τ ⟨q1, q2, -⟩
    refine ok_mono (X_turnAhead hW q1.2.1 q2 (tst_FR ht q1.1 (by decide)) a b c) ?_
    rintro ⟨r, ρ⟩ ⟨p1, p2, p3, p4⟩
    rw [q1.1 3 (by decide)] at p1
    rw [hg]
    exact ⟨p1, QX_trans q1 p2, p3, p4⟩
  have h2 : ok ((fX8_gives a b c (th σM)).bind fun o1 => fX8_aheadOf o1) (fun p => TA w n t o u (σX 3 8) x y g p.1 ∧ QM w n t o u σM p.2 ∧ (¬ p.1 < 0 → MC w n t o u p.2 ∧ MG w g p.2)) := by
    refine ok_bind (ok_mono (CM_gives hT.2.1 a b c) ?_)
    rintro τ ⟨q1, q2⟩
    rw [hg]
    refine ok_mono (M_aheadOf hW q1.2.1 (askEq_Q (askEq_Q he hT) q1) ht q2) ?_
    rintro ⟨r, ρ⟩ ⟨p1, p2, p3⟩
    exact ⟨p1, QM_trans hT (QM_trans q1 p2), p3⟩
  obtain ⟨⟨rX, τX⟩, e1, t1, k1, kC, kP⟩ := h1
  obtain ⟨⟨rM, τM⟩, e2, t2, k2, kM⟩ := h2
  dsimp only at t1 k1 kC kP t2 k2 kM
  have hr := TA_one t1 t2
  subst hr
  have eX : fX7_swapped q a b c σX = ((fX0_refresh σX).bind fun o1 => fX7_turnAhead a b c o1).bind fun o2 => if o2.1 < 0 then fX7_swapped_L33 o2.2 else (fX3_has q o2.2).bind fun o3 => if o3.1 = 0 then fX7_swapped_L33 o3.2 else chk (inb q 30) (if (o3.2 20 q.toNatClampNeg) = 1 then (fX1_degree q o3.2).bind (fun o4 => if o4.1 = 1 then (fX5_worth ((q * 4) + 1) o4.2).bind (fun o5 => (fX7_period o5.1 o5.2).bind fun o6 => if o2.1 ≤ (o2.1 &&& (o6.1 - 1)) then fX7_swapped_L100 (-1) o6.2 else fX7_swapped_L100 (o2.1 &&& (o6.1 - 1)) o6.2) else fX7_swapped_L61 o4.2) else fX7_swapped_L61 o3.2) := by
    unfold fX7_swapped
    cases fX0_refresh σX <;> rfl
  have eM : fX8_swapped q a b c σM = ((fX8_gives a b c (th σM)).bind fun o1 => fX8_aheadOf o1).bind fun o2 => if o2.1 < 0 then fX8_swapped_L51 o2.2 else (fX8_isName q o2.2).bind fun o3 => if o3.1 = 0 then fX8_swapped_L51 o3.2 else chk (inb q 30) (if (o3.2 7 q.toNatClampNeg) = 1 then (fX8_degreeOf q o3.2).bind (fun o4 => if o4.1 = 1 then (fX8_valueOf q 1 o4.2).bind (fun o5 => (fX8_cut ((-((o2.1).toInt64)) * ((o5.1).toInt64)) o5.2).bind fun o6 => (fX8_valueOf q 1 o6.2).bind fun o7 => (fX8_firstNought o6.1 o7.1 o7.2).bind fun o8 => if o2.1 ≤ o8.1 then fX8_swapped_L95 (-1) o8.2 else fX8_swapped_L95 o8.1 o8.2) else fX8_swapped_L51 o4.2) else fX8_swapped_L51 o3.2) := by
    unfold fX8_swapped
    rw [th_def]
    cases fX8_gives a b c (th σM) <;> rfl
  unfold Same
  rw [eX, eM, e1, e2, Option.bind_some, Option.bind_some]
  dsimp only
  unfold fX7_swapped_L33 fX7_swapped_L61 fX7_swapped_L100 fX8_swapped_L51 fX8_swapped_L95
  by_cases c0 : rX < 0
  · rw [if_pos c0, if_pos c0]
    exact ⟨-2, ok_some ⟨rfl, k1⟩, ok_some ⟨rfl, k2⟩⟩
  rw [if_neg c0, if_neg c0]
  obtain ⟨T, hT2, hTr⟩ : ∃ T, T < 2 ^ w ∧ rX = nI T := by
    rcases t1 with ⟨-, z⟩ | ⟨-, ⟨n0, z1, z2, -⟩ | ⟨z, -⟩⟩
    · rw [z] at c0; exact absurd (by decide) c0
    · exact ⟨n0, z1, z2⟩
    · rw [z] at c0; exact absurd (by decide) c0
  have hPW := kP c0
  obtain ⟨hMC, hMG⟩ := kM c0
  rcases nm_or n h30 q with ⟨i, hi, rfl⟩ | ⟨-, hq⟩
  · rw [hasX k1.2.1.1 hi, isnM k2.2.1.1 hi, Option.bind_some, Option.bind_some]
    dsimp only
    rw [if_neg (show ¬ (1 : Int32) = 0 by decide), if_neg (show ¬ (1 : Int32) = 0 by decide), chk_in (by omega) (by decide), chk_in (by omega) (by decide), nI_clamp (by omega)]
    have eX20 := (kC.2.2 i hi).2.1
    have eM7 := (hMC.2.2 i hi).2.1
    have k4 := K_le (w := w) hW h30 hi
    by_cases ck : (Rs w n t o u).2.2 i = 1
    · obtain ⟨d0, -, -⟩ := K_form (w := w) hW h30 hi (by omega)
      have oA := R_ok hW h30 hw.1 hi (show (Rs w n t o u).1 i ≠ 9 by omega)
      have fxA := (kC.2.2 i hi).2.2 (by omega)
      have fmA := (hMC.2.2 i hi).2.2 (by omega)
      have d3 := fdeg_le ((Rs w n t o u).2.1 i)
      rw [if_pos (show τX 20 i = 1 by rw [eX20, ck]; rfl), if_pos (show τM 7 i = 1 by rw [eM7, ck]; rfl), X1_degree (by omega) fxA, M_degreeOf hw.2 (by omega) fmA, Option.bind_some, Option.bind_some]
      dsimp only
      by_cases c1 : fdeg ((Rs w n t o u).2.1 i) = 1
      · rw [if_pos (by rw [c1]; rfl), if_pos (by rw [c1]; rfl)]
        obtain ⟨v, hv⟩ : ∃ v, v = ev w g ((Rs w n t o u).2.1 i 1) := ⟨_, rfl⟩
        have hvl : v < 2 ^ w := by rw [hv]; exact ev_lt w g _
        have wX : fX5_worth (nI i * 4 + 1) τX = some (nI v, τX) := by
          have e4 : nI i * 4 + 1 = nI (4 * i + 1) := ix4 i 1
          rw [e4, hv]
          exact X_worth kC.1.1 hPW (by omega) (fxA 1 (by omega))
        have wM : fX8_valueOf (nI i) 1 τM = some (nI v, τM) := by rw [hv]; exact M_valueOf (i := 1) hMC.1 hMG (by omega) (by decide) fmA
        obtain ⟨bb, hbb⟩ : ∃ bb, bb = mL w (-(nI T).toInt64 * (nI v).toInt64) := ⟨_, rfl⟩
        have hbl : bb < 2 ^ w := by rw [hbb]; exact mL_lt _ _
        have hz : (bb + T * v) % 2 ^ w = 0 := by
          have ring : -(nI T).toInt64 * (nI v).toInt64 + (nI T).toInt64 * (nI v).toInt64 = 0 := by grind
          have h0 : mL w 0 = 0 := by show mL w (lN 0) = 0; rw [mL_lN hw.2, Nat.zero_mod]
          have h3 : mL w (-(nI T).toInt64 * (nI v).toInt64 + (nI T).toInt64 * (nI v).toInt64) = 0 := by rw [ring, h0]
          rw [mL_add hw.2, ← hbb, mL_mul hw.2, mI_64 hw.2, mI_64 hw.2, mI_nI hw.2, mI_nI hw.2, Nat.mul_mod_mod, Nat.mod_mul_mod, Nat.add_mod_mod] at h3
          exact h3
        obtain ⟨P, hP, hPe⟩ : ∃ P, fX7_period (nI v) τX = some (nI (2 ^ P), τX) ∧ P ≤ 16 ∧ FZ w bb v (T % 2 ^ P) := by
          by_cases v0 : v = 0
          · refine ⟨0, by rw [v0]; exact X_period0 τX, by decide, ?_⟩
            rw [v0] at hz ⊢
            rw [Nat.pow_zero, Nat.mod_one]
            refine ⟨?_, fun m hm => absurd hm (Nat.not_lt_zero m)⟩
            rw [Nat.mul_zero] at hz ⊢; exact hz
          · obtain ⟨e, d, hd, hew, hl⟩ := low_of hw.2 (Nat.pos_of_ne_zero v0) hvl
            exact ⟨w - e, X_period (d := d) hw.2 k1.2.1.2.2.1 hew hl, by omega, FZ_back (by omega) hd hz⟩
        rw [wX, Option.bind_some]
        dsimp only
        rw [hP, Option.bind_some, wM, Option.bind_some]
        dsimp only
        have hfn := (M_firstNought (σ := τM) hMC.1 hbl hvl).1 (T % 2 ^ P) (FZ_lt hPe.2) hPe.2
        have hp0 := Nat.two_pow_pos P
        have emask : rX &&& (nI (2 ^ P) - 1) = nI (T % 2 ^ P) := by
          rw [hTr, nI_m1 hp0, fa_mask]
        rw [hTr] at emask ⊢
        rw [cutE hw.2 hMC.1.2, ← hbb, Option.bind_some]
        dsimp only
        rw [wM, Option.bind_some]
        dsimp only
        rw [hfn, Option.bind_some, emask]
        dsimp only
        by_cases cc : nI T ≤ nI (T % 2 ^ P)
        · rw [if_pos cc, if_pos cc]
          exact ⟨-1, ok_some ⟨rfl, k1⟩, ok_some ⟨rfl, k2⟩⟩
        · rw [if_neg cc, if_neg cc]
          exact ⟨_, ok_some ⟨rfl, k1⟩, ok_some ⟨rfl, k2⟩⟩
      · rw [if_neg (show ¬ nI _ = 1 from fun z => c1 ((nI_eq (b := 1) (by omega) (by decide)).mp z)), if_neg (show ¬ nI _ = 1 from fun z => c1 ((nI_eq (b := 1) (by omega) (by decide)).mp z))]
        exact ⟨-2, ok_some ⟨rfl, k1⟩, ok_some ⟨rfl, k2⟩⟩
    · rw [if_neg (show ¬ τX 20 i = 1 by rw [eX20]; exact fun z => ck ((nI_eq (b := 1) (by omega) (by decide)).mp z)), if_neg (show ¬ τM 7 i = 1 by rw [eM7]; exact fun z => ck ((nI_eq (b := 1) (by omega) (by decide)).mp z))]
      exact ⟨-2, ok_some ⟨rfl, k1⟩, ok_some ⟨rfl, k2⟩⟩
  · rw [hasXn k1.2.1.1 hq, isnMn k2.2.1.1 hq, Option.bind_some, Option.bind_some]
    dsimp only
    rw [if_pos rfl, if_pos rfl]
    exact ⟨-2, ok_some ⟨rfl, k1⟩, ok_some ⟨rfl, k2⟩⟩
