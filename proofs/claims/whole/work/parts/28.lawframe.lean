/-! the law's judgement GL: both sides' worlds, the long cell, the script -/
def wL (cI cL : ClassId) (adX adM : Nat → Nat) (qo : Nat) (σX σM : Mem) (fo : Nat → Int64) : va_W := wof cI adX σX 0 layX ++ (wof cI adM σM 0 layM ++ [(qo, .inl (cL, 1, .inr (.inl fo)))])
def GL (E : Gx) (cI cL : ClassId) (adX adM : Nat → Nat) (qo pc : Nat) (lv : List (Nat × Value)) (st : List Value) (σX σM : Mem) (fo : Nat → Int64) (ce sl : Nat) : Prop := match E with
  | (p, l, e, s, m, args, below, meth, c, D, Q, A, _, _) => ∀ (H : Heap) (locs : List Loc) (ls : Array Slot), va_P D vwCl (wL cI cL adX adM qo σX σM fo) H → va_S A s.heap H locs → lv_has ls 7 lv → W p l e room_1 s m args below meth c H locs ce sl Q (F0 m pc ls st)
def CL (E : Gx) (cI cL : ClassId) (adX adM : Nat → Nat) (qo b L sa : Nat) (xs : Nat → Int32) : Prop := match E with
  | (p, l, e, s, m, args, below, meth, c, D, Q, A, _, _) => CallFix p m c cL_law 7 s args Wall RL ∧ va_K D vwCl [(cI, .int), (cL, .long)] s ∧ Nst s ∧ va_D A (wL cI cL adX adM qo (fun _ _ => 0) (fun _ _ => 0) (fun _ => 0)) ∧ va_X b L xs s s.heap ∧ b < s.heap.size ∧ ¬ A b ∧ TX sa A s ∧ l.stackTraces = false ∧ (∀ q, s.heap.size ≤ q → A q)
theorem D_addr {A : Nat → Prop} {w1 w2 : va_W} (h : w1.map (fun q => q.1) = w2.map (fun q => q.1)) (hD : va_D A w1) : va_D A w2 := by
  have key : ∀ (k : Nat) (q : Nat × va_E), w2[k]? = some q → ∃ q1, w1[k]? = some q1 ∧ q1.1 = q.1 := by
    intro k q hq
    have h1 : (w2.map (fun q => q.1))[k]? = some q.1 := by rw [List.getElem?_map, hq]; rfl
    rw [← h, List.getElem?_map] at h1
    cases hk : w1[k]? with
    | none => rw [hk] at h1; cases h1
    | some q1 => rw [hk] at h1; exact ⟨q1, rfl, Option.some.inj h1⟩
  constructor
  · intro i j p q hi hj hpq
    obtain ⟨p1, a1, a2⟩ := key i p hi
    obtain ⟨q1, b1, b2⟩ := key j q hj
    exact hD.1 i j p1 q1 a1 b1 (by rw [a2, b2]; exact hpq)
  · intro k q hk
    obtain ⟨q1, a1, a2⟩ := key k q hk
    rw [← a2]
    exact hD.2 k q1 a1
theorem wof_addr (cI : ClassId) (ad : Nat → Nat) (σ τ : Mem) : ∀ (lay : Ly) (k : Nat), (wof cI ad σ k lay).map (fun q => q.1) = (wof cI ad τ k lay).map (fun q => q.1)
  | [], _ => rfl
  | d :: r, k => by simp only [wof, List.map_cons, wof_addr cI ad σ τ r (k + 1)]
theorem wL_D {A : Nat → Prop} {cI cL : ClassId} {adX adM : Nat → Nat} {qo : Nat} {σX σM τX τM : Mem} {fo go : Nat → Int64} (h : va_D A (wL cI cL adX adM qo σX σM fo)) : va_D A (wL cI cL adX adM qo τX τM go) := by
  refine D_addr ?_ h
  unfold wL
  rw [List.map_append, List.map_append, List.map_append, List.map_append, wof_addr cI adX σX τX, wof_addr cI adM σM τM]
  rfl
theorem D_left {A : Nat → Prop} {w1 w2 : va_W} (h : va_D A (w1 ++ w2)) : va_D A w1 := ⟨fun i j p q hi hj => h.1 i j p q (by rw [List.getElem?_append_left (List.getElem?_eq_some_iff.mp hi).1]; exact hi) (by rw [List.getElem?_append_left (List.getElem?_eq_some_iff.mp hj).1]; exact hj), fun k q hk => h.2 k q (by rw [List.getElem?_append_left (List.getElem?_eq_some_iff.mp hk).1]; exact hk)⟩
theorem D_right {A : Nat → Prop} {w1 w2 : va_W} (h : va_D A (w1 ++ w2)) : va_D A w2 := ⟨fun i j p q hi hj e => by
    have := h.1 (w1.length + i) (w1.length + j) p q (by rw [List.getElem?_append_right (by omega)]; simpa using hi) (by rw [List.getElem?_append_right (by omega)]; simpa using hj) e
    omega, fun k q hk => h.2 (w1.length + k) q (by rw [List.getElem?_append_right (by omega)]; simpa using hk)⟩
theorem D_apart {A : Nat → Prop} {w1 w2 : va_W} (h : va_D A (w1 ++ w2)) (i j : Nat) (p q : Nat × va_E) (hi : w1[i]? = some p) (hj : w2[j]? = some q) : p.1 ≠ q.1 := by
  intro e
  have hlt := (List.getElem?_eq_some_iff.mp hi).1
  have := h.1 i (w1.length + j) p q (by rw [List.getElem?_append_left hlt]; exact hi) (by rw [List.getElem?_append_right (by omega)]; simpa using hj) e
  omega
theorem Aw_cell {cI : ClassId} {ad : Nat → Nat} {σ : Mem} {lay : Ly} {q : Nat} (h : Aw lay ad q) : ∃ (k : Nat) (x : Nat × va_E), (wof cI ad σ 0 lay)[k]? = some x ∧ x.1 = q := by
  obtain ⟨k, hk, rfl⟩ := h
  have hx : lay[k]? = some lay[k] := List.getElem?_eq_getElem hk
  exact ⟨k, _, wof_at hx, rfl⟩
/-- behind a call on the class's side -/
theorem frX {A : Nat → Prop} {D : va_G} {cI cL : ClassId} {adX adM : Nat → Nat} {qo : Nat} {σX σM τX : Mem} {fo : Nat → Int64} {H H1 : Heap} (hD : va_D A (wL cI cL adX adM qo σX σM fo)) (hP : va_P D vwCl (wL cI cL adX adM qo σX σM fo) H) (hP1 : va_P D vwCl (wof cI adX τX 0 layX) H1) (hk : ∀ q : Nat, q < H.size → ¬ Aw layX adX q → H1[q]? = H[q]?) : va_P D vwCl (wL cI cL adX adM qo τX σM fo) H1 := by
  refine va_P.app hP1 ((P_right hP).kept (fun k x hx => hk x.1 ((P_right hP) k x hx).lt (fun h => ?_)))
  obtain ⟨j, y, hy, e⟩ := Aw_cell (cI := cI) (σ := σX) h
  exact D_apart hD j k y x hy hx e
/-- behind a call on the reference's side -/
theorem frM {A : Nat → Prop} {D : va_G} {cI cL : ClassId} {adX adM : Nat → Nat} {qo : Nat} {σX σM τM : Mem} {fo : Nat → Int64} {H H1 : Heap} (hD : va_D A (wL cI cL adX adM qo σX σM fo)) (hP : va_P D vwCl (wL cI cL adX adM qo σX σM fo) H) (hP1 : va_P D vwCl (wof cI adM τM 0 layM) H1) (hk : ∀ q : Nat, q < H.size → ¬ Aw layM adM q → H1[q]? = H[q]?) : va_P D vwCl (wL cI cL adX adM qo σX τM fo) H1 := by
  refine va_P.app ((P_left hP).kept (fun k x hx => hk x.1 ((P_left hP) k x hx).lt (fun h => ?_))) (va_P.app hP1 ((P_right (P_right hP)).kept (fun k x hx => hk x.1 ((P_right (P_right hP)) k x hx).lt (fun h => ?_))))
  · obtain ⟨j, y, hy, e⟩ := Aw_cell (cI := cI) (σ := σM) h
    exact D_apart hD k j x y hx (by rw [List.getElem?_append_left (List.getElem?_eq_some_iff.mp hy).1]; exact hy) e.symm
  · obtain ⟨j, y, hy, e⟩ := Aw_cell (cI := cI) (σ := σM) h
    exact D_apart (D_right hD) j k y x hy hx e
theorem Dt {A : Nat → Prop} {cI : ClassId} {ad : Nat → Nat} {σ : Mem} {lay : Ly} (h : va_D A (wof cI ad σ 0 lay)) : va_D (fun _ => True) (wof cI ad (fun _ _ => 0) 0 lay) := D_addr (wof_addr cI ad σ _ lay 0) (h.weaken (fun _ _ _ _ => trivial))
theorem AwA {A : Nat → Prop} {cI : ClassId} {ad : Nat → Nat} {σ : Mem} {lay : Ly} (h : va_D A (wof cI ad σ 0 lay)) (q : Nat) (hq : Aw lay ad q) : A q := by
  obtain ⟨k, x, hx, e⟩ := Aw_cell (cI := cI) (σ := σ) hq
  rw [← e]
  exact h.2 k x hx
section GLR
variable {E : Gx} {cI cL : ClassId} {adX adM : Nat → Nat} {qo b L sa : Nat} {xs : Nat → Int32} {pc : Nat} {lv : List (Nat × Value)} {rest : List Value} {σX σM : Mem} {fo : Nat → Int64} {ce sl : Nat}
theorem l_iconst (q : Nat) (C : CL E cI cL adX adM qo b L sa xs) {n : Int} {v : Int32} (hdg : decode cL_law pc = .ok (.iconst n, 1)) (hv : Int32.ofInt n = v) (hq : pc + 1 = q)
    (k : GL E cI cL adX adM qo q lv (.int v :: rest) σX σM fo ce sl) : GL E cI cL adX adM qo pc lv rest σX σM fo ce sl := by
  subst hq
  obtain ⟨p, l, e, s, m, args, below, meth, c, D, Q, A, ce0, sl0⟩ := E
  intro H locs ls hP hS hl
  exact lv_iconst C.1.1 C.1.2.1 hdg hv (k H locs ls hP hS hl)
theorem l_bipush (q : Nat) (C : CL E cI cL adX adM qo b L sa xs) {n : Int} {v : Int32} (hdg : decode cL_law pc = .ok (.bipush n, 2)) (hv : (Int8.ofInt n).toInt32 = v) (hq : pc + 2 = q)
    (k : GL E cI cL adX adM qo q lv (.int v :: rest) σX σM fo ce sl) : GL E cI cL adX adM qo pc lv rest σX σM fo ce sl := by
  subst hq
  obtain ⟨p, l, e, s, m, args, below, meth, c, D, Q, A, ce0, sl0⟩ := E
  intro H locs ls hP hS hl
  exact lv_bipush C.1.1 C.1.2.1 hdg hv (k H locs ls hP hS hl)
theorem l_iload_n (q : Nat) (C : CL E cI cL adX adM qo b L sa xs) {z : Fin 4} {i j : Nat} {x : Int32} (hdg : decode cL_law pc = .ok (.iload_n z, 1)) (hi : (z : Nat) = i) (hj : lv[j]? = some (i, .int x)) (hq : pc + 1 = q)
    (k : GL E cI cL adX adM qo q lv (.int x :: rest) σX σM fo ce sl) : GL E cI cL adX adM qo pc lv rest σX σM fo ce sl := by
  subst hq
  obtain ⟨p, l, e, s, m, args, below, meth, c, D, Q, A, ce0, sl0⟩ := E
  intro H locs ls hP hS hl
  exact lv_iload_n C.1.1 C.1.2.1 hdg hi (lv_at hl j hj) (k H locs ls hP hS hl)
theorem l_iload (q : Nat) (C : CL E cI cL adX adM qo b L sa xs) {i j : Nat} {x : Int32} (hdg : decode cL_law pc = .ok (.iload i, 2)) (hj : lv[j]? = some (i, .int x)) (hq : pc + 2 = q)
    (k : GL E cI cL adX adM qo q lv (.int x :: rest) σX σM fo ce sl) : GL E cI cL adX adM qo pc lv rest σX σM fo ce sl := by
  subst hq
  obtain ⟨p, l, e, s, m, args, below, meth, c, D, Q, A, ce0, sl0⟩ := E
  intro H locs ls hP hS hl
  exact lv_iload C.1.1 C.1.2.1 hdg (lv_at hl j hj) (k H locs ls hP hS hl)
theorem l_aload_n (q : Nat) (C : CL E cI cL adX adM qo b L sa xs) {z : Fin 4} {i j : Nat} {x : Nat} (hdg : decode cL_law pc = .ok (.aload_n z, 1)) (hi : (z : Nat) = i) (hj : lv[j]? = some (i, .ref x)) (hq : pc + 1 = q)
    (k : GL E cI cL adX adM qo q lv (.ref x :: rest) σX σM fo ce sl) : GL E cI cL adX adM qo pc lv rest σX σM fo ce sl := by
  subst hq
  obtain ⟨p, l, e, s, m, args, below, meth, c, D, Q, A, ce0, sl0⟩ := E
  intro H locs ls hP hS hl
  exact lv_aload_n C.1.1 C.1.2.1 hdg hi (lv_at hl j hj) (k H locs ls hP hS hl)
theorem l_aload (q : Nat) (C : CL E cI cL adX adM qo b L sa xs) {i j : Nat} {x : Nat} (hdg : decode cL_law pc = .ok (.aload i, 2)) (hj : lv[j]? = some (i, .ref x)) (hq : pc + 2 = q)
    (k : GL E cI cL adX adM qo q lv (.ref x :: rest) σX σM fo ce sl) : GL E cI cL adX adM qo pc lv rest σX σM fo ce sl := by
  subst hq
  obtain ⟨p, l, e, s, m, args, below, meth, c, D, Q, A, ce0, sl0⟩ := E
  intro H locs ls hP hS hl
  exact lv_aload C.1.1 C.1.2.1 hdg (lv_at hl j hj) (k H locs ls hP hS hl)
theorem l_istore (q : Nat) (lv2 : List (Nat × Value)) (C : CL E cI cL adX adM qo b L sa xs) {i : Nat} {x : Int32} (hdg : decode cL_law pc = .ok (.istore i, 2)) (hn : i < 7) (hl2 : (i, Value.int x) :: lv.filter (fun q => !(q.1 == i) && !(q.1 + 1 == i && q.2.category == 2)) = lv2) (hq : pc + 2 = q)
    (k : GL E cI cL adX adM qo q lv2 rest σX σM fo ce sl) : GL E cI cL adX adM qo pc lv (.int x :: rest) σX σM fo ce sl := by
  subst hq
  obtain ⟨p, l, e, s, m, args, below, meth, c, D, Q, A, ce0, sl0⟩ := E
  intro H locs ls hP hS hl
  exact lv_istore C.1.1 C.1.2.1 hdg hl hn hl2 (fun ls2 hl3 => k H locs ls2 hP hS hl3)
theorem l_iinc (q : Nat) (lv2 : List (Nat × Value)) (C : CL E cI cL adX adM qo b L sa xs) {i j : Nat} {n : Int} {x v : Int32} (hdg : decode cL_law pc = .ok (.iinc i n, 3)) (hj : lv[j]? = some (i, .int x)) (hv : x + Int32.ofInt n = v) (hn : i < 7) (hl2 : (i, Value.int v) :: lv.filter (fun q => !(q.1 == i) && !(q.1 + 1 == i && q.2.category == 2)) = lv2) (hq : pc + 3 = q)
    (k : GL E cI cL adX adM qo q lv2 rest σX σM fo ce sl) : GL E cI cL adX adM qo pc lv rest σX σM fo ce sl := by
  subst hq
  obtain ⟨p, l, e, s, m, args, below, meth, c, D, Q, A, ce0, sl0⟩ := E
  intro H locs ls hP hS hl
  exact lv_iinc C.1.1 C.1.2.1 hdg hl hj hv hn hl2 (fun ls2 hl3 => k H locs ls2 hP hS hl3)
theorem l_iadd (q : Nat) (C : CL E cI cL adX adM qo b L sa xs) {x y : Int32} (hdg : decode cL_law pc = .ok (.iadd, 1)) (hq : pc + 1 = q)
    (k : GL E cI cL adX adM qo q lv (.int (x + y) :: rest) σX σM fo ce sl) : GL E cI cL adX adM qo pc lv (.int y :: .int x :: rest) σX σM fo ce sl := by
  subst hq
  obtain ⟨p, l, e, s, m, args, below, meth, c, D, Q, A, ce0, sl0⟩ := E
  intro H locs ls hP hS hl
  exact lv_iadd C.1.1 C.1.2.1 hdg (k H locs ls hP hS hl)
theorem l_isub (q : Nat) (C : CL E cI cL adX adM qo b L sa xs) {x y : Int32} (hdg : decode cL_law pc = .ok (.isub, 1)) (hq : pc + 1 = q)
    (k : GL E cI cL adX adM qo q lv (.int (x - y) :: rest) σX σM fo ce sl) : GL E cI cL adX adM qo pc lv (.int y :: .int x :: rest) σX σM fo ce sl := by
  subst hq
  obtain ⟨p, l, e, s, m, args, below, meth, c, D, Q, A, ce0, sl0⟩ := E
  intro H locs ls hP hS hl
  exact lv_isub C.1.1 C.1.2.1 hdg (k H locs ls hP hS hl)
theorem l_iand (q : Nat) (C : CL E cI cL adX adM qo b L sa xs) {x y : Int32} (hdg : decode cL_law pc = .ok (.iand, 1)) (hq : pc + 1 = q)
    (k : GL E cI cL adX adM qo q lv (.int (x &&& y) :: rest) σX σM fo ce sl) : GL E cI cL adX adM qo pc lv (.int y :: .int x :: rest) σX σM fo ce sl := by
  subst hq
  obtain ⟨p, l, e, s, m, args, below, meth, c, D, Q, A, ce0, sl0⟩ := E
  intro H locs ls hP hS hl
  exact lv_iand C.1.1 C.1.2.1 hdg (k H locs ls hP hS hl)
theorem l_i2l (q : Nat) (C : CL E cI cL adX adM qo b L sa xs) {x : Int32} (hdg : decode cL_law pc = .ok (.i2l, 1)) (hq : pc + 1 = q)
    (k : GL E cI cL adX adM qo q lv (.long x.toInt64 :: rest) σX σM fo ce sl) : GL E cI cL adX adM qo pc lv (.int x :: rest) σX σM fo ce sl := by
  subst hq
  obtain ⟨p, l, e, s, m, args, below, meth, c, D, Q, A, ce0, sl0⟩ := E
  intro H locs ls hP hS hl
  exact lv_i2l C.1.1 C.1.2.1 hdg rfl (k H locs ls hP hS hl)
theorem l_lcmp (q : Nat) (C : CL E cI cL adX adM qo b L sa xs) {x y : Int64} (hdg : decode cL_law pc = .ok (.lcmp, 1)) (hq : pc + 1 = q)
    (k : GL E cI cL adX adM qo q lv (.int (lg_cmp x y) :: rest) σX σM fo ce sl) : GL E cI cL adX adM qo pc lv (.long y :: .long x :: rest) σX σM fo ce sl := by
  subst hq
  obtain ⟨p, l, e, s, m, args, below, meth, c, D, Q, A, ce0, sl0⟩ := E
  intro H locs ls hP hS hl
  exact W.lcmp C.1.1 C.1.2.1 hdg (k H locs ls hP hS hl)
theorem l_goto (tgt : Nat) (C : CL E cI cL adX adM qo b L sa xs) {off : Int} (hdg : decode cL_law pc = .ok (.goto off, 3)) (ht : (pc : Int) + off = (tgt : Int)) (k : GL E cI cL adX adM qo tgt lv rest σX σM fo ce sl) : GL E cI cL adX adM qo pc lv rest σX σM fo ce sl := by
  obtain ⟨p, l, e, s, m, args, below, meth, c, D, Q, A, ce0, sl0⟩ := E
  intro H locs ls hP hS hl
  exact lv_goto C.1.1 C.1.2.1 hdg ht (k H locs ls hP hS hl)
theorem l_icmp_eq (tgt q : Nat) (C : CL E cI cL adX adM qo b L sa xs) {x y : Int32} {off : Int} (hdg : decode cL_law pc = .ok (.if_icmp .eq off, 3)) (ht : (pc : Int) + off = (tgt : Int)) (hq : pc + 3 = q)
    (kt : x = y → GL E cI cL adX adM qo tgt lv rest σX σM fo ce sl) (kf : ¬ x = y → GL E cI cL adX adM qo q lv rest σX σM fo ce sl) : GL E cI cL adX adM qo pc lv (.int y :: .int x :: rest) σX σM fo ce sl := by
  subst hq
  obtain ⟨p, l, e, s, m, args, below, meth, c, D, Q, A, ce0, sl0⟩ := E
  intro H locs ls hP hS hl
  exact lv_icmp_eq C.1.1 C.1.2.1 hdg ht (fun hc => kt hc H locs ls hP hS hl) (fun hc => kf hc H locs ls hP hS hl)
theorem l_icmp_gt (tgt q : Nat) (C : CL E cI cL adX adM qo b L sa xs) {x y : Int32} {off : Int} (hdg : decode cL_law pc = .ok (.if_icmp .gt off, 3)) (ht : (pc : Int) + off = (tgt : Int)) (hq : pc + 3 = q)
    (kt : y < x → GL E cI cL adX adM qo tgt lv rest σX σM fo ce sl) (kf : ¬ y < x → GL E cI cL adX adM qo q lv rest σX σM fo ce sl) : GL E cI cL adX adM qo pc lv (.int y :: .int x :: rest) σX σM fo ce sl := by
  subst hq
  obtain ⟨p, l, e, s, m, args, below, meth, c, D, Q, A, ce0, sl0⟩ := E
  intro H locs ls hP hS hl
  exact lv_icmp_gt C.1.1 C.1.2.1 hdg ht (fun hc => kt hc H locs ls hP hS hl) (fun hc => kf hc H locs ls hP hS hl)
theorem l_if_eq (tgt q : Nat) (C : CL E cI cL adX adM qo b L sa xs) {x : Int32} {off : Int} (hdg : decode cL_law pc = .ok (.ifCond .eq off, 3)) (ht : (pc : Int) + off = (tgt : Int)) (hq : pc + 3 = q)
    (kt : x = 0 → GL E cI cL adX adM qo tgt lv rest σX σM fo ce sl) (kf : ¬ x = 0 → GL E cI cL adX adM qo q lv rest σX σM fo ce sl) : GL E cI cL adX adM qo pc lv (.int x :: rest) σX σM fo ce sl := by
  subst hq
  obtain ⟨p, l, e, s, m, args, below, meth, c, D, Q, A, ce0, sl0⟩ := E
  intro H locs ls hP hS hl
  exact lv_if_eq C.1.1 C.1.2.1 hdg ht (fun hc => kt hc H locs ls hP hS hl) (fun hc => kf hc H locs ls hP hS hl)
theorem l_if_ne (tgt q : Nat) (C : CL E cI cL adX adM qo b L sa xs) {x : Int32} {off : Int} (hdg : decode cL_law pc = .ok (.ifCond .ne off, 3)) (ht : (pc : Int) + off = (tgt : Int)) (hq : pc + 3 = q)
    (kt : ¬ x = 0 → GL E cI cL adX adM qo tgt lv rest σX σM fo ce sl) (kf : x = 0 → GL E cI cL adX adM qo q lv rest σX σM fo ce sl) : GL E cI cL adX adM qo pc lv (.int x :: rest) σX σM fo ce sl := by
  subst hq
  obtain ⟨p, l, e, s, m, args, below, meth, c, D, Q, A, ce0, sl0⟩ := E
  intro H locs ls hP hS hl
  exact lv_if_ne C.1.1 C.1.2.1 hdg ht (fun hc => kt hc H locs ls hP hS hl) (fun hc => kf hc H locs ls hP hS hl)
theorem l_slen (q : Nat) (C : CL E cI cL adX adM qo b L sa xs) (hdg : decode cL_law pc = .ok (.arraylength, 1)) (hq : pc + 1 = q) (k : GL E cI cL adX adM qo q lv (.int (Int32.ofNat L) :: rest) σX σM fo ce sl) : GL E cI cL adX adM qo pc lv (.ref b :: rest) σX σM fo ce sl := by
  subst hq
  obtain ⟨p, l, e, s, m, args, below, meth, c, D, Q, A, ce0, sl0⟩ := E
  intro H locs ls hP hS hl
  exact va_slen C.1.1 C.1.2.1 C.2.2.2.2.1 C.2.2.2.2.2.1 C.2.2.2.2.2.2.1 hS hdg (k H locs ls hP hS hl)
theorem l_sld (q : Nat) (C : CL E cI cL adX adM qo b L sa xs) {i : Int32} (hin : vp_in i L) (hdg : decode cL_law pc = .ok (.iaload, 1)) (hq : pc + 1 = q) (k : GL E cI cL adX adM qo q lv (.int (xs i.toNatClampNeg) :: rest) σX σM fo ce sl) : GL E cI cL adX adM qo pc lv (.int i :: .ref b :: rest) σX σM fo ce sl := by
  subst hq
  obtain ⟨p, l, e, s, m, args, below, meth, c, D, Q, A, ce0, sl0⟩ := E
  intro H locs ls hP hS hl
  exact va_sld C.1.1 C.1.2.1 C.2.2.2.2.1 C.2.2.2.2.2.1 C.2.2.2.2.2.2.1 hS hin hdg (k H locs ls hP hS hl)
theorem l_lald (q : Nat) (C : CL E cI cL adX adM qo b L sa xs) (hdg : decode cL_law pc = .ok (.laload, 1)) (hq : pc + 1 = q) (k : GL E cI cL adX adM qo q lv (.long (fo 0) :: rest) σX σM fo ce sl) : GL E cI cL adX adM qo pc lv (.int 0 :: .ref qo :: rest) σX σM fo ce sl := by
  subst hq
  obtain ⟨p, l, e, s, m, args, below, meth, c, D, Q, A, ce0, sl0⟩ := E
  intro H locs ls hP hS hl
  exact va_lald C.1.1 C.1.2.1 C.2.1 (P_right (P_right hP)) 0 1 (i := 0) rfl rfl (inb_in (by decide)) hdg (k H locs ls hP hS hl)
theorem l_tswC (tgt : Nat) (C : CL E cI cL adX adM qo b L sa xs) {dflt lo hi : Int} {offs : Array Int} {len : Nat} {x v : Int32} {off : Int} (hdg : decode cL_law pc = .ok (.tableswitch dflt lo hi offs, len)) (hx : x = v) (h1 : ¬ v.toInt < lo) (h2 : ¬ hi < v.toInt) (ho : offs[(v.toInt - lo).toNat]? = some off) (ht : (pc : Int) + off = (tgt : Int)) (k : GL E cI cL adX adM qo tgt lv rest σX σM fo ce sl) : GL E cI cL adX adM qo pc lv (.int x :: rest) σX σM fo ce sl := by
  subst hx
  obtain ⟨p, l, e, s, m, args, below, meth, c, D, Q, A, ce0, sl0⟩ := E
  intro H locs ls hP hS hl
  exact lv_tableIn C.1.1 C.1.2.1 hdg h1 h2 ho ht (k H locs ls hP hS hl)
theorem l_tswD (tgt : Nat) (C : CL E cI cL adX adM qo b L sa xs) {dflt lo hi : Int} {offs : Array Int} {len : Nat} {x : Int32} (hdg : decode cL_law pc = .ok (.tableswitch dflt lo hi offs, len)) (h1 : x.toInt < lo ∨ hi < x.toInt) (ht : (pc : Int) + dflt = (tgt : Int)) (k : GL E cI cL adX adM qo tgt lv rest σX σM fo ce sl) : GL E cI cL adX adM qo pc lv (.int x :: rest) σX σM fo ce sl := by
  obtain ⟨p, l, e, s, m, args, below, meth, c, D, Q, A, ce0, sl0⟩ := E
  intro H locs ls hP hS hl
  exact lv_tableOut C.1.1 C.1.2.1 hdg h1 ht (k H locs ls hP hS hl)
theorem l_sub (ks : List Nat) {lv2 : List (Nat × Value)} {st : List Value} (k : GL E cI cL adX adM qo pc lv2 st σX σM fo ce sl) (hs : lv_pick lv ks = lv2) : GL E cI cL adX adM qo pc lv st σX σM fo ce sl := by
  obtain ⟨p, l, e, s, m, args, below, meth, c, D, Q, A, ce0, sl0⟩ := E
  intro H locs ls hP hS hl
  exact k H locs ls hP hS (lv_sub hl ks hs)
theorem l_widen {st : List Value} {ce2 sl2 : Nat} (h1 : ce ≤ ce2) (h2 : sl ≤ sl2) (k : GL E cI cL adX adM qo pc lv st σX σM fo ce2 sl2) : GL E cI cL adX adM qo pc lv st σX σM fo ce sl := by
  obtain ⟨p, l, e, s, m, args, below, meth, c, D, Q, A, ce0, sl0⟩ := E
  intro H locs ls hP hS hl
  exact W.widen h1 h2 (k H locs ls hP hS hl)
theorem l_cX (q : Nat) (C : CL E cI cL adX adM qo b L sa xs) {y : MethodName} {rm : Room} {bytes : ByteArray} {maxL index : Nat} {ty : FieldType} {As st : List Value} {n : Nat} {o : Int32 × Mem} (hM : MI (lof E) (Dof E) cI layX adX y bytes maxL ty rm (.ref (adX 7) :: As) σX o) (hlk : Cond.methodLink RL index y ∈ Wall) (hinst : Cond.instanceMethod y ∈ Wall) (hsel : Cond.selects RX7 y y ∈ Wall) (hcode : Cond.code y bytes maxL (some ty) ∈ Wall) (hini : Cond.initialized y.cls ∈ Wall) (hd : y.cls ≠ "java/lang/invoke/MethodHandle" ∧ y.cls ≠ "java/lang/invoke/VarHandle" ∧ (parseMethodDescriptor y.desc).map (fun d => d.parameters.length) = some n) (hrc : rm.cells = 0) (hrs : rm.slots = 0) (hR : rm.frames + 1 ≤ room_1.frames ∧ 8 + (maxL + 11) + rm.locals ≤ room_1.locals) (hst : st = As.reverse ++ .ref (adX 7) :: rest) (hn : As.length = n) (hsum : (rest.map fun v => v.category).sum ≤ 8) (hce : ce ≤ room_1.cells ∧ sl ≤ room_1.slots) (hdg : decode cL_law pc = .ok (.invokevirtual index, 3)) (hq : pc + 3 = q)
    (kk : GL E cI cL adX adM qo q lv (.int o.1 :: rest) o.2 σM fo ce sl) : GL E cI cL adX adM qo pc lv st σX σM fo ce sl := by
  subst hq
  subst hst
  obtain ⟨p, l, e, s, m, args, below, meth, c, D, Q, A, ce0, sl0⟩ := E
  intro H locs ls hP hS hl
  have hDw := wL_D (τX := σX) (τM := σM) (go := fo) C.2.2.2.1
  have hD1 := (D_left) hDw
  have hP0 := (P_left hP)
  have hK1 : va_K D vwCl [(cI, .int)] s := C.2.1.sub [0] rfl
  refine va_calli (va_runV (As := As) (rest := rest) C.1 hM ⟨callB_of n C.1.2.2.2.2 (good_call hcode) rfl hrc hrs (C.1.2.2.2.2 _ hini) (C.1.2.2.2.2 _ hlk) hd hR, C.1.2.2.2.2 _ hinst, C.1.2.2.2.2 _ hsel⟩ ⟨Wd.blind _, va_recv hK1 hP0 (ci := 7) (q0 := 7) rfl rfl, fun U hU hW => ⟨rfl, by rw [hU]; exact hP0, va_K.moved hW.alike hK1, C.2.2.1.warm hW, Dt hD1⟩⟩ rfl hn hl.1 rfl (lv_room hsum) hdg hce) hS (fun q _ h => AwA hD1 q h) (fun q h => AwA hD1 q h) (fun r u t H1 locs1 ht hvm hw1 hB hz hk hS1 => ?_)
  subst hw1
  exact kk H1 locs1 ls (frX hDw hP (by rw [← ht]; exact hB.1) hk) hS1 hl
theorem l_cM (q : Nat) (C : CL E cI cL adX adM qo b L sa xs) {y : MethodName} {rm : Room} {bytes : ByteArray} {maxL index : Nat} {ty : FieldType} {As st : List Value} {n : Nat} {o : Int32 × Mem} (hM : MI (lof E) (Dof E) cI layM adM y bytes maxL ty rm (.ref (adM 0) :: As) σM o) (hlk : Cond.methodLink RL index y ∈ Wall) (hinst : Cond.instanceMethod y ∈ Wall) (hsel : Cond.selects RX8 y y ∈ Wall) (hcode : Cond.code y bytes maxL (some ty) ∈ Wall) (hini : Cond.initialized y.cls ∈ Wall) (hd : y.cls ≠ "java/lang/invoke/MethodHandle" ∧ y.cls ≠ "java/lang/invoke/VarHandle" ∧ (parseMethodDescriptor y.desc).map (fun d => d.parameters.length) = some n) (hrc : rm.cells = 0) (hrs : rm.slots = 0) (hR : rm.frames + 1 ≤ room_1.frames ∧ 8 + (maxL + 11) + rm.locals ≤ room_1.locals) (hst : st = As.reverse ++ .ref (adM 0) :: rest) (hn : As.length = n) (hsum : (rest.map fun v => v.category).sum ≤ 8) (hce : ce ≤ room_1.cells ∧ sl ≤ room_1.slots) (hdg : decode cL_law pc = .ok (.invokevirtual index, 3)) (hq : pc + 3 = q)
    (kk : GL E cI cL adX adM qo q lv (.int o.1 :: rest) σX o.2 fo ce sl) : GL E cI cL adX adM qo pc lv st σX σM fo ce sl := by
  subst hq
  subst hst
  obtain ⟨p, l, e, s, m, args, below, meth, c, D, Q, A, ce0, sl0⟩ := E
  intro H locs ls hP hS hl
  have hDw := wL_D (τX := σX) (τM := σM) (go := fo) C.2.2.2.1
  have hD1 := (fun h => D_left (D_right h)) hDw
  have hP0 := (P_left (P_right hP))
  have hK1 : va_K D vwCl [(cI, .int)] s := C.2.1.sub [0] rfl
  refine va_calli (va_runV (As := As) (rest := rest) C.1 hM ⟨callB_of n C.1.2.2.2.2 (good_call hcode) rfl hrc hrs (C.1.2.2.2.2 _ hini) (C.1.2.2.2.2 _ hlk) hd hR, C.1.2.2.2.2 _ hinst, C.1.2.2.2.2 _ hsel⟩ ⟨Wd.blind _, va_recv hK1 hP0 (ci := 8) (q0 := 0) rfl rfl, fun U hU hW => ⟨rfl, by rw [hU]; exact hP0, va_K.moved hW.alike hK1, C.2.2.1.warm hW, Dt hD1⟩⟩ rfl hn hl.1 rfl (lv_room hsum) hdg hce) hS (fun q _ h => AwA hD1 q h) (fun q h => AwA hD1 q h) (fun r u t H1 locs1 ht hvm hw1 hB hz hk hS1 => ?_)
  subst hw1
  exact kk H1 locs1 ls (frM hDw hP (by rw [← ht]; exact hB.1) hk) hS1 hl
end GLR
