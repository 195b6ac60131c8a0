/-! constructors: the judgement Gn over an explicit world (written by wip/whole/make.py) -/
def Gn (E : Gx) (R : Room) (nL pc : Nat) (lv : List (Nat × Value)) (st : List Value) (ws : va_W) (ce sl : Nat) : Prop := match E with
  | (p, l, e, s, m, args, below, meth, c, D, Q, A, _, _) => ∀ (H : Heap) (locs : List Loc) (ls : Array Slot), va_P D vwCl ws H → va_D A ws → va_S A s.heap H locs → lv_has ls nL lv → W p l e R s m args below meth c H locs ce sl Q (F0 m pc ls st)
def Cn (E : Gx) (cI : ClassId) (nL : Nat) (own : String) (cc : ByteArray) : Prop := match E with
  | (p, l, e, s, m, args, below, meth, c, D, Q, A, _, _) => CallFix p m c cc nL s args Wall own ∧ va_K D vwCl [(cI, .int)] s ∧ Nst s ∧ (∀ q, s.heap.size ≤ q → A q) ∧ meth.name = "<init>"
def KN (E : Gx) (R : Room) (nL : Nat) (cc : ByteArray) {S : Type} (B : S → va_W) (mc ms : Nat) : Prop := ∀ (pc : Nat) (lv : List (Nat × Value)) (u : S), decode cc pc = .ok (.return_, 1) → Gn E R nL pc lv [] (B u) mc ms
def MN (l : Launch) (D : va_G) (cI : ClassId) (y : MethodName) (cc : ByteArray) (maxL : Nat) (rm : Room) (h0 ci : Nat) (fs0 As : List Value) {S : Type} (B : S → va_W) (mc ms : Nat) : Prop := ∀ sz : Nat,
  Met l y (Cond.code y cc maxL none :: Wall) rm (va_Pc (.ref h0 :: As) (fun U => U.heap.size = sz ∧ va_P D vwCl [(h0, .inr (ci, fs0))] U.heap ∧ va_K D vwCl [(cI, .int)] U ∧ Nst U)) (va_Qv (fun _ : S => True) (fun u t => va_P D vwCl (B u) t.heap ∧ va_D (va_A [(h0, .inr (ci, fs0))] sz) (B u)) (va_A [(h0, .inr (ci, fs0))] sz)) mc ms (va_A [(h0, .inr (ci, fs0))] sz)
def AOf : Gx → (Nat → Prop)
  | (_, _, _, _, _, _, _, _, _, _, _, A, _, _) => A
def ceOf : Gx → Nat
  | (_, _, _, _, _, _, _, _, _, _, _, _, ce, _) => ce
def slOf : Gx → Nat
  | (_, _, _, _, _, _, _, _, _, _, _, _, _, sl) => sl
theorem Cx_ofCn {E : Gx} {R : Room} {cI : ClassId} {lay : Ly} {ad : Nat → Nat} {nL : Nat} {own : String} {cc : ByteArray} (C : Cn E cI nL own cc) (hD : va_D (fun _ => True) (wof cI ad (fun _ _ => 0) 0 lay)) (hA : ∀ q, Aw lay ad q → AOf E q) (h1 : ceOf E ≤ R.cells) (h2 : slOf E ≤ R.slots) : Cx E R cI lay ad nL own cc := by
  obtain ⟨p, l, e, s, m, args, below, meth, c, D, Q, A, ce0, sl0⟩ := E
  exact ⟨C.1, C.2.1, C.2.2.1, hD, hA, h1, h2⟩
theorem D_one (q : Nat × va_E) : va_D (fun _ => True) [q] := by
  constructor
  · intro i j p r hi hj _
    have h1 : i < 1 := (List.getElem?_eq_some_iff.mp hi).1
    have h2 : j < 1 := (List.getElem?_eq_some_iff.mp hj).1
    omega
  · intro _ _ _
    trivial
theorem met_n {l : Launch} {D : va_G} {cI : ClassId} {y : MethodName} {rm : Room} {h0 ci : Nat} {fs0 As : List Value} {S : Type} {B : S → va_W} {mc ms : Nat} {cc : ByteArray} {maxL : Nat}
    (hy : plainName y.cls = true) (hyn : y.name = "<init>") (hlen : (lg_sl (.ref h0 :: As)).length ≤ maxL)
    (body : ∀ E : Gx, Cn E cI maxL y.cls cc → KN E rm maxL cc B mc ms → ceOf E = mc → slOf E = ms → Gn E rm maxL 0 (lv_args 0 (.ref h0 :: As)) [] [(h0, .inr (ci, fs0))] 0 0) : MN l D cI y cc maxL rm h0 ci fs0 As B mc ms := by
  intro sz
  refine Met.ofW (cc := cc) (maxL := maxL) (ret := none) hy rfl ?_
  intro p e s m args below meth c s₁ Bd hml hv
  obtain ⟨rfl, hsz, hP, hK, hN⟩ := hv
  subst hsz
  have hx := Bd.exec
  have hb := Bd.bytes
  have hr := Bd.returns
  have hts0 := atoms_spec (ws := _ :: Wall) Bd.pre
  have hts : ∀ w ∈ Wall, w.before (.ref h0 :: As : List Value).toArray s = true := fun w h => hts0 w (List.mem_cons_of_mem _ h)
  have hown : s.vm.findClass y.cls = some m.cls := findClass_of_methodNamed Bd.named
  have hin : meth.name = "<init>" := ((name_of_methodNamed Bd.named Bd.method).1).trans hyn
  have hlocks := Bd.notSynchronized
  have hl := lv_entry (.ref h0 :: As) (n := maxL) hlen
  rw [lg_entry_eq]
  have hD : va_D (va_A [(h0, (.inr (ci, fs0) : va_E))] s.heap.size) [(h0, .inr (ci, fs0))] := (D_one _).self
  refine body (p, l, e, s, m, (.ref h0 :: As : List Value).toArray, below, meth, c, D, MQ below (va_Qv (fun _ : S => True) (fun u t => va_P D vwCl (B u) t.heap ∧ va_D (va_A [(h0, .inr (ci, fs0))] s.heap.size) (B u)) (va_A [(h0, .inr (ci, fs0))] s.heap.size)) (.ref h0 :: As : List Value).toArray s mc ms (va_A [(h0, .inr (ci, fs0))] s.heap.size), va_A [(h0, .inr (ci, fs0))] s.heap.size, mc, ms) ⟨⟨hx, hb, hml, hown, hts⟩, hK, hN, fun q h => Or.inr h, hin⟩ ?_ rfl rfl s.heap [] _ hP hD va_S.rf hl
  intro pc lv u hdg H locs ls hP1 hD1 hS1 hl1
  exact W.vret hx hb hr (fun t ht hW => ⟨⟨u, rfl, trivial, by rw [ht]; exact hP1, hD1⟩, hS1.F ht⟩) hS1.2.2 hdg hlocks
section GNR
variable {E : Gx} {R : Room} {cI : ClassId} {nL : Nat} {own : String} {cc : ByteArray} {pc : Nat} {lv : List (Nat × Value)} {rest : List Value} {ws : va_W} {ce sl : Nat}
theorem n_iconst (q : Nat) (C : Cn E cI nL own cc) {n : Int} {v : Int32} (hdg : decode cc pc = .ok (.iconst n, 1)) (hv : Int32.ofInt n = v) (hq : pc + 1 = q)
    (k : Gn E R nL q lv (.int v :: rest) ws ce sl) : Gn E R nL pc lv rest ws ce sl := by
  subst hq
  obtain ⟨p, l, e, s, m, args, below, meth, c, D, Q, A, ce0, sl0⟩ := E
  intro H locs ls hP hD hS hl
  exact lv_iconst C.1.1 C.1.2.1 hdg hv (k H locs ls hP hD hS hl)
theorem n_bipush (q : Nat) (C : Cn E cI nL own cc) {n : Int} {v : Int32} (hdg : decode cc pc = .ok (.bipush n, 2)) (hv : (Int8.ofInt n).toInt32 = v) (hq : pc + 2 = q)
    (k : Gn E R nL q lv (.int v :: rest) ws ce sl) : Gn E R nL pc lv rest ws ce sl := by
  subst hq
  obtain ⟨p, l, e, s, m, args, below, meth, c, D, Q, A, ce0, sl0⟩ := E
  intro H locs ls hP hD hS hl
  exact lv_bipush C.1.1 C.1.2.1 hdg hv (k H locs ls hP hD hS hl)
theorem n_sipush (q : Nat) (C : Cn E cI nL own cc) {n : Int} {v : Int32} (hdg : decode cc pc = .ok (.sipush n, 3)) (hv : (Int16.ofInt n).toInt32 = v) (hq : pc + 3 = q)
    (k : Gn E R nL q lv (.int v :: rest) ws ce sl) : Gn E R nL pc lv rest ws ce sl := by
  subst hq
  obtain ⟨p, l, e, s, m, args, below, meth, c, D, Q, A, ce0, sl0⟩ := E
  intro H locs ls hP hD hS hl
  exact lv_sipush C.1.1 C.1.2.1 hdg hv (k H locs ls hP hD hS hl)
theorem n_ldc (q : Nat) (C : Cn E cI nL own cc) {index : Nat} {v : Int32} (hdg : decode cc pc = .ok (.ldc index, 2)) (hc : Cond.constant own index v ∈ Wall) (hq : pc + 2 = q)
    (k : Gn E R nL q lv (.int v :: rest) ws ce sl) : Gn E R nL pc lv rest ws ce sl := by
  subst hq
  obtain ⟨p, l, e, s, m, args, below, meth, c, D, Q, A, ce0, sl0⟩ := E
  intro H locs ls hP hD hS hl
  exact lv_ldc C.1.1 C.1.2.1 C.1.2.2.2.1 (C.1.2.2.2.2 _ hc) hdg (k H locs ls hP hD hS hl)
theorem n_iload_n (q : Nat) (C : Cn E cI nL own cc) {z : Fin 4} {i j : Nat} {x : Int32} (hdg : decode cc pc = .ok (.iload_n z, 1)) (hi : (z : Nat) = i) (hj : lv[j]? = some (i, .int x)) (hq : pc + 1 = q)
    (k : Gn E R nL q lv (.int x :: rest) ws ce sl) : Gn E R nL pc lv rest ws ce sl := by
  subst hq
  obtain ⟨p, l, e, s, m, args, below, meth, c, D, Q, A, ce0, sl0⟩ := E
  intro H locs ls hP hD hS hl
  exact lv_iload_n C.1.1 C.1.2.1 hdg hi (lv_at hl j hj) (k H locs ls hP hD hS hl)
theorem n_iload (q : Nat) (C : Cn E cI nL own cc) {i j : Nat} {x : Int32} (hdg : decode cc pc = .ok (.iload i, 2)) (hj : lv[j]? = some (i, .int x)) (hq : pc + 2 = q)
    (k : Gn E R nL q lv (.int x :: rest) ws ce sl) : Gn E R nL pc lv rest ws ce sl := by
  subst hq
  obtain ⟨p, l, e, s, m, args, below, meth, c, D, Q, A, ce0, sl0⟩ := E
  intro H locs ls hP hD hS hl
  exact lv_iload C.1.1 C.1.2.1 hdg (lv_at hl j hj) (k H locs ls hP hD hS hl)
theorem n_aload_n (q : Nat) (C : Cn E cI nL own cc) {z : Fin 4} {i j : Nat} {x : Nat} (hdg : decode cc pc = .ok (.aload_n z, 1)) (hi : (z : Nat) = i) (hj : lv[j]? = some (i, .ref x)) (hq : pc + 1 = q)
    (k : Gn E R nL q lv (.ref x :: rest) ws ce sl) : Gn E R nL pc lv rest ws ce sl := by
  subst hq
  obtain ⟨p, l, e, s, m, args, below, meth, c, D, Q, A, ce0, sl0⟩ := E
  intro H locs ls hP hD hS hl
  exact lv_aload_n C.1.1 C.1.2.1 hdg hi (lv_at hl j hj) (k H locs ls hP hD hS hl)
theorem n_aload (q : Nat) (C : Cn E cI nL own cc) {i j : Nat} {x : Nat} (hdg : decode cc pc = .ok (.aload i, 2)) (hj : lv[j]? = some (i, .ref x)) (hq : pc + 2 = q)
    (k : Gn E R nL q lv (.ref x :: rest) ws ce sl) : Gn E R nL pc lv rest ws ce sl := by
  subst hq
  obtain ⟨p, l, e, s, m, args, below, meth, c, D, Q, A, ce0, sl0⟩ := E
  intro H locs ls hP hD hS hl
  exact lv_aload C.1.1 C.1.2.1 hdg (lv_at hl j hj) (k H locs ls hP hD hS hl)
theorem n_istore_n (q : Nat) (lv2 : List (Nat × Value)) (C : Cn E cI nL own cc) {z : Fin 4} {i : Nat} {x : Int32} (hdg : decode cc pc = .ok (.istore_n z, 1)) (hi : (z : Nat) = i) (hn : i < nL) (hl2 : (i, Value.int x) :: lv.filter (fun q => !(q.1 == i) && !(q.1 + 1 == i && q.2.category == 2)) = lv2) (hq : pc + 1 = q)
    (k : Gn E R nL q lv2 rest ws ce sl) : Gn E R nL pc lv (.int x :: rest) ws ce sl := by
  subst hq
  obtain ⟨p, l, e, s, m, args, below, meth, c, D, Q, A, ce0, sl0⟩ := E
  intro H locs ls hP hD hS hl
  exact lv_istore_n C.1.1 C.1.2.1 hdg hi hl hn hl2 (fun ls2 hl3 => k H locs ls2 hP hD hS hl3)
theorem n_isub (q : Nat) (C : Cn E cI nL own cc) {x y : Int32} (hdg : decode cc pc = .ok (.isub, 1)) (hq : pc + 1 = q)
    (k : Gn E R nL q lv (.int (x - y) :: rest) ws ce sl) : Gn E R nL pc lv (.int y :: .int x :: rest) ws ce sl := by
  subst hq
  obtain ⟨p, l, e, s, m, args, below, meth, c, D, Q, A, ce0, sl0⟩ := E
  intro H locs ls hP hD hS hl
  exact lv_isub C.1.1 C.1.2.1 hdg (k H locs ls hP hD hS hl)
theorem n_ishl (q : Nat) (C : Cn E cI nL own cc) {x y : Int32} (hdg : decode cc pc = .ok (.ishl, 1)) (hq : pc + 1 = q)
    (k : Gn E R nL q lv (.int (x <<< (y &&& 31)) :: rest) ws ce sl) : Gn E R nL pc lv (.int y :: .int x :: rest) ws ce sl := by
  subst hq
  obtain ⟨p, l, e, s, m, args, below, meth, c, D, Q, A, ce0, sl0⟩ := E
  intro H locs ls hP hD hS hl
  exact lv_ishl C.1.1 C.1.2.1 hdg (k H locs ls hP hD hS hl)
theorem n_dup (q : Nat) (C : Cn E cI nL own cc) {va : Value} (hdg : decode cc pc = .ok (.dup, 1)) (hva : va.category = 1) (hq : pc + 1 = q)
    (k : Gn E R nL q lv (va :: va :: rest) ws ce sl) : Gn E R nL pc lv (va :: rest) ws ce sl := by
  subst hq
  obtain ⟨p, l, e, s, m, args, below, meth, c, D, Q, A, ce0, sl0⟩ := E
  intro H locs ls hP hD hS hl
  exact lv_dup C.1.1 C.1.2.1 hdg hva (k H locs ls hP hD hS hl)
theorem n_goto (tgt : Nat) (C : Cn E cI nL own cc) {off : Int} (hdg : decode cc pc = .ok (.goto off, 3)) (ht : (pc : Int) + off = (tgt : Int)) (k : Gn E R nL tgt lv rest ws ce sl) : Gn E R nL pc lv rest ws ce sl := by
  obtain ⟨p, l, e, s, m, args, below, meth, c, D, Q, A, ce0, sl0⟩ := E
  intro H locs ls hP hD hS hl
  exact lv_goto C.1.1 C.1.2.1 hdg ht (k H locs ls hP hD hS hl)
theorem n_icmp_ge (tgt q : Nat) (C : Cn E cI nL own cc) {x y : Int32} {off : Int} (hdg : decode cc pc = .ok (.if_icmp .ge off, 3)) (ht : (pc : Int) + off = (tgt : Int)) (hq : pc + 3 = q)
    (kt : y ≤ x → Gn E R nL tgt lv rest ws ce sl) (kf : ¬ y ≤ x → Gn E R nL q lv rest ws ce sl) : Gn E R nL pc lv (.int y :: .int x :: rest) ws ce sl := by
  subst hq
  obtain ⟨p, l, e, s, m, args, below, meth, c, D, Q, A, ce0, sl0⟩ := E
  intro H locs ls hP hD hS hl
  exact lv_icmp_ge C.1.1 C.1.2.1 hdg ht (fun hc => kt hc H locs ls hP hD hS hl) (fun hc => kf hc H locs ls hP hD hS hl)
theorem n_icmp_le (tgt q : Nat) (C : Cn E cI nL own cc) {x y : Int32} {off : Int} (hdg : decode cc pc = .ok (.if_icmp .le off, 3)) (ht : (pc : Int) + off = (tgt : Int)) (hq : pc + 3 = q)
    (kt : x ≤ y → Gn E R nL tgt lv rest ws ce sl) (kf : ¬ x ≤ y → Gn E R nL q lv rest ws ce sl) : Gn E R nL pc lv (.int y :: .int x :: rest) ws ce sl := by
  subst hq
  obtain ⟨p, l, e, s, m, args, below, meth, c, D, Q, A, ce0, sl0⟩ := E
  intro H locs ls hP hD hS hl
  exact lv_icmp_le C.1.1 C.1.2.1 hdg ht (fun hc => kt hc H locs ls hP hD hS hl) (fun hc => kf hc H locs ls hP hD hS hl)
theorem n_obj (q : Nat) (C : Cn E cI nL own cc) {index : Nat} {a : Addr} (hlk : Cond.methodLink own index Lib.objectInit ∈ Wall) (hin : Cond.instanceMethod Lib.objectInit ∈ Wall) (hcd : Cond.code Lib.objectInit ⟨#[0xb1]⟩ 1 none ∈ Wall) (hfr : 1 ≤ R.frames) (hlo : (rest.map fun v => v.category).sum + 12 ≤ R.locals) (hdg : decode cc pc = .ok (.invokespecial index, 3)) (hq : pc + 3 = q)
    (k : Gn E R nL q lv rest ws ce sl) : Gn E R nL pc lv (.ref a :: rest) ws ce sl := by
  subst hq
  obtain ⟨p, l, e, s, m, args, below, meth, c, D, Q, A, ce0, sl0⟩ := E
  intro H locs ls hP hD hS hl
  exact W.objInit (g := F0 m pc ls (.ref a :: rest)) C.1.1 C.1.2.1 C.1.2.2.2.1 (C.1.2.2.2.2 _ hlk) (C.1.2.2.2.2 _ hin) (C.1.2.2.2.2 _ hcd) rfl (hl.1.trans C.1.2.2.1.symm) rfl hdg hfr (by show 2 * 0 + _ + 12 ≤ _; omega) (k H locs ls hP hD hS hl)
theorem n_mmax (q : Nat) (C : Cn E cI nL own cc) {index : Nat} (hlink : Cond.methodLink own index Lib.Math.max.name ∈ Wall) (hstat : Cond.static Lib.Math.max.name ∈ Wall) (hini : Cond.initialized "java/lang/Math" ∈ Wall) (hcode : Cond.code Lib.Math.max.name Lib.Math.max.code 2 (some .int) ∈ Wall) (hframes : 1 ≤ R.frames) (hlocals : (rest.map fun v => v.category).sum + 13 ≤ R.locals) (hce : ce ≤ R.cells) (hsl : sl ≤ R.slots) {x y : Int32} (hdg : decode cc pc = .ok (.invokestatic index, 3)) (hq : pc + 3 = q)
    (kk : Gn E R nL q lv (.int (if x < y then y else x) :: rest) ws ce sl) : Gn E R nL pc lv (.int y :: .int x :: rest) ws ce sl := by
  subst hq
  obtain ⟨p, l, e, s, m, args, below, meth, c, D, Q, A, ce0, sl0⟩ := E
  intro H locs ls hP hD hS hl
  exact va_mmax C.1.1 C.1.2.1 (C.1.2.2.1.trans hl.1.symm) C.1.2.2.2.1 (C.1.2.2.2.2 _ hlink) (C.1.2.2.2.2 _ hstat) (C.1.2.2.2.2 _ hini) (C.1.2.2.2.2 _ hcode) hframes hlocals hce hsl hdg (kk H locs ls hP hD hS hl)
theorem n_mmin (q : Nat) (C : Cn E cI nL own cc) {index : Nat} (hlink : Cond.methodLink own index Lib.Math.min.name ∈ Wall) (hstat : Cond.static Lib.Math.min.name ∈ Wall) (hini : Cond.initialized "java/lang/Math" ∈ Wall) (hcode : Cond.code Lib.Math.min.name Lib.Math.min.code 2 (some .int) ∈ Wall) (hframes : 1 ≤ R.frames) (hlocals : (rest.map fun v => v.category).sum + 13 ≤ R.locals) (hce : ce ≤ R.cells) (hsl : sl ≤ R.slots) {x y : Int32} (hdg : decode cc pc = .ok (.invokestatic index, 3)) (hq : pc + 3 = q)
    (kk : Gn E R nL q lv (.int (if y < x then y else x) :: rest) ws ce sl) : Gn E R nL pc lv (.int y :: .int x :: rest) ws ce sl := by
  subst hq
  obtain ⟨p, l, e, s, m, args, below, meth, c, D, Q, A, ce0, sl0⟩ := E
  intro H locs ls hP hD hS hl
  exact va_mmin C.1.1 C.1.2.1 (C.1.2.2.1.trans hl.1.symm) C.1.2.2.2.1 (C.1.2.2.2.2 _ hlink) (C.1.2.2.2.2 _ hstat) (C.1.2.2.2.2 _ hini) (C.1.2.2.2.2 _ hcode) hframes hlocals hce hsl hdg (kk H locs ls hP hD hS hl)
theorem n_newa (q : Nat) (C : Cn E cI nL own cc) (harr : Cond.arrayClass .int ∈ Wall) {n : Int32} {N : Nat} (hn : ¬ n < 0) (hN : n.toNatClampNeg = N) (hbytes : N * componentBytes .int ≤ 536870912) (hcells : ce + 1 ≤ R.cells) (hslots : sl + N ≤ R.slots) (hdg : decode cc pc = .ok (.newarray .int, 2)) (hq : pc + 2 = q)
    (kk : ∀ a : Nat, Gn E R nL q lv (.ref a :: rest) (ws ++ [(a, .inl (cI, N, .inl (fun _ => 0)))]) (ce + 1) (sl + N)) : Gn E R nL pc lv (.int n :: rest) ws ce sl := by
  subst hq
  obtain ⟨p, l, e, s, m, args, below, meth, c, D, Q, A, ce0, sl0⟩ := E
  intro H locs ls hP hD hS hl
  refine va_newa (atype := .int) (ty := .int) (a0 := (N, .inl (fun _ => 0))) C.1.1 C.1.2.1 (C.1.2.2.2.2 _ harr) rfl C.2.1 hP hD hS C.2.2.2.1 (fun cA => rfl) hn hN hbytes hcells hslots hdg (fun a cA H1 hK1 hP1 hD1 hS1 => ?_)
  have e1 := (hK1.2 1 (cA, .int) rfl).2
  have e2 := (C.2.1.2 0 (cI, .int) rfl).2
  have e : cA = cI := Option.some.inj (e1.symm.trans e2)
  subst e
  exact kk a H1 locs ls hP1 hD1 hS1 hl
theorem n_new (q : Nat) (C : Cn E cI nL own cc) {Cn1 : String} {T : u_T} {N ci index : Nat} (ty : Nat → FieldType) (hty : ∀ k, k < N → parseFieldDescriptor (T k).2.2.1 = some (ty k)) (hin : ∀ w ∈ u_ws Cn1 T N, w ∈ Wall) (hcl : Cond.classLink own index Cn1 ∈ Wall) (hinst : Cond.instantiable Cn1 N ∈ Wall) (hini : Cond.initialized Cn1 ∈ Wall) (hc : vwCl[ci]? = some (Cn1, T, N)) (fs : List Value) (hfs : ∀ j, j < N → defaultValue (ty j) = vp_V fs j) (hcells : ce + 1 ≤ R.cells) (hslots : sl + N ≤ R.slots) (hdg : decode cc pc = .ok (.new index, 3)) (hq : pc + 3 = q)
    (kk : ∀ a : Nat, Gn E R nL q lv (.ref a :: rest) (ws ++ [(a, .inr (ci, fs))]) (ce + 1) (sl + N)) : Gn E R nL pc lv rest ws ce sl := by
  subst hq
  obtain ⟨p, l, e, s, m, args, below, meth, c, D, Q, A, ce0, sl0⟩ := E
  intro H locs ls hP hD hS hl
  exact va_new C.1.1 C.1.2.1 C.1.2.2.2.2 hin ty hty C.1.2.2.2.1 (C.1.2.2.2.2 _ hcl) (C.1.2.2.2.2 _ hinst) (C.1.2.2.2.2 _ hini) C.2.1 hP hD hS C.2.2.2.1 hc hfs hcells hslots hdg (fun a H1 hP1 hD1 hS1 => kk a H1 locs ls hP1 hD1 hS1 hl)
theorem n_putF (q : Nat) (ws2 : va_W) (C : Cn E cI nL own cc) (q0 : Nat) {a : Nat} {Cn1 : String} {T : u_T} {N ci index : Nat} {fs : List Value} (he : ws[q0]? = some (a, .inr (ci, fs))) (hc : vwCl[ci]? = some (Cn1, T, N)) (hin : ∀ w ∈ u_ws Cn1 T N, w ∈ Wall) (k : Nat) (hk : k < N) (hlink : Cond.fieldLink own index (T k).1 (T k).2.1 (T k).2.2.1 ∈ Wall) (ty0 : Nat → FieldType) (hty : ∀ k, k < N → parseFieldDescriptor (T k).2.2.1 = some (ty0 k)) (hnm : ∀ a, a < N → ∀ b, b < N → a ≠ b → (T a).2.1 ≠ (T b).2.1) (hfin : (T k).2.2.2 = true) (hdecl : (T k).1 = own) {v : Value} (hn : narrow (ty0 k) v = v) (hfit : fits (ty0 k) v = true) (hl1 : k < fs.length) (hws : ws.set q0 (a, .inr (ci, fs.set k v)) = ws2) (hdg : decode cc pc = .ok (.putfield index, 3)) (hq : pc + 3 = q)
    (kk : Gn E R nL q lv rest ws2 ce sl) : Gn E R nL pc lv (v :: .ref a :: rest) ws ce sl := by
  subst hq
  subst hws
  obtain ⟨p, l, e, s, m, args, below, meth, c, D, Q, A, ce0, sl0⟩ := E
  intro H locs ls hP hD hS hl
  exact va_putF C.1.1 C.1.2.1 C.1.2.2.2.2 hin ty0 hty hnm C.1.2.2.2.1 C.2.1 hP hD hS q0 he hc k hk (C.1.2.2.2.2 _ hlink) (fun _ h9 => h9) hfin C.2.2.2.2 hdecl (hty k hk) hn hfit hl1 hdg (fun H1 locs1 hP1 hD1 hS1 => kk H1 locs1 ls hP1 hD1 hS1 hl)
theorem n_put (q : Nat) (ws2 : va_W) (C : Cn E cI nL own cc) (q0 : Nat) {a : Nat} {Cn1 : String} {T : u_T} {N ci index : Nat} {fs : List Value} (he : ws[q0]? = some (a, .inr (ci, fs))) (hc : vwCl[ci]? = some (Cn1, T, N)) (hin : ∀ w ∈ u_ws Cn1 T N, w ∈ Wall) (k : Nat) (hk : k < N) (hlink : Cond.fieldLink own index (T k).1 (T k).2.1 (T k).2.2.1 ∈ Wall) (ty0 : Nat → FieldType) (hty : ∀ k, k < N → parseFieldDescriptor (T k).2.2.1 = some (ty0 k)) (hnm : ∀ a, a < N → ∀ b, b < N → a ≠ b → (T a).2.1 ≠ (T b).2.1) (hfin : (T k).2.2.2 = false) {v : Value} (hn : narrow (ty0 k) v = v) (hfit : fits (ty0 k) v = true) (hl1 : k < fs.length) (hws : ws.set q0 (a, .inr (ci, fs.set k v)) = ws2) (hdg : decode cc pc = .ok (.putfield index, 3)) (hq : pc + 3 = q)
    (kk : Gn E R nL q lv rest ws2 ce sl) : Gn E R nL pc lv (v :: .ref a :: rest) ws ce sl := by
  subst hq
  subst hws
  obtain ⟨p, l, e, s, m, args, below, meth, c, D, Q, A, ce0, sl0⟩ := E
  intro H locs ls hP hD hS hl
  exact va_put C.1.1 C.1.2.1 C.1.2.2.2.2 hin ty0 hty hnm C.1.2.2.2.1 C.2.1 hP hD hS q0 he hc k hk (C.1.2.2.2.2 _ hlink) (fun _ h9 => h9) hfin (hty k hk) hn hfit hl1 hdg (fun H1 locs1 hP1 hD1 hS1 => kk H1 locs1 ls hP1 hD1 hS1 hl)
theorem n_get (q : Nat) (C : Cn E cI nL own cc) (q0 : Nat) {a : Nat} {Cn1 : String} {T : u_T} {N ci index : Nat} {fs : List Value} (he : ws[q0]? = some (a, .inr (ci, fs))) (hc : vwCl[ci]? = some (Cn1, T, N)) (hin : ∀ w ∈ u_ws Cn1 T N, w ∈ Wall) (k : Nat) (hk : k < N) (hlink : Cond.fieldLink own index (T k).1 (T k).2.1 (T k).2.2.1 ∈ Wall) {v : Value} (hv : fs[k]? = some v) (hdg : decode cc pc = .ok (.getfield index, 3)) (hq : pc + 3 = q)
    (kk : Gn E R nL q lv (v :: rest) ws ce sl) : Gn E R nL pc lv (.ref a :: rest) ws ce sl := by
  subst hq
  obtain ⟨p, l, e, s, m, args, below, meth, c, D, Q, A, ce0, sl0⟩ := E
  intro H locs ls hP hD hS hl
  exact va_get C.1.1 C.1.2.1 C.1.2.2.2.2 hin C.1.2.2.2.1 C.2.1 hP q0 he hc k hk (C.1.2.2.2.2 _ hlink) (fun _ h9 => h9) hv hdg (kk H locs ls hP hD hS hl)
theorem n_call (q : Nat) (C : Cn E cI nL own cc) {y : MethodName} {rm : Room} {bytes : ByteArray} {maxL index mc ms n : Nat} {host : String} {h0 ci : Nat} {fs0 As st : List Value} {S : Type} {B : S → va_W} {wr : va_W} (k : Nat) (others : List Nat) (hM : MN (lof E) (Dof E) cI y bytes maxL rm h0 ci fs0 As B mc ms) (hlk : (own, index, y, host) ∈ nsM) (hinst : Cond.instanceMethod y ∈ Wall) (hcode : Cond.code y bytes maxL none ∈ Wall) (hini : Cond.initialized y.cls ∈ Wall) (hyn : y.name = "<init>") (hd : y.cls ≠ "java/lang/invoke/MethodHandle" ∧ y.cls ≠ "java/lang/invoke/VarHandle" ∧ (parseMethodDescriptor y.desc).map (fun d => d.parameters.length) = some n) (hrc : rm.cells = mc) (hrs : rm.slots = ms) (hR : rm.frames + 1 ≤ R.frames ∧ 8 + (maxL + 11) + rm.locals ≤ R.locals) (hC : [k].map (fun i => ws[i]?) = [(h0, (.inr (ci, fs0) : va_E))].map some) (hO : others.map (fun i => ws[i]?) = wr.map some) (hnd : va_nd others = true) (hdis : ∀ i ∈ others, i ∉ [k]) (hst : st = As.reverse ++ .ref h0 :: rest) (hn : As.length = n) (hsum : (rest.map fun v => v.category).sum ≤ 8) (hcells : ce + mc ≤ R.cells) (hslots : sl + ms ≤ R.slots) (hdg : decode cc pc = .ok (.invokespecial index, 3)) (hq : pc + 3 = q)
    (kk : ∀ u : S, Gn E R nL q lv rest (wr ++ B u) (ce + mc) (sl + ms)) : Gn E R nL pc lv st ws ce sl := by
  subst hq
  subst hst
  obtain ⟨p, l, e, s, m, args, below, meth, c, D, Q, A, ce0, sl0⟩ := E
  intro H locs ls hP hD hS hl
  have hFc := va_free (wc := [(h0, .inr (ci, fs0))]) hD hS C.2.2.2.1 [k] hC
  have hk : ws[k]? = some (h0, .inr (ci, fs0)) := by simpa using hC
  refine va_callv (va_runIN (As := As) (rest := rest) C.1 (hM H.size) ⟨va_cnB n C.1.2.2.2.2 (good_call hcode) rfl hrc hrs (C.2.2.1.2 _ hlk) (C.1.2.2.2.2 _ hini) hd hR, hyn, C.1.2.2.2.2 _ hinst⟩ ⟨fun a U g mk z => ?_, fun U hU hW => ⟨rfl, by rw [hU], ?_, va_K.moved hW.alike C.2.1, C.2.2.1.warm hW⟩⟩ rfl hn hl.1 rfl (lv_room hsum) hdg ⟨hcells, hslots⟩) hS (fun q _ h => hFc q h) hFc (fun u t H1 locs1 ht hvm hw1 hB hz hk1 hS1 => ?_)
  · obtain ⟨z0, z1, zP, zK, zN⟩ := z
    exact ⟨z0, z1, zP, va_K.moved (u := U) (U := U.calling g mk a) (Vm.Alike.refl U.vm) zK, zN.same rfl⟩
  · rw [hU]
    intro j z hz
    have hj : j < 1 := (List.getElem?_eq_some_iff.mp hz).1
    rw [show j = 0 by omega] at hz
    cases hz
    exact hP k _ hk
  · obtain ⟨hP1, hD1⟩ := hB
    rw [ht] at hP1
    obtain ⟨hP2, hD2⟩ := va_join (wr := wr) (w1 := B u) hP hD [k] others hC hO hnd hdis hk1 hFc hP1 hD1
    exact kk u H1 locs1 ls hP2 hD2 hS1 hl
end GNR
theorem wcl_L_8 : Cond.classLink RL 8 RX7 ∈ Wall := wt1 (List.mem_of_getElem? (i := 17) rfl) rfl
theorem win_X7 : Cond.instantiable RX7 7 ∈ Wall := wt1 (List.mem_of_getElem? (i := 18) rfl) rfl
theorem wo_X7 : Cond.methodLink RX7 3 Lib.objectInit ∈ Wall := wt1 (List.mem_of_getElem? (i := 22) rfl) rfl
theorem wcl_X7_18 : Cond.classLink RX7 18 RX3 ∈ Wall := wt1 (List.mem_of_getElem? (i := 31) rfl) rfl
theorem win_X3 : Cond.instantiable RX3 13 ∈ Wall := wt1 (List.mem_of_getElem? (i := 32) rfl) rfl
theorem wo_X3 : Cond.methodLink RX3 3 Lib.objectInit ∈ Wall := wt1 (List.mem_of_getElem? (i := 36) rfl) rfl
theorem wcl_X7_27 : Cond.classLink RX7 27 RX2 ∈ Wall := wt1 (List.mem_of_getElem? (i := 110) rfl) rfl
theorem win_X2 : Cond.instantiable RX2 5 ∈ Wall := wt1 (List.mem_of_getElem? (i := 111) rfl) rfl
theorem wo_X2 : Cond.methodLink RX2 3 Lib.objectInit ∈ Wall := wt1 (List.mem_of_getElem? (i := 115) rfl) rfl
theorem wcl_X7_34 : Cond.classLink RX7 34 RX5 ∈ Wall := wt1 (List.mem_of_getElem? (i := 133) rfl) rfl
theorem win_X5 : Cond.instantiable RX5 4 ∈ Wall := wt1 (List.mem_of_getElem? (i := 134) rfl) rfl
theorem wo_X5 : Cond.methodLink RX5 3 Lib.objectInit ∈ Wall := wt1 (List.mem_of_getElem? (i := 138) rfl) rfl
theorem wcl_X7_43 : Cond.classLink RX7 43 RX1 ∈ Wall := wt1 (List.mem_of_getElem? (i := 153) rfl) rfl
theorem win_X1 : Cond.instantiable RX1 3 ∈ Wall := wt1 (List.mem_of_getElem? (i := 154) rfl) rfl
theorem wo_X1 : Cond.methodLink RX1 3 Lib.objectInit ∈ Wall := wt1 (List.mem_of_getElem? (i := 158) rfl) rfl
theorem wcl_X7_52 : Cond.classLink RX7 52 RX0 ∈ Wall := wt1 (List.mem_of_getElem? (i := 171) rfl) rfl
theorem win_X0 : Cond.instantiable RX0 7 ∈ Wall := wt1 (List.mem_of_getElem? (i := 172) rfl) rfl
theorem wo_X0 : Cond.methodLink RX0 3 Lib.objectInit ∈ Wall := wt1 (List.mem_of_getElem? (i := 176) rfl) rfl
theorem wcl_X7_61 : Cond.classLink RX7 61 RX4 ∈ Wall := wt1 (List.mem_of_getElem? (i := 203) rfl) rfl
theorem win_X4 : Cond.instantiable RX4 11 ∈ Wall := wt1 (List.mem_of_getElem? (i := 204) rfl) rfl
theorem wo_X4 : Cond.methodLink RX4 3 Lib.objectInit ∈ Wall := wt1 (List.mem_of_getElem? (i := 208) rfl) rfl
theorem wcl_X7_70 : Cond.classLink RX7 70 RX6 ∈ Wall := wt2 (List.mem_of_getElem? (i := 13) rfl) rfl
theorem win_X6 : Cond.instantiable RX6 11 ∈ Wall := wt2 (List.mem_of_getElem? (i := 14) rfl) rfl
theorem wo_X6 : Cond.methodLink RX6 3 Lib.objectInit ∈ Wall := wt2 (List.mem_of_getElem? (i := 18) rfl) rfl
theorem wcl_L_24 : Cond.classLink RL 24 RX8 ∈ Wall := wt4 (List.mem_of_getElem? (i := 138) rfl) rfl
theorem win_X8 : Cond.instantiable RX8 26 ∈ Wall := wt4 (List.mem_of_getElem? (i := 139) rfl) rfl
theorem wo_X8 : Cond.methodLink RX8 1 Lib.objectInit ∈ Wall := wt4 (List.mem_of_getElem? (i := 143) rfl) rfl
theorem wo_i : Cond.instanceMethod Lib.objectInit ∈ Wall := wt1 (List.mem_of_getElem? (i := 23) rfl) rfl
theorem wo_c : Cond.code Lib.objectInit ⟨#[0xb1]⟩ 1 none ∈ Wall := wt1 (List.mem_of_getElem? (i := 24) (by decide +kernel)) rfl
theorem wa_I : Cond.arrayClass .int ∈ Wall := wt1 (List.mem_of_getElem? (i := 109) rfl) rfl
theorem qX3_init : yX3_init.cls ≠ "java/lang/invoke/MethodHandle" ∧ yX3_init.cls ≠ "java/lang/invoke/VarHandle" ∧ (parseMethodDescriptor yX3_init.desc).map (fun d => d.parameters.length) = some 1 := by decide +kernel
theorem DX3_init : ∀ q ∈ ([(0, .aload_n 0, 1), (1, .invokespecial 3, 3), (4, .aload_n 0, 1), (5, .bipush 30, 2), (7, .newarray .int, 2), (9, .putfield 9, 3), (12, .aload_n 0, 1), (13, .bipush 30, 2), (15, .newarray .int, 2), (17, .putfield 15, 3), (20, .aload_n 0, 1), (21, .bipush 30, 2), (23, .newarray .int, 2), (25, .putfield 18, 3), (28, .aload_n 0, 1), (29, .iconst (-1), 1), (30, .putfield 21, 3), (33, .aload_n 0, 1), (34, .iconst (-1), 1), (35, .putfield 25, 3), (38, .aload_n 0, 1), (39, .iconst (-1), 1), (40, .putfield 28, 3), (43, .aload_n 0, 1), (44, .iconst 1, 1), (45, .putfield 31, 3), (48, .aload_n 0, 1), (49, .iconst 1, 1), (50, .putfield 34, 3), (53, .aload_n 0, 1), (54, .iload_n 1, 1), (55, .putfield 37, 3), (58, .return_, 1)] : List (Nat × Instr × Nat)), decode cX3_init q.1 = .ok q.2 := by decide +kernel
theorem dX3_init_0 : decode cX3_init 0 = .ok (.aload_n 0, 1) := DX3_init (0, .aload_n 0, 1) (List.mem_of_getElem? (i := 0) rfl)
theorem dX3_init_1 : decode cX3_init 1 = .ok (.invokespecial 3, 3) := DX3_init (1, .invokespecial 3, 3) (List.mem_of_getElem? (i := 1) rfl)
theorem dX3_init_4 : decode cX3_init 4 = .ok (.aload_n 0, 1) := DX3_init (4, .aload_n 0, 1) (List.mem_of_getElem? (i := 2) rfl)
theorem dX3_init_5 : decode cX3_init 5 = .ok (.bipush 30, 2) := DX3_init (5, .bipush 30, 2) (List.mem_of_getElem? (i := 3) rfl)
theorem dX3_init_7 : decode cX3_init 7 = .ok (.newarray .int, 2) := DX3_init (7, .newarray .int, 2) (List.mem_of_getElem? (i := 4) rfl)
theorem dX3_init_9 : decode cX3_init 9 = .ok (.putfield 9, 3) := DX3_init (9, .putfield 9, 3) (List.mem_of_getElem? (i := 5) rfl)
theorem dX3_init_12 : decode cX3_init 12 = .ok (.aload_n 0, 1) := DX3_init (12, .aload_n 0, 1) (List.mem_of_getElem? (i := 6) rfl)
theorem dX3_init_13 : decode cX3_init 13 = .ok (.bipush 30, 2) := DX3_init (13, .bipush 30, 2) (List.mem_of_getElem? (i := 7) rfl)
theorem dX3_init_15 : decode cX3_init 15 = .ok (.newarray .int, 2) := DX3_init (15, .newarray .int, 2) (List.mem_of_getElem? (i := 8) rfl)
theorem dX3_init_17 : decode cX3_init 17 = .ok (.putfield 15, 3) := DX3_init (17, .putfield 15, 3) (List.mem_of_getElem? (i := 9) rfl)
theorem dX3_init_20 : decode cX3_init 20 = .ok (.aload_n 0, 1) := DX3_init (20, .aload_n 0, 1) (List.mem_of_getElem? (i := 10) rfl)
theorem dX3_init_21 : decode cX3_init 21 = .ok (.bipush 30, 2) := DX3_init (21, .bipush 30, 2) (List.mem_of_getElem? (i := 11) rfl)
theorem dX3_init_23 : decode cX3_init 23 = .ok (.newarray .int, 2) := DX3_init (23, .newarray .int, 2) (List.mem_of_getElem? (i := 12) rfl)
theorem dX3_init_25 : decode cX3_init 25 = .ok (.putfield 18, 3) := DX3_init (25, .putfield 18, 3) (List.mem_of_getElem? (i := 13) rfl)
theorem dX3_init_28 : decode cX3_init 28 = .ok (.aload_n 0, 1) := DX3_init (28, .aload_n 0, 1) (List.mem_of_getElem? (i := 14) rfl)
theorem dX3_init_29 : decode cX3_init 29 = .ok (.iconst (-1), 1) := DX3_init (29, .iconst (-1), 1) (List.mem_of_getElem? (i := 15) rfl)
theorem dX3_init_30 : decode cX3_init 30 = .ok (.putfield 21, 3) := DX3_init (30, .putfield 21, 3) (List.mem_of_getElem? (i := 16) rfl)
theorem dX3_init_33 : decode cX3_init 33 = .ok (.aload_n 0, 1) := DX3_init (33, .aload_n 0, 1) (List.mem_of_getElem? (i := 17) rfl)
theorem dX3_init_34 : decode cX3_init 34 = .ok (.iconst (-1), 1) := DX3_init (34, .iconst (-1), 1) (List.mem_of_getElem? (i := 18) rfl)
theorem dX3_init_35 : decode cX3_init 35 = .ok (.putfield 25, 3) := DX3_init (35, .putfield 25, 3) (List.mem_of_getElem? (i := 19) rfl)
theorem dX3_init_38 : decode cX3_init 38 = .ok (.aload_n 0, 1) := DX3_init (38, .aload_n 0, 1) (List.mem_of_getElem? (i := 20) rfl)
theorem dX3_init_39 : decode cX3_init 39 = .ok (.iconst (-1), 1) := DX3_init (39, .iconst (-1), 1) (List.mem_of_getElem? (i := 21) rfl)
theorem dX3_init_40 : decode cX3_init 40 = .ok (.putfield 28, 3) := DX3_init (40, .putfield 28, 3) (List.mem_of_getElem? (i := 22) rfl)
theorem dX3_init_43 : decode cX3_init 43 = .ok (.aload_n 0, 1) := DX3_init (43, .aload_n 0, 1) (List.mem_of_getElem? (i := 23) rfl)
theorem dX3_init_44 : decode cX3_init 44 = .ok (.iconst 1, 1) := DX3_init (44, .iconst 1, 1) (List.mem_of_getElem? (i := 24) rfl)
theorem dX3_init_45 : decode cX3_init 45 = .ok (.putfield 31, 3) := DX3_init (45, .putfield 31, 3) (List.mem_of_getElem? (i := 25) rfl)
theorem dX3_init_48 : decode cX3_init 48 = .ok (.aload_n 0, 1) := DX3_init (48, .aload_n 0, 1) (List.mem_of_getElem? (i := 26) rfl)
theorem dX3_init_49 : decode cX3_init 49 = .ok (.iconst 1, 1) := DX3_init (49, .iconst 1, 1) (List.mem_of_getElem? (i := 27) rfl)
theorem dX3_init_50 : decode cX3_init 50 = .ok (.putfield 34, 3) := DX3_init (50, .putfield 34, 3) (List.mem_of_getElem? (i := 28) rfl)
theorem dX3_init_53 : decode cX3_init 53 = .ok (.aload_n 0, 1) := DX3_init (53, .aload_n 0, 1) (List.mem_of_getElem? (i := 29) rfl)
theorem dX3_init_54 : decode cX3_init 54 = .ok (.iload_n 1, 1) := DX3_init (54, .iload_n 1, 1) (List.mem_of_getElem? (i := 30) rfl)
theorem dX3_init_55 : decode cX3_init 55 = .ok (.putfield 37, 3) := DX3_init (55, .putfield 37, 3) (List.mem_of_getElem? (i := 31) rfl)
theorem dX3_init_58 : decode cX3_init 58 = .ok (.return_, 1) := DX3_init (58, .return_, 1) (List.mem_of_getElem? (i := 32) rfl)
abbrev rmX3_init : Room := { frames := 1, cells := 3, slots := 90, locals := 12 }
set_option maxHeartbeats 4000000 in
set_option maxRecDepth 100000 in
theorem mX3_init {l : Launch} {D : va_G} {cI : ClassId} {h0 : Nat} {p1 : Int32} : MN l D cI yX3_init cX3_init 2 rmX3_init h0 3 [.int 0, .null, .null, .null, .int 0, .int 0, .int 0, .int 0, .int 0, .int 0, .int 0, .int 0, .int 0] [.int p1] (fun u : Nat × Nat × Nat => [(h0, .inr (3, [.int p1, .ref u.1, .ref u.2.1, .ref u.2.2, .int 0, .int 0, .int 0, .int 0, .int (-1), .int (-1), .int (-1), .int 1, .int 1])), (u.1, .inl (cI, 30, .inl (fun _ => 0))), (u.2.1, .inl (cI, 30, .inl (fun _ => 0))), (u.2.2, .inl (cI, 30, .inl (fun _ => 0)))]) 3 90 := by
  refine met_n (by decide) rfl (Nat.le_of_ble_eq_true rfl) (fun E C K0 hce hsl => ?_)
  show Gn E rmX3_init 2 0 [(0, .ref h0), (1, .int p1)] [] [(h0, .inr (3, [.int 0, .null, .null, .null, .int 0, .int 0, .int 0, .int 0, .int 0, .int 0, .int 0, .int 0, .int 0]))] 0 0
  refine n_aload_n 1 C dX3_init_0 rfl (j := 0) rfl rfl ?_
  refine n_obj 4 C wo_X3 wo_i wo_c (by decide) (Nat.le_of_ble_eq_true rfl) dX3_init_1 rfl ?_
  refine n_aload_n 5 C dX3_init_4 rfl (j := 0) rfl rfl ?_
  refine n_bipush 7 (v := 30) C dX3_init_5 (by decide) rfl ?_
  refine n_newa 9 C wa_I (N := 30) (by decide) (by decide) (Nat.le_of_ble_eq_true rfl) (Nat.le_of_ble_eq_true rfl) (Nat.le_of_ble_eq_true rfl) dX3_init_7 rfl (fun r1 => ?_)
  show Gn E rmX3_init 2 9 [(0, .ref h0), (1, .int p1)] [.ref r1, .ref h0] [(h0, .inr (3, [.int 0, .null, .null, .null, .int 0, .int 0, .int 0, .int 0, .int 0, .int 0, .int 0, .int 0, .int 0])), (r1, .inl (cI, 30, .inl (fun _ => 0)))] 1 30
  refine n_putF 12 [(h0, .inr (3, [.int 0, .ref r1, .null, .null, .int 0, .int 0, .int 0, .int 0, .int 0, .int 0, .int 0, .int 0, .int 0])), (r1, .inl (cI, 30, .inl (fun _ => 0)))] C 0 rfl rfl wu_X3 1 (by decide) wf_X3_9 tyX3 tyX3_ok nmX3 rfl rfl rfl rfl (Nat.le_of_ble_eq_true rfl) rfl dX3_init_9 rfl ?_
  refine n_aload_n 13 C dX3_init_12 rfl (j := 0) rfl rfl ?_
  refine n_bipush 15 (v := 30) C dX3_init_13 (by decide) rfl ?_
  refine n_newa 17 C wa_I (N := 30) (by decide) (by decide) (Nat.le_of_ble_eq_true rfl) (Nat.le_of_ble_eq_true rfl) (Nat.le_of_ble_eq_true rfl) dX3_init_15 rfl (fun r2 => ?_)
  show Gn E rmX3_init 2 17 [(0, .ref h0), (1, .int p1)] [.ref r2, .ref h0] [(h0, .inr (3, [.int 0, .ref r1, .null, .null, .int 0, .int 0, .int 0, .int 0, .int 0, .int 0, .int 0, .int 0, .int 0])), (r1, .inl (cI, 30, .inl (fun _ => 0))), (r2, .inl (cI, 30, .inl (fun _ => 0)))] 2 60
  refine n_putF 20 [(h0, .inr (3, [.int 0, .ref r1, .ref r2, .null, .int 0, .int 0, .int 0, .int 0, .int 0, .int 0, .int 0, .int 0, .int 0])), (r1, .inl (cI, 30, .inl (fun _ => 0))), (r2, .inl (cI, 30, .inl (fun _ => 0)))] C 0 rfl rfl wu_X3 2 (by decide) wf_X3_15 tyX3 tyX3_ok nmX3 rfl rfl rfl rfl (Nat.le_of_ble_eq_true rfl) rfl dX3_init_17 rfl ?_
  refine n_aload_n 21 C dX3_init_20 rfl (j := 0) rfl rfl ?_
  refine n_bipush 23 (v := 30) C dX3_init_21 (by decide) rfl ?_
  refine n_newa 25 C wa_I (N := 30) (by decide) (by decide) (Nat.le_of_ble_eq_true rfl) (Nat.le_of_ble_eq_true rfl) (Nat.le_of_ble_eq_true rfl) dX3_init_23 rfl (fun r3 => ?_)
  show Gn E rmX3_init 2 25 [(0, .ref h0), (1, .int p1)] [.ref r3, .ref h0] [(h0, .inr (3, [.int 0, .ref r1, .ref r2, .null, .int 0, .int 0, .int 0, .int 0, .int 0, .int 0, .int 0, .int 0, .int 0])), (r1, .inl (cI, 30, .inl (fun _ => 0))), (r2, .inl (cI, 30, .inl (fun _ => 0))), (r3, .inl (cI, 30, .inl (fun _ => 0)))] 3 90
  refine n_putF 28 [(h0, .inr (3, [.int 0, .ref r1, .ref r2, .ref r3, .int 0, .int 0, .int 0, .int 0, .int 0, .int 0, .int 0, .int 0, .int 0])), (r1, .inl (cI, 30, .inl (fun _ => 0))), (r2, .inl (cI, 30, .inl (fun _ => 0))), (r3, .inl (cI, 30, .inl (fun _ => 0)))] C 0 rfl rfl wu_X3 3 (by decide) wf_X3_18 tyX3 tyX3_ok nmX3 rfl rfl rfl rfl (Nat.le_of_ble_eq_true rfl) rfl dX3_init_25 rfl ?_
  refine n_aload_n 29 C dX3_init_28 rfl (j := 0) rfl rfl ?_
  refine n_iconst 30 (v := (-1)) C dX3_init_29 (by decide) rfl ?_
  refine n_put 33 [(h0, .inr (3, [.int 0, .ref r1, .ref r2, .ref r3, .int 0, .int 0, .int 0, .int 0, .int (-1), .int 0, .int 0, .int 0, .int 0])), (r1, .inl (cI, 30, .inl (fun _ => 0))), (r2, .inl (cI, 30, .inl (fun _ => 0))), (r3, .inl (cI, 30, .inl (fun _ => 0)))] C 0 rfl rfl wu_X3 8 (by decide) wf_X3_21 tyX3 tyX3_ok nmX3 rfl rfl rfl (Nat.le_of_ble_eq_true rfl) rfl dX3_init_30 rfl ?_
  refine n_aload_n 34 C dX3_init_33 rfl (j := 0) rfl rfl ?_
  refine n_iconst 35 (v := (-1)) C dX3_init_34 (by decide) rfl ?_
  refine n_put 38 [(h0, .inr (3, [.int 0, .ref r1, .ref r2, .ref r3, .int 0, .int 0, .int 0, .int 0, .int (-1), .int (-1), .int 0, .int 0, .int 0])), (r1, .inl (cI, 30, .inl (fun _ => 0))), (r2, .inl (cI, 30, .inl (fun _ => 0))), (r3, .inl (cI, 30, .inl (fun _ => 0)))] C 0 rfl rfl wu_X3 9 (by decide) wf_X3_25 tyX3 tyX3_ok nmX3 rfl rfl rfl (Nat.le_of_ble_eq_true rfl) rfl dX3_init_35 rfl ?_
  refine n_aload_n 39 C dX3_init_38 rfl (j := 0) rfl rfl ?_
  refine n_iconst 40 (v := (-1)) C dX3_init_39 (by decide) rfl ?_
  refine n_put 43 [(h0, .inr (3, [.int 0, .ref r1, .ref r2, .ref r3, .int 0, .int 0, .int 0, .int 0, .int (-1), .int (-1), .int (-1), .int 0, .int 0])), (r1, .inl (cI, 30, .inl (fun _ => 0))), (r2, .inl (cI, 30, .inl (fun _ => 0))), (r3, .inl (cI, 30, .inl (fun _ => 0)))] C 0 rfl rfl wu_X3 10 (by decide) wf_X3_28 tyX3 tyX3_ok nmX3 rfl rfl rfl (Nat.le_of_ble_eq_true rfl) rfl dX3_init_40 rfl ?_
  refine n_aload_n 44 C dX3_init_43 rfl (j := 0) rfl rfl ?_
  refine n_iconst 45 (v := 1) C dX3_init_44 (by decide) rfl ?_
  refine n_put 48 [(h0, .inr (3, [.int 0, .ref r1, .ref r2, .ref r3, .int 0, .int 0, .int 0, .int 0, .int (-1), .int (-1), .int (-1), .int 1, .int 0])), (r1, .inl (cI, 30, .inl (fun _ => 0))), (r2, .inl (cI, 30, .inl (fun _ => 0))), (r3, .inl (cI, 30, .inl (fun _ => 0)))] C 0 rfl rfl wu_X3 11 (by decide) wf_X3_31 tyX3 tyX3_ok nmX3 rfl rfl rfl (Nat.le_of_ble_eq_true rfl) rfl dX3_init_45 rfl ?_
  refine n_aload_n 49 C dX3_init_48 rfl (j := 0) rfl rfl ?_
  refine n_iconst 50 (v := 1) C dX3_init_49 (by decide) rfl ?_
  refine n_put 53 [(h0, .inr (3, [.int 0, .ref r1, .ref r2, .ref r3, .int 0, .int 0, .int 0, .int 0, .int (-1), .int (-1), .int (-1), .int 1, .int 1])), (r1, .inl (cI, 30, .inl (fun _ => 0))), (r2, .inl (cI, 30, .inl (fun _ => 0))), (r3, .inl (cI, 30, .inl (fun _ => 0)))] C 0 rfl rfl wu_X3 12 (by decide) wf_X3_34 tyX3 tyX3_ok nmX3 rfl rfl rfl (Nat.le_of_ble_eq_true rfl) rfl dX3_init_50 rfl ?_
  refine n_aload_n 54 C dX3_init_53 rfl (j := 0) rfl rfl ?_
  refine n_iload_n 55 C dX3_init_54 rfl (j := 1) rfl rfl ?_
  refine n_putF 58 [(h0, .inr (3, [.int p1, .ref r1, .ref r2, .ref r3, .int 0, .int 0, .int 0, .int 0, .int (-1), .int (-1), .int (-1), .int 1, .int 1])), (r1, .inl (cI, 30, .inl (fun _ => 0))), (r2, .inl (cI, 30, .inl (fun _ => 0))), (r3, .inl (cI, 30, .inl (fun _ => 0)))] C 0 rfl rfl wu_X3 0 (by decide) wf_X3_37 tyX3 tyX3_ok nmX3 rfl rfl rfl rfl (Nat.le_of_ble_eq_true rfl) rfl dX3_init_55 rfl ?_
  exact K0 _ _ (r1, r2, r3) dX3_init_58
theorem qX5_init : yX5_init.cls ≠ "java/lang/invoke/MethodHandle" ∧ yX5_init.cls ≠ "java/lang/invoke/VarHandle" ∧ (parseMethodDescriptor yX5_init.desc).map (fun d => d.parameters.length) = some 2 := by decide +kernel
theorem DX5_init : ∀ q ∈ ([(0, .aload_n 0, 1), (1, .invokespecial 3, 3), (4, .aload_n 0, 1), (5, .sipush 10500, 3), (8, .newarray .int, 2), (10, .putfield 9, 3), (13, .aload_n 0, 1), (14, .bipush 125, 2), (16, .newarray .int, 2), (18, .putfield 15, 3), (21, .aload_n 0, 1), (22, .aload_n 1, 1), (23, .putfield 18, 3), (26, .aload_n 0, 1), (27, .iload_n 2, 1), (28, .putfield 22, 3), (31, .return_, 1)] : List (Nat × Instr × Nat)), decode cX5_init q.1 = .ok q.2 := by decide +kernel
theorem dX5_init_0 : decode cX5_init 0 = .ok (.aload_n 0, 1) := DX5_init (0, .aload_n 0, 1) (List.mem_of_getElem? (i := 0) rfl)
theorem dX5_init_1 : decode cX5_init 1 = .ok (.invokespecial 3, 3) := DX5_init (1, .invokespecial 3, 3) (List.mem_of_getElem? (i := 1) rfl)
theorem dX5_init_4 : decode cX5_init 4 = .ok (.aload_n 0, 1) := DX5_init (4, .aload_n 0, 1) (List.mem_of_getElem? (i := 2) rfl)
theorem dX5_init_5 : decode cX5_init 5 = .ok (.sipush 10500, 3) := DX5_init (5, .sipush 10500, 3) (List.mem_of_getElem? (i := 3) rfl)
theorem dX5_init_8 : decode cX5_init 8 = .ok (.newarray .int, 2) := DX5_init (8, .newarray .int, 2) (List.mem_of_getElem? (i := 4) rfl)
theorem dX5_init_10 : decode cX5_init 10 = .ok (.putfield 9, 3) := DX5_init (10, .putfield 9, 3) (List.mem_of_getElem? (i := 5) rfl)
theorem dX5_init_13 : decode cX5_init 13 = .ok (.aload_n 0, 1) := DX5_init (13, .aload_n 0, 1) (List.mem_of_getElem? (i := 6) rfl)
theorem dX5_init_14 : decode cX5_init 14 = .ok (.bipush 125, 2) := DX5_init (14, .bipush 125, 2) (List.mem_of_getElem? (i := 7) rfl)
theorem dX5_init_16 : decode cX5_init 16 = .ok (.newarray .int, 2) := DX5_init (16, .newarray .int, 2) (List.mem_of_getElem? (i := 8) rfl)
theorem dX5_init_18 : decode cX5_init 18 = .ok (.putfield 15, 3) := DX5_init (18, .putfield 15, 3) (List.mem_of_getElem? (i := 9) rfl)
theorem dX5_init_21 : decode cX5_init 21 = .ok (.aload_n 0, 1) := DX5_init (21, .aload_n 0, 1) (List.mem_of_getElem? (i := 10) rfl)
theorem dX5_init_22 : decode cX5_init 22 = .ok (.aload_n 1, 1) := DX5_init (22, .aload_n 1, 1) (List.mem_of_getElem? (i := 11) rfl)
theorem dX5_init_23 : decode cX5_init 23 = .ok (.putfield 18, 3) := DX5_init (23, .putfield 18, 3) (List.mem_of_getElem? (i := 12) rfl)
theorem dX5_init_26 : decode cX5_init 26 = .ok (.aload_n 0, 1) := DX5_init (26, .aload_n 0, 1) (List.mem_of_getElem? (i := 13) rfl)
theorem dX5_init_27 : decode cX5_init 27 = .ok (.iload_n 2, 1) := DX5_init (27, .iload_n 2, 1) (List.mem_of_getElem? (i := 14) rfl)
theorem dX5_init_28 : decode cX5_init 28 = .ok (.putfield 22, 3) := DX5_init (28, .putfield 22, 3) (List.mem_of_getElem? (i := 15) rfl)
theorem dX5_init_31 : decode cX5_init 31 = .ok (.return_, 1) := DX5_init (31, .return_, 1) (List.mem_of_getElem? (i := 16) rfl)
abbrev rmX5_init : Room := { frames := 1, cells := 2, slots := 10625, locals := 12 }
set_option maxHeartbeats 4000000 in
set_option maxRecDepth 100000 in
theorem mX5_init {l : Launch} {D : va_G} {cI : ClassId} {h0 : Nat} {p1 : Nat} {p2 : Int32} : MN l D cI yX5_init cX5_init 3 rmX5_init h0 5 [.null, .int 0, .null, .null] [.ref p1, .int p2] (fun u : Nat × Nat => [(h0, .inr (5, [.ref p1, .int p2, .ref u.1, .ref u.2])), (u.1, .inl (cI, 10500, .inl (fun _ => 0))), (u.2, .inl (cI, 125, .inl (fun _ => 0)))]) 2 10625 := by
  refine met_n (by decide) rfl (Nat.le_of_ble_eq_true rfl) (fun E C K0 hce hsl => ?_)
  show Gn E rmX5_init 3 0 [(0, .ref h0), (1, .ref p1), (2, .int p2)] [] [(h0, .inr (5, [.null, .int 0, .null, .null]))] 0 0
  refine n_aload_n 1 C dX5_init_0 rfl (j := 0) rfl rfl ?_
  refine n_obj 4 C wo_X5 wo_i wo_c (by decide) (Nat.le_of_ble_eq_true rfl) dX5_init_1 rfl ?_
  refine n_aload_n 5 C dX5_init_4 rfl (j := 0) rfl rfl ?_
  refine n_sipush 8 (v := 10500) C dX5_init_5 (by decide) rfl ?_
  refine n_newa 10 C wa_I (N := 10500) (by decide) (by decide) (Nat.le_of_ble_eq_true rfl) (Nat.le_of_ble_eq_true rfl) (Nat.le_of_ble_eq_true rfl) dX5_init_8 rfl (fun r1 => ?_)
  show Gn E rmX5_init 3 10 [(0, .ref h0), (1, .ref p1), (2, .int p2)] [.ref r1, .ref h0] [(h0, .inr (5, [.null, .int 0, .null, .null])), (r1, .inl (cI, 10500, .inl (fun _ => 0)))] 1 10500
  refine n_putF 13 [(h0, .inr (5, [.null, .int 0, .ref r1, .null])), (r1, .inl (cI, 10500, .inl (fun _ => 0)))] C 0 rfl rfl wu_X5 2 (by decide) wf_X5_9 tyX5 tyX5_ok nmX5 rfl rfl rfl rfl (Nat.le_of_ble_eq_true rfl) rfl dX5_init_10 rfl ?_
  refine n_aload_n 14 C dX5_init_13 rfl (j := 0) rfl rfl ?_
  refine n_bipush 16 (v := 125) C dX5_init_14 (by decide) rfl ?_
  refine n_newa 18 C wa_I (N := 125) (by decide) (by decide) (Nat.le_of_ble_eq_true rfl) (Nat.le_of_ble_eq_true rfl) (Nat.le_of_ble_eq_true rfl) dX5_init_16 rfl (fun r2 => ?_)
  show Gn E rmX5_init 3 18 [(0, .ref h0), (1, .ref p1), (2, .int p2)] [.ref r2, .ref h0] [(h0, .inr (5, [.null, .int 0, .ref r1, .null])), (r1, .inl (cI, 10500, .inl (fun _ => 0))), (r2, .inl (cI, 125, .inl (fun _ => 0)))] 2 10625
  refine n_putF 21 [(h0, .inr (5, [.null, .int 0, .ref r1, .ref r2])), (r1, .inl (cI, 10500, .inl (fun _ => 0))), (r2, .inl (cI, 125, .inl (fun _ => 0)))] C 0 rfl rfl wu_X5 3 (by decide) wf_X5_15 tyX5 tyX5_ok nmX5 rfl rfl rfl rfl (Nat.le_of_ble_eq_true rfl) rfl dX5_init_18 rfl ?_
  refine n_aload_n 22 C dX5_init_21 rfl (j := 0) rfl rfl ?_
  refine n_aload_n 23 C dX5_init_22 rfl (j := 1) rfl rfl ?_
  refine n_putF 26 [(h0, .inr (5, [.ref p1, .int 0, .ref r1, .ref r2])), (r1, .inl (cI, 10500, .inl (fun _ => 0))), (r2, .inl (cI, 125, .inl (fun _ => 0)))] C 0 rfl rfl wu_X5 0 (by decide) wf_X5_18 tyX5 tyX5_ok nmX5 rfl rfl rfl rfl (Nat.le_of_ble_eq_true rfl) rfl dX5_init_23 rfl ?_
  refine n_aload_n 27 C dX5_init_26 rfl (j := 0) rfl rfl ?_
  refine n_iload_n 28 C dX5_init_27 rfl (j := 2) rfl rfl ?_
  refine n_putF 31 [(h0, .inr (5, [.ref p1, .int p2, .ref r1, .ref r2])), (r1, .inl (cI, 10500, .inl (fun _ => 0))), (r2, .inl (cI, 125, .inl (fun _ => 0)))] C 0 rfl rfl wu_X5 1 (by decide) wf_X5_22 tyX5 tyX5_ok nmX5 rfl rfl rfl rfl (Nat.le_of_ble_eq_true rfl) rfl dX5_init_28 rfl ?_
  exact K0 _ _ (r1, r2) dX5_init_31
theorem qX1_init : yX1_init.cls ≠ "java/lang/invoke/MethodHandle" ∧ yX1_init.cls ≠ "java/lang/invoke/VarHandle" ∧ (parseMethodDescriptor yX1_init.desc).map (fun d => d.parameters.length) = some 2 := by decide +kernel
theorem DX1_init : ∀ q ∈ ([(0, .aload_n 0, 1), (1, .invokespecial 3, 3), (4, .aload_n 0, 1), (5, .bipush 31, 2), (7, .newarray .int, 2), (9, .putfield 9, 3), (12, .aload_n 0, 1), (13, .aload_n 1, 1), (14, .putfield 15, 3), (17, .aload_n 0, 1), (18, .iload_n 2, 1), (19, .putfield 19, 3), (22, .return_, 1)] : List (Nat × Instr × Nat)), decode cX1_init q.1 = .ok q.2 := by decide +kernel
theorem dX1_init_0 : decode cX1_init 0 = .ok (.aload_n 0, 1) := DX1_init (0, .aload_n 0, 1) (List.mem_of_getElem? (i := 0) rfl)
theorem dX1_init_1 : decode cX1_init 1 = .ok (.invokespecial 3, 3) := DX1_init (1, .invokespecial 3, 3) (List.mem_of_getElem? (i := 1) rfl)
theorem dX1_init_4 : decode cX1_init 4 = .ok (.aload_n 0, 1) := DX1_init (4, .aload_n 0, 1) (List.mem_of_getElem? (i := 2) rfl)
theorem dX1_init_5 : decode cX1_init 5 = .ok (.bipush 31, 2) := DX1_init (5, .bipush 31, 2) (List.mem_of_getElem? (i := 3) rfl)
theorem dX1_init_7 : decode cX1_init 7 = .ok (.newarray .int, 2) := DX1_init (7, .newarray .int, 2) (List.mem_of_getElem? (i := 4) rfl)
theorem dX1_init_9 : decode cX1_init 9 = .ok (.putfield 9, 3) := DX1_init (9, .putfield 9, 3) (List.mem_of_getElem? (i := 5) rfl)
theorem dX1_init_12 : decode cX1_init 12 = .ok (.aload_n 0, 1) := DX1_init (12, .aload_n 0, 1) (List.mem_of_getElem? (i := 6) rfl)
theorem dX1_init_13 : decode cX1_init 13 = .ok (.aload_n 1, 1) := DX1_init (13, .aload_n 1, 1) (List.mem_of_getElem? (i := 7) rfl)
theorem dX1_init_14 : decode cX1_init 14 = .ok (.putfield 15, 3) := DX1_init (14, .putfield 15, 3) (List.mem_of_getElem? (i := 8) rfl)
theorem dX1_init_17 : decode cX1_init 17 = .ok (.aload_n 0, 1) := DX1_init (17, .aload_n 0, 1) (List.mem_of_getElem? (i := 9) rfl)
theorem dX1_init_18 : decode cX1_init 18 = .ok (.iload_n 2, 1) := DX1_init (18, .iload_n 2, 1) (List.mem_of_getElem? (i := 10) rfl)
theorem dX1_init_19 : decode cX1_init 19 = .ok (.putfield 19, 3) := DX1_init (19, .putfield 19, 3) (List.mem_of_getElem? (i := 11) rfl)
theorem dX1_init_22 : decode cX1_init 22 = .ok (.return_, 1) := DX1_init (22, .return_, 1) (List.mem_of_getElem? (i := 12) rfl)
abbrev rmX1_init : Room := { frames := 1, cells := 1, slots := 31, locals := 12 }
set_option maxHeartbeats 4000000 in
set_option maxRecDepth 100000 in
theorem mX1_init {l : Launch} {D : va_G} {cI : ClassId} {h0 : Nat} {p1 : Nat} {p2 : Int32} : MN l D cI yX1_init cX1_init 3 rmX1_init h0 1 [.null, .int 0, .null] [.ref p1, .int p2] (fun u : Nat => [(h0, .inr (1, [.ref p1, .int p2, .ref u])), (u, .inl (cI, 31, .inl (fun _ => 0)))]) 1 31 := by
  refine met_n (by decide) rfl (Nat.le_of_ble_eq_true rfl) (fun E C K0 hce hsl => ?_)
  show Gn E rmX1_init 3 0 [(0, .ref h0), (1, .ref p1), (2, .int p2)] [] [(h0, .inr (1, [.null, .int 0, .null]))] 0 0
  refine n_aload_n 1 C dX1_init_0 rfl (j := 0) rfl rfl ?_
  refine n_obj 4 C wo_X1 wo_i wo_c (by decide) (Nat.le_of_ble_eq_true rfl) dX1_init_1 rfl ?_
  refine n_aload_n 5 C dX1_init_4 rfl (j := 0) rfl rfl ?_
  refine n_bipush 7 (v := 31) C dX1_init_5 (by decide) rfl ?_
  refine n_newa 9 C wa_I (N := 31) (by decide) (by decide) (Nat.le_of_ble_eq_true rfl) (Nat.le_of_ble_eq_true rfl) (Nat.le_of_ble_eq_true rfl) dX1_init_7 rfl (fun r1 => ?_)
  show Gn E rmX1_init 3 9 [(0, .ref h0), (1, .ref p1), (2, .int p2)] [.ref r1, .ref h0] [(h0, .inr (1, [.null, .int 0, .null])), (r1, .inl (cI, 31, .inl (fun _ => 0)))] 1 31
  refine n_putF 12 [(h0, .inr (1, [.null, .int 0, .ref r1])), (r1, .inl (cI, 31, .inl (fun _ => 0)))] C 0 rfl rfl wu_X1 2 (by decide) wf_X1_9 tyX1 tyX1_ok nmX1 rfl rfl rfl rfl (Nat.le_of_ble_eq_true rfl) rfl dX1_init_9 rfl ?_
  refine n_aload_n 13 C dX1_init_12 rfl (j := 0) rfl rfl ?_
  refine n_aload_n 14 C dX1_init_13 rfl (j := 1) rfl rfl ?_
  refine n_putF 17 [(h0, .inr (1, [.ref p1, .int 0, .ref r1])), (r1, .inl (cI, 31, .inl (fun _ => 0)))] C 0 rfl rfl wu_X1 0 (by decide) wf_X1_15 tyX1 tyX1_ok nmX1 rfl rfl rfl rfl (Nat.le_of_ble_eq_true rfl) rfl dX1_init_14 rfl ?_
  refine n_aload_n 18 C dX1_init_17 rfl (j := 0) rfl rfl ?_
  refine n_iload_n 19 C dX1_init_18 rfl (j := 2) rfl rfl ?_
  refine n_putF 22 [(h0, .inr (1, [.ref p1, .int p2, .ref r1])), (r1, .inl (cI, 31, .inl (fun _ => 0)))] C 0 rfl rfl wu_X1 1 (by decide) wf_X1_19 tyX1 tyX1_ok nmX1 rfl rfl rfl rfl (Nat.le_of_ble_eq_true rfl) rfl dX1_init_19 rfl ?_
  exact K0 _ _ r1 dX1_init_22
theorem qX0_init : yX0_init.cls ≠ "java/lang/invoke/MethodHandle" ∧ yX0_init.cls ≠ "java/lang/invoke/VarHandle" ∧ (parseMethodDescriptor yX0_init.desc).map (fun d => d.parameters.length) = some 2 := by decide +kernel
theorem DX0_init : ∀ q ∈ ([(0, .aload_n 0, 1), (1, .invokespecial 3, 3), (4, .aload_n 0, 1), (5, .bipush 30, 2), (7, .newarray .int, 2), (9, .putfield 9, 3), (12, .aload_n 0, 1), (13, .bipush 30, 2), (15, .newarray .int, 2), (17, .putfield 15, 3), (20, .aload_n 0, 1), (21, .bipush 30, 2), (23, .newarray .int, 2), (25, .putfield 18, 3), (28, .aload_n 0, 1), (29, .bipush 30, 2), (31, .newarray .int, 2), (33, .putfield 21, 3), (36, .aload_n 0, 1), (37, .aload_n 1, 1), (38, .putfield 24, 3), (41, .aload_n 0, 1), (42, .aload_n 2, 1), (43, .putfield 28, 3), (46, .return_, 1)] : List (Nat × Instr × Nat)), decode cX0_init q.1 = .ok q.2 := by decide +kernel
theorem dX0_init_0 : decode cX0_init 0 = .ok (.aload_n 0, 1) := DX0_init (0, .aload_n 0, 1) (List.mem_of_getElem? (i := 0) rfl)
theorem dX0_init_1 : decode cX0_init 1 = .ok (.invokespecial 3, 3) := DX0_init (1, .invokespecial 3, 3) (List.mem_of_getElem? (i := 1) rfl)
theorem dX0_init_4 : decode cX0_init 4 = .ok (.aload_n 0, 1) := DX0_init (4, .aload_n 0, 1) (List.mem_of_getElem? (i := 2) rfl)
theorem dX0_init_5 : decode cX0_init 5 = .ok (.bipush 30, 2) := DX0_init (5, .bipush 30, 2) (List.mem_of_getElem? (i := 3) rfl)
theorem dX0_init_7 : decode cX0_init 7 = .ok (.newarray .int, 2) := DX0_init (7, .newarray .int, 2) (List.mem_of_getElem? (i := 4) rfl)
theorem dX0_init_9 : decode cX0_init 9 = .ok (.putfield 9, 3) := DX0_init (9, .putfield 9, 3) (List.mem_of_getElem? (i := 5) rfl)
theorem dX0_init_12 : decode cX0_init 12 = .ok (.aload_n 0, 1) := DX0_init (12, .aload_n 0, 1) (List.mem_of_getElem? (i := 6) rfl)
theorem dX0_init_13 : decode cX0_init 13 = .ok (.bipush 30, 2) := DX0_init (13, .bipush 30, 2) (List.mem_of_getElem? (i := 7) rfl)
theorem dX0_init_15 : decode cX0_init 15 = .ok (.newarray .int, 2) := DX0_init (15, .newarray .int, 2) (List.mem_of_getElem? (i := 8) rfl)
theorem dX0_init_17 : decode cX0_init 17 = .ok (.putfield 15, 3) := DX0_init (17, .putfield 15, 3) (List.mem_of_getElem? (i := 9) rfl)
theorem dX0_init_20 : decode cX0_init 20 = .ok (.aload_n 0, 1) := DX0_init (20, .aload_n 0, 1) (List.mem_of_getElem? (i := 10) rfl)
theorem dX0_init_21 : decode cX0_init 21 = .ok (.bipush 30, 2) := DX0_init (21, .bipush 30, 2) (List.mem_of_getElem? (i := 11) rfl)
theorem dX0_init_23 : decode cX0_init 23 = .ok (.newarray .int, 2) := DX0_init (23, .newarray .int, 2) (List.mem_of_getElem? (i := 12) rfl)
theorem dX0_init_25 : decode cX0_init 25 = .ok (.putfield 18, 3) := DX0_init (25, .putfield 18, 3) (List.mem_of_getElem? (i := 13) rfl)
theorem dX0_init_28 : decode cX0_init 28 = .ok (.aload_n 0, 1) := DX0_init (28, .aload_n 0, 1) (List.mem_of_getElem? (i := 14) rfl)
theorem dX0_init_29 : decode cX0_init 29 = .ok (.bipush 30, 2) := DX0_init (29, .bipush 30, 2) (List.mem_of_getElem? (i := 15) rfl)
theorem dX0_init_31 : decode cX0_init 31 = .ok (.newarray .int, 2) := DX0_init (31, .newarray .int, 2) (List.mem_of_getElem? (i := 16) rfl)
theorem dX0_init_33 : decode cX0_init 33 = .ok (.putfield 21, 3) := DX0_init (33, .putfield 21, 3) (List.mem_of_getElem? (i := 17) rfl)
theorem dX0_init_36 : decode cX0_init 36 = .ok (.aload_n 0, 1) := DX0_init (36, .aload_n 0, 1) (List.mem_of_getElem? (i := 18) rfl)
theorem dX0_init_37 : decode cX0_init 37 = .ok (.aload_n 1, 1) := DX0_init (37, .aload_n 1, 1) (List.mem_of_getElem? (i := 19) rfl)
theorem dX0_init_38 : decode cX0_init 38 = .ok (.putfield 24, 3) := DX0_init (38, .putfield 24, 3) (List.mem_of_getElem? (i := 20) rfl)
theorem dX0_init_41 : decode cX0_init 41 = .ok (.aload_n 0, 1) := DX0_init (41, .aload_n 0, 1) (List.mem_of_getElem? (i := 21) rfl)
theorem dX0_init_42 : decode cX0_init 42 = .ok (.aload_n 2, 1) := DX0_init (42, .aload_n 2, 1) (List.mem_of_getElem? (i := 22) rfl)
theorem dX0_init_43 : decode cX0_init 43 = .ok (.putfield 28, 3) := DX0_init (43, .putfield 28, 3) (List.mem_of_getElem? (i := 23) rfl)
theorem dX0_init_46 : decode cX0_init 46 = .ok (.return_, 1) := DX0_init (46, .return_, 1) (List.mem_of_getElem? (i := 24) rfl)
abbrev rmX0_init : Room := { frames := 1, cells := 4, slots := 120, locals := 12 }
set_option maxHeartbeats 4000000 in
set_option maxRecDepth 100000 in
theorem mX0_init {l : Launch} {D : va_G} {cI : ClassId} {h0 : Nat} {p1 : Nat} {p2 : Nat} : MN l D cI yX0_init cX0_init 3 rmX0_init h0 0 [.null, .null, .null, .null, .null, .null, .int 0] [.ref p1, .ref p2] (fun u : Nat × Nat × Nat × Nat => [(h0, .inr (0, [.ref p1, .ref p2, .ref u.1, .ref u.2.1, .ref u.2.2.1, .ref u.2.2.2, .int 0])), (u.1, .inl (cI, 30, .inl (fun _ => 0))), (u.2.1, .inl (cI, 30, .inl (fun _ => 0))), (u.2.2.1, .inl (cI, 30, .inl (fun _ => 0))), (u.2.2.2, .inl (cI, 30, .inl (fun _ => 0)))]) 4 120 := by
  refine met_n (by decide) rfl (Nat.le_of_ble_eq_true rfl) (fun E C K0 hce hsl => ?_)
  show Gn E rmX0_init 3 0 [(0, .ref h0), (1, .ref p1), (2, .ref p2)] [] [(h0, .inr (0, [.null, .null, .null, .null, .null, .null, .int 0]))] 0 0
  refine n_aload_n 1 C dX0_init_0 rfl (j := 0) rfl rfl ?_
  refine n_obj 4 C wo_X0 wo_i wo_c (by decide) (Nat.le_of_ble_eq_true rfl) dX0_init_1 rfl ?_
  refine n_aload_n 5 C dX0_init_4 rfl (j := 0) rfl rfl ?_
  refine n_bipush 7 (v := 30) C dX0_init_5 (by decide) rfl ?_
  refine n_newa 9 C wa_I (N := 30) (by decide) (by decide) (Nat.le_of_ble_eq_true rfl) (Nat.le_of_ble_eq_true rfl) (Nat.le_of_ble_eq_true rfl) dX0_init_7 rfl (fun r1 => ?_)
  show Gn E rmX0_init 3 9 [(0, .ref h0), (1, .ref p1), (2, .ref p2)] [.ref r1, .ref h0] [(h0, .inr (0, [.null, .null, .null, .null, .null, .null, .int 0])), (r1, .inl (cI, 30, .inl (fun _ => 0)))] 1 30
  refine n_putF 12 [(h0, .inr (0, [.null, .null, .ref r1, .null, .null, .null, .int 0])), (r1, .inl (cI, 30, .inl (fun _ => 0)))] C 0 rfl rfl wu_X0 2 (by decide) wf_X0_9 tyX0 tyX0_ok nmX0 rfl rfl rfl rfl (Nat.le_of_ble_eq_true rfl) rfl dX0_init_9 rfl ?_
  refine n_aload_n 13 C dX0_init_12 rfl (j := 0) rfl rfl ?_
  refine n_bipush 15 (v := 30) C dX0_init_13 (by decide) rfl ?_
  refine n_newa 17 C wa_I (N := 30) (by decide) (by decide) (Nat.le_of_ble_eq_true rfl) (Nat.le_of_ble_eq_true rfl) (Nat.le_of_ble_eq_true rfl) dX0_init_15 rfl (fun r2 => ?_)
  show Gn E rmX0_init 3 17 [(0, .ref h0), (1, .ref p1), (2, .ref p2)] [.ref r2, .ref h0] [(h0, .inr (0, [.null, .null, .ref r1, .null, .null, .null, .int 0])), (r1, .inl (cI, 30, .inl (fun _ => 0))), (r2, .inl (cI, 30, .inl (fun _ => 0)))] 2 60
  refine n_putF 20 [(h0, .inr (0, [.null, .null, .ref r1, .ref r2, .null, .null, .int 0])), (r1, .inl (cI, 30, .inl (fun _ => 0))), (r2, .inl (cI, 30, .inl (fun _ => 0)))] C 0 rfl rfl wu_X0 3 (by decide) wf_X0_15 tyX0 tyX0_ok nmX0 rfl rfl rfl rfl (Nat.le_of_ble_eq_true rfl) rfl dX0_init_17 rfl ?_
  refine n_aload_n 21 C dX0_init_20 rfl (j := 0) rfl rfl ?_
  refine n_bipush 23 (v := 30) C dX0_init_21 (by decide) rfl ?_
  refine n_newa 25 C wa_I (N := 30) (by decide) (by decide) (Nat.le_of_ble_eq_true rfl) (Nat.le_of_ble_eq_true rfl) (Nat.le_of_ble_eq_true rfl) dX0_init_23 rfl (fun r3 => ?_)
  show Gn E rmX0_init 3 25 [(0, .ref h0), (1, .ref p1), (2, .ref p2)] [.ref r3, .ref h0] [(h0, .inr (0, [.null, .null, .ref r1, .ref r2, .null, .null, .int 0])), (r1, .inl (cI, 30, .inl (fun _ => 0))), (r2, .inl (cI, 30, .inl (fun _ => 0))), (r3, .inl (cI, 30, .inl (fun _ => 0)))] 3 90
  refine n_putF 28 [(h0, .inr (0, [.null, .null, .ref r1, .ref r2, .ref r3, .null, .int 0])), (r1, .inl (cI, 30, .inl (fun _ => 0))), (r2, .inl (cI, 30, .inl (fun _ => 0))), (r3, .inl (cI, 30, .inl (fun _ => 0)))] C 0 rfl rfl wu_X0 4 (by decide) wf_X0_18 tyX0 tyX0_ok nmX0 rfl rfl rfl rfl (Nat.le_of_ble_eq_true rfl) rfl dX0_init_25 rfl ?_
  refine n_aload_n 29 C dX0_init_28 rfl (j := 0) rfl rfl ?_
  refine n_bipush 31 (v := 30) C dX0_init_29 (by decide) rfl ?_
  refine n_newa 33 C wa_I (N := 30) (by decide) (by decide) (Nat.le_of_ble_eq_true rfl) (Nat.le_of_ble_eq_true rfl) (Nat.le_of_ble_eq_true rfl) dX0_init_31 rfl (fun r4 => ?_)
  show Gn E rmX0_init 3 33 [(0, .ref h0), (1, .ref p1), (2, .ref p2)] [.ref r4, .ref h0] [(h0, .inr (0, [.null, .null, .ref r1, .ref r2, .ref r3, .null, .int 0])), (r1, .inl (cI, 30, .inl (fun _ => 0))), (r2, .inl (cI, 30, .inl (fun _ => 0))), (r3, .inl (cI, 30, .inl (fun _ => 0))), (r4, .inl (cI, 30, .inl (fun _ => 0)))] 4 120
  refine n_putF 36 [(h0, .inr (0, [.null, .null, .ref r1, .ref r2, .ref r3, .ref r4, .int 0])), (r1, .inl (cI, 30, .inl (fun _ => 0))), (r2, .inl (cI, 30, .inl (fun _ => 0))), (r3, .inl (cI, 30, .inl (fun _ => 0))), (r4, .inl (cI, 30, .inl (fun _ => 0)))] C 0 rfl rfl wu_X0 5 (by decide) wf_X0_21 tyX0 tyX0_ok nmX0 rfl rfl rfl rfl (Nat.le_of_ble_eq_true rfl) rfl dX0_init_33 rfl ?_
  refine n_aload_n 37 C dX0_init_36 rfl (j := 0) rfl rfl ?_
  refine n_aload_n 38 C dX0_init_37 rfl (j := 1) rfl rfl ?_
  refine n_putF 41 [(h0, .inr (0, [.ref p1, .null, .ref r1, .ref r2, .ref r3, .ref r4, .int 0])), (r1, .inl (cI, 30, .inl (fun _ => 0))), (r2, .inl (cI, 30, .inl (fun _ => 0))), (r3, .inl (cI, 30, .inl (fun _ => 0))), (r4, .inl (cI, 30, .inl (fun _ => 0)))] C 0 rfl rfl wu_X0 0 (by decide) wf_X0_24 tyX0 tyX0_ok nmX0 rfl rfl rfl rfl (Nat.le_of_ble_eq_true rfl) rfl dX0_init_38 rfl ?_
  refine n_aload_n 42 C dX0_init_41 rfl (j := 0) rfl rfl ?_
  refine n_aload_n 43 C dX0_init_42 rfl (j := 2) rfl rfl ?_
  refine n_putF 46 [(h0, .inr (0, [.ref p1, .ref p2, .ref r1, .ref r2, .ref r3, .ref r4, .int 0])), (r1, .inl (cI, 30, .inl (fun _ => 0))), (r2, .inl (cI, 30, .inl (fun _ => 0))), (r3, .inl (cI, 30, .inl (fun _ => 0))), (r4, .inl (cI, 30, .inl (fun _ => 0)))] C 0 rfl rfl wu_X0 1 (by decide) wf_X0_28 tyX0 tyX0_ok nmX0 rfl rfl rfl rfl (Nat.le_of_ble_eq_true rfl) rfl dX0_init_43 rfl ?_
  exact K0 _ _ (r1, r2, r3, r4) dX0_init_46
theorem qX4_init : yX4_init.cls ≠ "java/lang/invoke/MethodHandle" ∧ yX4_init.cls ≠ "java/lang/invoke/VarHandle" ∧ (parseMethodDescriptor yX4_init.desc).map (fun d => d.parameters.length) = some 3 := by decide +kernel
theorem DX4_init : ∀ q ∈ ([(0, .aload_n 0, 1), (1, .invokespecial 3, 3), (4, .aload_n 0, 1), (5, .bipush 90, 2), (7, .newarray .int, 2), (9, .putfield 9, 3), (12, .aload_n 0, 1), (13, .bipush 90, 2), (15, .newarray .int, 2), (17, .putfield 15, 3), (20, .aload_n 0, 1), (21, .bipush 90, 2), (23, .newarray .int, 2), (25, .putfield 18, 3), (28, .aload_n 0, 1), (29, .bipush 30, 2), (31, .newarray .int, 2), (33, .putfield 21, 3), (36, .aload_n 0, 1), (37, .aload_n 1, 1), (38, .putfield 24, 3), (41, .aload_n 0, 1), (42, .aload_n 2, 1), (43, .putfield 28, 3), (46, .aload_n 0, 1), (47, .aload_n 3, 1), (48, .putfield 32, 3), (51, .return_, 1)] : List (Nat × Instr × Nat)), decode cX4_init q.1 = .ok q.2 := by decide +kernel
theorem dX4_init_0 : decode cX4_init 0 = .ok (.aload_n 0, 1) := DX4_init (0, .aload_n 0, 1) (List.mem_of_getElem? (i := 0) rfl)
theorem dX4_init_1 : decode cX4_init 1 = .ok (.invokespecial 3, 3) := DX4_init (1, .invokespecial 3, 3) (List.mem_of_getElem? (i := 1) rfl)
theorem dX4_init_4 : decode cX4_init 4 = .ok (.aload_n 0, 1) := DX4_init (4, .aload_n 0, 1) (List.mem_of_getElem? (i := 2) rfl)
theorem dX4_init_5 : decode cX4_init 5 = .ok (.bipush 90, 2) := DX4_init (5, .bipush 90, 2) (List.mem_of_getElem? (i := 3) rfl)
theorem dX4_init_7 : decode cX4_init 7 = .ok (.newarray .int, 2) := DX4_init (7, .newarray .int, 2) (List.mem_of_getElem? (i := 4) rfl)
theorem dX4_init_9 : decode cX4_init 9 = .ok (.putfield 9, 3) := DX4_init (9, .putfield 9, 3) (List.mem_of_getElem? (i := 5) rfl)
theorem dX4_init_12 : decode cX4_init 12 = .ok (.aload_n 0, 1) := DX4_init (12, .aload_n 0, 1) (List.mem_of_getElem? (i := 6) rfl)
theorem dX4_init_13 : decode cX4_init 13 = .ok (.bipush 90, 2) := DX4_init (13, .bipush 90, 2) (List.mem_of_getElem? (i := 7) rfl)
theorem dX4_init_15 : decode cX4_init 15 = .ok (.newarray .int, 2) := DX4_init (15, .newarray .int, 2) (List.mem_of_getElem? (i := 8) rfl)
theorem dX4_init_17 : decode cX4_init 17 = .ok (.putfield 15, 3) := DX4_init (17, .putfield 15, 3) (List.mem_of_getElem? (i := 9) rfl)
theorem dX4_init_20 : decode cX4_init 20 = .ok (.aload_n 0, 1) := DX4_init (20, .aload_n 0, 1) (List.mem_of_getElem? (i := 10) rfl)
theorem dX4_init_21 : decode cX4_init 21 = .ok (.bipush 90, 2) := DX4_init (21, .bipush 90, 2) (List.mem_of_getElem? (i := 11) rfl)
theorem dX4_init_23 : decode cX4_init 23 = .ok (.newarray .int, 2) := DX4_init (23, .newarray .int, 2) (List.mem_of_getElem? (i := 12) rfl)
theorem dX4_init_25 : decode cX4_init 25 = .ok (.putfield 18, 3) := DX4_init (25, .putfield 18, 3) (List.mem_of_getElem? (i := 13) rfl)
theorem dX4_init_28 : decode cX4_init 28 = .ok (.aload_n 0, 1) := DX4_init (28, .aload_n 0, 1) (List.mem_of_getElem? (i := 14) rfl)
theorem dX4_init_29 : decode cX4_init 29 = .ok (.bipush 30, 2) := DX4_init (29, .bipush 30, 2) (List.mem_of_getElem? (i := 15) rfl)
theorem dX4_init_31 : decode cX4_init 31 = .ok (.newarray .int, 2) := DX4_init (31, .newarray .int, 2) (List.mem_of_getElem? (i := 16) rfl)
theorem dX4_init_33 : decode cX4_init 33 = .ok (.putfield 21, 3) := DX4_init (33, .putfield 21, 3) (List.mem_of_getElem? (i := 17) rfl)
theorem dX4_init_36 : decode cX4_init 36 = .ok (.aload_n 0, 1) := DX4_init (36, .aload_n 0, 1) (List.mem_of_getElem? (i := 18) rfl)
theorem dX4_init_37 : decode cX4_init 37 = .ok (.aload_n 1, 1) := DX4_init (37, .aload_n 1, 1) (List.mem_of_getElem? (i := 19) rfl)
theorem dX4_init_38 : decode cX4_init 38 = .ok (.putfield 24, 3) := DX4_init (38, .putfield 24, 3) (List.mem_of_getElem? (i := 20) rfl)
theorem dX4_init_41 : decode cX4_init 41 = .ok (.aload_n 0, 1) := DX4_init (41, .aload_n 0, 1) (List.mem_of_getElem? (i := 21) rfl)
theorem dX4_init_42 : decode cX4_init 42 = .ok (.aload_n 2, 1) := DX4_init (42, .aload_n 2, 1) (List.mem_of_getElem? (i := 22) rfl)
theorem dX4_init_43 : decode cX4_init 43 = .ok (.putfield 28, 3) := DX4_init (43, .putfield 28, 3) (List.mem_of_getElem? (i := 23) rfl)
theorem dX4_init_46 : decode cX4_init 46 = .ok (.aload_n 0, 1) := DX4_init (46, .aload_n 0, 1) (List.mem_of_getElem? (i := 24) rfl)
theorem dX4_init_47 : decode cX4_init 47 = .ok (.aload_n 3, 1) := DX4_init (47, .aload_n 3, 1) (List.mem_of_getElem? (i := 25) rfl)
theorem dX4_init_48 : decode cX4_init 48 = .ok (.putfield 32, 3) := DX4_init (48, .putfield 32, 3) (List.mem_of_getElem? (i := 26) rfl)
theorem dX4_init_51 : decode cX4_init 51 = .ok (.return_, 1) := DX4_init (51, .return_, 1) (List.mem_of_getElem? (i := 27) rfl)
abbrev rmX4_init : Room := { frames := 1, cells := 4, slots := 300, locals := 12 }
set_option maxHeartbeats 4000000 in
set_option maxRecDepth 100000 in
theorem mX4_init {l : Launch} {D : va_G} {cI : ClassId} {h0 : Nat} {p1 : Nat} {p2 : Nat} {p3 : Nat} : MN l D cI yX4_init cX4_init 4 rmX4_init h0 4 [.null, .null, .null, .int 0, .int 0, .null, .null, .null, .null, .int 0, .int 0] [.ref p1, .ref p2, .ref p3] (fun u : Nat × Nat × Nat × Nat => [(h0, .inr (4, [.ref p1, .ref p2, .ref p3, .int 0, .int 0, .ref u.1, .ref u.2.1, .ref u.2.2.1, .ref u.2.2.2, .int 0, .int 0])), (u.1, .inl (cI, 90, .inl (fun _ => 0))), (u.2.1, .inl (cI, 90, .inl (fun _ => 0))), (u.2.2.1, .inl (cI, 90, .inl (fun _ => 0))), (u.2.2.2, .inl (cI, 30, .inl (fun _ => 0)))]) 4 300 := by
  refine met_n (by decide) rfl (Nat.le_of_ble_eq_true rfl) (fun E C K0 hce hsl => ?_)
  show Gn E rmX4_init 4 0 [(0, .ref h0), (1, .ref p1), (2, .ref p2), (3, .ref p3)] [] [(h0, .inr (4, [.null, .null, .null, .int 0, .int 0, .null, .null, .null, .null, .int 0, .int 0]))] 0 0
  refine n_aload_n 1 C dX4_init_0 rfl (j := 0) rfl rfl ?_
  refine n_obj 4 C wo_X4 wo_i wo_c (by decide) (Nat.le_of_ble_eq_true rfl) dX4_init_1 rfl ?_
  refine n_aload_n 5 C dX4_init_4 rfl (j := 0) rfl rfl ?_
  refine n_bipush 7 (v := 90) C dX4_init_5 (by decide) rfl ?_
  refine n_newa 9 C wa_I (N := 90) (by decide) (by decide) (Nat.le_of_ble_eq_true rfl) (Nat.le_of_ble_eq_true rfl) (Nat.le_of_ble_eq_true rfl) dX4_init_7 rfl (fun r1 => ?_)
  show Gn E rmX4_init 4 9 [(0, .ref h0), (1, .ref p1), (2, .ref p2), (3, .ref p3)] [.ref r1, .ref h0] [(h0, .inr (4, [.null, .null, .null, .int 0, .int 0, .null, .null, .null, .null, .int 0, .int 0])), (r1, .inl (cI, 90, .inl (fun _ => 0)))] 1 90
  refine n_putF 12 [(h0, .inr (4, [.null, .null, .null, .int 0, .int 0, .ref r1, .null, .null, .null, .int 0, .int 0])), (r1, .inl (cI, 90, .inl (fun _ => 0)))] C 0 rfl rfl wu_X4 5 (by decide) wf_X4_9 tyX4 tyX4_ok nmX4 rfl rfl rfl rfl (Nat.le_of_ble_eq_true rfl) rfl dX4_init_9 rfl ?_
  refine n_aload_n 13 C dX4_init_12 rfl (j := 0) rfl rfl ?_
  refine n_bipush 15 (v := 90) C dX4_init_13 (by decide) rfl ?_
  refine n_newa 17 C wa_I (N := 90) (by decide) (by decide) (Nat.le_of_ble_eq_true rfl) (Nat.le_of_ble_eq_true rfl) (Nat.le_of_ble_eq_true rfl) dX4_init_15 rfl (fun r2 => ?_)
  show Gn E rmX4_init 4 17 [(0, .ref h0), (1, .ref p1), (2, .ref p2), (3, .ref p3)] [.ref r2, .ref h0] [(h0, .inr (4, [.null, .null, .null, .int 0, .int 0, .ref r1, .null, .null, .null, .int 0, .int 0])), (r1, .inl (cI, 90, .inl (fun _ => 0))), (r2, .inl (cI, 90, .inl (fun _ => 0)))] 2 180
  refine n_putF 20 [(h0, .inr (4, [.null, .null, .null, .int 0, .int 0, .ref r1, .ref r2, .null, .null, .int 0, .int 0])), (r1, .inl (cI, 90, .inl (fun _ => 0))), (r2, .inl (cI, 90, .inl (fun _ => 0)))] C 0 rfl rfl wu_X4 6 (by decide) wf_X4_15 tyX4 tyX4_ok nmX4 rfl rfl rfl rfl (Nat.le_of_ble_eq_true rfl) rfl dX4_init_17 rfl ?_
  refine n_aload_n 21 C dX4_init_20 rfl (j := 0) rfl rfl ?_
  refine n_bipush 23 (v := 90) C dX4_init_21 (by decide) rfl ?_
  refine n_newa 25 C wa_I (N := 90) (by decide) (by decide) (Nat.le_of_ble_eq_true rfl) (Nat.le_of_ble_eq_true rfl) (Nat.le_of_ble_eq_true rfl) dX4_init_23 rfl (fun r3 => ?_)
  show Gn E rmX4_init 4 25 [(0, .ref h0), (1, .ref p1), (2, .ref p2), (3, .ref p3)] [.ref r3, .ref h0] [(h0, .inr (4, [.null, .null, .null, .int 0, .int 0, .ref r1, .ref r2, .null, .null, .int 0, .int 0])), (r1, .inl (cI, 90, .inl (fun _ => 0))), (r2, .inl (cI, 90, .inl (fun _ => 0))), (r3, .inl (cI, 90, .inl (fun _ => 0)))] 3 270
  refine n_putF 28 [(h0, .inr (4, [.null, .null, .null, .int 0, .int 0, .ref r1, .ref r2, .ref r3, .null, .int 0, .int 0])), (r1, .inl (cI, 90, .inl (fun _ => 0))), (r2, .inl (cI, 90, .inl (fun _ => 0))), (r3, .inl (cI, 90, .inl (fun _ => 0)))] C 0 rfl rfl wu_X4 7 (by decide) wf_X4_18 tyX4 tyX4_ok nmX4 rfl rfl rfl rfl (Nat.le_of_ble_eq_true rfl) rfl dX4_init_25 rfl ?_
  refine n_aload_n 29 C dX4_init_28 rfl (j := 0) rfl rfl ?_
  refine n_bipush 31 (v := 30) C dX4_init_29 (by decide) rfl ?_
  refine n_newa 33 C wa_I (N := 30) (by decide) (by decide) (Nat.le_of_ble_eq_true rfl) (Nat.le_of_ble_eq_true rfl) (Nat.le_of_ble_eq_true rfl) dX4_init_31 rfl (fun r4 => ?_)
  show Gn E rmX4_init 4 33 [(0, .ref h0), (1, .ref p1), (2, .ref p2), (3, .ref p3)] [.ref r4, .ref h0] [(h0, .inr (4, [.null, .null, .null, .int 0, .int 0, .ref r1, .ref r2, .ref r3, .null, .int 0, .int 0])), (r1, .inl (cI, 90, .inl (fun _ => 0))), (r2, .inl (cI, 90, .inl (fun _ => 0))), (r3, .inl (cI, 90, .inl (fun _ => 0))), (r4, .inl (cI, 30, .inl (fun _ => 0)))] 4 300
  refine n_putF 36 [(h0, .inr (4, [.null, .null, .null, .int 0, .int 0, .ref r1, .ref r2, .ref r3, .ref r4, .int 0, .int 0])), (r1, .inl (cI, 90, .inl (fun _ => 0))), (r2, .inl (cI, 90, .inl (fun _ => 0))), (r3, .inl (cI, 90, .inl (fun _ => 0))), (r4, .inl (cI, 30, .inl (fun _ => 0)))] C 0 rfl rfl wu_X4 8 (by decide) wf_X4_21 tyX4 tyX4_ok nmX4 rfl rfl rfl rfl (Nat.le_of_ble_eq_true rfl) rfl dX4_init_33 rfl ?_
  refine n_aload_n 37 C dX4_init_36 rfl (j := 0) rfl rfl ?_
  refine n_aload_n 38 C dX4_init_37 rfl (j := 1) rfl rfl ?_
  refine n_putF 41 [(h0, .inr (4, [.ref p1, .null, .null, .int 0, .int 0, .ref r1, .ref r2, .ref r3, .ref r4, .int 0, .int 0])), (r1, .inl (cI, 90, .inl (fun _ => 0))), (r2, .inl (cI, 90, .inl (fun _ => 0))), (r3, .inl (cI, 90, .inl (fun _ => 0))), (r4, .inl (cI, 30, .inl (fun _ => 0)))] C 0 rfl rfl wu_X4 0 (by decide) wf_X4_24 tyX4 tyX4_ok nmX4 rfl rfl rfl rfl (Nat.le_of_ble_eq_true rfl) rfl dX4_init_38 rfl ?_
  refine n_aload_n 42 C dX4_init_41 rfl (j := 0) rfl rfl ?_
  refine n_aload_n 43 C dX4_init_42 rfl (j := 2) rfl rfl ?_
  refine n_putF 46 [(h0, .inr (4, [.ref p1, .ref p2, .null, .int 0, .int 0, .ref r1, .ref r2, .ref r3, .ref r4, .int 0, .int 0])), (r1, .inl (cI, 90, .inl (fun _ => 0))), (r2, .inl (cI, 90, .inl (fun _ => 0))), (r3, .inl (cI, 90, .inl (fun _ => 0))), (r4, .inl (cI, 30, .inl (fun _ => 0)))] C 0 rfl rfl wu_X4 1 (by decide) wf_X4_28 tyX4 tyX4_ok nmX4 rfl rfl rfl rfl (Nat.le_of_ble_eq_true rfl) rfl dX4_init_43 rfl ?_
  refine n_aload_n 47 C dX4_init_46 rfl (j := 0) rfl rfl ?_
  refine n_aload_n 48 C dX4_init_47 rfl (j := 3) rfl rfl ?_
  refine n_putF 51 [(h0, .inr (4, [.ref p1, .ref p2, .ref p3, .int 0, .int 0, .ref r1, .ref r2, .ref r3, .ref r4, .int 0, .int 0])), (r1, .inl (cI, 90, .inl (fun _ => 0))), (r2, .inl (cI, 90, .inl (fun _ => 0))), (r3, .inl (cI, 90, .inl (fun _ => 0))), (r4, .inl (cI, 30, .inl (fun _ => 0)))] C 0 rfl rfl wu_X4 2 (by decide) wf_X4_32 tyX4 tyX4_ok nmX4 rfl rfl rfl rfl (Nat.le_of_ble_eq_true rfl) rfl dX4_init_48 rfl ?_
  exact K0 _ _ (r1, r2, r3, r4) dX4_init_51
theorem qX6_init : yX6_init.cls ≠ "java/lang/invoke/MethodHandle" ∧ yX6_init.cls ≠ "java/lang/invoke/VarHandle" ∧ (parseMethodDescriptor yX6_init.desc).map (fun d => d.parameters.length) = some 4 := by decide +kernel
theorem DX6_init : ∀ q ∈ ([(0, .aload_n 0, 1), (1, .invokespecial 3, 3), (4, .aload_n 0, 1), (5, .iconst 3, 1), (6, .newarray .int, 2), (8, .putfield 9, 3), (11, .aload_n 0, 1), (12, .bipush 30, 2), (14, .newarray .int, 2), (16, .putfield 15, 3), (19, .aload_n 0, 1), (20, .bipush 30, 2), (22, .newarray .int, 2), (24, .putfield 18, 3), (27, .aload_n 0, 1), (28, .bipush 90, 2), (30, .newarray .int, 2), (32, .putfield 21, 3), (35, .aload_n 0, 1), (36, .bipush 90, 2), (38, .newarray .int, 2), (40, .putfield 24, 3), (43, .aload_n 0, 1), (44, .sipush 400, 3), (47, .newarray .int, 2), (49, .putfield 27, 3), (52, .aload_n 0, 1), (53, .aload_n 1, 1), (54, .putfield 30, 3), (57, .aload_n 0, 1), (58, .aload_n 2, 1), (59, .putfield 34, 3), (62, .aload_n 0, 1), (63, .aload_n 3, 1), (64, .putfield 38, 3), (67, .aload_n 0, 1), (68, .aload 4, 2), (70, .putfield 42, 3), (73, .return_, 1)] : List (Nat × Instr × Nat)), decode cX6_init q.1 = .ok q.2 := by decide +kernel
theorem dX6_init_0 : decode cX6_init 0 = .ok (.aload_n 0, 1) := DX6_init (0, .aload_n 0, 1) (List.mem_of_getElem? (i := 0) rfl)
theorem dX6_init_1 : decode cX6_init 1 = .ok (.invokespecial 3, 3) := DX6_init (1, .invokespecial 3, 3) (List.mem_of_getElem? (i := 1) rfl)
theorem dX6_init_4 : decode cX6_init 4 = .ok (.aload_n 0, 1) := DX6_init (4, .aload_n 0, 1) (List.mem_of_getElem? (i := 2) rfl)
theorem dX6_init_5 : decode cX6_init 5 = .ok (.iconst 3, 1) := DX6_init (5, .iconst 3, 1) (List.mem_of_getElem? (i := 3) rfl)
theorem dX6_init_6 : decode cX6_init 6 = .ok (.newarray .int, 2) := DX6_init (6, .newarray .int, 2) (List.mem_of_getElem? (i := 4) rfl)
theorem dX6_init_8 : decode cX6_init 8 = .ok (.putfield 9, 3) := DX6_init (8, .putfield 9, 3) (List.mem_of_getElem? (i := 5) rfl)
theorem dX6_init_11 : decode cX6_init 11 = .ok (.aload_n 0, 1) := DX6_init (11, .aload_n 0, 1) (List.mem_of_getElem? (i := 6) rfl)
theorem dX6_init_12 : decode cX6_init 12 = .ok (.bipush 30, 2) := DX6_init (12, .bipush 30, 2) (List.mem_of_getElem? (i := 7) rfl)
theorem dX6_init_14 : decode cX6_init 14 = .ok (.newarray .int, 2) := DX6_init (14, .newarray .int, 2) (List.mem_of_getElem? (i := 8) rfl)
theorem dX6_init_16 : decode cX6_init 16 = .ok (.putfield 15, 3) := DX6_init (16, .putfield 15, 3) (List.mem_of_getElem? (i := 9) rfl)
theorem dX6_init_19 : decode cX6_init 19 = .ok (.aload_n 0, 1) := DX6_init (19, .aload_n 0, 1) (List.mem_of_getElem? (i := 10) rfl)
theorem dX6_init_20 : decode cX6_init 20 = .ok (.bipush 30, 2) := DX6_init (20, .bipush 30, 2) (List.mem_of_getElem? (i := 11) rfl)
theorem dX6_init_22 : decode cX6_init 22 = .ok (.newarray .int, 2) := DX6_init (22, .newarray .int, 2) (List.mem_of_getElem? (i := 12) rfl)
theorem dX6_init_24 : decode cX6_init 24 = .ok (.putfield 18, 3) := DX6_init (24, .putfield 18, 3) (List.mem_of_getElem? (i := 13) rfl)
theorem dX6_init_27 : decode cX6_init 27 = .ok (.aload_n 0, 1) := DX6_init (27, .aload_n 0, 1) (List.mem_of_getElem? (i := 14) rfl)
theorem dX6_init_28 : decode cX6_init 28 = .ok (.bipush 90, 2) := DX6_init (28, .bipush 90, 2) (List.mem_of_getElem? (i := 15) rfl)
theorem dX6_init_30 : decode cX6_init 30 = .ok (.newarray .int, 2) := DX6_init (30, .newarray .int, 2) (List.mem_of_getElem? (i := 16) rfl)
theorem dX6_init_32 : decode cX6_init 32 = .ok (.putfield 21, 3) := DX6_init (32, .putfield 21, 3) (List.mem_of_getElem? (i := 17) rfl)
theorem dX6_init_35 : decode cX6_init 35 = .ok (.aload_n 0, 1) := DX6_init (35, .aload_n 0, 1) (List.mem_of_getElem? (i := 18) rfl)
theorem dX6_init_36 : decode cX6_init 36 = .ok (.bipush 90, 2) := DX6_init (36, .bipush 90, 2) (List.mem_of_getElem? (i := 19) rfl)
theorem dX6_init_38 : decode cX6_init 38 = .ok (.newarray .int, 2) := DX6_init (38, .newarray .int, 2) (List.mem_of_getElem? (i := 20) rfl)
theorem dX6_init_40 : decode cX6_init 40 = .ok (.putfield 24, 3) := DX6_init (40, .putfield 24, 3) (List.mem_of_getElem? (i := 21) rfl)
theorem dX6_init_43 : decode cX6_init 43 = .ok (.aload_n 0, 1) := DX6_init (43, .aload_n 0, 1) (List.mem_of_getElem? (i := 22) rfl)
theorem dX6_init_44 : decode cX6_init 44 = .ok (.sipush 400, 3) := DX6_init (44, .sipush 400, 3) (List.mem_of_getElem? (i := 23) rfl)
theorem dX6_init_47 : decode cX6_init 47 = .ok (.newarray .int, 2) := DX6_init (47, .newarray .int, 2) (List.mem_of_getElem? (i := 24) rfl)
theorem dX6_init_49 : decode cX6_init 49 = .ok (.putfield 27, 3) := DX6_init (49, .putfield 27, 3) (List.mem_of_getElem? (i := 25) rfl)
theorem dX6_init_52 : decode cX6_init 52 = .ok (.aload_n 0, 1) := DX6_init (52, .aload_n 0, 1) (List.mem_of_getElem? (i := 26) rfl)
theorem dX6_init_53 : decode cX6_init 53 = .ok (.aload_n 1, 1) := DX6_init (53, .aload_n 1, 1) (List.mem_of_getElem? (i := 27) rfl)
theorem dX6_init_54 : decode cX6_init 54 = .ok (.putfield 30, 3) := DX6_init (54, .putfield 30, 3) (List.mem_of_getElem? (i := 28) rfl)
theorem dX6_init_57 : decode cX6_init 57 = .ok (.aload_n 0, 1) := DX6_init (57, .aload_n 0, 1) (List.mem_of_getElem? (i := 29) rfl)
theorem dX6_init_58 : decode cX6_init 58 = .ok (.aload_n 2, 1) := DX6_init (58, .aload_n 2, 1) (List.mem_of_getElem? (i := 30) rfl)
theorem dX6_init_59 : decode cX6_init 59 = .ok (.putfield 34, 3) := DX6_init (59, .putfield 34, 3) (List.mem_of_getElem? (i := 31) rfl)
theorem dX6_init_62 : decode cX6_init 62 = .ok (.aload_n 0, 1) := DX6_init (62, .aload_n 0, 1) (List.mem_of_getElem? (i := 32) rfl)
theorem dX6_init_63 : decode cX6_init 63 = .ok (.aload_n 3, 1) := DX6_init (63, .aload_n 3, 1) (List.mem_of_getElem? (i := 33) rfl)
theorem dX6_init_64 : decode cX6_init 64 = .ok (.putfield 38, 3) := DX6_init (64, .putfield 38, 3) (List.mem_of_getElem? (i := 34) rfl)
theorem dX6_init_67 : decode cX6_init 67 = .ok (.aload_n 0, 1) := DX6_init (67, .aload_n 0, 1) (List.mem_of_getElem? (i := 35) rfl)
theorem dX6_init_68 : decode cX6_init 68 = .ok (.aload 4, 2) := DX6_init (68, .aload 4, 2) (List.mem_of_getElem? (i := 36) rfl)
theorem dX6_init_70 : decode cX6_init 70 = .ok (.putfield 42, 3) := DX6_init (70, .putfield 42, 3) (List.mem_of_getElem? (i := 37) rfl)
theorem dX6_init_73 : decode cX6_init 73 = .ok (.return_, 1) := DX6_init (73, .return_, 1) (List.mem_of_getElem? (i := 38) rfl)
abbrev rmX6_init : Room := { frames := 1, cells := 6, slots := 643, locals := 12 }
set_option maxHeartbeats 4000000 in
set_option maxRecDepth 100000 in
theorem mX6_init {l : Launch} {D : va_G} {cI : ClassId} {h0 : Nat} {p1 : Nat} {p2 : Nat} {p3 : Nat} {p4 : Nat} : MN l D cI yX6_init cX6_init 5 rmX6_init h0 6 [.null, .null, .null, .null, .null, .null, .null, .null, .null, .null, .int 0] [.ref p1, .ref p2, .ref p3, .ref p4] (fun u : Nat × Nat × Nat × Nat × Nat × Nat => [(h0, .inr (6, [.ref p1, .ref p2, .ref p3, .ref p4, .ref u.1, .ref u.2.1, .ref u.2.2.1, .ref u.2.2.2.1, .ref u.2.2.2.2.1, .ref u.2.2.2.2.2, .int 0])), (u.1, .inl (cI, 3, .inl (fun _ => 0))), (u.2.1, .inl (cI, 30, .inl (fun _ => 0))), (u.2.2.1, .inl (cI, 30, .inl (fun _ => 0))), (u.2.2.2.1, .inl (cI, 90, .inl (fun _ => 0))), (u.2.2.2.2.1, .inl (cI, 90, .inl (fun _ => 0))), (u.2.2.2.2.2, .inl (cI, 400, .inl (fun _ => 0)))]) 6 643 := by
  refine met_n (by decide) rfl (Nat.le_of_ble_eq_true rfl) (fun E C K0 hce hsl => ?_)
  show Gn E rmX6_init 5 0 [(0, .ref h0), (1, .ref p1), (2, .ref p2), (3, .ref p3), (4, .ref p4)] [] [(h0, .inr (6, [.null, .null, .null, .null, .null, .null, .null, .null, .null, .null, .int 0]))] 0 0
  refine n_aload_n 1 C dX6_init_0 rfl (j := 0) rfl rfl ?_
  refine n_obj 4 C wo_X6 wo_i wo_c (by decide) (Nat.le_of_ble_eq_true rfl) dX6_init_1 rfl ?_
  refine n_aload_n 5 C dX6_init_4 rfl (j := 0) rfl rfl ?_
  refine n_iconst 6 (v := 3) C dX6_init_5 (by decide) rfl ?_
  refine n_newa 8 C wa_I (N := 3) (by decide) (by decide) (Nat.le_of_ble_eq_true rfl) (Nat.le_of_ble_eq_true rfl) (Nat.le_of_ble_eq_true rfl) dX6_init_6 rfl (fun r1 => ?_)
  show Gn E rmX6_init 5 8 [(0, .ref h0), (1, .ref p1), (2, .ref p2), (3, .ref p3), (4, .ref p4)] [.ref r1, .ref h0] [(h0, .inr (6, [.null, .null, .null, .null, .null, .null, .null, .null, .null, .null, .int 0])), (r1, .inl (cI, 3, .inl (fun _ => 0)))] 1 3
  refine n_putF 11 [(h0, .inr (6, [.null, .null, .null, .null, .ref r1, .null, .null, .null, .null, .null, .int 0])), (r1, .inl (cI, 3, .inl (fun _ => 0)))] C 0 rfl rfl wu_X6 4 (by decide) wf_X6_9 tyX6 tyX6_ok nmX6 rfl rfl rfl rfl (Nat.le_of_ble_eq_true rfl) rfl dX6_init_8 rfl ?_
  refine n_aload_n 12 C dX6_init_11 rfl (j := 0) rfl rfl ?_
  refine n_bipush 14 (v := 30) C dX6_init_12 (by decide) rfl ?_
  refine n_newa 16 C wa_I (N := 30) (by decide) (by decide) (Nat.le_of_ble_eq_true rfl) (Nat.le_of_ble_eq_true rfl) (Nat.le_of_ble_eq_true rfl) dX6_init_14 rfl (fun r2 => ?_)
  show Gn E rmX6_init 5 16 [(0, .ref h0), (1, .ref p1), (2, .ref p2), (3, .ref p3), (4, .ref p4)] [.ref r2, .ref h0] [(h0, .inr (6, [.null, .null, .null, .null, .ref r1, .null, .null, .null, .null, .null, .int 0])), (r1, .inl (cI, 3, .inl (fun _ => 0))), (r2, .inl (cI, 30, .inl (fun _ => 0)))] 2 33
  refine n_putF 19 [(h0, .inr (6, [.null, .null, .null, .null, .ref r1, .ref r2, .null, .null, .null, .null, .int 0])), (r1, .inl (cI, 3, .inl (fun _ => 0))), (r2, .inl (cI, 30, .inl (fun _ => 0)))] C 0 rfl rfl wu_X6 5 (by decide) wf_X6_15 tyX6 tyX6_ok nmX6 rfl rfl rfl rfl (Nat.le_of_ble_eq_true rfl) rfl dX6_init_16 rfl ?_
  refine n_aload_n 20 C dX6_init_19 rfl (j := 0) rfl rfl ?_
  refine n_bipush 22 (v := 30) C dX6_init_20 (by decide) rfl ?_
  refine n_newa 24 C wa_I (N := 30) (by decide) (by decide) (Nat.le_of_ble_eq_true rfl) (Nat.le_of_ble_eq_true rfl) (Nat.le_of_ble_eq_true rfl) dX6_init_22 rfl (fun r3 => ?_)
  show Gn E rmX6_init 5 24 [(0, .ref h0), (1, .ref p1), (2, .ref p2), (3, .ref p3), (4, .ref p4)] [.ref r3, .ref h0] [(h0, .inr (6, [.null, .null, .null, .null, .ref r1, .ref r2, .null, .null, .null, .null, .int 0])), (r1, .inl (cI, 3, .inl (fun _ => 0))), (r2, .inl (cI, 30, .inl (fun _ => 0))), (r3, .inl (cI, 30, .inl (fun _ => 0)))] 3 63
  refine n_putF 27 [(h0, .inr (6, [.null, .null, .null, .null, .ref r1, .ref r2, .ref r3, .null, .null, .null, .int 0])), (r1, .inl (cI, 3, .inl (fun _ => 0))), (r2, .inl (cI, 30, .inl (fun _ => 0))), (r3, .inl (cI, 30, .inl (fun _ => 0)))] C 0 rfl rfl wu_X6 6 (by decide) wf_X6_18 tyX6 tyX6_ok nmX6 rfl rfl rfl rfl (Nat.le_of_ble_eq_true rfl) rfl dX6_init_24 rfl ?_
  refine n_aload_n 28 C dX6_init_27 rfl (j := 0) rfl rfl ?_
  refine n_bipush 30 (v := 90) C dX6_init_28 (by decide) rfl ?_
  refine n_newa 32 C wa_I (N := 90) (by decide) (by decide) (Nat.le_of_ble_eq_true rfl) (Nat.le_of_ble_eq_true rfl) (Nat.le_of_ble_eq_true rfl) dX6_init_30 rfl (fun r4 => ?_)
  show Gn E rmX6_init 5 32 [(0, .ref h0), (1, .ref p1), (2, .ref p2), (3, .ref p3), (4, .ref p4)] [.ref r4, .ref h0] [(h0, .inr (6, [.null, .null, .null, .null, .ref r1, .ref r2, .ref r3, .null, .null, .null, .int 0])), (r1, .inl (cI, 3, .inl (fun _ => 0))), (r2, .inl (cI, 30, .inl (fun _ => 0))), (r3, .inl (cI, 30, .inl (fun _ => 0))), (r4, .inl (cI, 90, .inl (fun _ => 0)))] 4 153
  refine n_putF 35 [(h0, .inr (6, [.null, .null, .null, .null, .ref r1, .ref r2, .ref r3, .ref r4, .null, .null, .int 0])), (r1, .inl (cI, 3, .inl (fun _ => 0))), (r2, .inl (cI, 30, .inl (fun _ => 0))), (r3, .inl (cI, 30, .inl (fun _ => 0))), (r4, .inl (cI, 90, .inl (fun _ => 0)))] C 0 rfl rfl wu_X6 7 (by decide) wf_X6_21 tyX6 tyX6_ok nmX6 rfl rfl rfl rfl (Nat.le_of_ble_eq_true rfl) rfl dX6_init_32 rfl ?_
  refine n_aload_n 36 C dX6_init_35 rfl (j := 0) rfl rfl ?_
  refine n_bipush 38 (v := 90) C dX6_init_36 (by decide) rfl ?_
  refine n_newa 40 C wa_I (N := 90) (by decide) (by decide) (Nat.le_of_ble_eq_true rfl) (Nat.le_of_ble_eq_true rfl) (Nat.le_of_ble_eq_true rfl) dX6_init_38 rfl (fun r5 => ?_)
  show Gn E rmX6_init 5 40 [(0, .ref h0), (1, .ref p1), (2, .ref p2), (3, .ref p3), (4, .ref p4)] [.ref r5, .ref h0] [(h0, .inr (6, [.null, .null, .null, .null, .ref r1, .ref r2, .ref r3, .ref r4, .null, .null, .int 0])), (r1, .inl (cI, 3, .inl (fun _ => 0))), (r2, .inl (cI, 30, .inl (fun _ => 0))), (r3, .inl (cI, 30, .inl (fun _ => 0))), (r4, .inl (cI, 90, .inl (fun _ => 0))), (r5, .inl (cI, 90, .inl (fun _ => 0)))] 5 243
  refine n_putF 43 [(h0, .inr (6, [.null, .null, .null, .null, .ref r1, .ref r2, .ref r3, .ref r4, .ref r5, .null, .int 0])), (r1, .inl (cI, 3, .inl (fun _ => 0))), (r2, .inl (cI, 30, .inl (fun _ => 0))), (r3, .inl (cI, 30, .inl (fun _ => 0))), (r4, .inl (cI, 90, .inl (fun _ => 0))), (r5, .inl (cI, 90, .inl (fun _ => 0)))] C 0 rfl rfl wu_X6 8 (by decide) wf_X6_24 tyX6 tyX6_ok nmX6 rfl rfl rfl rfl (Nat.le_of_ble_eq_true rfl) rfl dX6_init_40 rfl ?_
  refine n_aload_n 44 C dX6_init_43 rfl (j := 0) rfl rfl ?_
  refine n_sipush 47 (v := 400) C dX6_init_44 (by decide) rfl ?_
  refine n_newa 49 C wa_I (N := 400) (by decide) (by decide) (Nat.le_of_ble_eq_true rfl) (Nat.le_of_ble_eq_true rfl) (Nat.le_of_ble_eq_true rfl) dX6_init_47 rfl (fun r6 => ?_)
  show Gn E rmX6_init 5 49 [(0, .ref h0), (1, .ref p1), (2, .ref p2), (3, .ref p3), (4, .ref p4)] [.ref r6, .ref h0] [(h0, .inr (6, [.null, .null, .null, .null, .ref r1, .ref r2, .ref r3, .ref r4, .ref r5, .null, .int 0])), (r1, .inl (cI, 3, .inl (fun _ => 0))), (r2, .inl (cI, 30, .inl (fun _ => 0))), (r3, .inl (cI, 30, .inl (fun _ => 0))), (r4, .inl (cI, 90, .inl (fun _ => 0))), (r5, .inl (cI, 90, .inl (fun _ => 0))), (r6, .inl (cI, 400, .inl (fun _ => 0)))] 6 643
  refine n_putF 52 [(h0, .inr (6, [.null, .null, .null, .null, .ref r1, .ref r2, .ref r3, .ref r4, .ref r5, .ref r6, .int 0])), (r1, .inl (cI, 3, .inl (fun _ => 0))), (r2, .inl (cI, 30, .inl (fun _ => 0))), (r3, .inl (cI, 30, .inl (fun _ => 0))), (r4, .inl (cI, 90, .inl (fun _ => 0))), (r5, .inl (cI, 90, .inl (fun _ => 0))), (r6, .inl (cI, 400, .inl (fun _ => 0)))] C 0 rfl rfl wu_X6 9 (by decide) wf_X6_27 tyX6 tyX6_ok nmX6 rfl rfl rfl rfl (Nat.le_of_ble_eq_true rfl) rfl dX6_init_49 rfl ?_
  refine n_aload_n 53 C dX6_init_52 rfl (j := 0) rfl rfl ?_
  refine n_aload_n 54 C dX6_init_53 rfl (j := 1) rfl rfl ?_
  refine n_putF 57 [(h0, .inr (6, [.ref p1, .null, .null, .null, .ref r1, .ref r2, .ref r3, .ref r4, .ref r5, .ref r6, .int 0])), (r1, .inl (cI, 3, .inl (fun _ => 0))), (r2, .inl (cI, 30, .inl (fun _ => 0))), (r3, .inl (cI, 30, .inl (fun _ => 0))), (r4, .inl (cI, 90, .inl (fun _ => 0))), (r5, .inl (cI, 90, .inl (fun _ => 0))), (r6, .inl (cI, 400, .inl (fun _ => 0)))] C 0 rfl rfl wu_X6 0 (by decide) wf_X6_30 tyX6 tyX6_ok nmX6 rfl rfl rfl rfl (Nat.le_of_ble_eq_true rfl) rfl dX6_init_54 rfl ?_
  refine n_aload_n 58 C dX6_init_57 rfl (j := 0) rfl rfl ?_
  refine n_aload_n 59 C dX6_init_58 rfl (j := 2) rfl rfl ?_
  refine n_putF 62 [(h0, .inr (6, [.ref p1, .ref p2, .null, .null, .ref r1, .ref r2, .ref r3, .ref r4, .ref r5, .ref r6, .int 0])), (r1, .inl (cI, 3, .inl (fun _ => 0))), (r2, .inl (cI, 30, .inl (fun _ => 0))), (r3, .inl (cI, 30, .inl (fun _ => 0))), (r4, .inl (cI, 90, .inl (fun _ => 0))), (r5, .inl (cI, 90, .inl (fun _ => 0))), (r6, .inl (cI, 400, .inl (fun _ => 0)))] C 0 rfl rfl wu_X6 1 (by decide) wf_X6_34 tyX6 tyX6_ok nmX6 rfl rfl rfl rfl (Nat.le_of_ble_eq_true rfl) rfl dX6_init_59 rfl ?_
  refine n_aload_n 63 C dX6_init_62 rfl (j := 0) rfl rfl ?_
  refine n_aload_n 64 C dX6_init_63 rfl (j := 3) rfl rfl ?_
  refine n_putF 67 [(h0, .inr (6, [.ref p1, .ref p2, .ref p3, .null, .ref r1, .ref r2, .ref r3, .ref r4, .ref r5, .ref r6, .int 0])), (r1, .inl (cI, 3, .inl (fun _ => 0))), (r2, .inl (cI, 30, .inl (fun _ => 0))), (r3, .inl (cI, 30, .inl (fun _ => 0))), (r4, .inl (cI, 90, .inl (fun _ => 0))), (r5, .inl (cI, 90, .inl (fun _ => 0))), (r6, .inl (cI, 400, .inl (fun _ => 0)))] C 0 rfl rfl wu_X6 2 (by decide) wf_X6_38 tyX6 tyX6_ok nmX6 rfl rfl rfl rfl (Nat.le_of_ble_eq_true rfl) rfl dX6_init_64 rfl ?_
  refine n_aload_n 68 C dX6_init_67 rfl (j := 0) rfl rfl ?_
  refine n_aload 70 C dX6_init_68 (j := 4) rfl rfl ?_
  refine n_putF 73 [(h0, .inr (6, [.ref p1, .ref p2, .ref p3, .ref p4, .ref r1, .ref r2, .ref r3, .ref r4, .ref r5, .ref r6, .int 0])), (r1, .inl (cI, 3, .inl (fun _ => 0))), (r2, .inl (cI, 30, .inl (fun _ => 0))), (r3, .inl (cI, 30, .inl (fun _ => 0))), (r4, .inl (cI, 90, .inl (fun _ => 0))), (r5, .inl (cI, 90, .inl (fun _ => 0))), (r6, .inl (cI, 400, .inl (fun _ => 0)))] C 0 rfl rfl wu_X6 3 (by decide) wf_X6_42 tyX6 tyX6_ok nmX6 rfl rfl rfl rfl (Nat.le_of_ble_eq_true rfl) rfl dX6_init_70 rfl ?_
  exact K0 _ _ (r1, r2, r3, r4, r5, r6) dX6_init_73
theorem qX2_init : yX2_init.cls ≠ "java/lang/invoke/MethodHandle" ∧ yX2_init.cls ≠ "java/lang/invoke/VarHandle" ∧ (parseMethodDescriptor yX2_init.desc).map (fun d => d.parameters.length) = some 1 := by decide +kernel
theorem DX2_init : ∀ q ∈ ([(0, .aload_n 0, 1), (1, .invokespecial 3, 3), (4, .aload_n 0, 1), (5, .bipush 84, 2), (7, .newarray .int, 2), (9, .putfield 9, 3), (12, .aload_n 0, 1), (13, .bipush 84, 2), (15, .newarray .int, 2), (17, .putfield 15, 3), (20, .aload_n 0, 1), (21, .sipush 343, 3), (24, .newarray .int, 2), (26, .putfield 18, 3), (29, .aload_n 0, 1), (30, .bipush 21, 2), (32, .newarray .int, 2), (34, .putfield 21, 3), (37, .aload_n 0, 1), (38, .iload_n 1, 1), (39, .putfield 24, 3), (42, .iconst 0, 1), (43, .istore_n 2, 1), (44, .iconst 0, 1), (45, .istore_n 3, 1), (46, .iload_n 3, 1), (47, .sipush 343, 3), (50, .if_icmp .ge 66, 3), (53, .iload_n 3, 1), (54, .bipush 7, 2), (56, .irem, 1), (57, .iload_n 3, 1), (58, .bipush 7, 2), (60, .idiv, 1), (61, .bipush 7, 2), (63, .irem, 1), (64, .iadd, 1), (65, .iload_n 3, 1), (66, .bipush 49, 2), (68, .idiv, 1), (69, .iadd, 1), (70, .istore 4, 2), (72, .iload 4, 2), (74, .bipush 6, 2), (76, .if_icmp .gt 34, 3), (79, .iload_n 2, 1), (80, .bipush 84, 2), (82, .if_icmp .ge 28, 3), (85, .aload_n 0, 1), (86, .getfield 9, 3), (89, .iload_n 2, 1), (90, .iload_n 3, 1), (91, .iastore, 1), (92, .aload_n 0, 1), (93, .getfield 15, 3), (96, .iload_n 2, 1), (97, .iload 4, 2), (99, .iastore, 1), (100, .aload_n 0, 1), (101, .getfield 18, 3), (104, .iload_n 3, 1), (105, .iload_n 2, 1), (106, .iastore, 1), (107, .iinc 2 1, 3), (110, .iinc 3 1, 3), (113, .goto (-67), 3), (116, .return_, 1)] : List (Nat × Instr × Nat)), decode cX2_init q.1 = .ok q.2 := by decide +kernel
theorem dX2_init_0 : decode cX2_init 0 = .ok (.aload_n 0, 1) := DX2_init (0, .aload_n 0, 1) (List.mem_of_getElem? (i := 0) rfl)
theorem dX2_init_1 : decode cX2_init 1 = .ok (.invokespecial 3, 3) := DX2_init (1, .invokespecial 3, 3) (List.mem_of_getElem? (i := 1) rfl)
theorem dX2_init_4 : decode cX2_init 4 = .ok (.aload_n 0, 1) := DX2_init (4, .aload_n 0, 1) (List.mem_of_getElem? (i := 2) rfl)
theorem dX2_init_5 : decode cX2_init 5 = .ok (.bipush 84, 2) := DX2_init (5, .bipush 84, 2) (List.mem_of_getElem? (i := 3) rfl)
theorem dX2_init_7 : decode cX2_init 7 = .ok (.newarray .int, 2) := DX2_init (7, .newarray .int, 2) (List.mem_of_getElem? (i := 4) rfl)
theorem dX2_init_9 : decode cX2_init 9 = .ok (.putfield 9, 3) := DX2_init (9, .putfield 9, 3) (List.mem_of_getElem? (i := 5) rfl)
theorem dX2_init_12 : decode cX2_init 12 = .ok (.aload_n 0, 1) := DX2_init (12, .aload_n 0, 1) (List.mem_of_getElem? (i := 6) rfl)
theorem dX2_init_13 : decode cX2_init 13 = .ok (.bipush 84, 2) := DX2_init (13, .bipush 84, 2) (List.mem_of_getElem? (i := 7) rfl)
theorem dX2_init_15 : decode cX2_init 15 = .ok (.newarray .int, 2) := DX2_init (15, .newarray .int, 2) (List.mem_of_getElem? (i := 8) rfl)
theorem dX2_init_17 : decode cX2_init 17 = .ok (.putfield 15, 3) := DX2_init (17, .putfield 15, 3) (List.mem_of_getElem? (i := 9) rfl)
theorem dX2_init_20 : decode cX2_init 20 = .ok (.aload_n 0, 1) := DX2_init (20, .aload_n 0, 1) (List.mem_of_getElem? (i := 10) rfl)
theorem dX2_init_21 : decode cX2_init 21 = .ok (.sipush 343, 3) := DX2_init (21, .sipush 343, 3) (List.mem_of_getElem? (i := 11) rfl)
theorem dX2_init_24 : decode cX2_init 24 = .ok (.newarray .int, 2) := DX2_init (24, .newarray .int, 2) (List.mem_of_getElem? (i := 12) rfl)
theorem dX2_init_26 : decode cX2_init 26 = .ok (.putfield 18, 3) := DX2_init (26, .putfield 18, 3) (List.mem_of_getElem? (i := 13) rfl)
theorem dX2_init_29 : decode cX2_init 29 = .ok (.aload_n 0, 1) := DX2_init (29, .aload_n 0, 1) (List.mem_of_getElem? (i := 14) rfl)
theorem dX2_init_30 : decode cX2_init 30 = .ok (.bipush 21, 2) := DX2_init (30, .bipush 21, 2) (List.mem_of_getElem? (i := 15) rfl)
theorem dX2_init_32 : decode cX2_init 32 = .ok (.newarray .int, 2) := DX2_init (32, .newarray .int, 2) (List.mem_of_getElem? (i := 16) rfl)
theorem dX2_init_34 : decode cX2_init 34 = .ok (.putfield 21, 3) := DX2_init (34, .putfield 21, 3) (List.mem_of_getElem? (i := 17) rfl)
theorem dX2_init_37 : decode cX2_init 37 = .ok (.aload_n 0, 1) := DX2_init (37, .aload_n 0, 1) (List.mem_of_getElem? (i := 18) rfl)
theorem dX2_init_38 : decode cX2_init 38 = .ok (.iload_n 1, 1) := DX2_init (38, .iload_n 1, 1) (List.mem_of_getElem? (i := 19) rfl)
theorem dX2_init_39 : decode cX2_init 39 = .ok (.putfield 24, 3) := DX2_init (39, .putfield 24, 3) (List.mem_of_getElem? (i := 20) rfl)
theorem dX2_init_42 : decode cX2_init 42 = .ok (.iconst 0, 1) := DX2_init (42, .iconst 0, 1) (List.mem_of_getElem? (i := 21) rfl)
theorem dX2_init_43 : decode cX2_init 43 = .ok (.istore_n 2, 1) := DX2_init (43, .istore_n 2, 1) (List.mem_of_getElem? (i := 22) rfl)
theorem dX2_init_44 : decode cX2_init 44 = .ok (.iconst 0, 1) := DX2_init (44, .iconst 0, 1) (List.mem_of_getElem? (i := 23) rfl)
theorem dX2_init_45 : decode cX2_init 45 = .ok (.istore_n 3, 1) := DX2_init (45, .istore_n 3, 1) (List.mem_of_getElem? (i := 24) rfl)
theorem dX2_init_46 : decode cX2_init 46 = .ok (.iload_n 3, 1) := DX2_init (46, .iload_n 3, 1) (List.mem_of_getElem? (i := 25) rfl)
theorem dX2_init_47 : decode cX2_init 47 = .ok (.sipush 343, 3) := DX2_init (47, .sipush 343, 3) (List.mem_of_getElem? (i := 26) rfl)
theorem dX2_init_50 : decode cX2_init 50 = .ok (.if_icmp .ge 66, 3) := DX2_init (50, .if_icmp .ge 66, 3) (List.mem_of_getElem? (i := 27) rfl)
theorem dX2_init_53 : decode cX2_init 53 = .ok (.iload_n 3, 1) := DX2_init (53, .iload_n 3, 1) (List.mem_of_getElem? (i := 28) rfl)
theorem dX2_init_54 : decode cX2_init 54 = .ok (.bipush 7, 2) := DX2_init (54, .bipush 7, 2) (List.mem_of_getElem? (i := 29) rfl)
theorem dX2_init_56 : decode cX2_init 56 = .ok (.irem, 1) := DX2_init (56, .irem, 1) (List.mem_of_getElem? (i := 30) rfl)
theorem dX2_init_57 : decode cX2_init 57 = .ok (.iload_n 3, 1) := DX2_init (57, .iload_n 3, 1) (List.mem_of_getElem? (i := 31) rfl)
theorem dX2_init_58 : decode cX2_init 58 = .ok (.bipush 7, 2) := DX2_init (58, .bipush 7, 2) (List.mem_of_getElem? (i := 32) rfl)
theorem dX2_init_60 : decode cX2_init 60 = .ok (.idiv, 1) := DX2_init (60, .idiv, 1) (List.mem_of_getElem? (i := 33) rfl)
theorem dX2_init_61 : decode cX2_init 61 = .ok (.bipush 7, 2) := DX2_init (61, .bipush 7, 2) (List.mem_of_getElem? (i := 34) rfl)
theorem dX2_init_63 : decode cX2_init 63 = .ok (.irem, 1) := DX2_init (63, .irem, 1) (List.mem_of_getElem? (i := 35) rfl)
theorem dX2_init_64 : decode cX2_init 64 = .ok (.iadd, 1) := DX2_init (64, .iadd, 1) (List.mem_of_getElem? (i := 36) rfl)
theorem dX2_init_65 : decode cX2_init 65 = .ok (.iload_n 3, 1) := DX2_init (65, .iload_n 3, 1) (List.mem_of_getElem? (i := 37) rfl)
theorem dX2_init_66 : decode cX2_init 66 = .ok (.bipush 49, 2) := DX2_init (66, .bipush 49, 2) (List.mem_of_getElem? (i := 38) rfl)
theorem dX2_init_68 : decode cX2_init 68 = .ok (.idiv, 1) := DX2_init (68, .idiv, 1) (List.mem_of_getElem? (i := 39) rfl)
theorem dX2_init_69 : decode cX2_init 69 = .ok (.iadd, 1) := DX2_init (69, .iadd, 1) (List.mem_of_getElem? (i := 40) rfl)
theorem dX2_init_70 : decode cX2_init 70 = .ok (.istore 4, 2) := DX2_init (70, .istore 4, 2) (List.mem_of_getElem? (i := 41) rfl)
theorem dX2_init_72 : decode cX2_init 72 = .ok (.iload 4, 2) := DX2_init (72, .iload 4, 2) (List.mem_of_getElem? (i := 42) rfl)
theorem dX2_init_74 : decode cX2_init 74 = .ok (.bipush 6, 2) := DX2_init (74, .bipush 6, 2) (List.mem_of_getElem? (i := 43) rfl)
theorem dX2_init_76 : decode cX2_init 76 = .ok (.if_icmp .gt 34, 3) := DX2_init (76, .if_icmp .gt 34, 3) (List.mem_of_getElem? (i := 44) rfl)
theorem dX2_init_79 : decode cX2_init 79 = .ok (.iload_n 2, 1) := DX2_init (79, .iload_n 2, 1) (List.mem_of_getElem? (i := 45) rfl)
theorem dX2_init_80 : decode cX2_init 80 = .ok (.bipush 84, 2) := DX2_init (80, .bipush 84, 2) (List.mem_of_getElem? (i := 46) rfl)
theorem dX2_init_82 : decode cX2_init 82 = .ok (.if_icmp .ge 28, 3) := DX2_init (82, .if_icmp .ge 28, 3) (List.mem_of_getElem? (i := 47) rfl)
theorem dX2_init_85 : decode cX2_init 85 = .ok (.aload_n 0, 1) := DX2_init (85, .aload_n 0, 1) (List.mem_of_getElem? (i := 48) rfl)
theorem dX2_init_86 : decode cX2_init 86 = .ok (.getfield 9, 3) := DX2_init (86, .getfield 9, 3) (List.mem_of_getElem? (i := 49) rfl)
theorem dX2_init_89 : decode cX2_init 89 = .ok (.iload_n 2, 1) := DX2_init (89, .iload_n 2, 1) (List.mem_of_getElem? (i := 50) rfl)
theorem dX2_init_90 : decode cX2_init 90 = .ok (.iload_n 3, 1) := DX2_init (90, .iload_n 3, 1) (List.mem_of_getElem? (i := 51) rfl)
theorem dX2_init_91 : decode cX2_init 91 = .ok (.iastore, 1) := DX2_init (91, .iastore, 1) (List.mem_of_getElem? (i := 52) rfl)
theorem dX2_init_92 : decode cX2_init 92 = .ok (.aload_n 0, 1) := DX2_init (92, .aload_n 0, 1) (List.mem_of_getElem? (i := 53) rfl)
theorem dX2_init_93 : decode cX2_init 93 = .ok (.getfield 15, 3) := DX2_init (93, .getfield 15, 3) (List.mem_of_getElem? (i := 54) rfl)
theorem dX2_init_96 : decode cX2_init 96 = .ok (.iload_n 2, 1) := DX2_init (96, .iload_n 2, 1) (List.mem_of_getElem? (i := 55) rfl)
theorem dX2_init_97 : decode cX2_init 97 = .ok (.iload 4, 2) := DX2_init (97, .iload 4, 2) (List.mem_of_getElem? (i := 56) rfl)
theorem dX2_init_99 : decode cX2_init 99 = .ok (.iastore, 1) := DX2_init (99, .iastore, 1) (List.mem_of_getElem? (i := 57) rfl)
theorem dX2_init_100 : decode cX2_init 100 = .ok (.aload_n 0, 1) := DX2_init (100, .aload_n 0, 1) (List.mem_of_getElem? (i := 58) rfl)
theorem dX2_init_101 : decode cX2_init 101 = .ok (.getfield 18, 3) := DX2_init (101, .getfield 18, 3) (List.mem_of_getElem? (i := 59) rfl)
theorem dX2_init_104 : decode cX2_init 104 = .ok (.iload_n 3, 1) := DX2_init (104, .iload_n 3, 1) (List.mem_of_getElem? (i := 60) rfl)
theorem dX2_init_105 : decode cX2_init 105 = .ok (.iload_n 2, 1) := DX2_init (105, .iload_n 2, 1) (List.mem_of_getElem? (i := 61) rfl)
theorem dX2_init_106 : decode cX2_init 106 = .ok (.iastore, 1) := DX2_init (106, .iastore, 1) (List.mem_of_getElem? (i := 62) rfl)
theorem dX2_init_107 : decode cX2_init 107 = .ok (.iinc 2 1, 3) := DX2_init (107, .iinc 2 1, 3) (List.mem_of_getElem? (i := 63) rfl)
theorem dX2_init_110 : decode cX2_init 110 = .ok (.iinc 3 1, 3) := DX2_init (110, .iinc 3 1, 3) (List.mem_of_getElem? (i := 64) rfl)
theorem dX2_init_113 : decode cX2_init 113 = .ok (.goto (-67), 3) := DX2_init (113, .goto (-67), 3) (List.mem_of_getElem? (i := 65) rfl)
theorem dX2_init_116 : decode cX2_init 116 = .ok (.return_, 1) := DX2_init (116, .return_, 1) (List.mem_of_getElem? (i := 66) rfl)
def layC : Ly := [.inr (2, [none, some 1, some 2, some 3, some 4]), .inl 84, .inl 84, .inl 343, .inl 21]
abbrev rmX2_init : Room := { frames := 1, cells := 4, slots := 532, locals := 12 }
noncomputable def fX2_init_L110 (l2 : Int32) (l3 : Int32) (σ : Mem) : Option ((Int32 × Int32 × Mem) ⊕ (Mem)) :=
  some (.inl (l2, l3 + 1, σ))
set_option maxHeartbeats 4000000 in
set_option maxRecDepth 100000 in
theorem tX2_init_L110 {E : Gx} {cI : ClassId} {ad : Nat → Nat} (C : Cx E rmX2_init cI layC ad 5 RX2 cX2_init) {out : Mem} (K0 : KV E rmX2_init cI layC ad 5 cX2_init out) {l2 : Int32} {l3 : Int32} {σ : Mem} {res : (Int32 × Int32 × Mem) ⊕ (Mem)} (h : fX2_init_L110 l2 l3 σ = some res) (K : Sum.elim (fun a => G E rmX2_init cI layC ad 5 46 [(0, .ref (ad 0)), (2, .int a.1), (3, .int a.2.1)] [] a.2.2) (fun b => G E rmX2_init cI layC ad 5 116 [] [] b) res) : G E rmX2_init cI layC ad 5 110 [(0, .ref (ad 0)), (2, .int l2), (3, .int l3)] [] σ := by
  unfold fX2_init_L110 at h
  refine g_iinc 113 [(3, .int (l3 + 1)), (0, .ref (ad 0)), (2, .int l2)] C dX2_init_110 (j := 2) rfl (by rfl) (by decide) rfl rfl ?_
  refine g_goto 46 C dX2_init_113 (by decide) ?_
  have hh := end_inl h K
  exact g_sub [1, 2, 0] (hh) rfl
noncomputable def fX2_init_B46 (l2 : Int32) (l3 : Int32) (σ : Mem) : Option ((Int32 × Int32 × Mem) ⊕ (Mem)) :=
  if 343 ≤ l3 then
    some (.inr σ)
  else
    if 6 < (((l3 - l3 / 7 * 7) + ((l3 / 7) - (l3 / 7) / 7 * 7)) + (l3 / 49)) then
      fX2_init_L110 l2 l3 σ
    else
      if 84 ≤ l2 then
        fX2_init_L110 l2 l3 σ
      else
        chk (inb l2 84) <|
        chk (inb l2 84) <|
        chk (inb l3 343) <|
        fX2_init_L110 (l2 + 1) l3 (up2 (up2 (up2 σ 1 l2.toNatClampNeg l3) 2 l2.toNatClampNeg (((l3 - l3 / 7 * 7) + ((l3 / 7) - (l3 / 7) / 7 * 7)) + (l3 / 49))) 3 l3.toNatClampNeg l2)
set_option maxHeartbeats 4000000 in
set_option maxRecDepth 100000 in
theorem tX2_init_B46 {E : Gx} {cI : ClassId} {ad : Nat → Nat} (C : Cx E rmX2_init cI layC ad 5 RX2 cX2_init) {out : Mem} (K0 : KV E rmX2_init cI layC ad 5 cX2_init out) {l2 : Int32} {l3 : Int32} {σ : Mem} {res : (Int32 × Int32 × Mem) ⊕ (Mem)} (h : fX2_init_B46 l2 l3 σ = some res) (K : Sum.elim (fun a => G E rmX2_init cI layC ad 5 46 [(0, .ref (ad 0)), (2, .int a.1), (3, .int a.2.1)] [] a.2.2) (fun b => G E rmX2_init cI layC ad 5 116 [] [] b) res) : G E rmX2_init cI layC ad 5 46 [(0, .ref (ad 0)), (2, .int l2), (3, .int l3)] [] σ := by
  unfold fX2_init_B46 at h
  refine g_iload_n 47 C dX2_init_46 rfl (j := 2) rfl rfl ?_
  refine g_sipush 50 (v := 343) C dX2_init_47 (by decide) rfl ?_
  refine g_icmp_ge 116 53 C dX2_init_50 (by decide) rfl h (fun h => ?_) (fun h => ?_)
  · have hh := end_inr h K
    exact g_sub [] (hh) rfl
  · refine g_iload_n 54 C dX2_init_53 rfl (j := 2) rfl rfl ?_
    refine g_bipush 56 (v := 7) C dX2_init_54 (by decide) rfl ?_
    refine g_irem 57 C dX2_init_56 (by decide) rfl ?_
    refine g_iload_n 58 C dX2_init_57 rfl (j := 2) rfl rfl ?_
    refine g_bipush 60 (v := 7) C dX2_init_58 (by decide) rfl ?_
    refine g_idiv 61 C dX2_init_60 (by decide) rfl ?_
    refine g_bipush 63 (v := 7) C dX2_init_61 (by decide) rfl ?_
    refine g_irem 64 C dX2_init_63 (by decide) rfl ?_
    refine g_iadd 65 C dX2_init_64 rfl ?_
    refine g_iload_n 66 C dX2_init_65 rfl (j := 2) rfl rfl ?_
    refine g_bipush 68 (v := 49) C dX2_init_66 (by decide) rfl ?_
    refine g_idiv 69 C dX2_init_68 (by decide) rfl ?_
    refine g_iadd 70 C dX2_init_69 rfl ?_
    refine g_istore 72 [(4, .int (((l3 - l3 / 7 * 7) + ((l3 / 7) - (l3 / 7) / 7 * 7)) + (l3 / 49))), (0, .ref (ad 0)), (2, .int l2), (3, .int l3)] C dX2_init_70 (by decide) rfl rfl ?_
    refine g_iload 74 C dX2_init_72 (j := 0) rfl rfl ?_
    refine g_bipush 76 (v := 6) C dX2_init_74 (by decide) rfl ?_
    refine g_icmp_gt 110 79 C dX2_init_76 (by decide) rfl h (fun h => ?_) (fun h => ?_)
    · exact g_sub [1, 2, 3] (tX2_init_L110 (l2 := l2) (l3 := l3) (σ := σ) C K0 h K) rfl
    · refine g_iload_n 80 C dX2_init_79 rfl (j := 2) rfl rfl ?_
      refine g_bipush 82 (v := 84) C dX2_init_80 (by decide) rfl ?_
      refine g_icmp_ge 110 85 C dX2_init_82 (by decide) rfl h (fun h => ?_) (fun h => ?_)
      · exact g_sub [1, 2, 3] (tX2_init_L110 (l2 := l2) (l3 := l3) (σ := σ) C K0 h K) rfl
      · refine g_aload_n 86 C dX2_init_85 rfl (j := 1) rfl rfl ?_
        refine g_getr 89 (j := 1) C rfl rfl wu_X2 (by decide) wf_X2_9 rfl dX2_init_86 rfl ?_
        refine g_iload_n 90 C dX2_init_89 rfl (j := 2) rfl rfl ?_
        refine g_iload_n 91 C dX2_init_90 rfl (j := 3) rfl rfl ?_
        refine g_iast 92 C rfl dX2_init_91 rfl h (fun h => ?_)
        refine g_aload_n 93 C dX2_init_92 rfl (j := 1) rfl rfl ?_
        refine g_getr 96 (j := 2) C rfl rfl wu_X2 (by decide) wf_X2_15 rfl dX2_init_93 rfl ?_
        refine g_iload_n 97 C dX2_init_96 rfl (j := 2) rfl rfl ?_
        refine g_iload 99 C dX2_init_97 (j := 0) rfl rfl ?_
        refine g_iast 100 C rfl dX2_init_99 rfl h (fun h => ?_)
        refine g_aload_n 101 C dX2_init_100 rfl (j := 1) rfl rfl ?_
        refine g_getr 104 (j := 3) C rfl rfl wu_X2 (by decide) wf_X2_18 rfl dX2_init_101 rfl ?_
        refine g_iload_n 105 C dX2_init_104 rfl (j := 3) rfl rfl ?_
        refine g_iload_n 106 C dX2_init_105 rfl (j := 2) rfl rfl ?_
        refine g_iast 107 C rfl dX2_init_106 rfl h (fun h => ?_)
        refine g_iinc 110 [(2, .int (l2 + 1)), (4, .int (((l3 - l3 / 7 * 7) + ((l3 / 7) - (l3 / 7) / 7 * 7)) + (l3 / 49))), (0, .ref (ad 0)), (3, .int l3)] C dX2_init_107 (j := 2) rfl (by rfl) (by decide) rfl rfl ?_
        exact g_sub [2, 0, 3] (tX2_init_L110 (l2 := (l2 + 1)) (l3 := l3) (σ := up2 (up2 (up2 σ 1 l2.toNatClampNeg l3) 2 l2.toNatClampNeg (((l3 - l3 / 7 * 7) + ((l3 / 7) - (l3 / 7) / 7 * 7)) + (l3 / 49))) 3 l3.toNatClampNeg l2) C K0 h K) rfl
noncomputable def fX2_init_L116 (σ : Mem) : Option (Mem) :=
  some σ
set_option maxHeartbeats 4000000 in
set_option maxRecDepth 100000 in
theorem tX2_init_L116 {E : Gx} {cI : ClassId} {ad : Nat → Nat} (C : Cx E rmX2_init cI layC ad 5 RX2 cX2_init) {out : Mem} (K0 : KV E rmX2_init cI layC ad 5 cX2_init out) {σ : Mem} (h : fX2_init_L116 σ = some out) : G E rmX2_init cI layC ad 5 116 [] [] σ := by
  unfold fX2_init_L116 at h
  cases h
  exact K0 _ _ dX2_init_116
noncomputable def fX2_init_L42 (σ : Mem) : Option (Mem) :=
  (loop (fun a => fX2_init_B46 a.1 a.2.1 a.2.2) (0, 0, σ)).bind fun b1 =>
  fX2_init_L116 b1
set_option maxHeartbeats 4000000 in
set_option maxRecDepth 100000 in
theorem tX2_init_L42 {E : Gx} {cI : ClassId} {ad : Nat → Nat} (C : Cx E rmX2_init cI layC ad 5 RX2 cX2_init) {out : Mem} (K0 : KV E rmX2_init cI layC ad 5 cX2_init out) {σ : Mem} (h : fX2_init_L42 σ = some out) : G E rmX2_init cI layC ad 5 42 [(0, .ref (ad 0))] [] σ := by
  unfold fX2_init_L42 at h
  refine g_iconst 43 (v := 0) C dX2_init_42 (by decide) rfl ?_
  refine g_istore_n 44 [(2, .int 0), (0, .ref (ad 0))] C dX2_init_43 rfl (by decide) rfl rfl ?_
  refine g_iconst 45 (v := 0) C dX2_init_44 (by decide) rfl ?_
  refine g_istore_n 46 [(3, .int 0), (2, .int 0), (0, .ref (ad 0))] C dX2_init_45 rfl (by decide) rfl rfl ?_
  obtain ⟨b1, hb, h⟩ := bind_some h
  refine g_sub [2, 1, 0] (g_loop (a := (0, 0, σ)) (fun a => G E rmX2_init cI layC ad 5 46 [(0, .ref (ad 0)), (2, .int a.1), (3, .int a.2.1)] [] a.2.2) (fun b => G E rmX2_init cI layC ad 5 116 [] [] b) hb (fun a res h K => tX2_init_B46 (l2 := a.1) (l3 := a.2.1) (σ := a.2.2) (res := res) C K0 h K) ?_) rfl
  show G E rmX2_init cI layC ad 5 116 [] [] b1
  exact tX2_init_L116 (σ := b1) C K0 h
def mono0 (p1 : Int32) : Mem := fun k => ([fun j => ([p1] : List Int32).getD j 0] : List (Nat → Int32)).getD k (fun _ => 0)
/-- from a world of rows to the judgement G -/
theorem n_toG {E : Gx} {R : Room} {cI : ClassId} {lay : Ly} {ad : Nat → Nat} {nL pc : Nat} {lv : List (Nat × Value)} {st : List Value} {σ : Mem} (k : va_D (fun _ => True) (wof cI ad (fun _ _ => 0) 0 lay) → (∀ q, Aw lay ad q → AOf E q) → G E R cI lay ad nL pc lv st σ) : Gn E R nL pc lv st (wof cI ad σ 0 lay) (ceOf E) (slOf E) := by
  obtain ⟨p, l, e, s, m, args, below, meth, c, D, Q, A, ce0, sl0⟩ := E
  intro H locs ls hP hD hS hl
  refine k ?_ ?_ H locs ls hP hS hl
  · have h1 := D_of (σ := fun _ _ => 0) (hD.weaken (B := fun _ => True) (fun _ _ _ _ => trivial))
    exact h1.weaken (fun _ _ _ _ => trivial)
  · intro q hq
    obtain ⟨k, hk, rfl⟩ := hq
    have hx : lay[k]? = some lay[k] := List.getElem?_eq_getElem hk
    exact hD.2 k _ (wof_at hx)
theorem n_ofG {E : Gx} {R : Room} {cI : ClassId} {lay : Ly} {ad : Nat → Nat} {nL pc : Nat} {lv : List (Nat × Value)} {st : List Value} {σ : Mem} (hA : ∀ q, Aw lay ad q → AOf E q) (hD : va_D (fun _ => True) (wof cI ad (fun _ _ => 0) 0 lay)) (k : Gn E R nL pc lv st (wof cI ad σ 0 lay) (ceOf E) (slOf E)) : G E R cI lay ad nL pc lv st σ := by
  obtain ⟨p, l, e, s, m, args, below, meth, c, D, Q, A, ce0, sl0⟩ := E
  intro H locs ls hP hS hl
  exact k H locs ls hP ((D_of hD).weaken (fun _ _ _ h => hA _ h)) hS hl
set_option maxHeartbeats 4000000 in
set_option maxRecDepth 100000 in
theorem mX2_init {l : Launch} {D : va_G} {cI : ClassId} {h0 : Nat} {p1 : Int32} {τ : Mem} (h : fX2_init_L42 (mono0 p1) = some τ) : MN l D cI yX2_init cX2_init 5 rmX2_init h0 2 [.int 0, .null, .null, .null, .null] [.int p1] (fun u : Nat × Nat × Nat × Nat => [(h0, .inr (2, [.int (τ 0 0), .ref u.1, .ref u.2.1, .ref u.2.2.1, .ref u.2.2.2])), (u.1, .inl (cI, 84, .inl (τ 1))), (u.2.1, .inl (cI, 84, .inl (τ 2))), (u.2.2.1, .inl (cI, 343, .inl (τ 3))), (u.2.2.2, .inl (cI, 21, .inl (τ 4)))]) 4 532 := by
  refine met_n (by decide) rfl (Nat.le_of_ble_eq_true rfl) (fun E C K0 hce hsl => ?_)
  show Gn E rmX2_init 5 0 [(0, .ref h0), (1, .int p1)] [] [(h0, .inr (2, [.int 0, .null, .null, .null, .null]))] 0 0
  refine n_aload_n 1 C dX2_init_0 rfl (j := 0) rfl rfl ?_
  refine n_obj 4 C wo_X2 wo_i wo_c (by decide) (Nat.le_of_ble_eq_true rfl) dX2_init_1 rfl ?_
  refine n_aload_n 5 C dX2_init_4 rfl (j := 0) rfl rfl ?_
  refine n_bipush 7 (v := 84) C dX2_init_5 (by decide) rfl ?_
  refine n_newa 9 C wa_I (N := 84) (by decide) (by decide) (Nat.le_of_ble_eq_true rfl) (Nat.le_of_ble_eq_true rfl) (Nat.le_of_ble_eq_true rfl) dX2_init_7 rfl (fun r1 => ?_)
  show Gn E rmX2_init 5 9 [(0, .ref h0), (1, .int p1)] [.ref r1, .ref h0] [(h0, .inr (2, [.int 0, .null, .null, .null, .null])), (r1, .inl (cI, 84, .inl (fun _ => 0)))] 1 84
  refine n_putF 12 [(h0, .inr (2, [.int 0, .ref r1, .null, .null, .null])), (r1, .inl (cI, 84, .inl (fun _ => 0)))] C 0 rfl rfl wu_X2 1 (by decide) wf_X2_9 tyX2 tyX2_ok nmX2 rfl rfl rfl rfl (Nat.le_of_ble_eq_true rfl) rfl dX2_init_9 rfl ?_
  refine n_aload_n 13 C dX2_init_12 rfl (j := 0) rfl rfl ?_
  refine n_bipush 15 (v := 84) C dX2_init_13 (by decide) rfl ?_
  refine n_newa 17 C wa_I (N := 84) (by decide) (by decide) (Nat.le_of_ble_eq_true rfl) (Nat.le_of_ble_eq_true rfl) (Nat.le_of_ble_eq_true rfl) dX2_init_15 rfl (fun r2 => ?_)
  show Gn E rmX2_init 5 17 [(0, .ref h0), (1, .int p1)] [.ref r2, .ref h0] [(h0, .inr (2, [.int 0, .ref r1, .null, .null, .null])), (r1, .inl (cI, 84, .inl (fun _ => 0))), (r2, .inl (cI, 84, .inl (fun _ => 0)))] 2 168
  refine n_putF 20 [(h0, .inr (2, [.int 0, .ref r1, .ref r2, .null, .null])), (r1, .inl (cI, 84, .inl (fun _ => 0))), (r2, .inl (cI, 84, .inl (fun _ => 0)))] C 0 rfl rfl wu_X2 2 (by decide) wf_X2_15 tyX2 tyX2_ok nmX2 rfl rfl rfl rfl (Nat.le_of_ble_eq_true rfl) rfl dX2_init_17 rfl ?_
  refine n_aload_n 21 C dX2_init_20 rfl (j := 0) rfl rfl ?_
  refine n_sipush 24 (v := 343) C dX2_init_21 (by decide) rfl ?_
  refine n_newa 26 C wa_I (N := 343) (by decide) (by decide) (Nat.le_of_ble_eq_true rfl) (Nat.le_of_ble_eq_true rfl) (Nat.le_of_ble_eq_true rfl) dX2_init_24 rfl (fun r3 => ?_)
  show Gn E rmX2_init 5 26 [(0, .ref h0), (1, .int p1)] [.ref r3, .ref h0] [(h0, .inr (2, [.int 0, .ref r1, .ref r2, .null, .null])), (r1, .inl (cI, 84, .inl (fun _ => 0))), (r2, .inl (cI, 84, .inl (fun _ => 0))), (r3, .inl (cI, 343, .inl (fun _ => 0)))] 3 511
  refine n_putF 29 [(h0, .inr (2, [.int 0, .ref r1, .ref r2, .ref r3, .null])), (r1, .inl (cI, 84, .inl (fun _ => 0))), (r2, .inl (cI, 84, .inl (fun _ => 0))), (r3, .inl (cI, 343, .inl (fun _ => 0)))] C 0 rfl rfl wu_X2 3 (by decide) wf_X2_18 tyX2 tyX2_ok nmX2 rfl rfl rfl rfl (Nat.le_of_ble_eq_true rfl) rfl dX2_init_26 rfl ?_
  refine n_aload_n 30 C dX2_init_29 rfl (j := 0) rfl rfl ?_
  refine n_bipush 32 (v := 21) C dX2_init_30 (by decide) rfl ?_
  refine n_newa 34 C wa_I (N := 21) (by decide) (by decide) (Nat.le_of_ble_eq_true rfl) (Nat.le_of_ble_eq_true rfl) (Nat.le_of_ble_eq_true rfl) dX2_init_32 rfl (fun r4 => ?_)
  show Gn E rmX2_init 5 34 [(0, .ref h0), (1, .int p1)] [.ref r4, .ref h0] [(h0, .inr (2, [.int 0, .ref r1, .ref r2, .ref r3, .null])), (r1, .inl (cI, 84, .inl (fun _ => 0))), (r2, .inl (cI, 84, .inl (fun _ => 0))), (r3, .inl (cI, 343, .inl (fun _ => 0))), (r4, .inl (cI, 21, .inl (fun _ => 0)))] 4 532
  refine n_putF 37 [(h0, .inr (2, [.int 0, .ref r1, .ref r2, .ref r3, .ref r4])), (r1, .inl (cI, 84, .inl (fun _ => 0))), (r2, .inl (cI, 84, .inl (fun _ => 0))), (r3, .inl (cI, 343, .inl (fun _ => 0))), (r4, .inl (cI, 21, .inl (fun _ => 0)))] C 0 rfl rfl wu_X2 4 (by decide) wf_X2_21 tyX2 tyX2_ok nmX2 rfl rfl rfl rfl (Nat.le_of_ble_eq_true rfl) rfl dX2_init_34 rfl ?_
  refine n_aload_n 38 C dX2_init_37 rfl (j := 0) rfl rfl ?_
  refine n_iload_n 39 C dX2_init_38 rfl (j := 1) rfl rfl ?_
  refine n_putF 42 [(h0, .inr (2, [.int p1, .ref r1, .ref r2, .ref r3, .ref r4])), (r1, .inl (cI, 84, .inl (fun _ => 0))), (r2, .inl (cI, 84, .inl (fun _ => 0))), (r3, .inl (cI, 343, .inl (fun _ => 0))), (r4, .inl (cI, 21, .inl (fun _ => 0)))] C 0 rfl rfl wu_X2 0 (by decide) wf_X2_24 tyX2 tyX2_ok nmX2 rfl rfl rfl rfl (Nat.le_of_ble_eq_true rfl) rfl dX2_init_39 rfl ?_
  have hT : Gn E rmX2_init 5 42 [(0, .ref h0), (1, .int p1)] [] (wof cI (fun k => ([h0, r1, r2, r3, r4] : List Nat).getD k 0) (mono0 p1) 0 layC) (ceOf E) (slOf E) := by
    refine n_toG (fun hD hA => ?_)
    refine g_sub [0] (tX2_init_L42 (σ := mono0 p1) (out := τ) (Cx_ofCn C hD hA (by rw [hce]; exact Nat.le_refl _) (by rw [hsl]; exact Nat.le_refl _)) (fun pc lv d => ?_) h) rfl
    refine n_ofG hA hD ?_
    rw [hce, hsl]
    exact K0 pc lv (r1, r2, r3, r4) d
  rw [hce, hsl] at hT
  exact hT
theorem qX8_init : yX8_init.cls ≠ "java/lang/invoke/MethodHandle" ∧ yX8_init.cls ≠ "java/lang/invoke/VarHandle" ∧ (parseMethodDescriptor yX8_init.desc).map (fun d => d.parameters.length) = some 1 := by decide +kernel
theorem DX8_init : ∀ q ∈ ([(0, .aload_n 0, 1), (1, .invokespecial 1, 3), (4, .aload_n 0, 1), (5, .ldc 7, 2), (7, .newarray .int, 2), (9, .putfield 8, 3), (12, .aload_n 0, 1), (13, .bipush 30, 2), (15, .newarray .int, 2), (17, .putfield 14, 3), (20, .aload_n 0, 1), (21, .bipush 30, 2), (23, .newarray .int, 2), (25, .putfield 17, 3), (28, .aload_n 0, 1), (29, .bipush 30, 2), (31, .newarray .int, 2), (33, .putfield 20, 3), (36, .aload_n 0, 1), (37, .iconst (-1), 1), (38, .putfield 23, 3), (41, .aload_n 0, 1), (42, .iconst (-1), 1), (43, .putfield 27, 3), (46, .aload_n 0, 1), (47, .iconst (-1), 1), (48, .putfield 30, 3), (51, .aload_n 0, 1), (52, .bipush 30, 2), (54, .newarray .int, 2), (56, .putfield 33, 3), (59, .aload_n 0, 1), (60, .bipush 30, 2), (62, .newarray .int, 2), (64, .putfield 36, 3), (67, .aload_n 0, 1), (68, .bipush 30, 2), (70, .newarray .int, 2), (72, .putfield 39, 3), (75, .aload_n 0, 1), (76, .bipush 30, 2), (78, .newarray .int, 2), (80, .putfield 42, 3), (83, .aload_n 0, 1), (84, .iconst 3, 1), (85, .newarray .int, 2), (87, .putfield 45, 3), (90, .aload_n 0, 1), (91, .bipush 90, 2), (93, .newarray .int, 2), (95, .putfield 48, 3), (98, .aload_n 0, 1), (99, .bipush 90, 2), (101, .newarray .int, 2), (103, .putfield 51, 3), (106, .aload_n 0, 1), (107, .bipush 30, 2), (109, .newarray .int, 2), (111, .putfield 54, 3), (114, .aload_n 0, 1), (115, .bipush 30, 2), (117, .newarray .int, 2), (119, .putfield 57, 3), (122, .aload_n 0, 1), (123, .bipush 90, 2), (125, .newarray .int, 2), (127, .putfield 60, 3), (130, .aload_n 0, 1), (131, .sipush 400, 3), (134, .newarray .int, 2), (136, .putfield 63, 3), (139, .aload_n 0, 1), (140, .iconst 1, 1), (141, .iload_n 1, 1), (142, .iconst 4, 1), (143, .if_icmp .ge 7, 3), (146, .iconst 4, 1), (147, .goto 15, 3), (150, .iload_n 1, 1), (151, .bipush 16, 2), (153, .if_icmp .le 8, 3), (156, .bipush 16, 2), (158, .goto 4, 3), (161, .iload_n 1, 1), (162, .ishl, 1), (163, .putfield 66, 3), (166, .return_, 1)] : List (Nat × Instr × Nat)), decode cX8_init q.1 = .ok q.2 := by decide +kernel
theorem dX8_init_0 : decode cX8_init 0 = .ok (.aload_n 0, 1) := DX8_init (0, .aload_n 0, 1) (List.mem_of_getElem? (i := 0) rfl)
theorem dX8_init_1 : decode cX8_init 1 = .ok (.invokespecial 1, 3) := DX8_init (1, .invokespecial 1, 3) (List.mem_of_getElem? (i := 1) rfl)
theorem dX8_init_4 : decode cX8_init 4 = .ok (.aload_n 0, 1) := DX8_init (4, .aload_n 0, 1) (List.mem_of_getElem? (i := 2) rfl)
theorem dX8_init_5 : decode cX8_init 5 = .ok (.ldc 7, 2) := DX8_init (5, .ldc 7, 2) (List.mem_of_getElem? (i := 3) rfl)
theorem dX8_init_7 : decode cX8_init 7 = .ok (.newarray .int, 2) := DX8_init (7, .newarray .int, 2) (List.mem_of_getElem? (i := 4) rfl)
theorem dX8_init_9 : decode cX8_init 9 = .ok (.putfield 8, 3) := DX8_init (9, .putfield 8, 3) (List.mem_of_getElem? (i := 5) rfl)
theorem dX8_init_12 : decode cX8_init 12 = .ok (.aload_n 0, 1) := DX8_init (12, .aload_n 0, 1) (List.mem_of_getElem? (i := 6) rfl)
theorem dX8_init_13 : decode cX8_init 13 = .ok (.bipush 30, 2) := DX8_init (13, .bipush 30, 2) (List.mem_of_getElem? (i := 7) rfl)
theorem dX8_init_15 : decode cX8_init 15 = .ok (.newarray .int, 2) := DX8_init (15, .newarray .int, 2) (List.mem_of_getElem? (i := 8) rfl)
theorem dX8_init_17 : decode cX8_init 17 = .ok (.putfield 14, 3) := DX8_init (17, .putfield 14, 3) (List.mem_of_getElem? (i := 9) rfl)
theorem dX8_init_20 : decode cX8_init 20 = .ok (.aload_n 0, 1) := DX8_init (20, .aload_n 0, 1) (List.mem_of_getElem? (i := 10) rfl)
theorem dX8_init_21 : decode cX8_init 21 = .ok (.bipush 30, 2) := DX8_init (21, .bipush 30, 2) (List.mem_of_getElem? (i := 11) rfl)
theorem dX8_init_23 : decode cX8_init 23 = .ok (.newarray .int, 2) := DX8_init (23, .newarray .int, 2) (List.mem_of_getElem? (i := 12) rfl)
theorem dX8_init_25 : decode cX8_init 25 = .ok (.putfield 17, 3) := DX8_init (25, .putfield 17, 3) (List.mem_of_getElem? (i := 13) rfl)
theorem dX8_init_28 : decode cX8_init 28 = .ok (.aload_n 0, 1) := DX8_init (28, .aload_n 0, 1) (List.mem_of_getElem? (i := 14) rfl)
theorem dX8_init_29 : decode cX8_init 29 = .ok (.bipush 30, 2) := DX8_init (29, .bipush 30, 2) (List.mem_of_getElem? (i := 15) rfl)
theorem dX8_init_31 : decode cX8_init 31 = .ok (.newarray .int, 2) := DX8_init (31, .newarray .int, 2) (List.mem_of_getElem? (i := 16) rfl)
theorem dX8_init_33 : decode cX8_init 33 = .ok (.putfield 20, 3) := DX8_init (33, .putfield 20, 3) (List.mem_of_getElem? (i := 17) rfl)
theorem dX8_init_36 : decode cX8_init 36 = .ok (.aload_n 0, 1) := DX8_init (36, .aload_n 0, 1) (List.mem_of_getElem? (i := 18) rfl)
theorem dX8_init_37 : decode cX8_init 37 = .ok (.iconst (-1), 1) := DX8_init (37, .iconst (-1), 1) (List.mem_of_getElem? (i := 19) rfl)
theorem dX8_init_38 : decode cX8_init 38 = .ok (.putfield 23, 3) := DX8_init (38, .putfield 23, 3) (List.mem_of_getElem? (i := 20) rfl)
theorem dX8_init_41 : decode cX8_init 41 = .ok (.aload_n 0, 1) := DX8_init (41, .aload_n 0, 1) (List.mem_of_getElem? (i := 21) rfl)
theorem dX8_init_42 : decode cX8_init 42 = .ok (.iconst (-1), 1) := DX8_init (42, .iconst (-1), 1) (List.mem_of_getElem? (i := 22) rfl)
theorem dX8_init_43 : decode cX8_init 43 = .ok (.putfield 27, 3) := DX8_init (43, .putfield 27, 3) (List.mem_of_getElem? (i := 23) rfl)
theorem dX8_init_46 : decode cX8_init 46 = .ok (.aload_n 0, 1) := DX8_init (46, .aload_n 0, 1) (List.mem_of_getElem? (i := 24) rfl)
theorem dX8_init_47 : decode cX8_init 47 = .ok (.iconst (-1), 1) := DX8_init (47, .iconst (-1), 1) (List.mem_of_getElem? (i := 25) rfl)
theorem dX8_init_48 : decode cX8_init 48 = .ok (.putfield 30, 3) := DX8_init (48, .putfield 30, 3) (List.mem_of_getElem? (i := 26) rfl)
theorem dX8_init_51 : decode cX8_init 51 = .ok (.aload_n 0, 1) := DX8_init (51, .aload_n 0, 1) (List.mem_of_getElem? (i := 27) rfl)
theorem dX8_init_52 : decode cX8_init 52 = .ok (.bipush 30, 2) := DX8_init (52, .bipush 30, 2) (List.mem_of_getElem? (i := 28) rfl)
theorem dX8_init_54 : decode cX8_init 54 = .ok (.newarray .int, 2) := DX8_init (54, .newarray .int, 2) (List.mem_of_getElem? (i := 29) rfl)
theorem dX8_init_56 : decode cX8_init 56 = .ok (.putfield 33, 3) := DX8_init (56, .putfield 33, 3) (List.mem_of_getElem? (i := 30) rfl)
theorem dX8_init_59 : decode cX8_init 59 = .ok (.aload_n 0, 1) := DX8_init (59, .aload_n 0, 1) (List.mem_of_getElem? (i := 31) rfl)
theorem dX8_init_60 : decode cX8_init 60 = .ok (.bipush 30, 2) := DX8_init (60, .bipush 30, 2) (List.mem_of_getElem? (i := 32) rfl)
theorem dX8_init_62 : decode cX8_init 62 = .ok (.newarray .int, 2) := DX8_init (62, .newarray .int, 2) (List.mem_of_getElem? (i := 33) rfl)
theorem dX8_init_64 : decode cX8_init 64 = .ok (.putfield 36, 3) := DX8_init (64, .putfield 36, 3) (List.mem_of_getElem? (i := 34) rfl)
theorem dX8_init_67 : decode cX8_init 67 = .ok (.aload_n 0, 1) := DX8_init (67, .aload_n 0, 1) (List.mem_of_getElem? (i := 35) rfl)
theorem dX8_init_68 : decode cX8_init 68 = .ok (.bipush 30, 2) := DX8_init (68, .bipush 30, 2) (List.mem_of_getElem? (i := 36) rfl)
theorem dX8_init_70 : decode cX8_init 70 = .ok (.newarray .int, 2) := DX8_init (70, .newarray .int, 2) (List.mem_of_getElem? (i := 37) rfl)
theorem dX8_init_72 : decode cX8_init 72 = .ok (.putfield 39, 3) := DX8_init (72, .putfield 39, 3) (List.mem_of_getElem? (i := 38) rfl)
theorem dX8_init_75 : decode cX8_init 75 = .ok (.aload_n 0, 1) := DX8_init (75, .aload_n 0, 1) (List.mem_of_getElem? (i := 39) rfl)
theorem dX8_init_76 : decode cX8_init 76 = .ok (.bipush 30, 2) := DX8_init (76, .bipush 30, 2) (List.mem_of_getElem? (i := 40) rfl)
theorem dX8_init_78 : decode cX8_init 78 = .ok (.newarray .int, 2) := DX8_init (78, .newarray .int, 2) (List.mem_of_getElem? (i := 41) rfl)
theorem dX8_init_80 : decode cX8_init 80 = .ok (.putfield 42, 3) := DX8_init (80, .putfield 42, 3) (List.mem_of_getElem? (i := 42) rfl)
theorem dX8_init_83 : decode cX8_init 83 = .ok (.aload_n 0, 1) := DX8_init (83, .aload_n 0, 1) (List.mem_of_getElem? (i := 43) rfl)
theorem dX8_init_84 : decode cX8_init 84 = .ok (.iconst 3, 1) := DX8_init (84, .iconst 3, 1) (List.mem_of_getElem? (i := 44) rfl)
theorem dX8_init_85 : decode cX8_init 85 = .ok (.newarray .int, 2) := DX8_init (85, .newarray .int, 2) (List.mem_of_getElem? (i := 45) rfl)
theorem dX8_init_87 : decode cX8_init 87 = .ok (.putfield 45, 3) := DX8_init (87, .putfield 45, 3) (List.mem_of_getElem? (i := 46) rfl)
theorem dX8_init_90 : decode cX8_init 90 = .ok (.aload_n 0, 1) := DX8_init (90, .aload_n 0, 1) (List.mem_of_getElem? (i := 47) rfl)
theorem dX8_init_91 : decode cX8_init 91 = .ok (.bipush 90, 2) := DX8_init (91, .bipush 90, 2) (List.mem_of_getElem? (i := 48) rfl)
theorem dX8_init_93 : decode cX8_init 93 = .ok (.newarray .int, 2) := DX8_init (93, .newarray .int, 2) (List.mem_of_getElem? (i := 49) rfl)
theorem dX8_init_95 : decode cX8_init 95 = .ok (.putfield 48, 3) := DX8_init (95, .putfield 48, 3) (List.mem_of_getElem? (i := 50) rfl)
theorem dX8_init_98 : decode cX8_init 98 = .ok (.aload_n 0, 1) := DX8_init (98, .aload_n 0, 1) (List.mem_of_getElem? (i := 51) rfl)
theorem dX8_init_99 : decode cX8_init 99 = .ok (.bipush 90, 2) := DX8_init (99, .bipush 90, 2) (List.mem_of_getElem? (i := 52) rfl)
theorem dX8_init_101 : decode cX8_init 101 = .ok (.newarray .int, 2) := DX8_init (101, .newarray .int, 2) (List.mem_of_getElem? (i := 53) rfl)
theorem dX8_init_103 : decode cX8_init 103 = .ok (.putfield 51, 3) := DX8_init (103, .putfield 51, 3) (List.mem_of_getElem? (i := 54) rfl)
theorem dX8_init_106 : decode cX8_init 106 = .ok (.aload_n 0, 1) := DX8_init (106, .aload_n 0, 1) (List.mem_of_getElem? (i := 55) rfl)
theorem dX8_init_107 : decode cX8_init 107 = .ok (.bipush 30, 2) := DX8_init (107, .bipush 30, 2) (List.mem_of_getElem? (i := 56) rfl)
theorem dX8_init_109 : decode cX8_init 109 = .ok (.newarray .int, 2) := DX8_init (109, .newarray .int, 2) (List.mem_of_getElem? (i := 57) rfl)
theorem dX8_init_111 : decode cX8_init 111 = .ok (.putfield 54, 3) := DX8_init (111, .putfield 54, 3) (List.mem_of_getElem? (i := 58) rfl)
theorem dX8_init_114 : decode cX8_init 114 = .ok (.aload_n 0, 1) := DX8_init (114, .aload_n 0, 1) (List.mem_of_getElem? (i := 59) rfl)
theorem dX8_init_115 : decode cX8_init 115 = .ok (.bipush 30, 2) := DX8_init (115, .bipush 30, 2) (List.mem_of_getElem? (i := 60) rfl)
theorem dX8_init_117 : decode cX8_init 117 = .ok (.newarray .int, 2) := DX8_init (117, .newarray .int, 2) (List.mem_of_getElem? (i := 61) rfl)
theorem dX8_init_119 : decode cX8_init 119 = .ok (.putfield 57, 3) := DX8_init (119, .putfield 57, 3) (List.mem_of_getElem? (i := 62) rfl)
theorem dX8_init_122 : decode cX8_init 122 = .ok (.aload_n 0, 1) := DX8_init (122, .aload_n 0, 1) (List.mem_of_getElem? (i := 63) rfl)
theorem dX8_init_123 : decode cX8_init 123 = .ok (.bipush 90, 2) := DX8_init (123, .bipush 90, 2) (List.mem_of_getElem? (i := 64) rfl)
theorem dX8_init_125 : decode cX8_init 125 = .ok (.newarray .int, 2) := DX8_init (125, .newarray .int, 2) (List.mem_of_getElem? (i := 65) rfl)
theorem dX8_init_127 : decode cX8_init 127 = .ok (.putfield 60, 3) := DX8_init (127, .putfield 60, 3) (List.mem_of_getElem? (i := 66) rfl)
theorem dX8_init_130 : decode cX8_init 130 = .ok (.aload_n 0, 1) := DX8_init (130, .aload_n 0, 1) (List.mem_of_getElem? (i := 67) rfl)
theorem dX8_init_131 : decode cX8_init 131 = .ok (.sipush 400, 3) := DX8_init (131, .sipush 400, 3) (List.mem_of_getElem? (i := 68) rfl)
theorem dX8_init_134 : decode cX8_init 134 = .ok (.newarray .int, 2) := DX8_init (134, .newarray .int, 2) (List.mem_of_getElem? (i := 69) rfl)
theorem dX8_init_136 : decode cX8_init 136 = .ok (.putfield 63, 3) := DX8_init (136, .putfield 63, 3) (List.mem_of_getElem? (i := 70) rfl)
theorem dX8_init_139 : decode cX8_init 139 = .ok (.aload_n 0, 1) := DX8_init (139, .aload_n 0, 1) (List.mem_of_getElem? (i := 71) rfl)
theorem dX8_init_140 : decode cX8_init 140 = .ok (.iconst 1, 1) := DX8_init (140, .iconst 1, 1) (List.mem_of_getElem? (i := 72) rfl)
theorem dX8_init_141 : decode cX8_init 141 = .ok (.iload_n 1, 1) := DX8_init (141, .iload_n 1, 1) (List.mem_of_getElem? (i := 73) rfl)
theorem dX8_init_142 : decode cX8_init 142 = .ok (.iconst 4, 1) := DX8_init (142, .iconst 4, 1) (List.mem_of_getElem? (i := 74) rfl)
theorem dX8_init_143 : decode cX8_init 143 = .ok (.if_icmp .ge 7, 3) := DX8_init (143, .if_icmp .ge 7, 3) (List.mem_of_getElem? (i := 75) rfl)
theorem dX8_init_146 : decode cX8_init 146 = .ok (.iconst 4, 1) := DX8_init (146, .iconst 4, 1) (List.mem_of_getElem? (i := 76) rfl)
theorem dX8_init_147 : decode cX8_init 147 = .ok (.goto 15, 3) := DX8_init (147, .goto 15, 3) (List.mem_of_getElem? (i := 77) rfl)
theorem dX8_init_150 : decode cX8_init 150 = .ok (.iload_n 1, 1) := DX8_init (150, .iload_n 1, 1) (List.mem_of_getElem? (i := 78) rfl)
theorem dX8_init_151 : decode cX8_init 151 = .ok (.bipush 16, 2) := DX8_init (151, .bipush 16, 2) (List.mem_of_getElem? (i := 79) rfl)
theorem dX8_init_153 : decode cX8_init 153 = .ok (.if_icmp .le 8, 3) := DX8_init (153, .if_icmp .le 8, 3) (List.mem_of_getElem? (i := 80) rfl)
theorem dX8_init_156 : decode cX8_init 156 = .ok (.bipush 16, 2) := DX8_init (156, .bipush 16, 2) (List.mem_of_getElem? (i := 81) rfl)
theorem dX8_init_158 : decode cX8_init 158 = .ok (.goto 4, 3) := DX8_init (158, .goto 4, 3) (List.mem_of_getElem? (i := 82) rfl)
theorem dX8_init_161 : decode cX8_init 161 = .ok (.iload_n 1, 1) := DX8_init (161, .iload_n 1, 1) (List.mem_of_getElem? (i := 83) rfl)
theorem dX8_init_162 : decode cX8_init 162 = .ok (.ishl, 1) := DX8_init (162, .ishl, 1) (List.mem_of_getElem? (i := 84) rfl)
theorem dX8_init_163 : decode cX8_init 163 = .ok (.putfield 66, 3) := DX8_init (163, .putfield 66, 3) (List.mem_of_getElem? (i := 85) rfl)
theorem dX8_init_166 : decode cX8_init 166 = .ok (.return_, 1) := DX8_init (166, .return_, 1) (List.mem_of_getElem? (i := 86) rfl)
def modM (a : Int32) : Int32 := 1 <<< ((if 4 ≤ a then (if a ≤ 16 then a else 16) else 4) &&& 31)
def initM (p1 : Int32) : Mem := fun k => ([fun j => ([0, modM p1, 0, 0, 0, 0, 0, 0, (-1), (-1), (-1), 0, 0, 0, 0, 0, 0, 0, 0, 0, 0, 0, 0, 0, 0, 0] : List Int32).getD j 0] : List (Nat → Int32)).getD k (fun _ => 0)
def adM (h0 : Nat) (L : List Nat) : Nat → Nat := fun k => (h0 :: L).getD k 0
abbrev rmX8_init : Room := { frames := 1, cells := 15, slots := 171071, locals := 12 }
set_option maxHeartbeats 4000000 in
set_option maxRecDepth 100000 in
theorem mX8_init {l : Launch} {D : va_G} {cI : ClassId} {h0 : Nat} {p1 : Int32} : MN l D cI yX8_init cX8_init 2 rmX8_init h0 8 [.null, .int 0, .int 0, .null, .null, .null, .int 0, .int 0, .int 0, .int 0, .int 0, .int 0, .null, .null, .null, .null, .null, .int 0, .null, .null, .int 0, .null, .null, .null, .null, .int 0] [.int p1] (fun L : List Nat => wof cI (adM h0 L) (initM p1) 0 layM) 15 171071 := by
  refine met_n (by decide) rfl (Nat.le_of_ble_eq_true rfl) (fun E C K0 hce hsl => ?_)
  show Gn E rmX8_init 2 0 [(0, .ref h0), (1, .int p1)] [] [(h0, .inr (8, [.null, .int 0, .int 0, .null, .null, .null, .int 0, .int 0, .int 0, .int 0, .int 0, .int 0, .null, .null, .null, .null, .null, .int 0, .null, .null, .int 0, .null, .null, .null, .null, .int 0]))] 0 0
  refine n_aload_n 1 C dX8_init_0 rfl (j := 0) rfl rfl ?_
  refine n_obj 4 C wo_X8 wo_i wo_c (by decide) (Nat.le_of_ble_eq_true rfl) dX8_init_1 rfl ?_
  refine n_aload_n 5 C dX8_init_4 rfl (j := 0) rfl rfl ?_
  refine n_ldc 7 (v := 170128) C dX8_init_5 wk_X8_7 rfl ?_
  refine n_newa 9 C wa_I (N := 170128) (by decide) (by decide) (Nat.le_of_ble_eq_true rfl) (Nat.le_of_ble_eq_true rfl) (Nat.le_of_ble_eq_true rfl) dX8_init_7 rfl (fun r1 => ?_)
  show Gn E rmX8_init 2 9 [(0, .ref h0), (1, .int p1)] [.ref r1, .ref h0] [(h0, .inr (8, [.null, .int 0, .int 0, .null, .null, .null, .int 0, .int 0, .int 0, .int 0, .int 0, .int 0, .null, .null, .null, .null, .null, .int 0, .null, .null, .int 0, .null, .null, .null, .null, .int 0])), (r1, .inl (cI, 170128, .inl (fun _ => 0)))] 1 170128
  refine n_putF 12 [(h0, .inr (8, [.ref r1, .int 0, .int 0, .null, .null, .null, .int 0, .int 0, .int 0, .int 0, .int 0, .int 0, .null, .null, .null, .null, .null, .int 0, .null, .null, .int 0, .null, .null, .null, .null, .int 0])), (r1, .inl (cI, 170128, .inl (fun _ => 0)))] C 0 rfl rfl wu_X8 0 (by decide) wf_X8_8 tyX8 tyX8_ok nmX8 rfl rfl rfl rfl (Nat.le_of_ble_eq_true rfl) rfl dX8_init_9 rfl ?_
  refine n_aload_n 13 C dX8_init_12 rfl (j := 0) rfl rfl ?_
  refine n_bipush 15 (v := 30) C dX8_init_13 (by decide) rfl ?_
  refine n_newa 17 C wa_I (N := 30) (by decide) (by decide) (Nat.le_of_ble_eq_true rfl) (Nat.le_of_ble_eq_true rfl) (Nat.le_of_ble_eq_true rfl) dX8_init_15 rfl (fun r2 => ?_)
  show Gn E rmX8_init 2 17 [(0, .ref h0), (1, .int p1)] [.ref r2, .ref h0] [(h0, .inr (8, [.ref r1, .int 0, .int 0, .null, .null, .null, .int 0, .int 0, .int 0, .int 0, .int 0, .int 0, .null, .null, .null, .null, .null, .int 0, .null, .null, .int 0, .null, .null, .null, .null, .int 0])), (r1, .inl (cI, 170128, .inl (fun _ => 0))), (r2, .inl (cI, 30, .inl (fun _ => 0)))] 2 170158
  refine n_putF 20 [(h0, .inr (8, [.ref r1, .int 0, .int 0, .ref r2, .null, .null, .int 0, .int 0, .int 0, .int 0, .int 0, .int 0, .null, .null, .null, .null, .null, .int 0, .null, .null, .int 0, .null, .null, .null, .null, .int 0])), (r1, .inl (cI, 170128, .inl (fun _ => 0))), (r2, .inl (cI, 30, .inl (fun _ => 0)))] C 0 rfl rfl wu_X8 3 (by decide) wf_X8_14 tyX8 tyX8_ok nmX8 rfl rfl rfl rfl (Nat.le_of_ble_eq_true rfl) rfl dX8_init_17 rfl ?_
  refine n_aload_n 21 C dX8_init_20 rfl (j := 0) rfl rfl ?_
  refine n_bipush 23 (v := 30) C dX8_init_21 (by decide) rfl ?_
  refine n_newa 25 C wa_I (N := 30) (by decide) (by decide) (Nat.le_of_ble_eq_true rfl) (Nat.le_of_ble_eq_true rfl) (Nat.le_of_ble_eq_true rfl) dX8_init_23 rfl (fun r3 => ?_)
  show Gn E rmX8_init 2 25 [(0, .ref h0), (1, .int p1)] [.ref r3, .ref h0] [(h0, .inr (8, [.ref r1, .int 0, .int 0, .ref r2, .null, .null, .int 0, .int 0, .int 0, .int 0, .int 0, .int 0, .null, .null, .null, .null, .null, .int 0, .null, .null, .int 0, .null, .null, .null, .null, .int 0])), (r1, .inl (cI, 170128, .inl (fun _ => 0))), (r2, .inl (cI, 30, .inl (fun _ => 0))), (r3, .inl (cI, 30, .inl (fun _ => 0)))] 3 170188
  refine n_putF 28 [(h0, .inr (8, [.ref r1, .int 0, .int 0, .ref r2, .ref r3, .null, .int 0, .int 0, .int 0, .int 0, .int 0, .int 0, .null, .null, .null, .null, .null, .int 0, .null, .null, .int 0, .null, .null, .null, .null, .int 0])), (r1, .inl (cI, 170128, .inl (fun _ => 0))), (r2, .inl (cI, 30, .inl (fun _ => 0))), (r3, .inl (cI, 30, .inl (fun _ => 0)))] C 0 rfl rfl wu_X8 4 (by decide) wf_X8_17 tyX8 tyX8_ok nmX8 rfl rfl rfl rfl (Nat.le_of_ble_eq_true rfl) rfl dX8_init_25 rfl ?_
  refine n_aload_n 29 C dX8_init_28 rfl (j := 0) rfl rfl ?_
  refine n_bipush 31 (v := 30) C dX8_init_29 (by decide) rfl ?_
  refine n_newa 33 C wa_I (N := 30) (by decide) (by decide) (Nat.le_of_ble_eq_true rfl) (Nat.le_of_ble_eq_true rfl) (Nat.le_of_ble_eq_true rfl) dX8_init_31 rfl (fun r4 => ?_)
  show Gn E rmX8_init 2 33 [(0, .ref h0), (1, .int p1)] [.ref r4, .ref h0] [(h0, .inr (8, [.ref r1, .int 0, .int 0, .ref r2, .ref r3, .null, .int 0, .int 0, .int 0, .int 0, .int 0, .int 0, .null, .null, .null, .null, .null, .int 0, .null, .null, .int 0, .null, .null, .null, .null, .int 0])), (r1, .inl (cI, 170128, .inl (fun _ => 0))), (r2, .inl (cI, 30, .inl (fun _ => 0))), (r3, .inl (cI, 30, .inl (fun _ => 0))), (r4, .inl (cI, 30, .inl (fun _ => 0)))] 4 170218
  refine n_putF 36 [(h0, .inr (8, [.ref r1, .int 0, .int 0, .ref r2, .ref r3, .ref r4, .int 0, .int 0, .int 0, .int 0, .int 0, .int 0, .null, .null, .null, .null, .null, .int 0, .null, .null, .int 0, .null, .null, .null, .null, .int 0])), (r1, .inl (cI, 170128, .inl (fun _ => 0))), (r2, .inl (cI, 30, .inl (fun _ => 0))), (r3, .inl (cI, 30, .inl (fun _ => 0))), (r4, .inl (cI, 30, .inl (fun _ => 0)))] C 0 rfl rfl wu_X8 5 (by decide) wf_X8_20 tyX8 tyX8_ok nmX8 rfl rfl rfl rfl (Nat.le_of_ble_eq_true rfl) rfl dX8_init_33 rfl ?_
  refine n_aload_n 37 C dX8_init_36 rfl (j := 0) rfl rfl ?_
  refine n_iconst 38 (v := (-1)) C dX8_init_37 (by decide) rfl ?_
  refine n_put 41 [(h0, .inr (8, [.ref r1, .int 0, .int 0, .ref r2, .ref r3, .ref r4, .int 0, .int 0, .int (-1), .int 0, .int 0, .int 0, .null, .null, .null, .null, .null, .int 0, .null, .null, .int 0, .null, .null, .null, .null, .int 0])), (r1, .inl (cI, 170128, .inl (fun _ => 0))), (r2, .inl (cI, 30, .inl (fun _ => 0))), (r3, .inl (cI, 30, .inl (fun _ => 0))), (r4, .inl (cI, 30, .inl (fun _ => 0)))] C 0 rfl rfl wu_X8 8 (by decide) wf_X8_23 tyX8 tyX8_ok nmX8 rfl rfl rfl (Nat.le_of_ble_eq_true rfl) rfl dX8_init_38 rfl ?_
  refine n_aload_n 42 C dX8_init_41 rfl (j := 0) rfl rfl ?_
  refine n_iconst 43 (v := (-1)) C dX8_init_42 (by decide) rfl ?_
  refine n_put 46 [(h0, .inr (8, [.ref r1, .int 0, .int 0, .ref r2, .ref r3, .ref r4, .int 0, .int 0, .int (-1), .int (-1), .int 0, .int 0, .null, .null, .null, .null, .null, .int 0, .null, .null, .int 0, .null, .null, .null, .null, .int 0])), (r1, .inl (cI, 170128, .inl (fun _ => 0))), (r2, .inl (cI, 30, .inl (fun _ => 0))), (r3, .inl (cI, 30, .inl (fun _ => 0))), (r4, .inl (cI, 30, .inl (fun _ => 0)))] C 0 rfl rfl wu_X8 9 (by decide) wf_X8_27 tyX8 tyX8_ok nmX8 rfl rfl rfl (Nat.le_of_ble_eq_true rfl) rfl dX8_init_43 rfl ?_
  refine n_aload_n 47 C dX8_init_46 rfl (j := 0) rfl rfl ?_
  refine n_iconst 48 (v := (-1)) C dX8_init_47 (by decide) rfl ?_
  refine n_put 51 [(h0, .inr (8, [.ref r1, .int 0, .int 0, .ref r2, .ref r3, .ref r4, .int 0, .int 0, .int (-1), .int (-1), .int (-1), .int 0, .null, .null, .null, .null, .null, .int 0, .null, .null, .int 0, .null, .null, .null, .null, .int 0])), (r1, .inl (cI, 170128, .inl (fun _ => 0))), (r2, .inl (cI, 30, .inl (fun _ => 0))), (r3, .inl (cI, 30, .inl (fun _ => 0))), (r4, .inl (cI, 30, .inl (fun _ => 0)))] C 0 rfl rfl wu_X8 10 (by decide) wf_X8_30 tyX8 tyX8_ok nmX8 rfl rfl rfl (Nat.le_of_ble_eq_true rfl) rfl dX8_init_48 rfl ?_
  refine n_aload_n 52 C dX8_init_51 rfl (j := 0) rfl rfl ?_
  refine n_bipush 54 (v := 30) C dX8_init_52 (by decide) rfl ?_
  refine n_newa 56 C wa_I (N := 30) (by decide) (by decide) (Nat.le_of_ble_eq_true rfl) (Nat.le_of_ble_eq_true rfl) (Nat.le_of_ble_eq_true rfl) dX8_init_54 rfl (fun r5 => ?_)
  show Gn E rmX8_init 2 56 [(0, .ref h0), (1, .int p1)] [.ref r5, .ref h0] [(h0, .inr (8, [.ref r1, .int 0, .int 0, .ref r2, .ref r3, .ref r4, .int 0, .int 0, .int (-1), .int (-1), .int (-1), .int 0, .null, .null, .null, .null, .null, .int 0, .null, .null, .int 0, .null, .null, .null, .null, .int 0])), (r1, .inl (cI, 170128, .inl (fun _ => 0))), (r2, .inl (cI, 30, .inl (fun _ => 0))), (r3, .inl (cI, 30, .inl (fun _ => 0))), (r4, .inl (cI, 30, .inl (fun _ => 0))), (r5, .inl (cI, 30, .inl (fun _ => 0)))] 5 170248
  refine n_putF 59 [(h0, .inr (8, [.ref r1, .int 0, .int 0, .ref r2, .ref r3, .ref r4, .int 0, .int 0, .int (-1), .int (-1), .int (-1), .int 0, .ref r5, .null, .null, .null, .null, .int 0, .null, .null, .int 0, .null, .null, .null, .null, .int 0])), (r1, .inl (cI, 170128, .inl (fun _ => 0))), (r2, .inl (cI, 30, .inl (fun _ => 0))), (r3, .inl (cI, 30, .inl (fun _ => 0))), (r4, .inl (cI, 30, .inl (fun _ => 0))), (r5, .inl (cI, 30, .inl (fun _ => 0)))] C 0 rfl rfl wu_X8 12 (by decide) wf_X8_33 tyX8 tyX8_ok nmX8 rfl rfl rfl rfl (Nat.le_of_ble_eq_true rfl) rfl dX8_init_56 rfl ?_
  refine n_aload_n 60 C dX8_init_59 rfl (j := 0) rfl rfl ?_
  refine n_bipush 62 (v := 30) C dX8_init_60 (by decide) rfl ?_
  refine n_newa 64 C wa_I (N := 30) (by decide) (by decide) (Nat.le_of_ble_eq_true rfl) (Nat.le_of_ble_eq_true rfl) (Nat.le_of_ble_eq_true rfl) dX8_init_62 rfl (fun r6 => ?_)
  show Gn E rmX8_init 2 64 [(0, .ref h0), (1, .int p1)] [.ref r6, .ref h0] [(h0, .inr (8, [.ref r1, .int 0, .int 0, .ref r2, .ref r3, .ref r4, .int 0, .int 0, .int (-1), .int (-1), .int (-1), .int 0, .ref r5, .null, .null, .null, .null, .int 0, .null, .null, .int 0, .null, .null, .null, .null, .int 0])), (r1, .inl (cI, 170128, .inl (fun _ => 0))), (r2, .inl (cI, 30, .inl (fun _ => 0))), (r3, .inl (cI, 30, .inl (fun _ => 0))), (r4, .inl (cI, 30, .inl (fun _ => 0))), (r5, .inl (cI, 30, .inl (fun _ => 0))), (r6, .inl (cI, 30, .inl (fun _ => 0)))] 6 170278
  refine n_putF 67 [(h0, .inr (8, [.ref r1, .int 0, .int 0, .ref r2, .ref r3, .ref r4, .int 0, .int 0, .int (-1), .int (-1), .int (-1), .int 0, .ref r5, .ref r6, .null, .null, .null, .int 0, .null, .null, .int 0, .null, .null, .null, .null, .int 0])), (r1, .inl (cI, 170128, .inl (fun _ => 0))), (r2, .inl (cI, 30, .inl (fun _ => 0))), (r3, .inl (cI, 30, .inl (fun _ => 0))), (r4, .inl (cI, 30, .inl (fun _ => 0))), (r5, .inl (cI, 30, .inl (fun _ => 0))), (r6, .inl (cI, 30, .inl (fun _ => 0)))] C 0 rfl rfl wu_X8 13 (by decide) wf_X8_36 tyX8 tyX8_ok nmX8 rfl rfl rfl rfl (Nat.le_of_ble_eq_true rfl) rfl dX8_init_64 rfl ?_
  refine n_aload_n 68 C dX8_init_67 rfl (j := 0) rfl rfl ?_
  refine n_bipush 70 (v := 30) C dX8_init_68 (by decide) rfl ?_
  refine n_newa 72 C wa_I (N := 30) (by decide) (by decide) (Nat.le_of_ble_eq_true rfl) (Nat.le_of_ble_eq_true rfl) (Nat.le_of_ble_eq_true rfl) dX8_init_70 rfl (fun r7 => ?_)
  show Gn E rmX8_init 2 72 [(0, .ref h0), (1, .int p1)] [.ref r7, .ref h0] [(h0, .inr (8, [.ref r1, .int 0, .int 0, .ref r2, .ref r3, .ref r4, .int 0, .int 0, .int (-1), .int (-1), .int (-1), .int 0, .ref r5, .ref r6, .null, .null, .null, .int 0, .null, .null, .int 0, .null, .null, .null, .null, .int 0])), (r1, .inl (cI, 170128, .inl (fun _ => 0))), (r2, .inl (cI, 30, .inl (fun _ => 0))), (r3, .inl (cI, 30, .inl (fun _ => 0))), (r4, .inl (cI, 30, .inl (fun _ => 0))), (r5, .inl (cI, 30, .inl (fun _ => 0))), (r6, .inl (cI, 30, .inl (fun _ => 0))), (r7, .inl (cI, 30, .inl (fun _ => 0)))] 7 170308
  refine n_putF 75 [(h0, .inr (8, [.ref r1, .int 0, .int 0, .ref r2, .ref r3, .ref r4, .int 0, .int 0, .int (-1), .int (-1), .int (-1), .int 0, .ref r5, .ref r6, .ref r7, .null, .null, .int 0, .null, .null, .int 0, .null, .null, .null, .null, .int 0])), (r1, .inl (cI, 170128, .inl (fun _ => 0))), (r2, .inl (cI, 30, .inl (fun _ => 0))), (r3, .inl (cI, 30, .inl (fun _ => 0))), (r4, .inl (cI, 30, .inl (fun _ => 0))), (r5, .inl (cI, 30, .inl (fun _ => 0))), (r6, .inl (cI, 30, .inl (fun _ => 0))), (r7, .inl (cI, 30, .inl (fun _ => 0)))] C 0 rfl rfl wu_X8 14 (by decide) wf_X8_39 tyX8 tyX8_ok nmX8 rfl rfl rfl rfl (Nat.le_of_ble_eq_true rfl) rfl dX8_init_72 rfl ?_
  refine n_aload_n 76 C dX8_init_75 rfl (j := 0) rfl rfl ?_
  refine n_bipush 78 (v := 30) C dX8_init_76 (by decide) rfl ?_
  refine n_newa 80 C wa_I (N := 30) (by decide) (by decide) (Nat.le_of_ble_eq_true rfl) (Nat.le_of_ble_eq_true rfl) (Nat.le_of_ble_eq_true rfl) dX8_init_78 rfl (fun r8 => ?_)
  show Gn E rmX8_init 2 80 [(0, .ref h0), (1, .int p1)] [.ref r8, .ref h0] [(h0, .inr (8, [.ref r1, .int 0, .int 0, .ref r2, .ref r3, .ref r4, .int 0, .int 0, .int (-1), .int (-1), .int (-1), .int 0, .ref r5, .ref r6, .ref r7, .null, .null, .int 0, .null, .null, .int 0, .null, .null, .null, .null, .int 0])), (r1, .inl (cI, 170128, .inl (fun _ => 0))), (r2, .inl (cI, 30, .inl (fun _ => 0))), (r3, .inl (cI, 30, .inl (fun _ => 0))), (r4, .inl (cI, 30, .inl (fun _ => 0))), (r5, .inl (cI, 30, .inl (fun _ => 0))), (r6, .inl (cI, 30, .inl (fun _ => 0))), (r7, .inl (cI, 30, .inl (fun _ => 0))), (r8, .inl (cI, 30, .inl (fun _ => 0)))] 8 170338
  refine n_putF 83 [(h0, .inr (8, [.ref r1, .int 0, .int 0, .ref r2, .ref r3, .ref r4, .int 0, .int 0, .int (-1), .int (-1), .int (-1), .int 0, .ref r5, .ref r6, .ref r7, .ref r8, .null, .int 0, .null, .null, .int 0, .null, .null, .null, .null, .int 0])), (r1, .inl (cI, 170128, .inl (fun _ => 0))), (r2, .inl (cI, 30, .inl (fun _ => 0))), (r3, .inl (cI, 30, .inl (fun _ => 0))), (r4, .inl (cI, 30, .inl (fun _ => 0))), (r5, .inl (cI, 30, .inl (fun _ => 0))), (r6, .inl (cI, 30, .inl (fun _ => 0))), (r7, .inl (cI, 30, .inl (fun _ => 0))), (r8, .inl (cI, 30, .inl (fun _ => 0)))] C 0 rfl rfl wu_X8 15 (by decide) wf_X8_42 tyX8 tyX8_ok nmX8 rfl rfl rfl rfl (Nat.le_of_ble_eq_true rfl) rfl dX8_init_80 rfl ?_
  refine n_aload_n 84 C dX8_init_83 rfl (j := 0) rfl rfl ?_
  refine n_iconst 85 (v := 3) C dX8_init_84 (by decide) rfl ?_
  refine n_newa 87 C wa_I (N := 3) (by decide) (by decide) (Nat.le_of_ble_eq_true rfl) (Nat.le_of_ble_eq_true rfl) (Nat.le_of_ble_eq_true rfl) dX8_init_85 rfl (fun r9 => ?_)
  show Gn E rmX8_init 2 87 [(0, .ref h0), (1, .int p1)] [.ref r9, .ref h0] [(h0, .inr (8, [.ref r1, .int 0, .int 0, .ref r2, .ref r3, .ref r4, .int 0, .int 0, .int (-1), .int (-1), .int (-1), .int 0, .ref r5, .ref r6, .ref r7, .ref r8, .null, .int 0, .null, .null, .int 0, .null, .null, .null, .null, .int 0])), (r1, .inl (cI, 170128, .inl (fun _ => 0))), (r2, .inl (cI, 30, .inl (fun _ => 0))), (r3, .inl (cI, 30, .inl (fun _ => 0))), (r4, .inl (cI, 30, .inl (fun _ => 0))), (r5, .inl (cI, 30, .inl (fun _ => 0))), (r6, .inl (cI, 30, .inl (fun _ => 0))), (r7, .inl (cI, 30, .inl (fun _ => 0))), (r8, .inl (cI, 30, .inl (fun _ => 0))), (r9, .inl (cI, 3, .inl (fun _ => 0)))] 9 170341
  refine n_putF 90 [(h0, .inr (8, [.ref r1, .int 0, .int 0, .ref r2, .ref r3, .ref r4, .int 0, .int 0, .int (-1), .int (-1), .int (-1), .int 0, .ref r5, .ref r6, .ref r7, .ref r8, .ref r9, .int 0, .null, .null, .int 0, .null, .null, .null, .null, .int 0])), (r1, .inl (cI, 170128, .inl (fun _ => 0))), (r2, .inl (cI, 30, .inl (fun _ => 0))), (r3, .inl (cI, 30, .inl (fun _ => 0))), (r4, .inl (cI, 30, .inl (fun _ => 0))), (r5, .inl (cI, 30, .inl (fun _ => 0))), (r6, .inl (cI, 30, .inl (fun _ => 0))), (r7, .inl (cI, 30, .inl (fun _ => 0))), (r8, .inl (cI, 30, .inl (fun _ => 0))), (r9, .inl (cI, 3, .inl (fun _ => 0)))] C 0 rfl rfl wu_X8 16 (by decide) wf_X8_45 tyX8 tyX8_ok nmX8 rfl rfl rfl rfl (Nat.le_of_ble_eq_true rfl) rfl dX8_init_87 rfl ?_
  refine n_aload_n 91 C dX8_init_90 rfl (j := 0) rfl rfl ?_
  refine n_bipush 93 (v := 90) C dX8_init_91 (by decide) rfl ?_
  refine n_newa 95 C wa_I (N := 90) (by decide) (by decide) (Nat.le_of_ble_eq_true rfl) (Nat.le_of_ble_eq_true rfl) (Nat.le_of_ble_eq_true rfl) dX8_init_93 rfl (fun r10 => ?_)
  show Gn E rmX8_init 2 95 [(0, .ref h0), (1, .int p1)] [.ref r10, .ref h0] [(h0, .inr (8, [.ref r1, .int 0, .int 0, .ref r2, .ref r3, .ref r4, .int 0, .int 0, .int (-1), .int (-1), .int (-1), .int 0, .ref r5, .ref r6, .ref r7, .ref r8, .ref r9, .int 0, .null, .null, .int 0, .null, .null, .null, .null, .int 0])), (r1, .inl (cI, 170128, .inl (fun _ => 0))), (r2, .inl (cI, 30, .inl (fun _ => 0))), (r3, .inl (cI, 30, .inl (fun _ => 0))), (r4, .inl (cI, 30, .inl (fun _ => 0))), (r5, .inl (cI, 30, .inl (fun _ => 0))), (r6, .inl (cI, 30, .inl (fun _ => 0))), (r7, .inl (cI, 30, .inl (fun _ => 0))), (r8, .inl (cI, 30, .inl (fun _ => 0))), (r9, .inl (cI, 3, .inl (fun _ => 0))), (r10, .inl (cI, 90, .inl (fun _ => 0)))] 10 170431
  refine n_putF 98 [(h0, .inr (8, [.ref r1, .int 0, .int 0, .ref r2, .ref r3, .ref r4, .int 0, .int 0, .int (-1), .int (-1), .int (-1), .int 0, .ref r5, .ref r6, .ref r7, .ref r8, .ref r9, .int 0, .ref r10, .null, .int 0, .null, .null, .null, .null, .int 0])), (r1, .inl (cI, 170128, .inl (fun _ => 0))), (r2, .inl (cI, 30, .inl (fun _ => 0))), (r3, .inl (cI, 30, .inl (fun _ => 0))), (r4, .inl (cI, 30, .inl (fun _ => 0))), (r5, .inl (cI, 30, .inl (fun _ => 0))), (r6, .inl (cI, 30, .inl (fun _ => 0))), (r7, .inl (cI, 30, .inl (fun _ => 0))), (r8, .inl (cI, 30, .inl (fun _ => 0))), (r9, .inl (cI, 3, .inl (fun _ => 0))), (r10, .inl (cI, 90, .inl (fun _ => 0)))] C 0 rfl rfl wu_X8 18 (by decide) wf_X8_48 tyX8 tyX8_ok nmX8 rfl rfl rfl rfl (Nat.le_of_ble_eq_true rfl) rfl dX8_init_95 rfl ?_
  refine n_aload_n 99 C dX8_init_98 rfl (j := 0) rfl rfl ?_
  refine n_bipush 101 (v := 90) C dX8_init_99 (by decide) rfl ?_
  refine n_newa 103 C wa_I (N := 90) (by decide) (by decide) (Nat.le_of_ble_eq_true rfl) (Nat.le_of_ble_eq_true rfl) (Nat.le_of_ble_eq_true rfl) dX8_init_101 rfl (fun r11 => ?_)
  show Gn E rmX8_init 2 103 [(0, .ref h0), (1, .int p1)] [.ref r11, .ref h0] [(h0, .inr (8, [.ref r1, .int 0, .int 0, .ref r2, .ref r3, .ref r4, .int 0, .int 0, .int (-1), .int (-1), .int (-1), .int 0, .ref r5, .ref r6, .ref r7, .ref r8, .ref r9, .int 0, .ref r10, .null, .int 0, .null, .null, .null, .null, .int 0])), (r1, .inl (cI, 170128, .inl (fun _ => 0))), (r2, .inl (cI, 30, .inl (fun _ => 0))), (r3, .inl (cI, 30, .inl (fun _ => 0))), (r4, .inl (cI, 30, .inl (fun _ => 0))), (r5, .inl (cI, 30, .inl (fun _ => 0))), (r6, .inl (cI, 30, .inl (fun _ => 0))), (r7, .inl (cI, 30, .inl (fun _ => 0))), (r8, .inl (cI, 30, .inl (fun _ => 0))), (r9, .inl (cI, 3, .inl (fun _ => 0))), (r10, .inl (cI, 90, .inl (fun _ => 0))), (r11, .inl (cI, 90, .inl (fun _ => 0)))] 11 170521
  refine n_putF 106 [(h0, .inr (8, [.ref r1, .int 0, .int 0, .ref r2, .ref r3, .ref r4, .int 0, .int 0, .int (-1), .int (-1), .int (-1), .int 0, .ref r5, .ref r6, .ref r7, .ref r8, .ref r9, .int 0, .ref r10, .ref r11, .int 0, .null, .null, .null, .null, .int 0])), (r1, .inl (cI, 170128, .inl (fun _ => 0))), (r2, .inl (cI, 30, .inl (fun _ => 0))), (r3, .inl (cI, 30, .inl (fun _ => 0))), (r4, .inl (cI, 30, .inl (fun _ => 0))), (r5, .inl (cI, 30, .inl (fun _ => 0))), (r6, .inl (cI, 30, .inl (fun _ => 0))), (r7, .inl (cI, 30, .inl (fun _ => 0))), (r8, .inl (cI, 30, .inl (fun _ => 0))), (r9, .inl (cI, 3, .inl (fun _ => 0))), (r10, .inl (cI, 90, .inl (fun _ => 0))), (r11, .inl (cI, 90, .inl (fun _ => 0)))] C 0 rfl rfl wu_X8 19 (by decide) wf_X8_51 tyX8 tyX8_ok nmX8 rfl rfl rfl rfl (Nat.le_of_ble_eq_true rfl) rfl dX8_init_103 rfl ?_
  refine n_aload_n 107 C dX8_init_106 rfl (j := 0) rfl rfl ?_
  refine n_bipush 109 (v := 30) C dX8_init_107 (by decide) rfl ?_
  refine n_newa 111 C wa_I (N := 30) (by decide) (by decide) (Nat.le_of_ble_eq_true rfl) (Nat.le_of_ble_eq_true rfl) (Nat.le_of_ble_eq_true rfl) dX8_init_109 rfl (fun r12 => ?_)
  show Gn E rmX8_init 2 111 [(0, .ref h0), (1, .int p1)] [.ref r12, .ref h0] [(h0, .inr (8, [.ref r1, .int 0, .int 0, .ref r2, .ref r3, .ref r4, .int 0, .int 0, .int (-1), .int (-1), .int (-1), .int 0, .ref r5, .ref r6, .ref r7, .ref r8, .ref r9, .int 0, .ref r10, .ref r11, .int 0, .null, .null, .null, .null, .int 0])), (r1, .inl (cI, 170128, .inl (fun _ => 0))), (r2, .inl (cI, 30, .inl (fun _ => 0))), (r3, .inl (cI, 30, .inl (fun _ => 0))), (r4, .inl (cI, 30, .inl (fun _ => 0))), (r5, .inl (cI, 30, .inl (fun _ => 0))), (r6, .inl (cI, 30, .inl (fun _ => 0))), (r7, .inl (cI, 30, .inl (fun _ => 0))), (r8, .inl (cI, 30, .inl (fun _ => 0))), (r9, .inl (cI, 3, .inl (fun _ => 0))), (r10, .inl (cI, 90, .inl (fun _ => 0))), (r11, .inl (cI, 90, .inl (fun _ => 0))), (r12, .inl (cI, 30, .inl (fun _ => 0)))] 12 170551
  refine n_putF 114 [(h0, .inr (8, [.ref r1, .int 0, .int 0, .ref r2, .ref r3, .ref r4, .int 0, .int 0, .int (-1), .int (-1), .int (-1), .int 0, .ref r5, .ref r6, .ref r7, .ref r8, .ref r9, .int 0, .ref r10, .ref r11, .int 0, .ref r12, .null, .null, .null, .int 0])), (r1, .inl (cI, 170128, .inl (fun _ => 0))), (r2, .inl (cI, 30, .inl (fun _ => 0))), (r3, .inl (cI, 30, .inl (fun _ => 0))), (r4, .inl (cI, 30, .inl (fun _ => 0))), (r5, .inl (cI, 30, .inl (fun _ => 0))), (r6, .inl (cI, 30, .inl (fun _ => 0))), (r7, .inl (cI, 30, .inl (fun _ => 0))), (r8, .inl (cI, 30, .inl (fun _ => 0))), (r9, .inl (cI, 3, .inl (fun _ => 0))), (r10, .inl (cI, 90, .inl (fun _ => 0))), (r11, .inl (cI, 90, .inl (fun _ => 0))), (r12, .inl (cI, 30, .inl (fun _ => 0)))] C 0 rfl rfl wu_X8 21 (by decide) wf_X8_54 tyX8 tyX8_ok nmX8 rfl rfl rfl rfl (Nat.le_of_ble_eq_true rfl) rfl dX8_init_111 rfl ?_
  refine n_aload_n 115 C dX8_init_114 rfl (j := 0) rfl rfl ?_
  refine n_bipush 117 (v := 30) C dX8_init_115 (by decide) rfl ?_
  refine n_newa 119 C wa_I (N := 30) (by decide) (by decide) (Nat.le_of_ble_eq_true rfl) (Nat.le_of_ble_eq_true rfl) (Nat.le_of_ble_eq_true rfl) dX8_init_117 rfl (fun r13 => ?_)
  show Gn E rmX8_init 2 119 [(0, .ref h0), (1, .int p1)] [.ref r13, .ref h0] [(h0, .inr (8, [.ref r1, .int 0, .int 0, .ref r2, .ref r3, .ref r4, .int 0, .int 0, .int (-1), .int (-1), .int (-1), .int 0, .ref r5, .ref r6, .ref r7, .ref r8, .ref r9, .int 0, .ref r10, .ref r11, .int 0, .ref r12, .null, .null, .null, .int 0])), (r1, .inl (cI, 170128, .inl (fun _ => 0))), (r2, .inl (cI, 30, .inl (fun _ => 0))), (r3, .inl (cI, 30, .inl (fun _ => 0))), (r4, .inl (cI, 30, .inl (fun _ => 0))), (r5, .inl (cI, 30, .inl (fun _ => 0))), (r6, .inl (cI, 30, .inl (fun _ => 0))), (r7, .inl (cI, 30, .inl (fun _ => 0))), (r8, .inl (cI, 30, .inl (fun _ => 0))), (r9, .inl (cI, 3, .inl (fun _ => 0))), (r10, .inl (cI, 90, .inl (fun _ => 0))), (r11, .inl (cI, 90, .inl (fun _ => 0))), (r12, .inl (cI, 30, .inl (fun _ => 0))), (r13, .inl (cI, 30, .inl (fun _ => 0)))] 13 170581
  refine n_putF 122 [(h0, .inr (8, [.ref r1, .int 0, .int 0, .ref r2, .ref r3, .ref r4, .int 0, .int 0, .int (-1), .int (-1), .int (-1), .int 0, .ref r5, .ref r6, .ref r7, .ref r8, .ref r9, .int 0, .ref r10, .ref r11, .int 0, .ref r12, .ref r13, .null, .null, .int 0])), (r1, .inl (cI, 170128, .inl (fun _ => 0))), (r2, .inl (cI, 30, .inl (fun _ => 0))), (r3, .inl (cI, 30, .inl (fun _ => 0))), (r4, .inl (cI, 30, .inl (fun _ => 0))), (r5, .inl (cI, 30, .inl (fun _ => 0))), (r6, .inl (cI, 30, .inl (fun _ => 0))), (r7, .inl (cI, 30, .inl (fun _ => 0))), (r8, .inl (cI, 30, .inl (fun _ => 0))), (r9, .inl (cI, 3, .inl (fun _ => 0))), (r10, .inl (cI, 90, .inl (fun _ => 0))), (r11, .inl (cI, 90, .inl (fun _ => 0))), (r12, .inl (cI, 30, .inl (fun _ => 0))), (r13, .inl (cI, 30, .inl (fun _ => 0)))] C 0 rfl rfl wu_X8 22 (by decide) wf_X8_57 tyX8 tyX8_ok nmX8 rfl rfl rfl rfl (Nat.le_of_ble_eq_true rfl) rfl dX8_init_119 rfl ?_
  refine n_aload_n 123 C dX8_init_122 rfl (j := 0) rfl rfl ?_
  refine n_bipush 125 (v := 90) C dX8_init_123 (by decide) rfl ?_
  refine n_newa 127 C wa_I (N := 90) (by decide) (by decide) (Nat.le_of_ble_eq_true rfl) (Nat.le_of_ble_eq_true rfl) (Nat.le_of_ble_eq_true rfl) dX8_init_125 rfl (fun r14 => ?_)
  show Gn E rmX8_init 2 127 [(0, .ref h0), (1, .int p1)] [.ref r14, .ref h0] [(h0, .inr (8, [.ref r1, .int 0, .int 0, .ref r2, .ref r3, .ref r4, .int 0, .int 0, .int (-1), .int (-1), .int (-1), .int 0, .ref r5, .ref r6, .ref r7, .ref r8, .ref r9, .int 0, .ref r10, .ref r11, .int 0, .ref r12, .ref r13, .null, .null, .int 0])), (r1, .inl (cI, 170128, .inl (fun _ => 0))), (r2, .inl (cI, 30, .inl (fun _ => 0))), (r3, .inl (cI, 30, .inl (fun _ => 0))), (r4, .inl (cI, 30, .inl (fun _ => 0))), (r5, .inl (cI, 30, .inl (fun _ => 0))), (r6, .inl (cI, 30, .inl (fun _ => 0))), (r7, .inl (cI, 30, .inl (fun _ => 0))), (r8, .inl (cI, 30, .inl (fun _ => 0))), (r9, .inl (cI, 3, .inl (fun _ => 0))), (r10, .inl (cI, 90, .inl (fun _ => 0))), (r11, .inl (cI, 90, .inl (fun _ => 0))), (r12, .inl (cI, 30, .inl (fun _ => 0))), (r13, .inl (cI, 30, .inl (fun _ => 0))), (r14, .inl (cI, 90, .inl (fun _ => 0)))] 14 170671
  refine n_putF 130 [(h0, .inr (8, [.ref r1, .int 0, .int 0, .ref r2, .ref r3, .ref r4, .int 0, .int 0, .int (-1), .int (-1), .int (-1), .int 0, .ref r5, .ref r6, .ref r7, .ref r8, .ref r9, .int 0, .ref r10, .ref r11, .int 0, .ref r12, .ref r13, .ref r14, .null, .int 0])), (r1, .inl (cI, 170128, .inl (fun _ => 0))), (r2, .inl (cI, 30, .inl (fun _ => 0))), (r3, .inl (cI, 30, .inl (fun _ => 0))), (r4, .inl (cI, 30, .inl (fun _ => 0))), (r5, .inl (cI, 30, .inl (fun _ => 0))), (r6, .inl (cI, 30, .inl (fun _ => 0))), (r7, .inl (cI, 30, .inl (fun _ => 0))), (r8, .inl (cI, 30, .inl (fun _ => 0))), (r9, .inl (cI, 3, .inl (fun _ => 0))), (r10, .inl (cI, 90, .inl (fun _ => 0))), (r11, .inl (cI, 90, .inl (fun _ => 0))), (r12, .inl (cI, 30, .inl (fun _ => 0))), (r13, .inl (cI, 30, .inl (fun _ => 0))), (r14, .inl (cI, 90, .inl (fun _ => 0)))] C 0 rfl rfl wu_X8 23 (by decide) wf_X8_60 tyX8 tyX8_ok nmX8 rfl rfl rfl rfl (Nat.le_of_ble_eq_true rfl) rfl dX8_init_127 rfl ?_
  refine n_aload_n 131 C dX8_init_130 rfl (j := 0) rfl rfl ?_
  refine n_sipush 134 (v := 400) C dX8_init_131 (by decide) rfl ?_
  refine n_newa 136 C wa_I (N := 400) (by decide) (by decide) (Nat.le_of_ble_eq_true rfl) (Nat.le_of_ble_eq_true rfl) (Nat.le_of_ble_eq_true rfl) dX8_init_134 rfl (fun r15 => ?_)
  show Gn E rmX8_init 2 136 [(0, .ref h0), (1, .int p1)] [.ref r15, .ref h0] [(h0, .inr (8, [.ref r1, .int 0, .int 0, .ref r2, .ref r3, .ref r4, .int 0, .int 0, .int (-1), .int (-1), .int (-1), .int 0, .ref r5, .ref r6, .ref r7, .ref r8, .ref r9, .int 0, .ref r10, .ref r11, .int 0, .ref r12, .ref r13, .ref r14, .null, .int 0])), (r1, .inl (cI, 170128, .inl (fun _ => 0))), (r2, .inl (cI, 30, .inl (fun _ => 0))), (r3, .inl (cI, 30, .inl (fun _ => 0))), (r4, .inl (cI, 30, .inl (fun _ => 0))), (r5, .inl (cI, 30, .inl (fun _ => 0))), (r6, .inl (cI, 30, .inl (fun _ => 0))), (r7, .inl (cI, 30, .inl (fun _ => 0))), (r8, .inl (cI, 30, .inl (fun _ => 0))), (r9, .inl (cI, 3, .inl (fun _ => 0))), (r10, .inl (cI, 90, .inl (fun _ => 0))), (r11, .inl (cI, 90, .inl (fun _ => 0))), (r12, .inl (cI, 30, .inl (fun _ => 0))), (r13, .inl (cI, 30, .inl (fun _ => 0))), (r14, .inl (cI, 90, .inl (fun _ => 0))), (r15, .inl (cI, 400, .inl (fun _ => 0)))] 15 171071
  refine n_putF 139 [(h0, .inr (8, [.ref r1, .int 0, .int 0, .ref r2, .ref r3, .ref r4, .int 0, .int 0, .int (-1), .int (-1), .int (-1), .int 0, .ref r5, .ref r6, .ref r7, .ref r8, .ref r9, .int 0, .ref r10, .ref r11, .int 0, .ref r12, .ref r13, .ref r14, .ref r15, .int 0])), (r1, .inl (cI, 170128, .inl (fun _ => 0))), (r2, .inl (cI, 30, .inl (fun _ => 0))), (r3, .inl (cI, 30, .inl (fun _ => 0))), (r4, .inl (cI, 30, .inl (fun _ => 0))), (r5, .inl (cI, 30, .inl (fun _ => 0))), (r6, .inl (cI, 30, .inl (fun _ => 0))), (r7, .inl (cI, 30, .inl (fun _ => 0))), (r8, .inl (cI, 30, .inl (fun _ => 0))), (r9, .inl (cI, 3, .inl (fun _ => 0))), (r10, .inl (cI, 90, .inl (fun _ => 0))), (r11, .inl (cI, 90, .inl (fun _ => 0))), (r12, .inl (cI, 30, .inl (fun _ => 0))), (r13, .inl (cI, 30, .inl (fun _ => 0))), (r14, .inl (cI, 90, .inl (fun _ => 0))), (r15, .inl (cI, 400, .inl (fun _ => 0)))] C 0 rfl rfl wu_X8 24 (by decide) wf_X8_63 tyX8 tyX8_ok nmX8 rfl rfl rfl rfl (Nat.le_of_ble_eq_true rfl) rfl dX8_init_136 rfl ?_
  refine n_aload_n 140 C dX8_init_139 rfl (j := 0) rfl rfl ?_
  refine n_iconst 141 (v := 1) C dX8_init_140 (by decide) rfl ?_
  refine n_iload_n 142 C dX8_init_141 rfl (j := 1) rfl rfl ?_
  refine n_iconst 143 (v := 4) C dX8_init_142 (by decide) rfl ?_
  refine n_icmp_ge 150 146 C dX8_init_143 (by decide) rfl (fun hc16 => ?_) (fun hc16 => ?_)
  · refine n_iload_n 151 C dX8_init_150 rfl (j := 1) rfl rfl ?_
    refine n_bipush 153 (v := 16) C dX8_init_151 (by decide) rfl ?_
    refine n_icmp_le 161 156 C dX8_init_153 (by decide) rfl (fun hc17 => ?_) (fun hc17 => ?_)
    · refine n_iload_n 162 C dX8_init_161 rfl (j := 1) rfl rfl ?_
      refine n_ishl 163 C dX8_init_162 rfl ?_
      refine n_putF 166 [(h0, .inr (8, [.ref r1, .int ((1 : Int32) <<< (p1 &&& 31)), .int 0, .ref r2, .ref r3, .ref r4, .int 0, .int 0, .int (-1), .int (-1), .int (-1), .int 0, .ref r5, .ref r6, .ref r7, .ref r8, .ref r9, .int 0, .ref r10, .ref r11, .int 0, .ref r12, .ref r13, .ref r14, .ref r15, .int 0])), (r1, .inl (cI, 170128, .inl (fun _ => 0))), (r2, .inl (cI, 30, .inl (fun _ => 0))), (r3, .inl (cI, 30, .inl (fun _ => 0))), (r4, .inl (cI, 30, .inl (fun _ => 0))), (r5, .inl (cI, 30, .inl (fun _ => 0))), (r6, .inl (cI, 30, .inl (fun _ => 0))), (r7, .inl (cI, 30, .inl (fun _ => 0))), (r8, .inl (cI, 30, .inl (fun _ => 0))), (r9, .inl (cI, 3, .inl (fun _ => 0))), (r10, .inl (cI, 90, .inl (fun _ => 0))), (r11, .inl (cI, 90, .inl (fun _ => 0))), (r12, .inl (cI, 30, .inl (fun _ => 0))), (r13, .inl (cI, 30, .inl (fun _ => 0))), (r14, .inl (cI, 90, .inl (fun _ => 0))), (r15, .inl (cI, 400, .inl (fun _ => 0)))] C 0 rfl rfl wu_X8 1 (by decide) wf_X8_66 tyX8 tyX8_ok nmX8 rfl rfl rfl rfl (Nat.le_of_ble_eq_true rfl) rfl dX8_init_163 rfl ?_
      rw [show ((1 : Int32) <<< (p1 &&& 31) : Int32) = modM p1 from by unfold modM; rw [if_pos hc16, if_pos hc17]]
      exact K0 _ _ [r1, r2, r3, r4, r5, r6, r7, r8, r9, r10, r11, r12, r13, r14, r15] dX8_init_166
    · refine n_bipush 158 (v := 16) C dX8_init_156 (by decide) rfl ?_
      refine n_goto 162 C dX8_init_158 (by decide) ?_
      refine n_ishl 163 C dX8_init_162 rfl ?_
      refine n_putF 166 [(h0, .inr (8, [.ref r1, .int ((1 : Int32) <<< (16 &&& 31)), .int 0, .ref r2, .ref r3, .ref r4, .int 0, .int 0, .int (-1), .int (-1), .int (-1), .int 0, .ref r5, .ref r6, .ref r7, .ref r8, .ref r9, .int 0, .ref r10, .ref r11, .int 0, .ref r12, .ref r13, .ref r14, .ref r15, .int 0])), (r1, .inl (cI, 170128, .inl (fun _ => 0))), (r2, .inl (cI, 30, .inl (fun _ => 0))), (r3, .inl (cI, 30, .inl (fun _ => 0))), (r4, .inl (cI, 30, .inl (fun _ => 0))), (r5, .inl (cI, 30, .inl (fun _ => 0))), (r6, .inl (cI, 30, .inl (fun _ => 0))), (r7, .inl (cI, 30, .inl (fun _ => 0))), (r8, .inl (cI, 30, .inl (fun _ => 0))), (r9, .inl (cI, 3, .inl (fun _ => 0))), (r10, .inl (cI, 90, .inl (fun _ => 0))), (r11, .inl (cI, 90, .inl (fun _ => 0))), (r12, .inl (cI, 30, .inl (fun _ => 0))), (r13, .inl (cI, 30, .inl (fun _ => 0))), (r14, .inl (cI, 90, .inl (fun _ => 0))), (r15, .inl (cI, 400, .inl (fun _ => 0)))] C 0 rfl rfl wu_X8 1 (by decide) wf_X8_66 tyX8 tyX8_ok nmX8 rfl rfl rfl rfl (Nat.le_of_ble_eq_true rfl) rfl dX8_init_163 rfl ?_
      rw [show ((1 : Int32) <<< (16 &&& 31) : Int32) = modM p1 from by unfold modM; rw [if_pos hc16, if_neg hc17]]
      exact K0 _ _ [r1, r2, r3, r4, r5, r6, r7, r8, r9, r10, r11, r12, r13, r14, r15] dX8_init_166
  · refine n_iconst 147 (v := 4) C dX8_init_146 (by decide) rfl ?_
    refine n_goto 162 C dX8_init_147 (by decide) ?_
    refine n_ishl 163 C dX8_init_162 rfl ?_
    refine n_putF 166 [(h0, .inr (8, [.ref r1, .int ((1 : Int32) <<< (4 &&& 31)), .int 0, .ref r2, .ref r3, .ref r4, .int 0, .int 0, .int (-1), .int (-1), .int (-1), .int 0, .ref r5, .ref r6, .ref r7, .ref r8, .ref r9, .int 0, .ref r10, .ref r11, .int 0, .ref r12, .ref r13, .ref r14, .ref r15, .int 0])), (r1, .inl (cI, 170128, .inl (fun _ => 0))), (r2, .inl (cI, 30, .inl (fun _ => 0))), (r3, .inl (cI, 30, .inl (fun _ => 0))), (r4, .inl (cI, 30, .inl (fun _ => 0))), (r5, .inl (cI, 30, .inl (fun _ => 0))), (r6, .inl (cI, 30, .inl (fun _ => 0))), (r7, .inl (cI, 30, .inl (fun _ => 0))), (r8, .inl (cI, 30, .inl (fun _ => 0))), (r9, .inl (cI, 3, .inl (fun _ => 0))), (r10, .inl (cI, 90, .inl (fun _ => 0))), (r11, .inl (cI, 90, .inl (fun _ => 0))), (r12, .inl (cI, 30, .inl (fun _ => 0))), (r13, .inl (cI, 30, .inl (fun _ => 0))), (r14, .inl (cI, 90, .inl (fun _ => 0))), (r15, .inl (cI, 400, .inl (fun _ => 0)))] C 0 rfl rfl wu_X8 1 (by decide) wf_X8_66 tyX8 tyX8_ok nmX8 rfl rfl rfl rfl (Nat.le_of_ble_eq_true rfl) rfl dX8_init_163 rfl ?_
    rw [show ((1 : Int32) <<< (4 &&& 31) : Int32) = modM p1 from by unfold modM; rw [if_neg hc16]]
    exact K0 _ _ [r1, r2, r3, r4, r5, r6, r7, r8, r9, r10, r11, r12, r13, r14, r15] dX8_init_166
theorem qX7_init : yX7_init.cls ≠ "java/lang/invoke/MethodHandle" ∧ yX7_init.cls ≠ "java/lang/invoke/VarHandle" ∧ (parseMethodDescriptor yX7_init.desc).map (fun d => d.parameters.length) = some 1 := by decide +kernel
theorem DX7_init : ∀ q ∈ ([(0, .aload_n 0, 1), (1, .invokespecial 3, 3), (4, .iconst 4, 1), (5, .bipush 16, 2), (7, .iload_n 1, 1), (8, .invokestatic 9, 3), (11, .invokestatic 15, 3), (14, .istore_n 2, 1), (15, .iconst 1, 1), (16, .iload_n 2, 1), (17, .ishl, 1), (18, .iconst 1, 1), (19, .isub, 1), (20, .istore_n 3, 1), (21, .aload_n 0, 1), (22, .new 18, 3), (25, .dup, 1), (26, .iload_n 3, 1), (27, .invokespecial 20, 3), (30, .putfield 23, 3), (33, .aload_n 0, 1), (34, .new 27, 3), (37, .dup, 1), (38, .iload_n 3, 1), (39, .invokespecial 29, 3), (42, .putfield 30, 3), (45, .aload_n 0, 1), (46, .new 34, 3), (49, .dup, 1), (50, .aload_n 0, 1), (51, .getfield 30, 3), (54, .iload_n 3, 1), (55, .invokespecial 36, 3), (58, .putfield 39, 3), (61, .aload_n 0, 1), (62, .new 43, 3), (65, .dup, 1), (66, .aload_n 0, 1), (67, .getfield 39, 3), (70, .iload_n 3, 1), (71, .invokespecial 45, 3), (74, .putfield 48, 3), (77, .aload_n 0, 1), (78, .new 52, 3), (81, .dup, 1), (82, .aload_n 0, 1), (83, .getfield 23, 3), (86, .aload_n 0, 1), (87, .getfield 48, 3), (90, .invokespecial 54, 3), (93, .putfield 57, 3), (96, .aload_n 0, 1), (97, .new 61, 3), (100, .dup, 1), (101, .aload_n 0, 1), (102, .getfield 23, 3), (105, .aload_n 0, 1), (106, .getfield 57, 3), (109, .aload_n 0, 1), (110, .getfield 48, 3), (113, .invokespecial 63, 3), (116, .putfield 66, 3), (119, .aload_n 0, 1), (120, .new 70, 3), (123, .dup, 1), (124, .aload_n 0, 1), (125, .getfield 23, 3), (128, .aload_n 0, 1), (129, .getfield 57, 3), (132, .aload_n 0, 1), (133, .getfield 66, 3), (136, .aload_n 0, 1), (137, .getfield 48, 3), (140, .invokespecial 72, 3), (143, .putfield 75, 3), (146, .return_, 1)] : List (Nat × Instr × Nat)), decode cX7_init q.1 = .ok q.2 := by decide +kernel
theorem dX7_init_0 : decode cX7_init 0 = .ok (.aload_n 0, 1) := DX7_init (0, .aload_n 0, 1) (List.mem_of_getElem? (i := 0) rfl)
theorem dX7_init_1 : decode cX7_init 1 = .ok (.invokespecial 3, 3) := DX7_init (1, .invokespecial 3, 3) (List.mem_of_getElem? (i := 1) rfl)
theorem dX7_init_4 : decode cX7_init 4 = .ok (.iconst 4, 1) := DX7_init (4, .iconst 4, 1) (List.mem_of_getElem? (i := 2) rfl)
theorem dX7_init_5 : decode cX7_init 5 = .ok (.bipush 16, 2) := DX7_init (5, .bipush 16, 2) (List.mem_of_getElem? (i := 3) rfl)
theorem dX7_init_7 : decode cX7_init 7 = .ok (.iload_n 1, 1) := DX7_init (7, .iload_n 1, 1) (List.mem_of_getElem? (i := 4) rfl)
theorem dX7_init_8 : decode cX7_init 8 = .ok (.invokestatic 9, 3) := DX7_init (8, .invokestatic 9, 3) (List.mem_of_getElem? (i := 5) rfl)
theorem dX7_init_11 : decode cX7_init 11 = .ok (.invokestatic 15, 3) := DX7_init (11, .invokestatic 15, 3) (List.mem_of_getElem? (i := 6) rfl)
theorem dX7_init_14 : decode cX7_init 14 = .ok (.istore_n 2, 1) := DX7_init (14, .istore_n 2, 1) (List.mem_of_getElem? (i := 7) rfl)
theorem dX7_init_15 : decode cX7_init 15 = .ok (.iconst 1, 1) := DX7_init (15, .iconst 1, 1) (List.mem_of_getElem? (i := 8) rfl)
theorem dX7_init_16 : decode cX7_init 16 = .ok (.iload_n 2, 1) := DX7_init (16, .iload_n 2, 1) (List.mem_of_getElem? (i := 9) rfl)
theorem dX7_init_17 : decode cX7_init 17 = .ok (.ishl, 1) := DX7_init (17, .ishl, 1) (List.mem_of_getElem? (i := 10) rfl)
theorem dX7_init_18 : decode cX7_init 18 = .ok (.iconst 1, 1) := DX7_init (18, .iconst 1, 1) (List.mem_of_getElem? (i := 11) rfl)
theorem dX7_init_19 : decode cX7_init 19 = .ok (.isub, 1) := DX7_init (19, .isub, 1) (List.mem_of_getElem? (i := 12) rfl)
theorem dX7_init_20 : decode cX7_init 20 = .ok (.istore_n 3, 1) := DX7_init (20, .istore_n 3, 1) (List.mem_of_getElem? (i := 13) rfl)
theorem dX7_init_21 : decode cX7_init 21 = .ok (.aload_n 0, 1) := DX7_init (21, .aload_n 0, 1) (List.mem_of_getElem? (i := 14) rfl)
theorem dX7_init_22 : decode cX7_init 22 = .ok (.new 18, 3) := DX7_init (22, .new 18, 3) (List.mem_of_getElem? (i := 15) rfl)
theorem dX7_init_25 : decode cX7_init 25 = .ok (.dup, 1) := DX7_init (25, .dup, 1) (List.mem_of_getElem? (i := 16) rfl)
theorem dX7_init_26 : decode cX7_init 26 = .ok (.iload_n 3, 1) := DX7_init (26, .iload_n 3, 1) (List.mem_of_getElem? (i := 17) rfl)
theorem dX7_init_27 : decode cX7_init 27 = .ok (.invokespecial 20, 3) := DX7_init (27, .invokespecial 20, 3) (List.mem_of_getElem? (i := 18) rfl)
theorem dX7_init_30 : decode cX7_init 30 = .ok (.putfield 23, 3) := DX7_init (30, .putfield 23, 3) (List.mem_of_getElem? (i := 19) rfl)
theorem dX7_init_33 : decode cX7_init 33 = .ok (.aload_n 0, 1) := DX7_init (33, .aload_n 0, 1) (List.mem_of_getElem? (i := 20) rfl)
theorem dX7_init_34 : decode cX7_init 34 = .ok (.new 27, 3) := DX7_init (34, .new 27, 3) (List.mem_of_getElem? (i := 21) rfl)
theorem dX7_init_37 : decode cX7_init 37 = .ok (.dup, 1) := DX7_init (37, .dup, 1) (List.mem_of_getElem? (i := 22) rfl)
theorem dX7_init_38 : decode cX7_init 38 = .ok (.iload_n 3, 1) := DX7_init (38, .iload_n 3, 1) (List.mem_of_getElem? (i := 23) rfl)
theorem dX7_init_39 : decode cX7_init 39 = .ok (.invokespecial 29, 3) := DX7_init (39, .invokespecial 29, 3) (List.mem_of_getElem? (i := 24) rfl)
theorem dX7_init_42 : decode cX7_init 42 = .ok (.putfield 30, 3) := DX7_init (42, .putfield 30, 3) (List.mem_of_getElem? (i := 25) rfl)
theorem dX7_init_45 : decode cX7_init 45 = .ok (.aload_n 0, 1) := DX7_init (45, .aload_n 0, 1) (List.mem_of_getElem? (i := 26) rfl)
theorem dX7_init_46 : decode cX7_init 46 = .ok (.new 34, 3) := DX7_init (46, .new 34, 3) (List.mem_of_getElem? (i := 27) rfl)
theorem dX7_init_49 : decode cX7_init 49 = .ok (.dup, 1) := DX7_init (49, .dup, 1) (List.mem_of_getElem? (i := 28) rfl)
theorem dX7_init_50 : decode cX7_init 50 = .ok (.aload_n 0, 1) := DX7_init (50, .aload_n 0, 1) (List.mem_of_getElem? (i := 29) rfl)
theorem dX7_init_51 : decode cX7_init 51 = .ok (.getfield 30, 3) := DX7_init (51, .getfield 30, 3) (List.mem_of_getElem? (i := 30) rfl)
theorem dX7_init_54 : decode cX7_init 54 = .ok (.iload_n 3, 1) := DX7_init (54, .iload_n 3, 1) (List.mem_of_getElem? (i := 31) rfl)
theorem dX7_init_55 : decode cX7_init 55 = .ok (.invokespecial 36, 3) := DX7_init (55, .invokespecial 36, 3) (List.mem_of_getElem? (i := 32) rfl)
theorem dX7_init_58 : decode cX7_init 58 = .ok (.putfield 39, 3) := DX7_init (58, .putfield 39, 3) (List.mem_of_getElem? (i := 33) rfl)
theorem dX7_init_61 : decode cX7_init 61 = .ok (.aload_n 0, 1) := DX7_init (61, .aload_n 0, 1) (List.mem_of_getElem? (i := 34) rfl)
theorem dX7_init_62 : decode cX7_init 62 = .ok (.new 43, 3) := DX7_init (62, .new 43, 3) (List.mem_of_getElem? (i := 35) rfl)
theorem dX7_init_65 : decode cX7_init 65 = .ok (.dup, 1) := DX7_init (65, .dup, 1) (List.mem_of_getElem? (i := 36) rfl)
theorem dX7_init_66 : decode cX7_init 66 = .ok (.aload_n 0, 1) := DX7_init (66, .aload_n 0, 1) (List.mem_of_getElem? (i := 37) rfl)
theorem dX7_init_67 : decode cX7_init 67 = .ok (.getfield 39, 3) := DX7_init (67, .getfield 39, 3) (List.mem_of_getElem? (i := 38) rfl)
theorem dX7_init_70 : decode cX7_init 70 = .ok (.iload_n 3, 1) := DX7_init (70, .iload_n 3, 1) (List.mem_of_getElem? (i := 39) rfl)
theorem dX7_init_71 : decode cX7_init 71 = .ok (.invokespecial 45, 3) := DX7_init (71, .invokespecial 45, 3) (List.mem_of_getElem? (i := 40) rfl)
theorem dX7_init_74 : decode cX7_init 74 = .ok (.putfield 48, 3) := DX7_init (74, .putfield 48, 3) (List.mem_of_getElem? (i := 41) rfl)
theorem dX7_init_77 : decode cX7_init 77 = .ok (.aload_n 0, 1) := DX7_init (77, .aload_n 0, 1) (List.mem_of_getElem? (i := 42) rfl)
theorem dX7_init_78 : decode cX7_init 78 = .ok (.new 52, 3) := DX7_init (78, .new 52, 3) (List.mem_of_getElem? (i := 43) rfl)
theorem dX7_init_81 : decode cX7_init 81 = .ok (.dup, 1) := DX7_init (81, .dup, 1) (List.mem_of_getElem? (i := 44) rfl)
theorem dX7_init_82 : decode cX7_init 82 = .ok (.aload_n 0, 1) := DX7_init (82, .aload_n 0, 1) (List.mem_of_getElem? (i := 45) rfl)
theorem dX7_init_83 : decode cX7_init 83 = .ok (.getfield 23, 3) := DX7_init (83, .getfield 23, 3) (List.mem_of_getElem? (i := 46) rfl)
theorem dX7_init_86 : decode cX7_init 86 = .ok (.aload_n 0, 1) := DX7_init (86, .aload_n 0, 1) (List.mem_of_getElem? (i := 47) rfl)
theorem dX7_init_87 : decode cX7_init 87 = .ok (.getfield 48, 3) := DX7_init (87, .getfield 48, 3) (List.mem_of_getElem? (i := 48) rfl)
theorem dX7_init_90 : decode cX7_init 90 = .ok (.invokespecial 54, 3) := DX7_init (90, .invokespecial 54, 3) (List.mem_of_getElem? (i := 49) rfl)
theorem dX7_init_93 : decode cX7_init 93 = .ok (.putfield 57, 3) := DX7_init (93, .putfield 57, 3) (List.mem_of_getElem? (i := 50) rfl)
theorem dX7_init_96 : decode cX7_init 96 = .ok (.aload_n 0, 1) := DX7_init (96, .aload_n 0, 1) (List.mem_of_getElem? (i := 51) rfl)
theorem dX7_init_97 : decode cX7_init 97 = .ok (.new 61, 3) := DX7_init (97, .new 61, 3) (List.mem_of_getElem? (i := 52) rfl)
theorem dX7_init_100 : decode cX7_init 100 = .ok (.dup, 1) := DX7_init (100, .dup, 1) (List.mem_of_getElem? (i := 53) rfl)
theorem dX7_init_101 : decode cX7_init 101 = .ok (.aload_n 0, 1) := DX7_init (101, .aload_n 0, 1) (List.mem_of_getElem? (i := 54) rfl)
theorem dX7_init_102 : decode cX7_init 102 = .ok (.getfield 23, 3) := DX7_init (102, .getfield 23, 3) (List.mem_of_getElem? (i := 55) rfl)
theorem dX7_init_105 : decode cX7_init 105 = .ok (.aload_n 0, 1) := DX7_init (105, .aload_n 0, 1) (List.mem_of_getElem? (i := 56) rfl)
theorem dX7_init_106 : decode cX7_init 106 = .ok (.getfield 57, 3) := DX7_init (106, .getfield 57, 3) (List.mem_of_getElem? (i := 57) rfl)
theorem dX7_init_109 : decode cX7_init 109 = .ok (.aload_n 0, 1) := DX7_init (109, .aload_n 0, 1) (List.mem_of_getElem? (i := 58) rfl)
theorem dX7_init_110 : decode cX7_init 110 = .ok (.getfield 48, 3) := DX7_init (110, .getfield 48, 3) (List.mem_of_getElem? (i := 59) rfl)
theorem dX7_init_113 : decode cX7_init 113 = .ok (.invokespecial 63, 3) := DX7_init (113, .invokespecial 63, 3) (List.mem_of_getElem? (i := 60) rfl)
theorem dX7_init_116 : decode cX7_init 116 = .ok (.putfield 66, 3) := DX7_init (116, .putfield 66, 3) (List.mem_of_getElem? (i := 61) rfl)
theorem dX7_init_119 : decode cX7_init 119 = .ok (.aload_n 0, 1) := DX7_init (119, .aload_n 0, 1) (List.mem_of_getElem? (i := 62) rfl)
theorem dX7_init_120 : decode cX7_init 120 = .ok (.new 70, 3) := DX7_init (120, .new 70, 3) (List.mem_of_getElem? (i := 63) rfl)
theorem dX7_init_123 : decode cX7_init 123 = .ok (.dup, 1) := DX7_init (123, .dup, 1) (List.mem_of_getElem? (i := 64) rfl)
theorem dX7_init_124 : decode cX7_init 124 = .ok (.aload_n 0, 1) := DX7_init (124, .aload_n 0, 1) (List.mem_of_getElem? (i := 65) rfl)
theorem dX7_init_125 : decode cX7_init 125 = .ok (.getfield 23, 3) := DX7_init (125, .getfield 23, 3) (List.mem_of_getElem? (i := 66) rfl)
theorem dX7_init_128 : decode cX7_init 128 = .ok (.aload_n 0, 1) := DX7_init (128, .aload_n 0, 1) (List.mem_of_getElem? (i := 67) rfl)
theorem dX7_init_129 : decode cX7_init 129 = .ok (.getfield 57, 3) := DX7_init (129, .getfield 57, 3) (List.mem_of_getElem? (i := 68) rfl)
theorem dX7_init_132 : decode cX7_init 132 = .ok (.aload_n 0, 1) := DX7_init (132, .aload_n 0, 1) (List.mem_of_getElem? (i := 69) rfl)
theorem dX7_init_133 : decode cX7_init 133 = .ok (.getfield 66, 3) := DX7_init (133, .getfield 66, 3) (List.mem_of_getElem? (i := 70) rfl)
theorem dX7_init_136 : decode cX7_init 136 = .ok (.aload_n 0, 1) := DX7_init (136, .aload_n 0, 1) (List.mem_of_getElem? (i := 71) rfl)
theorem dX7_init_137 : decode cX7_init 137 = .ok (.getfield 48, 3) := DX7_init (137, .getfield 48, 3) (List.mem_of_getElem? (i := 72) rfl)
theorem dX7_init_140 : decode cX7_init 140 = .ok (.invokespecial 72, 3) := DX7_init (140, .invokespecial 72, 3) (List.mem_of_getElem? (i := 73) rfl)
theorem dX7_init_143 : decode cX7_init 143 = .ok (.putfield 75, 3) := DX7_init (143, .putfield 75, 3) (List.mem_of_getElem? (i := 74) rfl)
theorem dX7_init_146 : decode cX7_init 146 = .ok (.return_, 1) := DX7_init (146, .return_, 1) (List.mem_of_getElem? (i := 75) rfl)
theorem n_sub {E : Gx} {R : Room} {nL pc : Nat} {lv : List (Nat × Value)} {st : List Value} {ws ws2 : va_W} {ce sl : Nat} (is : List Nat) (hn : va_nd is = true) (hs : is.map (fun i => ws[i]?) = ws2.map some) (k : Gn E R nL pc lv st ws2 ce sl) : Gn E R nL pc lv st ws ce sl := by
  obtain ⟨p, l, e, s, m, args, below, meth, c, D, Q, A, ce0, sl0⟩ := E
  intro H locs ls hP hD hS hl
  refine k H locs ls ?_ (hD.sub is hn hs) hS hl
  intro j q hj
  have h1 : (is.map (fun i => ws[i]?))[j]? = some (some q) := by rw [hs, List.getElem?_map, hj]; rfl
  rw [List.getElem?_map] at h1
  cases hi : is[j]? with
  | none => rw [hi] at h1; cases h1
  | some i => rw [hi] at h1; exact hP i q (Option.some.inj h1)
abbrev keptX (a : Int32) : Int32 := if 4 < (if a < 16 then a else 16) then (if a < 16 then a else 16) else 4
abbrev maskX (a : Int32) : Int32 := (1 <<< (keptX a &&& 31)) - 1
def adX (h0 : Nat) (L : List Nat) : Nat → Nat := fun k => if k = 7 then h0 else L.getD k 0
def initX (p1 : Int32) (τ : Mem) : Mem := fun k => ([fun j => ([0, 0, 0, 0, 0, 0, 0] : List Int32).getD j 0, fun j => ([0, maskX p1, 0] : List Int32).getD j 0, fun j => ([τ 0 0, 0, 0, 0, 0] : List Int32).getD j 0, fun j => ([maskX p1, 0, 0, 0, 0, 0, 0, 0, (-1), (-1), (-1), 1, 1] : List Int32).getD j 0, fun j => ([0, 0, 0, 0, 0, 0, 0, 0, 0, 0, 0] : List Int32).getD j 0, fun j => ([0, maskX p1, 0, 0] : List Int32).getD j 0, fun j => ([0, 0, 0, 0, 0, 0, 0, 0, 0, 0, 0] : List Int32).getD j 0, fun j => ([0, 0, 0, 0, 0, 0, 0] : List Int32).getD j 0, fun _ => 0, fun _ => 0, fun _ => 0, (τ 1), (τ 2), (τ 3), (τ 4), fun _ => 0, fun _ => 0, fun _ => 0, fun _ => 0, fun _ => 0, fun _ => 0, fun _ => 0, fun _ => 0, fun _ => 0, fun _ => 0, fun _ => 0, fun _ => 0, fun _ => 0, fun _ => 0, fun _ => 0, fun _ => 0, fun _ => 0] : List (Nat → Int32)).getD k (fun _ => 0)
abbrev rmX7_init : Room := { frames := 2, cells := 31, slots := 12395, locals := 36 }
set_option maxHeartbeats 4000000 in
set_option maxRecDepth 100000 in
theorem mX7_init {l : Launch} {D : va_G} {cI : ClassId} {h0 : Nat} {p1 : Int32} {τ : Mem} (hτ : fX2_init_L42 (mono0 (maskX p1)) = some τ) : MN l D cI yX7_init cX7_init 4 rmX7_init h0 7 [.null, .null, .null, .null, .null, .null, .null] [.int p1] (fun L : List Nat => wof cI (adX h0 L) (initX p1 τ) 0 layX) 31 12395 := by
  refine met_n (by decide) rfl (Nat.le_of_ble_eq_true rfl) (fun E C K0 hce hsl => ?_)
  show Gn E rmX7_init 4 0 [(0, .ref h0), (1, .int p1)] [] [(h0, .inr (7, [.null, .null, .null, .null, .null, .null, .null]))] 0 0
  refine n_aload_n 1 C dX7_init_0 rfl (j := 0) rfl rfl ?_
  refine n_obj 4 C wo_X7 wo_i wo_c (by decide) (Nat.le_of_ble_eq_true rfl) dX7_init_1 rfl ?_
  refine n_iconst 5 (v := 4) C dX7_init_4 (by decide) rfl ?_
  refine n_bipush 7 (v := 16) C dX7_init_5 (by decide) rfl ?_
  refine n_iload_n 8 C dX7_init_7 rfl (j := 1) rfl rfl ?_
  refine n_mmin 11 C wl_X7_9 wM_sn wM_in wM_cmin (by decide) (Nat.le_of_ble_eq_true rfl) (Nat.le_of_ble_eq_true rfl) (Nat.le_of_ble_eq_true rfl) dX7_init_8 rfl ?_
  refine n_mmax 14 C wl_X7_15 wM_st wM_in wM_cmax (by decide) (Nat.le_of_ble_eq_true rfl) (Nat.le_of_ble_eq_true rfl) (Nat.le_of_ble_eq_true rfl) dX7_init_11 rfl ?_
  refine n_istore_n 15 [(2, .int (keptX p1)), (0, .ref h0), (1, .int p1)] C dX7_init_14 rfl (by decide) rfl rfl ?_
  refine n_iconst 16 (v := 1) C dX7_init_15 (by decide) rfl ?_
  refine n_iload_n 17 C dX7_init_16 rfl (j := 0) rfl rfl ?_
  refine n_ishl 18 C dX7_init_17 rfl ?_
  refine n_iconst 19 (v := 1) C dX7_init_18 (by decide) rfl ?_
  refine n_isub 20 C dX7_init_19 rfl ?_
  refine n_istore_n 21 [(3, .int (maskX p1)), (2, .int (keptX p1)), (0, .ref h0), (1, .int p1)] C dX7_init_20 rfl (by decide) rfl rfl ?_
  refine n_aload_n 22 C dX7_init_21 rfl (j := 2) rfl rfl ?_
  refine n_new 25 (ci := 3) C tyX3 tyX3_ok wu_X3 wcl_X7_18 win_X3 wn_X3 rfl [.int 0, .null, .null, .null, .int 0, .int 0, .int 0, .int 0, .int 0, .int 0, .int 0, .int 0, .int 0] (by decide) (Nat.le_of_ble_eq_true rfl) (Nat.le_of_ble_eq_true rfl) dX7_init_22 rfl (fun r1 => ?_)
  show Gn E rmX7_init 4 25 [(3, .int (maskX p1)), (2, .int (keptX p1)), (0, .ref h0), (1, .int p1)] [.ref r1, .ref h0] [(h0, .inr (7, [.null, .null, .null, .null, .null, .null, .null])), (r1, .inr (3, [.int 0, .null, .null, .null, .int 0, .int 0, .int 0, .int 0, .int 0, .int 0, .int 0, .int 0, .int 0]))] 1 13
  refine n_dup 26 C dX7_init_25 rfl rfl ?_
  refine n_iload_n 27 C dX7_init_26 rfl (j := 0) rfl rfl ?_
  refine n_call 30 C (As := [.int (maskX p1)]) (wr := [(h0, .inr (7, [.null, .null, .null, .null, .null, .null, .null]))]) 1 [0] (mX3_init) (List.mem_of_getElem? (i := 0) rfl) wi_X3_init wc_X3_init wn_X3 rfl qX3_init rfl rfl ⟨Nat.le_of_ble_eq_true rfl, Nat.le_of_ble_eq_true rfl⟩ rfl rfl (by decide) (by decide) rfl rfl (Nat.le_of_ble_eq_true rfl) (Nat.le_of_ble_eq_true rfl) (Nat.le_of_ble_eq_true rfl) dX7_init_27 rfl (fun u2 => ?_)
  show Gn E rmX7_init 4 30 [(3, .int (maskX p1)), (2, .int (keptX p1)), (0, .ref h0), (1, .int p1)] [.ref r1, .ref h0] [(h0, .inr (7, [.null, .null, .null, .null, .null, .null, .null])), (r1, .inr (3, [.int (maskX p1), .ref u2.1, .ref u2.2.1, .ref u2.2.2, .int 0, .int 0, .int 0, .int 0, .int (-1), .int (-1), .int (-1), .int 1, .int 1])), (u2.1, .inl (cI, 30, .inl (fun _ => 0))), (u2.2.1, .inl (cI, 30, .inl (fun _ => 0))), (u2.2.2, .inl (cI, 30, .inl (fun _ => 0)))] 4 103
  refine n_putF 33 [(h0, .inr (7, [.ref r1, .null, .null, .null, .null, .null, .null])), (r1, .inr (3, [.int (maskX p1), .ref u2.1, .ref u2.2.1, .ref u2.2.2, .int 0, .int 0, .int 0, .int 0, .int (-1), .int (-1), .int (-1), .int 1, .int 1])), (u2.1, .inl (cI, 30, .inl (fun _ => 0))), (u2.2.1, .inl (cI, 30, .inl (fun _ => 0))), (u2.2.2, .inl (cI, 30, .inl (fun _ => 0)))] C 0 rfl rfl wu_X7 0 (by decide) wf_X7_23 tyX7 tyX7_ok nmX7 rfl rfl rfl rfl (Nat.le_of_ble_eq_true rfl) rfl dX7_init_30 rfl ?_
  refine n_aload_n 34 C dX7_init_33 rfl (j := 2) rfl rfl ?_
  refine n_new 37 (ci := 2) C tyX2 tyX2_ok wu_X2 wcl_X7_27 win_X2 wn_X2 rfl [.int 0, .null, .null, .null, .null] (by decide) (Nat.le_of_ble_eq_true rfl) (Nat.le_of_ble_eq_true rfl) dX7_init_34 rfl (fun r3 => ?_)
  show Gn E rmX7_init 4 37 [(3, .int (maskX p1)), (2, .int (keptX p1)), (0, .ref h0), (1, .int p1)] [.ref r3, .ref h0] [(h0, .inr (7, [.ref r1, .null, .null, .null, .null, .null, .null])), (r1, .inr (3, [.int (maskX p1), .ref u2.1, .ref u2.2.1, .ref u2.2.2, .int 0, .int 0, .int 0, .int 0, .int (-1), .int (-1), .int (-1), .int 1, .int 1])), (u2.1, .inl (cI, 30, .inl (fun _ => 0))), (u2.2.1, .inl (cI, 30, .inl (fun _ => 0))), (u2.2.2, .inl (cI, 30, .inl (fun _ => 0))), (r3, .inr (2, [.int 0, .null, .null, .null, .null]))] 5 108
  refine n_dup 38 C dX7_init_37 rfl rfl ?_
  refine n_iload_n 39 C dX7_init_38 rfl (j := 0) rfl rfl ?_
  refine n_call 42 C (As := [.int (maskX p1)]) (wr := [(h0, .inr (7, [.ref r1, .null, .null, .null, .null, .null, .null])), (r1, .inr (3, [.int (maskX p1), .ref u2.1, .ref u2.2.1, .ref u2.2.2, .int 0, .int 0, .int 0, .int 0, .int (-1), .int (-1), .int (-1), .int 1, .int 1])), (u2.1, .inl (cI, 30, .inl (fun _ => 0))), (u2.2.1, .inl (cI, 30, .inl (fun _ => 0))), (u2.2.2, .inl (cI, 30, .inl (fun _ => 0)))]) 5 [0, 1, 2, 3, 4] (mX2_init hτ) (List.mem_of_getElem? (i := 1) rfl) wi_X2_init wc_X2_init wn_X2 rfl qX2_init rfl rfl ⟨Nat.le_of_ble_eq_true rfl, Nat.le_of_ble_eq_true rfl⟩ rfl rfl (by decide) (by decide) rfl rfl (Nat.le_of_ble_eq_true rfl) (Nat.le_of_ble_eq_true rfl) (Nat.le_of_ble_eq_true rfl) dX7_init_39 rfl (fun u4 => ?_)
  show Gn E rmX7_init 4 42 [(3, .int (maskX p1)), (2, .int (keptX p1)), (0, .ref h0), (1, .int p1)] [.ref r3, .ref h0] [(h0, .inr (7, [.ref r1, .null, .null, .null, .null, .null, .null])), (r1, .inr (3, [.int (maskX p1), .ref u2.1, .ref u2.2.1, .ref u2.2.2, .int 0, .int 0, .int 0, .int 0, .int (-1), .int (-1), .int (-1), .int 1, .int 1])), (u2.1, .inl (cI, 30, .inl (fun _ => 0))), (u2.2.1, .inl (cI, 30, .inl (fun _ => 0))), (u2.2.2, .inl (cI, 30, .inl (fun _ => 0))), (r3, .inr (2, [.int (τ 0 0), .ref u4.1, .ref u4.2.1, .ref u4.2.2.1, .ref u4.2.2.2])), (u4.1, .inl (cI, 84, .inl (τ 1))), (u4.2.1, .inl (cI, 84, .inl (τ 2))), (u4.2.2.1, .inl (cI, 343, .inl (τ 3))), (u4.2.2.2, .inl (cI, 21, .inl (τ 4)))] 9 640
  refine n_putF 45 [(h0, .inr (7, [.ref r1, .ref r3, .null, .null, .null, .null, .null])), (r1, .inr (3, [.int (maskX p1), .ref u2.1, .ref u2.2.1, .ref u2.2.2, .int 0, .int 0, .int 0, .int 0, .int (-1), .int (-1), .int (-1), .int 1, .int 1])), (u2.1, .inl (cI, 30, .inl (fun _ => 0))), (u2.2.1, .inl (cI, 30, .inl (fun _ => 0))), (u2.2.2, .inl (cI, 30, .inl (fun _ => 0))), (r3, .inr (2, [.int (τ 0 0), .ref u4.1, .ref u4.2.1, .ref u4.2.2.1, .ref u4.2.2.2])), (u4.1, .inl (cI, 84, .inl (τ 1))), (u4.2.1, .inl (cI, 84, .inl (τ 2))), (u4.2.2.1, .inl (cI, 343, .inl (τ 3))), (u4.2.2.2, .inl (cI, 21, .inl (τ 4)))] C 0 rfl rfl wu_X7 1 (by decide) wf_X7_30 tyX7 tyX7_ok nmX7 rfl rfl rfl rfl (Nat.le_of_ble_eq_true rfl) rfl dX7_init_42 rfl ?_
  refine n_aload_n 46 C dX7_init_45 rfl (j := 2) rfl rfl ?_
  refine n_new 49 (ci := 5) C tyX5 tyX5_ok wu_X5 wcl_X7_34 win_X5 wn_X5 rfl [.null, .int 0, .null, .null] (by decide) (Nat.le_of_ble_eq_true rfl) (Nat.le_of_ble_eq_true rfl) dX7_init_46 rfl (fun r5 => ?_)
  show Gn E rmX7_init 4 49 [(3, .int (maskX p1)), (2, .int (keptX p1)), (0, .ref h0), (1, .int p1)] [.ref r5, .ref h0] [(h0, .inr (7, [.ref r1, .ref r3, .null, .null, .null, .null, .null])), (r1, .inr (3, [.int (maskX p1), .ref u2.1, .ref u2.2.1, .ref u2.2.2, .int 0, .int 0, .int 0, .int 0, .int (-1), .int (-1), .int (-1), .int 1, .int 1])), (u2.1, .inl (cI, 30, .inl (fun _ => 0))), (u2.2.1, .inl (cI, 30, .inl (fun _ => 0))), (u2.2.2, .inl (cI, 30, .inl (fun _ => 0))), (r3, .inr (2, [.int (τ 0 0), .ref u4.1, .ref u4.2.1, .ref u4.2.2.1, .ref u4.2.2.2])), (u4.1, .inl (cI, 84, .inl (τ 1))), (u4.2.1, .inl (cI, 84, .inl (τ 2))), (u4.2.2.1, .inl (cI, 343, .inl (τ 3))), (u4.2.2.2, .inl (cI, 21, .inl (τ 4))), (r5, .inr (5, [.null, .int 0, .null, .null]))] 10 644
  refine n_dup 50 C dX7_init_49 rfl rfl ?_
  refine n_aload_n 51 C dX7_init_50 rfl (j := 2) rfl rfl ?_
  refine n_get 54 C 0 rfl rfl wu_X7 1 (by decide) wf_X7_30 rfl dX7_init_51 rfl ?_
  refine n_iload_n 55 C dX7_init_54 rfl (j := 0) rfl rfl ?_
  refine n_call 58 C (As := [.ref r3, .int (maskX p1)]) (wr := [(h0, .inr (7, [.ref r1, .ref r3, .null, .null, .null, .null, .null])), (r1, .inr (3, [.int (maskX p1), .ref u2.1, .ref u2.2.1, .ref u2.2.2, .int 0, .int 0, .int 0, .int 0, .int (-1), .int (-1), .int (-1), .int 1, .int 1])), (u2.1, .inl (cI, 30, .inl (fun _ => 0))), (u2.2.1, .inl (cI, 30, .inl (fun _ => 0))), (u2.2.2, .inl (cI, 30, .inl (fun _ => 0))), (r3, .inr (2, [.int (τ 0 0), .ref u4.1, .ref u4.2.1, .ref u4.2.2.1, .ref u4.2.2.2])), (u4.1, .inl (cI, 84, .inl (τ 1))), (u4.2.1, .inl (cI, 84, .inl (τ 2))), (u4.2.2.1, .inl (cI, 343, .inl (τ 3))), (u4.2.2.2, .inl (cI, 21, .inl (τ 4)))]) 10 [0, 1, 2, 3, 4, 5, 6, 7, 8, 9] (mX5_init) (List.mem_of_getElem? (i := 2) rfl) wi_X5_init wc_X5_init wn_X5 rfl qX5_init rfl rfl ⟨Nat.le_of_ble_eq_true rfl, Nat.le_of_ble_eq_true rfl⟩ rfl rfl (by decide) (by decide) rfl rfl (Nat.le_of_ble_eq_true rfl) (Nat.le_of_ble_eq_true rfl) (Nat.le_of_ble_eq_true rfl) dX7_init_55 rfl (fun u6 => ?_)
  show Gn E rmX7_init 4 58 [(3, .int (maskX p1)), (2, .int (keptX p1)), (0, .ref h0), (1, .int p1)] [.ref r5, .ref h0] [(h0, .inr (7, [.ref r1, .ref r3, .null, .null, .null, .null, .null])), (r1, .inr (3, [.int (maskX p1), .ref u2.1, .ref u2.2.1, .ref u2.2.2, .int 0, .int 0, .int 0, .int 0, .int (-1), .int (-1), .int (-1), .int 1, .int 1])), (u2.1, .inl (cI, 30, .inl (fun _ => 0))), (u2.2.1, .inl (cI, 30, .inl (fun _ => 0))), (u2.2.2, .inl (cI, 30, .inl (fun _ => 0))), (r3, .inr (2, [.int (τ 0 0), .ref u4.1, .ref u4.2.1, .ref u4.2.2.1, .ref u4.2.2.2])), (u4.1, .inl (cI, 84, .inl (τ 1))), (u4.2.1, .inl (cI, 84, .inl (τ 2))), (u4.2.2.1, .inl (cI, 343, .inl (τ 3))), (u4.2.2.2, .inl (cI, 21, .inl (τ 4))), (r5, .inr (5, [.ref r3, .int (maskX p1), .ref u6.1, .ref u6.2])), (u6.1, .inl (cI, 10500, .inl (fun _ => 0))), (u6.2, .inl (cI, 125, .inl (fun _ => 0)))] 12 11269
  refine n_putF 61 [(h0, .inr (7, [.ref r1, .ref r3, .ref r5, .null, .null, .null, .null])), (r1, .inr (3, [.int (maskX p1), .ref u2.1, .ref u2.2.1, .ref u2.2.2, .int 0, .int 0, .int 0, .int 0, .int (-1), .int (-1), .int (-1), .int 1, .int 1])), (u2.1, .inl (cI, 30, .inl (fun _ => 0))), (u2.2.1, .inl (cI, 30, .inl (fun _ => 0))), (u2.2.2, .inl (cI, 30, .inl (fun _ => 0))), (r3, .inr (2, [.int (τ 0 0), .ref u4.1, .ref u4.2.1, .ref u4.2.2.1, .ref u4.2.2.2])), (u4.1, .inl (cI, 84, .inl (τ 1))), (u4.2.1, .inl (cI, 84, .inl (τ 2))), (u4.2.2.1, .inl (cI, 343, .inl (τ 3))), (u4.2.2.2, .inl (cI, 21, .inl (τ 4))), (r5, .inr (5, [.ref r3, .int (maskX p1), .ref u6.1, .ref u6.2])), (u6.1, .inl (cI, 10500, .inl (fun _ => 0))), (u6.2, .inl (cI, 125, .inl (fun _ => 0)))] C 0 rfl rfl wu_X7 2 (by decide) wf_X7_39 tyX7 tyX7_ok nmX7 rfl rfl rfl rfl (Nat.le_of_ble_eq_true rfl) rfl dX7_init_58 rfl ?_
  refine n_aload_n 62 C dX7_init_61 rfl (j := 2) rfl rfl ?_
  refine n_new 65 (ci := 1) C tyX1 tyX1_ok wu_X1 wcl_X7_43 win_X1 wn_X1 rfl [.null, .int 0, .null] (by decide) (Nat.le_of_ble_eq_true rfl) (Nat.le_of_ble_eq_true rfl) dX7_init_62 rfl (fun r7 => ?_)
  show Gn E rmX7_init 4 65 [(3, .int (maskX p1)), (2, .int (keptX p1)), (0, .ref h0), (1, .int p1)] [.ref r7, .ref h0] [(h0, .inr (7, [.ref r1, .ref r3, .ref r5, .null, .null, .null, .null])), (r1, .inr (3, [.int (maskX p1), .ref u2.1, .ref u2.2.1, .ref u2.2.2, .int 0, .int 0, .int 0, .int 0, .int (-1), .int (-1), .int (-1), .int 1, .int 1])), (u2.1, .inl (cI, 30, .inl (fun _ => 0))), (u2.2.1, .inl (cI, 30, .inl (fun _ => 0))), (u2.2.2, .inl (cI, 30, .inl (fun _ => 0))), (r3, .inr (2, [.int (τ 0 0), .ref u4.1, .ref u4.2.1, .ref u4.2.2.1, .ref u4.2.2.2])), (u4.1, .inl (cI, 84, .inl (τ 1))), (u4.2.1, .inl (cI, 84, .inl (τ 2))), (u4.2.2.1, .inl (cI, 343, .inl (τ 3))), (u4.2.2.2, .inl (cI, 21, .inl (τ 4))), (r5, .inr (5, [.ref r3, .int (maskX p1), .ref u6.1, .ref u6.2])), (u6.1, .inl (cI, 10500, .inl (fun _ => 0))), (u6.2, .inl (cI, 125, .inl (fun _ => 0))), (r7, .inr (1, [.null, .int 0, .null]))] 13 11272
  refine n_dup 66 C dX7_init_65 rfl rfl ?_
  refine n_aload_n 67 C dX7_init_66 rfl (j := 2) rfl rfl ?_
  refine n_get 70 C 0 rfl rfl wu_X7 2 (by decide) wf_X7_39 rfl dX7_init_67 rfl ?_
  refine n_iload_n 71 C dX7_init_70 rfl (j := 0) rfl rfl ?_
  refine n_call 74 C (As := [.ref r5, .int (maskX p1)]) (wr := [(h0, .inr (7, [.ref r1, .ref r3, .ref r5, .null, .null, .null, .null])), (r1, .inr (3, [.int (maskX p1), .ref u2.1, .ref u2.2.1, .ref u2.2.2, .int 0, .int 0, .int 0, .int 0, .int (-1), .int (-1), .int (-1), .int 1, .int 1])), (u2.1, .inl (cI, 30, .inl (fun _ => 0))), (u2.2.1, .inl (cI, 30, .inl (fun _ => 0))), (u2.2.2, .inl (cI, 30, .inl (fun _ => 0))), (r3, .inr (2, [.int (τ 0 0), .ref u4.1, .ref u4.2.1, .ref u4.2.2.1, .ref u4.2.2.2])), (u4.1, .inl (cI, 84, .inl (τ 1))), (u4.2.1, .inl (cI, 84, .inl (τ 2))), (u4.2.2.1, .inl (cI, 343, .inl (τ 3))), (u4.2.2.2, .inl (cI, 21, .inl (τ 4))), (r5, .inr (5, [.ref r3, .int (maskX p1), .ref u6.1, .ref u6.2])), (u6.1, .inl (cI, 10500, .inl (fun _ => 0))), (u6.2, .inl (cI, 125, .inl (fun _ => 0)))]) 13 [0, 1, 2, 3, 4, 5, 6, 7, 8, 9, 10, 11, 12] (mX1_init) (List.mem_of_getElem? (i := 3) rfl) wi_X1_init wc_X1_init wn_X1 rfl qX1_init rfl rfl ⟨Nat.le_of_ble_eq_true rfl, Nat.le_of_ble_eq_true rfl⟩ rfl rfl (by decide) (by decide) rfl rfl (Nat.le_of_ble_eq_true rfl) (Nat.le_of_ble_eq_true rfl) (Nat.le_of_ble_eq_true rfl) dX7_init_71 rfl (fun u8 => ?_)
  show Gn E rmX7_init 4 74 [(3, .int (maskX p1)), (2, .int (keptX p1)), (0, .ref h0), (1, .int p1)] [.ref r7, .ref h0] [(h0, .inr (7, [.ref r1, .ref r3, .ref r5, .null, .null, .null, .null])), (r1, .inr (3, [.int (maskX p1), .ref u2.1, .ref u2.2.1, .ref u2.2.2, .int 0, .int 0, .int 0, .int 0, .int (-1), .int (-1), .int (-1), .int 1, .int 1])), (u2.1, .inl (cI, 30, .inl (fun _ => 0))), (u2.2.1, .inl (cI, 30, .inl (fun _ => 0))), (u2.2.2, .inl (cI, 30, .inl (fun _ => 0))), (r3, .inr (2, [.int (τ 0 0), .ref u4.1, .ref u4.2.1, .ref u4.2.2.1, .ref u4.2.2.2])), (u4.1, .inl (cI, 84, .inl (τ 1))), (u4.2.1, .inl (cI, 84, .inl (τ 2))), (u4.2.2.1, .inl (cI, 343, .inl (τ 3))), (u4.2.2.2, .inl (cI, 21, .inl (τ 4))), (r5, .inr (5, [.ref r3, .int (maskX p1), .ref u6.1, .ref u6.2])), (u6.1, .inl (cI, 10500, .inl (fun _ => 0))), (u6.2, .inl (cI, 125, .inl (fun _ => 0))), (r7, .inr (1, [.ref r5, .int (maskX p1), .ref u8])), (u8, .inl (cI, 31, .inl (fun _ => 0)))] 14 11303
  refine n_putF 77 [(h0, .inr (7, [.ref r1, .ref r3, .ref r5, .ref r7, .null, .null, .null])), (r1, .inr (3, [.int (maskX p1), .ref u2.1, .ref u2.2.1, .ref u2.2.2, .int 0, .int 0, .int 0, .int 0, .int (-1), .int (-1), .int (-1), .int 1, .int 1])), (u2.1, .inl (cI, 30, .inl (fun _ => 0))), (u2.2.1, .inl (cI, 30, .inl (fun _ => 0))), (u2.2.2, .inl (cI, 30, .inl (fun _ => 0))), (r3, .inr (2, [.int (τ 0 0), .ref u4.1, .ref u4.2.1, .ref u4.2.2.1, .ref u4.2.2.2])), (u4.1, .inl (cI, 84, .inl (τ 1))), (u4.2.1, .inl (cI, 84, .inl (τ 2))), (u4.2.2.1, .inl (cI, 343, .inl (τ 3))), (u4.2.2.2, .inl (cI, 21, .inl (τ 4))), (r5, .inr (5, [.ref r3, .int (maskX p1), .ref u6.1, .ref u6.2])), (u6.1, .inl (cI, 10500, .inl (fun _ => 0))), (u6.2, .inl (cI, 125, .inl (fun _ => 0))), (r7, .inr (1, [.ref r5, .int (maskX p1), .ref u8])), (u8, .inl (cI, 31, .inl (fun _ => 0)))] C 0 rfl rfl wu_X7 3 (by decide) wf_X7_48 tyX7 tyX7_ok nmX7 rfl rfl rfl rfl (Nat.le_of_ble_eq_true rfl) rfl dX7_init_74 rfl ?_
  refine n_aload_n 78 C dX7_init_77 rfl (j := 2) rfl rfl ?_
  refine n_new 81 (ci := 0) C tyX0 tyX0_ok wu_X0 wcl_X7_52 win_X0 wn_X0 rfl [.null, .null, .null, .null, .null, .null, .int 0] (by decide) (Nat.le_of_ble_eq_true rfl) (Nat.le_of_ble_eq_true rfl) dX7_init_78 rfl (fun r9 => ?_)
  show Gn E rmX7_init 4 81 [(3, .int (maskX p1)), (2, .int (keptX p1)), (0, .ref h0), (1, .int p1)] [.ref r9, .ref h0] [(h0, .inr (7, [.ref r1, .ref r3, .ref r5, .ref r7, .null, .null, .null])), (r1, .inr (3, [.int (maskX p1), .ref u2.1, .ref u2.2.1, .ref u2.2.2, .int 0, .int 0, .int 0, .int 0, .int (-1), .int (-1), .int (-1), .int 1, .int 1])), (u2.1, .inl (cI, 30, .inl (fun _ => 0))), (u2.2.1, .inl (cI, 30, .inl (fun _ => 0))), (u2.2.2, .inl (cI, 30, .inl (fun _ => 0))), (r3, .inr (2, [.int (τ 0 0), .ref u4.1, .ref u4.2.1, .ref u4.2.2.1, .ref u4.2.2.2])), (u4.1, .inl (cI, 84, .inl (τ 1))), (u4.2.1, .inl (cI, 84, .inl (τ 2))), (u4.2.2.1, .inl (cI, 343, .inl (τ 3))), (u4.2.2.2, .inl (cI, 21, .inl (τ 4))), (r5, .inr (5, [.ref r3, .int (maskX p1), .ref u6.1, .ref u6.2])), (u6.1, .inl (cI, 10500, .inl (fun _ => 0))), (u6.2, .inl (cI, 125, .inl (fun _ => 0))), (r7, .inr (1, [.ref r5, .int (maskX p1), .ref u8])), (u8, .inl (cI, 31, .inl (fun _ => 0))), (r9, .inr (0, [.null, .null, .null, .null, .null, .null, .int 0]))] 15 11310
  refine n_dup 82 C dX7_init_81 rfl rfl ?_
  refine n_aload_n 83 C dX7_init_82 rfl (j := 2) rfl rfl ?_
  refine n_get 86 C 0 rfl rfl wu_X7 0 (by decide) wf_X7_23 rfl dX7_init_83 rfl ?_
  refine n_aload_n 87 C dX7_init_86 rfl (j := 2) rfl rfl ?_
  refine n_get 90 C 0 rfl rfl wu_X7 3 (by decide) wf_X7_48 rfl dX7_init_87 rfl ?_
  refine n_call 93 C (As := [.ref r1, .ref r7]) (wr := [(h0, .inr (7, [.ref r1, .ref r3, .ref r5, .ref r7, .null, .null, .null])), (r1, .inr (3, [.int (maskX p1), .ref u2.1, .ref u2.2.1, .ref u2.2.2, .int 0, .int 0, .int 0, .int 0, .int (-1), .int (-1), .int (-1), .int 1, .int 1])), (u2.1, .inl (cI, 30, .inl (fun _ => 0))), (u2.2.1, .inl (cI, 30, .inl (fun _ => 0))), (u2.2.2, .inl (cI, 30, .inl (fun _ => 0))), (r3, .inr (2, [.int (τ 0 0), .ref u4.1, .ref u4.2.1, .ref u4.2.2.1, .ref u4.2.2.2])), (u4.1, .inl (cI, 84, .inl (τ 1))), (u4.2.1, .inl (cI, 84, .inl (τ 2))), (u4.2.2.1, .inl (cI, 343, .inl (τ 3))), (u4.2.2.2, .inl (cI, 21, .inl (τ 4))), (r5, .inr (5, [.ref r3, .int (maskX p1), .ref u6.1, .ref u6.2])), (u6.1, .inl (cI, 10500, .inl (fun _ => 0))), (u6.2, .inl (cI, 125, .inl (fun _ => 0))), (r7, .inr (1, [.ref r5, .int (maskX p1), .ref u8])), (u8, .inl (cI, 31, .inl (fun _ => 0)))]) 15 [0, 1, 2, 3, 4, 5, 6, 7, 8, 9, 10, 11, 12, 13, 14] (mX0_init) (List.mem_of_getElem? (i := 4) rfl) wi_X0_init wc_X0_init wn_X0 rfl qX0_init rfl rfl ⟨Nat.le_of_ble_eq_true rfl, Nat.le_of_ble_eq_true rfl⟩ rfl rfl (by decide) (by decide) rfl rfl (Nat.le_of_ble_eq_true rfl) (Nat.le_of_ble_eq_true rfl) (Nat.le_of_ble_eq_true rfl) dX7_init_90 rfl (fun u10 => ?_)
  show Gn E rmX7_init 4 93 [(3, .int (maskX p1)), (2, .int (keptX p1)), (0, .ref h0), (1, .int p1)] [.ref r9, .ref h0] [(h0, .inr (7, [.ref r1, .ref r3, .ref r5, .ref r7, .null, .null, .null])), (r1, .inr (3, [.int (maskX p1), .ref u2.1, .ref u2.2.1, .ref u2.2.2, .int 0, .int 0, .int 0, .int 0, .int (-1), .int (-1), .int (-1), .int 1, .int 1])), (u2.1, .inl (cI, 30, .inl (fun _ => 0))), (u2.2.1, .inl (cI, 30, .inl (fun _ => 0))), (u2.2.2, .inl (cI, 30, .inl (fun _ => 0))), (r3, .inr (2, [.int (τ 0 0), .ref u4.1, .ref u4.2.1, .ref u4.2.2.1, .ref u4.2.2.2])), (u4.1, .inl (cI, 84, .inl (τ 1))), (u4.2.1, .inl (cI, 84, .inl (τ 2))), (u4.2.2.1, .inl (cI, 343, .inl (τ 3))), (u4.2.2.2, .inl (cI, 21, .inl (τ 4))), (r5, .inr (5, [.ref r3, .int (maskX p1), .ref u6.1, .ref u6.2])), (u6.1, .inl (cI, 10500, .inl (fun _ => 0))), (u6.2, .inl (cI, 125, .inl (fun _ => 0))), (r7, .inr (1, [.ref r5, .int (maskX p1), .ref u8])), (u8, .inl (cI, 31, .inl (fun _ => 0))), (r9, .inr (0, [.ref r1, .ref r7, .ref u10.1, .ref u10.2.1, .ref u10.2.2.1, .ref u10.2.2.2, .int 0])), (u10.1, .inl (cI, 30, .inl (fun _ => 0))), (u10.2.1, .inl (cI, 30, .inl (fun _ => 0))), (u10.2.2.1, .inl (cI, 30, .inl (fun _ => 0))), (u10.2.2.2, .inl (cI, 30, .inl (fun _ => 0)))] 19 11430
  refine n_putF 96 [(h0, .inr (7, [.ref r1, .ref r3, .ref r5, .ref r7, .ref r9, .null, .null])), (r1, .inr (3, [.int (maskX p1), .ref u2.1, .ref u2.2.1, .ref u2.2.2, .int 0, .int 0, .int 0, .int 0, .int (-1), .int (-1), .int (-1), .int 1, .int 1])), (u2.1, .inl (cI, 30, .inl (fun _ => 0))), (u2.2.1, .inl (cI, 30, .inl (fun _ => 0))), (u2.2.2, .inl (cI, 30, .inl (fun _ => 0))), (r3, .inr (2, [.int (τ 0 0), .ref u4.1, .ref u4.2.1, .ref u4.2.2.1, .ref u4.2.2.2])), (u4.1, .inl (cI, 84, .inl (τ 1))), (u4.2.1, .inl (cI, 84, .inl (τ 2))), (u4.2.2.1, .inl (cI, 343, .inl (τ 3))), (u4.2.2.2, .inl (cI, 21, .inl (τ 4))), (r5, .inr (5, [.ref r3, .int (maskX p1), .ref u6.1, .ref u6.2])), (u6.1, .inl (cI, 10500, .inl (fun _ => 0))), (u6.2, .inl (cI, 125, .inl (fun _ => 0))), (r7, .inr (1, [.ref r5, .int (maskX p1), .ref u8])), (u8, .inl (cI, 31, .inl (fun _ => 0))), (r9, .inr (0, [.ref r1, .ref r7, .ref u10.1, .ref u10.2.1, .ref u10.2.2.1, .ref u10.2.2.2, .int 0])), (u10.1, .inl (cI, 30, .inl (fun _ => 0))), (u10.2.1, .inl (cI, 30, .inl (fun _ => 0))), (u10.2.2.1, .inl (cI, 30, .inl (fun _ => 0))), (u10.2.2.2, .inl (cI, 30, .inl (fun _ => 0)))] C 0 rfl rfl wu_X7 4 (by decide) wf_X7_57 tyX7 tyX7_ok nmX7 rfl rfl rfl rfl (Nat.le_of_ble_eq_true rfl) rfl dX7_init_93 rfl ?_
  refine n_aload_n 97 C dX7_init_96 rfl (j := 2) rfl rfl ?_
  refine n_new 100 (ci := 4) C tyX4 tyX4_ok wu_X4 wcl_X7_61 win_X4 wn_X4 rfl [.null, .null, .null, .int 0, .int 0, .null, .null, .null, .null, .int 0, .int 0] (by decide) (Nat.le_of_ble_eq_true rfl) (Nat.le_of_ble_eq_true rfl) dX7_init_97 rfl (fun r11 => ?_)
  show Gn E rmX7_init 4 100 [(3, .int (maskX p1)), (2, .int (keptX p1)), (0, .ref h0), (1, .int p1)] [.ref r11, .ref h0] [(h0, .inr (7, [.ref r1, .ref r3, .ref r5, .ref r7, .ref r9, .null, .null])), (r1, .inr (3, [.int (maskX p1), .ref u2.1, .ref u2.2.1, .ref u2.2.2, .int 0, .int 0, .int 0, .int 0, .int (-1), .int (-1), .int (-1), .int 1, .int 1])), (u2.1, .inl (cI, 30, .inl (fun _ => 0))), (u2.2.1, .inl (cI, 30, .inl (fun _ => 0))), (u2.2.2, .inl (cI, 30, .inl (fun _ => 0))), (r3, .inr (2, [.int (τ 0 0), .ref u4.1, .ref u4.2.1, .ref u4.2.2.1, .ref u4.2.2.2])), (u4.1, .inl (cI, 84, .inl (τ 1))), (u4.2.1, .inl (cI, 84, .inl (τ 2))), (u4.2.2.1, .inl (cI, 343, .inl (τ 3))), (u4.2.2.2, .inl (cI, 21, .inl (τ 4))), (r5, .inr (5, [.ref r3, .int (maskX p1), .ref u6.1, .ref u6.2])), (u6.1, .inl (cI, 10500, .inl (fun _ => 0))), (u6.2, .inl (cI, 125, .inl (fun _ => 0))), (r7, .inr (1, [.ref r5, .int (maskX p1), .ref u8])), (u8, .inl (cI, 31, .inl (fun _ => 0))), (r9, .inr (0, [.ref r1, .ref r7, .ref u10.1, .ref u10.2.1, .ref u10.2.2.1, .ref u10.2.2.2, .int 0])), (u10.1, .inl (cI, 30, .inl (fun _ => 0))), (u10.2.1, .inl (cI, 30, .inl (fun _ => 0))), (u10.2.2.1, .inl (cI, 30, .inl (fun _ => 0))), (u10.2.2.2, .inl (cI, 30, .inl (fun _ => 0))), (r11, .inr (4, [.null, .null, .null, .int 0, .int 0, .null, .null, .null, .null, .int 0, .int 0]))] 20 11441
  refine n_dup 101 C dX7_init_100 rfl rfl ?_
  refine n_aload_n 102 C dX7_init_101 rfl (j := 2) rfl rfl ?_
  refine n_get 105 C 0 rfl rfl wu_X7 0 (by decide) wf_X7_23 rfl dX7_init_102 rfl ?_
  refine n_aload_n 106 C dX7_init_105 rfl (j := 2) rfl rfl ?_
  refine n_get 109 C 0 rfl rfl wu_X7 4 (by decide) wf_X7_57 rfl dX7_init_106 rfl ?_
  refine n_aload_n 110 C dX7_init_109 rfl (j := 2) rfl rfl ?_
  refine n_get 113 C 0 rfl rfl wu_X7 3 (by decide) wf_X7_48 rfl dX7_init_110 rfl ?_
  refine n_call 116 C (As := [.ref r1, .ref r9, .ref r7]) (wr := [(h0, .inr (7, [.ref r1, .ref r3, .ref r5, .ref r7, .ref r9, .null, .null])), (r1, .inr (3, [.int (maskX p1), .ref u2.1, .ref u2.2.1, .ref u2.2.2, .int 0, .int 0, .int 0, .int 0, .int (-1), .int (-1), .int (-1), .int 1, .int 1])), (u2.1, .inl (cI, 30, .inl (fun _ => 0))), (u2.2.1, .inl (cI, 30, .inl (fun _ => 0))), (u2.2.2, .inl (cI, 30, .inl (fun _ => 0))), (r3, .inr (2, [.int (τ 0 0), .ref u4.1, .ref u4.2.1, .ref u4.2.2.1, .ref u4.2.2.2])), (u4.1, .inl (cI, 84, .inl (τ 1))), (u4.2.1, .inl (cI, 84, .inl (τ 2))), (u4.2.2.1, .inl (cI, 343, .inl (τ 3))), (u4.2.2.2, .inl (cI, 21, .inl (τ 4))), (r5, .inr (5, [.ref r3, .int (maskX p1), .ref u6.1, .ref u6.2])), (u6.1, .inl (cI, 10500, .inl (fun _ => 0))), (u6.2, .inl (cI, 125, .inl (fun _ => 0))), (r7, .inr (1, [.ref r5, .int (maskX p1), .ref u8])), (u8, .inl (cI, 31, .inl (fun _ => 0))), (r9, .inr (0, [.ref r1, .ref r7, .ref u10.1, .ref u10.2.1, .ref u10.2.2.1, .ref u10.2.2.2, .int 0])), (u10.1, .inl (cI, 30, .inl (fun _ => 0))), (u10.2.1, .inl (cI, 30, .inl (fun _ => 0))), (u10.2.2.1, .inl (cI, 30, .inl (fun _ => 0))), (u10.2.2.2, .inl (cI, 30, .inl (fun _ => 0)))]) 20 [0, 1, 2, 3, 4, 5, 6, 7, 8, 9, 10, 11, 12, 13, 14, 15, 16, 17, 18, 19] (mX4_init) (List.mem_of_getElem? (i := 5) rfl) wi_X4_init wc_X4_init wn_X4 rfl qX4_init rfl rfl ⟨Nat.le_of_ble_eq_true rfl, Nat.le_of_ble_eq_true rfl⟩ rfl rfl (by decide) (by decide) rfl rfl (Nat.le_of_ble_eq_true rfl) (Nat.le_of_ble_eq_true rfl) (Nat.le_of_ble_eq_true rfl) dX7_init_113 rfl (fun u12 => ?_)
  show Gn E rmX7_init 4 116 [(3, .int (maskX p1)), (2, .int (keptX p1)), (0, .ref h0), (1, .int p1)] [.ref r11, .ref h0] [(h0, .inr (7, [.ref r1, .ref r3, .ref r5, .ref r7, .ref r9, .null, .null])), (r1, .inr (3, [.int (maskX p1), .ref u2.1, .ref u2.2.1, .ref u2.2.2, .int 0, .int 0, .int 0, .int 0, .int (-1), .int (-1), .int (-1), .int 1, .int 1])), (u2.1, .inl (cI, 30, .inl (fun _ => 0))), (u2.2.1, .inl (cI, 30, .inl (fun _ => 0))), (u2.2.2, .inl (cI, 30, .inl (fun _ => 0))), (r3, .inr (2, [.int (τ 0 0), .ref u4.1, .ref u4.2.1, .ref u4.2.2.1, .ref u4.2.2.2])), (u4.1, .inl (cI, 84, .inl (τ 1))), (u4.2.1, .inl (cI, 84, .inl (τ 2))), (u4.2.2.1, .inl (cI, 343, .inl (τ 3))), (u4.2.2.2, .inl (cI, 21, .inl (τ 4))), (r5, .inr (5, [.ref r3, .int (maskX p1), .ref u6.1, .ref u6.2])), (u6.1, .inl (cI, 10500, .inl (fun _ => 0))), (u6.2, .inl (cI, 125, .inl (fun _ => 0))), (r7, .inr (1, [.ref r5, .int (maskX p1), .ref u8])), (u8, .inl (cI, 31, .inl (fun _ => 0))), (r9, .inr (0, [.ref r1, .ref r7, .ref u10.1, .ref u10.2.1, .ref u10.2.2.1, .ref u10.2.2.2, .int 0])), (u10.1, .inl (cI, 30, .inl (fun _ => 0))), (u10.2.1, .inl (cI, 30, .inl (fun _ => 0))), (u10.2.2.1, .inl (cI, 30, .inl (fun _ => 0))), (u10.2.2.2, .inl (cI, 30, .inl (fun _ => 0))), (r11, .inr (4, [.ref r1, .ref r9, .ref r7, .int 0, .int 0, .ref u12.1, .ref u12.2.1, .ref u12.2.2.1, .ref u12.2.2.2, .int 0, .int 0])), (u12.1, .inl (cI, 90, .inl (fun _ => 0))), (u12.2.1, .inl (cI, 90, .inl (fun _ => 0))), (u12.2.2.1, .inl (cI, 90, .inl (fun _ => 0))), (u12.2.2.2, .inl (cI, 30, .inl (fun _ => 0)))] 24 11741
  refine n_putF 119 [(h0, .inr (7, [.ref r1, .ref r3, .ref r5, .ref r7, .ref r9, .ref r11, .null])), (r1, .inr (3, [.int (maskX p1), .ref u2.1, .ref u2.2.1, .ref u2.2.2, .int 0, .int 0, .int 0, .int 0, .int (-1), .int (-1), .int (-1), .int 1, .int 1])), (u2.1, .inl (cI, 30, .inl (fun _ => 0))), (u2.2.1, .inl (cI, 30, .inl (fun _ => 0))), (u2.2.2, .inl (cI, 30, .inl (fun _ => 0))), (r3, .inr (2, [.int (τ 0 0), .ref u4.1, .ref u4.2.1, .ref u4.2.2.1, .ref u4.2.2.2])), (u4.1, .inl (cI, 84, .inl (τ 1))), (u4.2.1, .inl (cI, 84, .inl (τ 2))), (u4.2.2.1, .inl (cI, 343, .inl (τ 3))), (u4.2.2.2, .inl (cI, 21, .inl (τ 4))), (r5, .inr (5, [.ref r3, .int (maskX p1), .ref u6.1, .ref u6.2])), (u6.1, .inl (cI, 10500, .inl (fun _ => 0))), (u6.2, .inl (cI, 125, .inl (fun _ => 0))), (r7, .inr (1, [.ref r5, .int (maskX p1), .ref u8])), (u8, .inl (cI, 31, .inl (fun _ => 0))), (r9, .inr (0, [.ref r1, .ref r7, .ref u10.1, .ref u10.2.1, .ref u10.2.2.1, .ref u10.2.2.2, .int 0])), (u10.1, .inl (cI, 30, .inl (fun _ => 0))), (u10.2.1, .inl (cI, 30, .inl (fun _ => 0))), (u10.2.2.1, .inl (cI, 30, .inl (fun _ => 0))), (u10.2.2.2, .inl (cI, 30, .inl (fun _ => 0))), (r11, .inr (4, [.ref r1, .ref r9, .ref r7, .int 0, .int 0, .ref u12.1, .ref u12.2.1, .ref u12.2.2.1, .ref u12.2.2.2, .int 0, .int 0])), (u12.1, .inl (cI, 90, .inl (fun _ => 0))), (u12.2.1, .inl (cI, 90, .inl (fun _ => 0))), (u12.2.2.1, .inl (cI, 90, .inl (fun _ => 0))), (u12.2.2.2, .inl (cI, 30, .inl (fun _ => 0)))] C 0 rfl rfl wu_X7 5 (by decide) wf_X7_66 tyX7 tyX7_ok nmX7 rfl rfl rfl rfl (Nat.le_of_ble_eq_true rfl) rfl dX7_init_116 rfl ?_
  refine n_aload_n 120 C dX7_init_119 rfl (j := 2) rfl rfl ?_
  refine n_new 123 (ci := 6) C tyX6 tyX6_ok wu_X6 wcl_X7_70 win_X6 wn_X6 rfl [.null, .null, .null, .null, .null, .null, .null, .null, .null, .null, .int 0] (by decide) (Nat.le_of_ble_eq_true rfl) (Nat.le_of_ble_eq_true rfl) dX7_init_120 rfl (fun r13 => ?_)
  show Gn E rmX7_init 4 123 [(3, .int (maskX p1)), (2, .int (keptX p1)), (0, .ref h0), (1, .int p1)] [.ref r13, .ref h0] [(h0, .inr (7, [.ref r1, .ref r3, .ref r5, .ref r7, .ref r9, .ref r11, .null])), (r1, .inr (3, [.int (maskX p1), .ref u2.1, .ref u2.2.1, .ref u2.2.2, .int 0, .int 0, .int 0, .int 0, .int (-1), .int (-1), .int (-1), .int 1, .int 1])), (u2.1, .inl (cI, 30, .inl (fun _ => 0))), (u2.2.1, .inl (cI, 30, .inl (fun _ => 0))), (u2.2.2, .inl (cI, 30, .inl (fun _ => 0))), (r3, .inr (2, [.int (τ 0 0), .ref u4.1, .ref u4.2.1, .ref u4.2.2.1, .ref u4.2.2.2])), (u4.1, .inl (cI, 84, .inl (τ 1))), (u4.2.1, .inl (cI, 84, .inl (τ 2))), (u4.2.2.1, .inl (cI, 343, .inl (τ 3))), (u4.2.2.2, .inl (cI, 21, .inl (τ 4))), (r5, .inr (5, [.ref r3, .int (maskX p1), .ref u6.1, .ref u6.2])), (u6.1, .inl (cI, 10500, .inl (fun _ => 0))), (u6.2, .inl (cI, 125, .inl (fun _ => 0))), (r7, .inr (1, [.ref r5, .int (maskX p1), .ref u8])), (u8, .inl (cI, 31, .inl (fun _ => 0))), (r9, .inr (0, [.ref r1, .ref r7, .ref u10.1, .ref u10.2.1, .ref u10.2.2.1, .ref u10.2.2.2, .int 0])), (u10.1, .inl (cI, 30, .inl (fun _ => 0))), (u10.2.1, .inl (cI, 30, .inl (fun _ => 0))), (u10.2.2.1, .inl (cI, 30, .inl (fun _ => 0))), (u10.2.2.2, .inl (cI, 30, .inl (fun _ => 0))), (r11, .inr (4, [.ref r1, .ref r9, .ref r7, .int 0, .int 0, .ref u12.1, .ref u12.2.1, .ref u12.2.2.1, .ref u12.2.2.2, .int 0, .int 0])), (u12.1, .inl (cI, 90, .inl (fun _ => 0))), (u12.2.1, .inl (cI, 90, .inl (fun _ => 0))), (u12.2.2.1, .inl (cI, 90, .inl (fun _ => 0))), (u12.2.2.2, .inl (cI, 30, .inl (fun _ => 0))), (r13, .inr (6, [.null, .null, .null, .null, .null, .null, .null, .null, .null, .null, .int 0]))] 25 11752
  refine n_dup 124 C dX7_init_123 rfl rfl ?_
  refine n_aload_n 125 C dX7_init_124 rfl (j := 2) rfl rfl ?_
  refine n_get 128 C 0 rfl rfl wu_X7 0 (by decide) wf_X7_23 rfl dX7_init_125 rfl ?_
  refine n_aload_n 129 C dX7_init_128 rfl (j := 2) rfl rfl ?_
  refine n_get 132 C 0 rfl rfl wu_X7 4 (by decide) wf_X7_57 rfl dX7_init_129 rfl ?_
  refine n_aload_n 133 C dX7_init_132 rfl (j := 2) rfl rfl ?_
  refine n_get 136 C 0 rfl rfl wu_X7 5 (by decide) wf_X7_66 rfl dX7_init_133 rfl ?_
  refine n_aload_n 137 C dX7_init_136 rfl (j := 2) rfl rfl ?_
  refine n_get 140 C 0 rfl rfl wu_X7 3 (by decide) wf_X7_48 rfl dX7_init_137 rfl ?_
  refine n_call 143 C (As := [.ref r1, .ref r9, .ref r11, .ref r7]) (wr := [(h0, .inr (7, [.ref r1, .ref r3, .ref r5, .ref r7, .ref r9, .ref r11, .null])), (r1, .inr (3, [.int (maskX p1), .ref u2.1, .ref u2.2.1, .ref u2.2.2, .int 0, .int 0, .int 0, .int 0, .int (-1), .int (-1), .int (-1), .int 1, .int 1])), (u2.1, .inl (cI, 30, .inl (fun _ => 0))), (u2.2.1, .inl (cI, 30, .inl (fun _ => 0))), (u2.2.2, .inl (cI, 30, .inl (fun _ => 0))), (r3, .inr (2, [.int (τ 0 0), .ref u4.1, .ref u4.2.1, .ref u4.2.2.1, .ref u4.2.2.2])), (u4.1, .inl (cI, 84, .inl (τ 1))), (u4.2.1, .inl (cI, 84, .inl (τ 2))), (u4.2.2.1, .inl (cI, 343, .inl (τ 3))), (u4.2.2.2, .inl (cI, 21, .inl (τ 4))), (r5, .inr (5, [.ref r3, .int (maskX p1), .ref u6.1, .ref u6.2])), (u6.1, .inl (cI, 10500, .inl (fun _ => 0))), (u6.2, .inl (cI, 125, .inl (fun _ => 0))), (r7, .inr (1, [.ref r5, .int (maskX p1), .ref u8])), (u8, .inl (cI, 31, .inl (fun _ => 0))), (r9, .inr (0, [.ref r1, .ref r7, .ref u10.1, .ref u10.2.1, .ref u10.2.2.1, .ref u10.2.2.2, .int 0])), (u10.1, .inl (cI, 30, .inl (fun _ => 0))), (u10.2.1, .inl (cI, 30, .inl (fun _ => 0))), (u10.2.2.1, .inl (cI, 30, .inl (fun _ => 0))), (u10.2.2.2, .inl (cI, 30, .inl (fun _ => 0))), (r11, .inr (4, [.ref r1, .ref r9, .ref r7, .int 0, .int 0, .ref u12.1, .ref u12.2.1, .ref u12.2.2.1, .ref u12.2.2.2, .int 0, .int 0])), (u12.1, .inl (cI, 90, .inl (fun _ => 0))), (u12.2.1, .inl (cI, 90, .inl (fun _ => 0))), (u12.2.2.1, .inl (cI, 90, .inl (fun _ => 0))), (u12.2.2.2, .inl (cI, 30, .inl (fun _ => 0)))]) 25 [0, 1, 2, 3, 4, 5, 6, 7, 8, 9, 10, 11, 12, 13, 14, 15, 16, 17, 18, 19, 20, 21, 22, 23, 24] (mX6_init) (List.mem_of_getElem? (i := 6) rfl) wi_X6_init wc_X6_init wn_X6 rfl qX6_init rfl rfl ⟨Nat.le_of_ble_eq_true rfl, Nat.le_of_ble_eq_true rfl⟩ rfl rfl (by decide) (by decide) rfl rfl (Nat.le_of_ble_eq_true rfl) (Nat.le_of_ble_eq_true rfl) (Nat.le_of_ble_eq_true rfl) dX7_init_140 rfl (fun u14 => ?_)
  show Gn E rmX7_init 4 143 [(3, .int (maskX p1)), (2, .int (keptX p1)), (0, .ref h0), (1, .int p1)] [.ref r13, .ref h0] [(h0, .inr (7, [.ref r1, .ref r3, .ref r5, .ref r7, .ref r9, .ref r11, .null])), (r1, .inr (3, [.int (maskX p1), .ref u2.1, .ref u2.2.1, .ref u2.2.2, .int 0, .int 0, .int 0, .int 0, .int (-1), .int (-1), .int (-1), .int 1, .int 1])), (u2.1, .inl (cI, 30, .inl (fun _ => 0))), (u2.2.1, .inl (cI, 30, .inl (fun _ => 0))), (u2.2.2, .inl (cI, 30, .inl (fun _ => 0))), (r3, .inr (2, [.int (τ 0 0), .ref u4.1, .ref u4.2.1, .ref u4.2.2.1, .ref u4.2.2.2])), (u4.1, .inl (cI, 84, .inl (τ 1))), (u4.2.1, .inl (cI, 84, .inl (τ 2))), (u4.2.2.1, .inl (cI, 343, .inl (τ 3))), (u4.2.2.2, .inl (cI, 21, .inl (τ 4))), (r5, .inr (5, [.ref r3, .int (maskX p1), .ref u6.1, .ref u6.2])), (u6.1, .inl (cI, 10500, .inl (fun _ => 0))), (u6.2, .inl (cI, 125, .inl (fun _ => 0))), (r7, .inr (1, [.ref r5, .int (maskX p1), .ref u8])), (u8, .inl (cI, 31, .inl (fun _ => 0))), (r9, .inr (0, [.ref r1, .ref r7, .ref u10.1, .ref u10.2.1, .ref u10.2.2.1, .ref u10.2.2.2, .int 0])), (u10.1, .inl (cI, 30, .inl (fun _ => 0))), (u10.2.1, .inl (cI, 30, .inl (fun _ => 0))), (u10.2.2.1, .inl (cI, 30, .inl (fun _ => 0))), (u10.2.2.2, .inl (cI, 30, .inl (fun _ => 0))), (r11, .inr (4, [.ref r1, .ref r9, .ref r7, .int 0, .int 0, .ref u12.1, .ref u12.2.1, .ref u12.2.2.1, .ref u12.2.2.2, .int 0, .int 0])), (u12.1, .inl (cI, 90, .inl (fun _ => 0))), (u12.2.1, .inl (cI, 90, .inl (fun _ => 0))), (u12.2.2.1, .inl (cI, 90, .inl (fun _ => 0))), (u12.2.2.2, .inl (cI, 30, .inl (fun _ => 0))), (r13, .inr (6, [.ref r1, .ref r9, .ref r11, .ref r7, .ref u14.1, .ref u14.2.1, .ref u14.2.2.1, .ref u14.2.2.2.1, .ref u14.2.2.2.2.1, .ref u14.2.2.2.2.2, .int 0])), (u14.1, .inl (cI, 3, .inl (fun _ => 0))), (u14.2.1, .inl (cI, 30, .inl (fun _ => 0))), (u14.2.2.1, .inl (cI, 30, .inl (fun _ => 0))), (u14.2.2.2.1, .inl (cI, 90, .inl (fun _ => 0))), (u14.2.2.2.2.1, .inl (cI, 90, .inl (fun _ => 0))), (u14.2.2.2.2.2, .inl (cI, 400, .inl (fun _ => 0)))] 31 12395
  refine n_putF 146 [(h0, .inr (7, [.ref r1, .ref r3, .ref r5, .ref r7, .ref r9, .ref r11, .ref r13])), (r1, .inr (3, [.int (maskX p1), .ref u2.1, .ref u2.2.1, .ref u2.2.2, .int 0, .int 0, .int 0, .int 0, .int (-1), .int (-1), .int (-1), .int 1, .int 1])), (u2.1, .inl (cI, 30, .inl (fun _ => 0))), (u2.2.1, .inl (cI, 30, .inl (fun _ => 0))), (u2.2.2, .inl (cI, 30, .inl (fun _ => 0))), (r3, .inr (2, [.int (τ 0 0), .ref u4.1, .ref u4.2.1, .ref u4.2.2.1, .ref u4.2.2.2])), (u4.1, .inl (cI, 84, .inl (τ 1))), (u4.2.1, .inl (cI, 84, .inl (τ 2))), (u4.2.2.1, .inl (cI, 343, .inl (τ 3))), (u4.2.2.2, .inl (cI, 21, .inl (τ 4))), (r5, .inr (5, [.ref r3, .int (maskX p1), .ref u6.1, .ref u6.2])), (u6.1, .inl (cI, 10500, .inl (fun _ => 0))), (u6.2, .inl (cI, 125, .inl (fun _ => 0))), (r7, .inr (1, [.ref r5, .int (maskX p1), .ref u8])), (u8, .inl (cI, 31, .inl (fun _ => 0))), (r9, .inr (0, [.ref r1, .ref r7, .ref u10.1, .ref u10.2.1, .ref u10.2.2.1, .ref u10.2.2.2, .int 0])), (u10.1, .inl (cI, 30, .inl (fun _ => 0))), (u10.2.1, .inl (cI, 30, .inl (fun _ => 0))), (u10.2.2.1, .inl (cI, 30, .inl (fun _ => 0))), (u10.2.2.2, .inl (cI, 30, .inl (fun _ => 0))), (r11, .inr (4, [.ref r1, .ref r9, .ref r7, .int 0, .int 0, .ref u12.1, .ref u12.2.1, .ref u12.2.2.1, .ref u12.2.2.2, .int 0, .int 0])), (u12.1, .inl (cI, 90, .inl (fun _ => 0))), (u12.2.1, .inl (cI, 90, .inl (fun _ => 0))), (u12.2.2.1, .inl (cI, 90, .inl (fun _ => 0))), (u12.2.2.2, .inl (cI, 30, .inl (fun _ => 0))), (r13, .inr (6, [.ref r1, .ref r9, .ref r11, .ref r7, .ref u14.1, .ref u14.2.1, .ref u14.2.2.1, .ref u14.2.2.2.1, .ref u14.2.2.2.2.1, .ref u14.2.2.2.2.2, .int 0])), (u14.1, .inl (cI, 3, .inl (fun _ => 0))), (u14.2.1, .inl (cI, 30, .inl (fun _ => 0))), (u14.2.2.1, .inl (cI, 30, .inl (fun _ => 0))), (u14.2.2.2.1, .inl (cI, 90, .inl (fun _ => 0))), (u14.2.2.2.2.1, .inl (cI, 90, .inl (fun _ => 0))), (u14.2.2.2.2.2, .inl (cI, 400, .inl (fun _ => 0)))] C 0 rfl rfl wu_X7 6 (by decide) wf_X7_75 tyX7 tyX7_ok nmX7 rfl rfl rfl rfl (Nat.le_of_ble_eq_true rfl) rfl dX7_init_143 rfl ?_
  exact n_sub (ws2 := wof cI (adX h0 [r9, r7, r3, r1, r11, r5, r13, h0, u2.1, u2.2.1, u2.2.2, u4.1, u4.2.1, u4.2.2.1, u4.2.2.2, u6.1, u6.2, u8, u10.1, u10.2.1, u10.2.2.1, u10.2.2.2, u12.1, u12.2.1, u12.2.2.1, u12.2.2.2, u14.1, u14.2.1, u14.2.2.1, u14.2.2.2.1, u14.2.2.2.2.1, u14.2.2.2.2.2]) (initX p1 τ) 0 layX) [15, 13, 5, 1, 20, 10, 25, 0, 2, 3, 4, 6, 7, 8, 9, 11, 12, 14, 16, 17, 18, 19, 21, 22, 23, 24, 26, 27, 28, 29, 30, 31] (by decide) rfl (K0 _ _ [r9, r7, r3, r1, r11, r5, r13, h0, u2.1, u2.2.1, u2.2.2, u4.1, u4.2.1, u4.2.2.1, u4.2.2.2, u6.1, u6.2, u8, u10.1, u10.2.1, u10.2.2.1, u10.2.2.2, u12.1, u12.2.1, u12.2.2.1, u12.2.2.2, u14.1, u14.2.1, u14.2.2.1, u14.2.2.2.1, u14.2.2.2.2.1, u14.2.2.2.2.2] dX7_init_146)
