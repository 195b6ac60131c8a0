/-! an exception whose own constructor calls the one above by another place than 7 (begun from kit/laws/EXCEPTIONS.to-paste: vx_ctorMadeS, vx_makeS, vx_athrow) -/
section NX
variable {p : Program} {l : Launch} {e : Env} {R : Room} {s : State} {m₀ : MethodId} {args : Array Value} {below : List Frame} {meth : Method} {c : Code} {W : State} {locs : List Loc} {cells slots : Nat}
def nxAtoms (own : String) (ic : Nat) (X Y : String) (ix : Nat) (bx : ByteArray) (names : List String) : List Cond :=
  Bundle.throwableAtoms ++ Bundle.throwableSAtoms ++ Bundle.passSAtoms X Y ix bx ++ Bundle.chainSAtoms Y names ++
  [.methodLink own ic (Bundle.initS X), .instantiable X 6, .castable X X, .selects X Bundle.tFill0 Bundle.tFill0, .selects X Bundle.tFill Bundle.tFill,
   .lays X Bundle.tN "cause" "Ljava/lang/Throwable;", .lays X Bundle.tN "stackTrace" Bundle.steD, .lays X Bundle.tN "suppressedExceptions" Bundle.listD, .lays X Bundle.tN "detailMessage" "Ljava/lang/String;",
   .isRef (.static Bundle.tN "UNASSIGNED_STACK" Bundle.steD), .isRef (.static Bundle.tN "SUPPRESSED_SENTINEL" Bundle.listD),
   .fieldLink Bundle.tN 198 Bundle.tN "backtrace" "Ljava/lang/Object;", .lays Bundle.tN Bundle.tN "backtrace" "Ljava/lang/Object;", .lays X Bundle.tN "backtrace" "Ljava/lang/Object;"]
set_option maxHeartbeats 1000000 in
theorem nx_ctor (X : Stand p l e R s m₀ args below meth c W locs cells slots) (hexec : p.tables.exec = Jvm.exec) (htr : e.platform.stackTraces = false) {own cls sup : String} {names : List String} {ic ix : Nat} {bx : ByteArray}
    (hown : s.vm.findClass own = some m₀.cls) (hcls : Bundle.fit cls = true) (hsup : Bundle.fit sup = true) (hnames : ∀ n ∈ names, Bundle.fit n = true) (b0 : decode bx 0 = .ok (.aload_n 0, 1)) (b1 : decode bx 1 = .ok (.aload_n 1, 1)) (b2 : decode bx 2 = .ok (.invokespecial ix, 3)) (b5 : decode bx 5 = .ok (.return_, 1))
    (h : ∀ a ∈ nxAtoms own ic cls sup ix bx names, a.before args s = true)
    (hlocs : ∀ x ∈ locs, ∀ cell, s.heap[x.base]? = some cell → cell.vm.isStatics = false)
    {a : Addr} {cX : ClassId} {kX : Class} (hfoundX : s.vm.findClass cls = some cX) (hkX : s.vm.classes[cX]? = some kX) (hcell : W.heap[a]? = some (freshCell cX kX)) (hnew : s.heap.size ≤ a)
    {msg : Value} (hmsg : msg.isRef = true)
    {g : JFrame} (hg : g.method = m₀) (hsize : g.locals.size = c.maxLocals) {rest : List Value} (hstack : g.stack = msg :: .ref a :: .ref a :: rest)
    (hd6 : decode c.code g.pc = .ok (.invokespecial ic, 3))
    (hRframes : names.length + 4 < R.frames) (hRlocals : 2 * g.monitorRoom + ((Value.ref a :: rest).map fun v => v.category).sum + (13 * (names.length + 2) + 42) ≤ R.locals) :
    ∃ (V : State) (ce : Cell) (L : List Loc), Stand p l e R s m₀ args below meth c (V.setCell a ce) (locs ++ L) cells slots ∧ (∀ y ∈ L, y.base = a) ∧ a < V.heap.size ∧ ce.cls = cX ∧ ce.vm = .none ∧
      ∀ target, Steps p.tables e below ((V.setCell a ce).setTop { g with stack := .ref a :: rest, pc := g.pc + 3 }) target → Steps p.tables e below (W.setTop g) target := by
  have howns : e.platform.frameOwnsMonitors = true := by rw [X.admits.platform]
  have hfin : e.platform.finalization = false := by rw [X.admits.platform]
  have hpl : e.platform.magicAccessors = ({} : Platform).magicAccessors := by rw [X.admits.platform]
  have a' : ∀ x, x ∈ nxAtoms own ic cls sup ix bx names → x.holds args s none s [] = true := fun x hx => h x hx
  obtain ⟨T, Z0, L, -, Y⟩ := ThrowableC.of_atoms (args := args) howns hfin hpl (fun x hx => h x (by simp [nxAtoms, hx]))
  obtain ⟨Z, M, LZ, LM, hnZ⟩ := Init0T.ofS_atoms (args := args) hpl L Y (fun x hx => h x (by simp [nxAtoms, hx]))
  obtain ⟨P2, Ps, hlen, L2, hL, hP2m, hlink2, hlink⟩ := Bundle.chainS (args := args) hpl hnZ names sup hsup hnames (fun x hx => h x (by simp [nxAtoms, hx]))
  obtain ⟨P1, L1, hP1m, hP1s⟩ := PassC.ofS_atoms (args := args) (s := s) hpl (X := cls) (Y := sup) (index := ix) (bytes := bx) (Bundle.fit_spec hcls).1 (Bundle.fit_spec hsup).2 b0 b1 b2 b5 (fun x hx => h x (by simp [nxAtoms, hx]))
  have hlink1 : P1.sup = P2.m := Option.some.inj (hP1s.symm.trans hP2m)
  have hfound : s.vm.findClass cls = some P1.m.cls := findClass_of_methodNamed hP1m
  cases Option.some.inj (hfoundX.symm.trans hfound)
  obtain ⟨c1, kX', hc1, hk, hord, -, -, hn6⟩ := Cond.instantiable_spec (a' (.instantiable cls 6) (by simp [nxAtoms]))
  cases Option.some.inj (hc1.symm.trans hfound)
  cases Option.some.inj (hkX.symm.trans hk)
  have hsel0 : selectMethod e.platform s.vm P1.m.cls T.fill0 = .method T.fill0 := by
    obtain ⟨c2, r2, m2, q1, q2, q3, q4, -⟩ := Cond.selects_spec (a' (.selects cls Bundle.tFill0 Bundle.tFill0) (by simp [nxAtoms]))
    cases Option.some.inj (q1.symm.trans hfound)
    cases Option.some.inj (q2.symm.trans (State.methodFound?_of_named Y.fill0 (by decide)))
    cases Option.some.inj (q3.symm.trans Y.fill0)
    rw [Launch.admits_selectMethod X.admits]; exact q4
  have hselF : selectMethod e.platform s.vm P1.m.cls T.fill = .method T.fill := by
    obtain ⟨c2, r2, m2, q1, q2, q3, q4, -⟩ := Cond.selects_spec (a' (.selects cls Bundle.tFill Bundle.tFill) (by simp [nxAtoms]))
    cases Option.some.inj (q1.symm.trans hfound)
    cases Option.some.inj (q2.symm.trans (State.methodFound?_of_named Y.fill (by decide)))
    cases Option.some.inj (q3.symm.trans Y.fill)
    rw [Launch.admits_selectMethod X.admits]; exact q4
  obtain ⟨cellS0, hcS0, hiss⟩ := Y.statics
  obtain ⟨u0, hu0⟩ := Cond.staticRefV Y.unassigned L.unassignedStatic L.statics hcS0 hiss (a' (.isRef (.static Bundle.tN "UNASSIGNED_STACK" Bundle.steD)) (by simp [nxAtoms]))
  obtain ⟨sen, hsen⟩ := Cond.staticRefV Y.sentinel L.sentinelStatic L.statics hcS0 hiss (a' (.isRef (.static Bundle.tN "SUPPRESSED_SENTINEL" Bundle.listD)) (by simp [nxAtoms]))
  obtain ⟨ci198, i198, fB, hk198, hg198, ha198, hsB, -, hnB, htB, hffB⟩ := Cond.ownField (t := .object "java/lang/Object") Y.found L.cls (by decide +kernel) (a' (.fieldLink Bundle.tN 198 Bundle.tN "backtrace" "Ljava/lang/Object;") (by simp [nxAtoms])) (a' (.lays Bundle.tN Bundle.tN "backtrace" "Ljava/lang/Object;") (by simp [nxAtoms])) e.platform hpl
  obtain ⟨cellS, hcS', heS, -, hkeep⟩ := X.same.2.2.2.2.2 T.aS cellS0 hcS0
  have hcellS : W.heap[T.aS]? = some cellS := hcS'
  have hout' : ∀ i, (⟨T.aS, i⟩ : Loc) ∉ locs := fun i hmem => by
    have := hlocs _ hmem cellS0 hcS0
    rw [hiss] at this; cases this
  have hknownS : cellS.vm ≠ .unknown := by
    rw [heS]; intro hu
    rw [show cellS0.vm = .unknown from hu] at hiss
    cases hiss
  have hneS : T.aS ≠ a := Nat.ne_of_lt (Nat.lt_of_lt_of_le (Array.getElem?_eq_some_iff.mp hcS0).1 hnew)
  obtain ⟨iM, hffM⟩ := Y.msg
  obtain ⟨tyC, dC, hdC, hdnC⟩ := Cond.laysAt hfound hk Y.cause (a' (.lays cls Bundle.tN "cause" "Ljava/lang/Throwable;") (by simp [nxAtoms]))
  obtain ⟨tyS, dS, hdS, hdnS⟩ := Cond.laysAt hfound hk Y.stack (a' (.lays cls Bundle.tN "stackTrace" Bundle.steD) (by simp [nxAtoms]))
  obtain ⟨tyP, dP, hdP, hdnP⟩ := Cond.laysAt hfound hk Y.supp (a' (.lays cls Bundle.tN "suppressedExceptions" Bundle.listD) (by simp [nxAtoms]))
  obtain ⟨tyM, dM, hdM, hdnM⟩ := Cond.laysAt hfound hk hffM (a' (.lays cls Bundle.tN "detailMessage" "Ljava/lang/String;") (by simp [nxAtoms]))
  obtain ⟨tyB, dB, hdB, hdnB⟩ := Cond.laysAt hfound hk hffB (a' (.lays cls Bundle.tN "backtrace" "Ljava/lang/Object;") (by simp [nxAtoms]))
  have bC := Cond.laysApart hdB hdC hdnB hdnC (by rw [hnB, Y.causeName]; decide)
  have bS := Cond.laysApart hdB hdS hdnB hdnS (by rw [hnB, Y.stackName]; decide)
  have bP := Cond.laysApart hdB hdP hdnB hdnP (by rw [hnB, Y.suppName]; decide)
  have hskip : SkipFacts T e.platform s (fun u => u) u0 ((preparedCellV T.toThrowableT (freshCell P1.m.cls kX) a u0 sen).withEntry W.cur) :=
    ⟨{ ci198 := ci198, i198 := i198, fBack := fB }, ⟨hk198, hg198, ha198, hsB⟩, by
      have := fresh_default (c := P1.m.cls) tyB
      rw [htB] at this
      simpa [preparedCellV, Cell.setSlot, Cell.withEntry, Array.getElem?_setIfInBounds, bC, bS, bP, bC.symm, bS.symm, bP.symm, defaultValue] using this, fun _ _ => rfl⟩
  obtain ⟨tm, methC, cdC, kC, vm₁, hnC, -, -, -, -, -, -, -, hW₁, st1⟩ := Steps.initColdS (tb := p.tables) (e := e) (below := below) (s := s) (U := W) X.here hexec X.warmed hpl hown (t := Bundle.initS cls) rfl rfl (Bundle.fit_spec hcls).2
    (a' (.methodLink own ic (Bundle.initS cls)) (by simp [nxAtoms])) (h (.instanceMethod (Bundle.initS cls)) (by simp [nxAtoms, Bundle.passSAtoms])) (bytes := bx) (maxL := 2) (h (.code (Bundle.initS cls) bx 2 none) (by simp [nxAtoms, Bundle.passSAtoms]))
    (f := g) hg (a := a) (msg := msg) (rest := .ref a :: rest) hstack hd6
  cases Option.some.inj (hnC.symm.trans hP1m)
  have X₁ := X.noted hW₁
  obtain ⟨vm₂, X₂, st2⟩ := X₁.ctorMessageOffV hexec (g := { g with stack := .ref a :: rest }) hg hsize T L Z LZ M LM (P1 :: P2 :: Ps)
    (fun P hP => by rcases List.mem_cons.mp hP with rfl | hP; exact L1; rcases List.mem_cons.mp hP with rfl | hP; exact L2; exact hL P hP) ⟨hlink1, hlink2, hlink⟩ (u0 := u0) (sen := sen) (self := a) hmsg (cell := freshCell P1.m.cls kX) (cellS := cellS)
    hcell (fun _ => by simp) (by simp) rfl rfl hsel0 hselF hcellS hneS hknownS (by rw [hkeep _ (hout' _)]; exact hu0) (by rw [hkeep _ (hout' _)]; exact hsen)
    (Takes.of_laid hk hord tyC (by rw [Y.causeType]; rfl)) (Takes.of_laid hk hord tyS (by rw [Y.stackType]; exact fits_refV_array _ u0)) (Takes.of_laid hk hord tyP (by rw [Y.suppType]; exact fits_refV_object _ sen))
    (Takes.of_laid hk hord tyM (by rw [Y.msgType]; exact fits_refV_object _ ⟨msg, hmsg⟩)) Y.objLocals hskip htr [] hd6
    (by simp only [List.length_cons, hlen]; omega) (by simp only [List.length_cons, hlen]; exact hRlocals)
  have hlt : a < ((W.setVm vm₁).setVm vm₂).heap.size := (Array.getElem?_eq_some_iff.mp hcell).1
  refine ⟨(W.setVm vm₁).setVm vm₂, _, _, X₂, fun y hy => ?_, hlt, rfl, rfl, fun target hwalk => st1 _ (fun acts => ?_)⟩
  · simp only [List.mem_cons, List.not_mem_nil, or_false] at hy
    rcases hy with rfl | rfl | rfl | rfl | rfl <;> rfl
  · rw [doInvoke_state]
    exact st2 _ hwalk
end NX
section NX2
variable {p : Program} {l : Launch} {e : Env} {R : Room} {s : State} {m : MethodId} {args : Array Value} {below : List Frame} {meth : Method} {c : Code} {H : Heap} {locs : List Loc} {cells slots : Nat} {Q : State → Prop}
variable {ls : Array Slot} {rest : List Value}
theorem nx_back9 {T S : State} {R' : Room} {k n : Nat} (X : Stand p l e R s m args below meth c T locs cells slots) (Y : Stand p l e R' ((T.setVm s.vm).setFrames (.invoking m args :: below)) m args below meth c T [] 0 0) (Z : Stand p l e R' ((T.setVm s.vm).setFrames (.invoking m args :: below)) m args below meth c S [] k n) :
    Stand p l e R s m args below meth c S locs (cells + k) (slots + n) := by
  have hW0 : s.WarmedH ((T.setVm s.vm).setFrames (.invoking m args :: below)).vm := State.WarmedH.refl s
  refine { admits := X.admits, cas := X.cas, clock := X.clock, frames := X.frames, room := X.room, hears := X.hears, method := X.method, code := X.code, here := Z.here, tail := Z.tail, warmed := State.WarmedH.trans hW0 Z.warmed, limits := Z.limits.trans (Y.limits.symm.trans X.limits), bytes := Z.bytes.trans (Y.bytes.symm.trans X.bytes), same := ?_ }
  obtain ⟨e1, e2⟩ := Z.same
  rw [State.setFrames_setFrames] at e1
  have h2 : (T.setVm s.vm).sameButNew (S.setVm s.vm) [] k n := ⟨e1, e2⟩
  have h3 := X.same.trans h2
  rw [List.append_nil] at h3
  exact h3
theorem nx_make {cc : ByteArray} {pc : Nat} (hexec : p.tables.exec = Jvm.exec) (hb : c.code = cc) (hl : l.stackTraces = false) {own cls sup text : String} {names : List String} {ik is ic ix sa : Nat} {bx : ByteArray} {A : Nat → Prop}
    (hown : s.vm.findClass own = some m.cls) (hcls : Bundle.fit cls = true) (hsup : Bundle.fit sup = true) (hnames : ∀ n ∈ names, Bundle.fit n = true) (b0 : decode bx 0 = .ok (.aload_n 0, 1)) (b1 : decode bx 1 = .ok (.aload_n 1, 1)) (b2 : decode bx 2 = .ok (.invokespecial ix, 3)) (b5 : decode bx 5 = .ok (.return_, 1))
    (hk : (Cond.classLink own ik cls).before args s = true) (hini : (Cond.initialized cls).before args s = true) (hstr : vk_R own is text sa s) (hat : ∀ w ∈ (nxAtoms own ic cls sup ix bx names).filter vx_no, w.before args s = true)
    (hgood : ∀ w ∈ Cond.classLink own ik cls :: Cond.initialized cls :: (nxAtoms own ic cls sup ix bx names).filter vx_no, vx_ot w = true)
    (hU : vx_Zq Bundle.tN "UNASSIGNED_STACK" Bundle.steD A s s.heap) (hN : vx_Zq Bundle.tN "SUPPRESSED_SENTINEL" Bundle.listD A s s.heap) (hS : va_S A s.heap H locs) (hsize : ls.size = c.maxLocals)
    (d0 : decode cc pc = .ok (.new ik, 3)) (d3 : decode cc (pc + 3) = .ok (.dup, 1)) (d4 : decode cc (pc + 4) = .ok (.ldc is, 2)) (d6 : decode cc (pc + 6) = .ok (.invokespecial ic, 3))
    (hRframes : names.length + 4 < R.frames) (hRlocals : (rest.map fun v => v.category).sum + (13 * (names.length + 2) + 43) ≤ R.locals) (hRcells : cells + 1 ≤ R.cells) (hRslots : slots + 6 ≤ R.slots)
    (kk : ∀ (q : Nat) (H1 : Heap) (ce : Cell), H1[q]? = some ce → ce.vm = .none → s.vm.findClass cls = some ce.cls → H.size ≤ H1.size → (∀ a : Nat, a < H.size → H1[a]? = H[a]?) → va_S A s.heap H1 locs → W p l e R s m args below meth c H1 locs (cells + 1) (slots + 6) Q (F0 m (pc + 9) ls (.ref q :: rest))) :
    W p l e R s m args below meth c H locs cells slots Q (F0 m pc ls rest) := by
  intro T hT X
  subst hT
  have htr : e.platform.stackTraces = false := (show e.platform.stackTraces = l.stackTraces by rw [X.admits.platform]).trans hl
  have Y := vx_rebase X (R' := { frames := R.frames, locals := R.locals, cells := 1, slots := 6 }) (Nat.le_refl _) (Nat.le_refl _) hRcells hRslots
  obtain ⟨s', hA'⟩ : ∃ z, z = (T.setVm s.vm).setFrames (.invoking m args :: below) := ⟨_, rfl⟩
  rw [← hA'] at Y
  have hvm : s'.vm = s.vm := by rw [hA']; rfl
  have hhp : s'.heap = T.heap := by rw [hA']; rfl
  have hW0 : s.WarmedH s'.vm := by rw [hvm]; exact State.WarmedH.refl s
  have hat' : ∀ w ∈ (nxAtoms own ic cls sup ix bx names).filter vx_no, w.before args s' = true := fun w hw => vx_ot_at hW0 hvm.symm (hgood w (List.mem_cons_of_mem _ (List.mem_cons_of_mem _ hw))) (hat w hw)
  have hk' : (Cond.classLink own ik cls).before args s' = true := vx_ot_at hW0 hvm.symm (hgood _ List.mem_cons_self) hk
  have hini' : (Cond.initialized cls).before args s' = true := vx_ot_at hW0 hvm.symm (hgood _ (List.mem_cons_of_mem _ List.mem_cons_self)) hini
  have hU' : vx_Zq Bundle.tN "UNASSIGNED_STACK" Bundle.steD A s' s'.heap := by rw [hhp]; exact vx_Zq.moved hW0.alike (hU.kept hS.2.1)
  have hN' : vx_Zq Bundle.tN "SUPPRESSED_SENTINEL" Bundle.listD A s' s'.heap := by rw [hhp]; exact vx_Zq.moved hW0.alike (hN.kept hS.2.1)
  have h : ∀ w ∈ nxAtoms own ic cls sup ix bx names, w.before args s' = true := vx_own hat' (vx_isRefq hU'.1) (vx_isRefq hN'.1) hU'.2.word hN'.2.word
  have hown' : s'.vm.findClass own = some m.cls := by rw [hvm]; exact hown
  have hins : (Cond.instantiable cls 6).before args s' = true := h _ (by simp [nxAtoms])
  obtain ⟨vm₁, cX, kX, hfX, hkX, -, -, X₁, st1⟩ := Y.newCold hexec (own := own) (C := cls) (index := ik) (n := 6) hown' hk' hins hini'
    (g := F0 m pc ls rest) rfl (by rw [hb]; exact d0) (Nat.le_refl _) (Nat.le_refl _)
  generalize hT1 : (T.setVm vm₁).pushCell { cls := cX, slots := kX.instanceTypes.map defaultValue, vm := .none } = T1 at X₁ st1
  have hcat : (Value.ref T.heap.size).category = 1 := rfl
  have hcellA : T1.heap[T.heap.size]? = some (freshCell cX kX) := by rw [← hT1]; exact State.heap_pushCell_size _ _
  have d3' : decode c.code (pc + 3) = .ok (.dup, 1) := by rw [hb]; exact d3
  have d4' : decode c.code (pc + 4) = .ok (.ldc is, 2) := by rw [hb]; exact d4
  have hstr' : vk_R own is text sa s' := vk_R.warm hW0 hstr
  obtain ⟨V, ce, L, Z, hL, hlt, hcl9, hvm9, st⟩ := nx_ctor X₁ hexec htr (own := own) (cls := cls) (names := names) (ic := ic) hown' hcls hsup hnames b0 b1 b2 b5 h (fun x hx => nomatch hx) hfX hkX hcellA (by rw [hhp]; exact Nat.le_refl _) (msg := .ref sa) rfl
    (g := { method := m, pc := pc + 6, locals := ls, stack := .ref sa :: .ref T.heap.size :: .ref T.heap.size :: rest, locked := none }) rfl hsize (rest := rest) rfl
    (by rw [hb]; exact d6) hRframes (by simp only [List.map_cons, List.sum_cons, hcat]; omega)
  have Z0 := Stand.forget (locs := []) Z (fun y hy => by rw [hL y hy, hhp]; exact Nat.le_refl _)
  obtain ⟨f1, f2⟩ := vx_frame Z0.same
  rw [hhp] at f1 f2
  have hcid : s.vm.findClass cls = some ce.cls := by
    rw [hcl9]
    rw [hvm] at hfX
    exact hfX
  have hh : (V.setCell T.heap.size ce).heap[T.heap.size]? = some ce := heapAt_setCell_self (s := V) ce hlt
  subst hA'
  have X5 := nx_back9 X Y Z0
  have X6 : Stand p l e R s m args below meth c (V.setCell T.heap.size ce) locs (cells + 1) (slots + 6) := { X5 with same := X5.same.mono (by omega) (by omega) }
  obtain ⟨t, a1, b1⟩ := kk T.heap.size (V.setCell T.heap.size ce).heap ce hh hvm9 hcid f1 (fun q h1 => f2 q h1 (fun z hz => nomatch hz)) ⟨Nat.le_trans hS.1 f1, fun q h1 h2 => (f2 q (Nat.lt_of_lt_of_le h1 hS.1) (fun z hz => nomatch hz)).trans (hS.2.1 q h1 h2), hS.2.2⟩ _ rfl X6
  refine ⟨t, st1 _ ?_, b1⟩
  show Steps p.tables e below (T1.setTop { method := m, pc := pc + 3, locals := ls, stack := .ref T.heap.size :: rest, locked := none }) _
  jvm_step X₁.here [X₁.here.top, hexec, d3', Value.category]
  exact X₁.ldcString hexec (own := own) (text := text) (index := is) (a := sa) hown' hstr'.1 hstr'.2
    (g := { method := m, pc := pc + 4, locals := ls, stack := .ref T.heap.size :: .ref T.heap.size :: rest, locked := none }) rfl d4' _ (st _ a1)
theorem nx_athrow {cc : ByteArray} {pc : Nat} (hexec : p.tables.exec = Jvm.exec) (hb : c.code = cc) {q : Addr} (hdg : decode cc pc = .ok (.athrow, 1)) (k : vx_W p l e R s m args below meth c H locs cells slots Q (F0 m pc ls rest) q) : W p l e R s m args below meth c H locs cells slots Q (F0 m pc ls (.ref q :: rest)) := by
  intro T hT X
  obtain ⟨t, st, hq⟩ := k T hT X
  refine ⟨t, ?_, hq⟩
  have hdg' : decode c.code pc = .ok (.athrow, 1) := by rw [hb]; exact hdg
  jvm_step X.here [X.here.top, hexec, hdg', athrow.wp_sem]
  exact st
end NX2
abbrev xN : String := "java/util/NoSuchElementException"
abbrev xb : ByteArray := prog_19_method_4_code
def xL : List Cond := (nxAtoms RX7 137 xN "java/lang/RuntimeException" 13 xb ["java/lang/Exception"]).filter vx_no
def xD : List MethodName := [⟨"java/lang/RuntimeException", "<init>", "(Ljava/lang/String;)V"⟩, ⟨"java/lang/Exception", "<init>", "(Ljava/lang/String;)V"⟩, ⟨"java/lang/Throwable", "<init>", "(Ljava/lang/String;)V"⟩]
theorem xL_bad : ∀ w ∈ xL.filter (fun w => !goodWord w), w ∈ Cond.castable xN xN :: xD.map Cond.declares := by decide +kernel
theorem xL_good : ∀ w ∈ xL.filter goodWord, w ∈ lw_tbl := by decide +kernel
theorem xL_ot : ∀ w ∈ Cond.classLink RX7 133 xN :: Cond.initialized xN :: xL, vx_ot w = true := by decide +kernel
def KO (E : Gx) (R : Room) (cI : ClassId) (lay : Ly) (ad : Nat → Nat) (nL : Nat) (cc : ByteArray) (out : (Int32 × Mem) ⊕ Mem) : Prop := Sum.elim (fun o => ∀ (pc : Nat) (lv : List (Nat × Value)), decode cc pc = .ok (.ireturn, 1) → G E R cI lay ad nL pc lv [.int o.1] o.2) (fun u => ∀ lv : List (Nat × Value), G E R cI lay ad nL 20 lv [] u) out
/-! LoopReducer.of(II)I -/
abbrev rmX7_of : Room := { frames := 6, cells := 1, slots := 6, locals := 100 }
theorem qX7_of : yX7_of.cls ≠ "java/lang/invoke/MethodHandle" ∧ yX7_of.cls ≠ "java/lang/invoke/VarHandle" ∧ (parseMethodDescriptor yX7_of.desc).map (fun d => d.parameters.length) = some 2 := by decide +kernel
theorem DX7_of : ∀ q ∈ ([(0, .aload_n 0, 1), (1, .getfield 23, 3), (4, .iload_n 1, 1), (5, .invokevirtual 97, 3), (8, .ifCond .eq 12, 3), (11, .iload_n 2, 1), (12, .ifCond .lt 8, 3), (15, .iload_n 2, 1), (16, .iconst 2, 1), (17, .if_icmp .le 13, 3), (20, .new 133, 3), (23, .dup, 1), (24, .ldc 135, 2), (26, .invokespecial 137, 3), (29, .athrow, 1), (30, .iload_n 2, 1), (31, .ifCond .ne 13, 3), (34, .aload_n 0, 1), (35, .getfield 23, 3), (38, .getfield 140, 3), (41, .iload_n 1, 1), (42, .iaload, 1), (43, .ireturn, 1), (44, .iload_n 2, 1), (45, .iconst 1, 1), (46, .if_icmp .ne 15, 3), (49, .aload_n 0, 1), (50, .getfield 23, 3), (53, .getfield 143, 3), (56, .iload_n 1, 1), (57, .iaload, 1), (58, .goto 12, 3), (61, .aload_n 0, 1), (62, .getfield 23, 3), (65, .getfield 101, 3), (68, .iload_n 1, 1), (69, .iaload, 1), (70, .ireturn, 1)] : List (Nat × Instr × Nat)), decode cX7_of q.1 = .ok q.2 := by decide +kernel
theorem dX7_of_0 : decode cX7_of 0 = .ok (.aload_n 0, 1) := DX7_of (0, .aload_n 0, 1) (List.mem_of_getElem? (i := 0) rfl)
theorem dX7_of_1 : decode cX7_of 1 = .ok (.getfield 23, 3) := DX7_of (1, .getfield 23, 3) (List.mem_of_getElem? (i := 1) rfl)
theorem dX7_of_4 : decode cX7_of 4 = .ok (.iload_n 1, 1) := DX7_of (4, .iload_n 1, 1) (List.mem_of_getElem? (i := 2) rfl)
theorem dX7_of_5 : decode cX7_of 5 = .ok (.invokevirtual 97, 3) := DX7_of (5, .invokevirtual 97, 3) (List.mem_of_getElem? (i := 3) rfl)
theorem dX7_of_8 : decode cX7_of 8 = .ok (.ifCond .eq 12, 3) := DX7_of (8, .ifCond .eq 12, 3) (List.mem_of_getElem? (i := 4) rfl)
theorem dX7_of_11 : decode cX7_of 11 = .ok (.iload_n 2, 1) := DX7_of (11, .iload_n 2, 1) (List.mem_of_getElem? (i := 5) rfl)
theorem dX7_of_12 : decode cX7_of 12 = .ok (.ifCond .lt 8, 3) := DX7_of (12, .ifCond .lt 8, 3) (List.mem_of_getElem? (i := 6) rfl)
theorem dX7_of_15 : decode cX7_of 15 = .ok (.iload_n 2, 1) := DX7_of (15, .iload_n 2, 1) (List.mem_of_getElem? (i := 7) rfl)
theorem dX7_of_16 : decode cX7_of 16 = .ok (.iconst 2, 1) := DX7_of (16, .iconst 2, 1) (List.mem_of_getElem? (i := 8) rfl)
theorem dX7_of_17 : decode cX7_of 17 = .ok (.if_icmp .le 13, 3) := DX7_of (17, .if_icmp .le 13, 3) (List.mem_of_getElem? (i := 9) rfl)
theorem dX7_of_20 : decode cX7_of 20 = .ok (.new 133, 3) := DX7_of (20, .new 133, 3) (List.mem_of_getElem? (i := 10) rfl)
theorem dX7_of_23 : decode cX7_of 23 = .ok (.dup, 1) := DX7_of (23, .dup, 1) (List.mem_of_getElem? (i := 11) rfl)
theorem dX7_of_24 : decode cX7_of 24 = .ok (.ldc 135, 2) := DX7_of (24, .ldc 135, 2) (List.mem_of_getElem? (i := 12) rfl)
theorem dX7_of_26 : decode cX7_of 26 = .ok (.invokespecial 137, 3) := DX7_of (26, .invokespecial 137, 3) (List.mem_of_getElem? (i := 13) rfl)
theorem dX7_of_29 : decode cX7_of 29 = .ok (.athrow, 1) := DX7_of (29, .athrow, 1) (List.mem_of_getElem? (i := 14) rfl)
theorem dX7_of_30 : decode cX7_of 30 = .ok (.iload_n 2, 1) := DX7_of (30, .iload_n 2, 1) (List.mem_of_getElem? (i := 15) rfl)
theorem dX7_of_31 : decode cX7_of 31 = .ok (.ifCond .ne 13, 3) := DX7_of (31, .ifCond .ne 13, 3) (List.mem_of_getElem? (i := 16) rfl)
theorem dX7_of_34 : decode cX7_of 34 = .ok (.aload_n 0, 1) := DX7_of (34, .aload_n 0, 1) (List.mem_of_getElem? (i := 17) rfl)
theorem dX7_of_35 : decode cX7_of 35 = .ok (.getfield 23, 3) := DX7_of (35, .getfield 23, 3) (List.mem_of_getElem? (i := 18) rfl)
theorem dX7_of_38 : decode cX7_of 38 = .ok (.getfield 140, 3) := DX7_of (38, .getfield 140, 3) (List.mem_of_getElem? (i := 19) rfl)
theorem dX7_of_41 : decode cX7_of 41 = .ok (.iload_n 1, 1) := DX7_of (41, .iload_n 1, 1) (List.mem_of_getElem? (i := 20) rfl)
theorem dX7_of_42 : decode cX7_of 42 = .ok (.iaload, 1) := DX7_of (42, .iaload, 1) (List.mem_of_getElem? (i := 21) rfl)
theorem dX7_of_43 : decode cX7_of 43 = .ok (.ireturn, 1) := DX7_of (43, .ireturn, 1) (List.mem_of_getElem? (i := 22) rfl)
theorem dX7_of_44 : decode cX7_of 44 = .ok (.iload_n 2, 1) := DX7_of (44, .iload_n 2, 1) (List.mem_of_getElem? (i := 23) rfl)
theorem dX7_of_45 : decode cX7_of 45 = .ok (.iconst 1, 1) := DX7_of (45, .iconst 1, 1) (List.mem_of_getElem? (i := 24) rfl)
theorem dX7_of_46 : decode cX7_of 46 = .ok (.if_icmp .ne 15, 3) := DX7_of (46, .if_icmp .ne 15, 3) (List.mem_of_getElem? (i := 25) rfl)
theorem dX7_of_49 : decode cX7_of 49 = .ok (.aload_n 0, 1) := DX7_of (49, .aload_n 0, 1) (List.mem_of_getElem? (i := 26) rfl)
theorem dX7_of_50 : decode cX7_of 50 = .ok (.getfield 23, 3) := DX7_of (50, .getfield 23, 3) (List.mem_of_getElem? (i := 27) rfl)
theorem dX7_of_53 : decode cX7_of 53 = .ok (.getfield 143, 3) := DX7_of (53, .getfield 143, 3) (List.mem_of_getElem? (i := 28) rfl)
theorem dX7_of_56 : decode cX7_of 56 = .ok (.iload_n 1, 1) := DX7_of (56, .iload_n 1, 1) (List.mem_of_getElem? (i := 29) rfl)
theorem dX7_of_57 : decode cX7_of 57 = .ok (.iaload, 1) := DX7_of (57, .iaload, 1) (List.mem_of_getElem? (i := 30) rfl)
theorem dX7_of_58 : decode cX7_of 58 = .ok (.goto 12, 3) := DX7_of (58, .goto 12, 3) (List.mem_of_getElem? (i := 31) rfl)
theorem dX7_of_61 : decode cX7_of 61 = .ok (.aload_n 0, 1) := DX7_of (61, .aload_n 0, 1) (List.mem_of_getElem? (i := 32) rfl)
theorem dX7_of_62 : decode cX7_of 62 = .ok (.getfield 23, 3) := DX7_of (62, .getfield 23, 3) (List.mem_of_getElem? (i := 33) rfl)
theorem dX7_of_65 : decode cX7_of 65 = .ok (.getfield 101, 3) := DX7_of (65, .getfield 101, 3) (List.mem_of_getElem? (i := 34) rfl)
theorem dX7_of_68 : decode cX7_of 68 = .ok (.iload_n 1, 1) := DX7_of (68, .iload_n 1, 1) (List.mem_of_getElem? (i := 35) rfl)
theorem dX7_of_69 : decode cX7_of 69 = .ok (.iaload, 1) := DX7_of (69, .iaload, 1) (List.mem_of_getElem? (i := 36) rfl)
theorem dX7_of_70 : decode cX7_of 70 = .ok (.ireturn, 1) := DX7_of (70, .ireturn, 1) (List.mem_of_getElem? (i := 37) rfl)
noncomputable def fX7_of_L20 (σ : Mem) : Option ((Int32 × Mem) ⊕ Mem) :=
  some (.inr σ)
set_option maxHeartbeats 4000000 in
set_option maxRecDepth 100000 in
theorem tX7_of_L20 {E : Gx} {cI : ClassId} {ad : Nat → Nat} (C : Cx E rmX7_of cI layX ad 3 RX7 cX7_of) {out : (Int32 × Mem) ⊕ Mem} (K0 : KO E rmX7_of cI layX ad 3 cX7_of out) {σ : Mem} (h : fX7_of_L20 σ = some out) : G E rmX7_of cI layX ad 3 20 [] [] σ := by
  unfold fX7_of_L20 at h
  cases h
  exact K0 _
noncomputable def fX7_of_L70 (s0 : Int32) (σ : Mem) : Option ((Int32 × Mem) ⊕ Mem) :=
  some (.inl (s0, σ))
set_option maxHeartbeats 4000000 in
set_option maxRecDepth 100000 in
theorem tX7_of_L70 {E : Gx} {cI : ClassId} {ad : Nat → Nat} (C : Cx E rmX7_of cI layX ad 3 RX7 cX7_of) {out : (Int32 × Mem) ⊕ Mem} (K0 : KO E rmX7_of cI layX ad 3 cX7_of out) {s0 : Int32} {σ : Mem} (h : fX7_of_L70 s0 σ = some out) : G E rmX7_of cI layX ad 3 70 [] [.int s0] σ := by
  unfold fX7_of_L70 at h
  cases h
  exact K0 _ _ dX7_of_70
noncomputable def fX7_of (a1 : Int32) (a2 : Int32) (σ : Mem) : Option ((Int32 × Mem) ⊕ Mem) :=
  (fX3_has a1 σ).bind fun o1 =>
  if o1.1 = 0 then
    fX7_of_L20 o1.2
  else
    if a2 < 0 then
      fX7_of_L20 o1.2
    else
      if a2 ≤ 2 then
        if a2 = 0 then
          chk (inb a1 30) <|
          some (.inl (o1.2 8 a1.toNatClampNeg, o1.2))
        else
          if a2 = 1 then
            chk (inb a1 30) <|
            fX7_of_L70 (o1.2 9 a1.toNatClampNeg) o1.2
          else
            chk (inb a1 30) <|
            fX7_of_L70 (o1.2 10 a1.toNatClampNeg) o1.2
      else
        fX7_of_L20 o1.2
set_option maxHeartbeats 4000000 in
set_option maxRecDepth 100000 in
theorem tX7_of_E {E : Gx} {cI : ClassId} {ad : Nat → Nat} (C : Cx E rmX7_of cI layX ad 3 RX7 cX7_of) {a1 a2 : Int32} {σ : Mem} {out : (Int32 × Mem) ⊕ Mem} (K0 : KO E rmX7_of cI layX ad 3 cX7_of out) (h : fX7_of a1 a2 σ = some out) : G E rmX7_of cI layX ad 3 0 [(0, .ref (ad 7)), (1, .int a1), (2, .int a2)] [] σ := by
  unfold fX7_of at h
  refine g_aload_n 1 C dX7_of_0 rfl (j := 0) rfl rfl ?_
  refine g_getr 4 (j := 0) C rfl rfl wu_X7 (by decide) wf_X7_23 rfl dX7_of_1 rfl ?_
  refine g_iload_n 5 C dX7_of_4 rfl (j := 1) rfl rfl ?_
  refine g_cni 8 C (As := [.int a1]) (fun _ h => mX3_has (a1 := a1) (σ := σ) h) (List.mem_of_getElem? (i := 9) rfl) wi_X3_has wz_X3_has wc_X3_has wn_X3 qX3_has rfl rfl ⟨Nat.le_of_ble_eq_true rfl, Nat.le_of_ble_eq_true rfl⟩ rfl rfl rfl rfl (Nat.le_of_ble_eq_true rfl) dX7_of_5 rfl h (fun o1 h => ?_)
  refine g_if_eq 20 11 C dX7_of_8 (by decide) rfl h (fun h => ?_) (fun h => ?_)
  · exact g_sub [] (tX7_of_L20 (σ := o1.2) C K0 h) rfl
  · refine g_iload_n 12 C dX7_of_11 rfl (j := 2) rfl rfl ?_
    refine g_if_lt 20 15 C dX7_of_12 (by decide) rfl h (fun h => ?_) (fun h => ?_)
    · exact g_sub [] (tX7_of_L20 (σ := o1.2) C K0 h) rfl
    · refine g_iload_n 16 C dX7_of_15 rfl (j := 2) rfl rfl ?_
      refine g_iconst 17 (v := 2) C dX7_of_16 (by decide) rfl ?_
      refine g_icmp_le 30 20 C dX7_of_17 (by decide) rfl h (fun h => ?_) (fun h => ?_)
      · refine g_iload_n 31 C dX7_of_30 rfl (j := 2) rfl rfl ?_
        refine g_if_ne 44 34 C dX7_of_31 (by decide) rfl h (fun h => ?_) (fun h => ?_)
        · refine g_aload_n 35 C dX7_of_34 rfl (j := 0) rfl rfl ?_
          refine g_getr 38 (j := 0) C rfl rfl wu_X7 (by decide) wf_X7_23 rfl dX7_of_35 rfl ?_
          refine g_getrN 41 (j := 1) C rfl rfl wu_X3 (by decide) (List.mem_of_getElem? (i := 6) rfl) rfl dX7_of_38 rfl ?_
          refine g_iload_n 42 C dX7_of_41 rfl (j := 1) rfl rfl ?_
          refine g_iald 43 C rfl dX7_of_42 rfl h (fun h => ?_)
          cases h
          exact K0 _ _ dX7_of_43
        · refine g_iload_n 45 C dX7_of_44 rfl (j := 2) rfl rfl ?_
          refine g_iconst 46 (v := 1) C dX7_of_45 (by decide) rfl ?_
          refine g_icmp_ne 61 49 C dX7_of_46 (by decide) rfl h (fun h => ?_) (fun h => ?_)
          · refine g_aload_n 50 C dX7_of_49 rfl (j := 0) rfl rfl ?_
            refine g_getr 53 (j := 0) C rfl rfl wu_X7 (by decide) wf_X7_23 rfl dX7_of_50 rfl ?_
            refine g_getrN 56 (j := 2) C rfl rfl wu_X3 (by decide) (List.mem_of_getElem? (i := 9) rfl) rfl dX7_of_53 rfl ?_
            refine g_iload_n 57 C dX7_of_56 rfl (j := 1) rfl rfl ?_
            refine g_iald 58 C rfl dX7_of_57 rfl h (fun h => ?_)
            refine g_goto 70 C dX7_of_58 (by decide) ?_
            exact g_sub [] (tX7_of_L70 (s0 := (o1.2 9 a1.toNatClampNeg)) (σ := o1.2) C K0 h) rfl
          · refine g_aload_n 62 C dX7_of_61 rfl (j := 0) rfl rfl ?_
            refine g_getr 65 (j := 0) C rfl rfl wu_X7 (by decide) wf_X7_23 rfl dX7_of_62 rfl ?_
            refine g_getrN 68 (j := 3) C rfl rfl wu_X3 (by decide) (List.mem_of_getElem? (i := 10) rfl) rfl dX7_of_65 rfl ?_
            refine g_iload_n 69 C dX7_of_68 rfl (j := 1) rfl rfl ?_
            refine g_iald 70 C rfl dX7_of_69 rfl h (fun h => ?_)
            exact g_sub [] (tX7_of_L70 (s0 := (o1.2 10 a1.toNatClampNeg)) (σ := o1.2) C K0 h) rfl
      · exact g_sub [] (tX7_of_L20 (σ := o1.2) C K0 h) rfl
/-- what a throw needs of a state -/
def TX (sa : Nat) (A : Nat → Prop) (U : State) : Prop := (∀ y ∈ xD, va_Nw (.declares y) U) ∧ va_Nw (.castable xN xN) U ∧ vk_R RX7 135 "no such name, or another what" sa U ∧ vx_Zq Bundle.tN "UNASSIGNED_STACK" Bundle.steD A U U.heap ∧ vx_Zq Bundle.tN "SUPPRESSED_SENTINEL" Bundle.listD A U U.heap
theorem TX.bad {sa : Nat} {A : Nat → Prop} {U : State} {args : Array Value} (h : TX sa A U) : ∀ w ∈ Cond.castable xN xN :: xD.map Cond.declares, w.before args U = true := by
  intro w hw
  rcases List.mem_cons.mp hw with rfl | hw
  · exact va_Nw.use rfl h.2.1
  · obtain ⟨y, hy, rfl⟩ := List.mem_map.mp hw
    exact va_Nw.use rfl (h.1 y hy)
theorem TX.at {sa : Nat} {A : Nat → Prop} {U : State} {args : Array Value} (h : TX sa A U) (hts : ∀ w ∈ Wall, w.before args U = true) : ∀ w ∈ xL, w.before args U = true :=
  vx_hat (fun w hw => hts w (List.mem_filter.mpr ⟨xL_good w hw, (List.mem_filter.mp hw).2⟩)) xL_bad h.bad
theorem wx_cl : Cond.classLink RX7 133 xN ∈ Wall := wt4 (List.mem_of_getElem? (i := 72) rfl) rfl
theorem wx_in : Cond.initialized xN ∈ Wall := wt1 (List.mem_of_getElem? (i := 14) rfl) rfl
theorem xb_0 : decode xb 0 = .ok (.aload_n 0, 1) := by decide +kernel
theorem xb_1 : decode xb 1 = .ok (.aload_n 1, 1) := by decide +kernel
theorem xb_2 : decode xb 2 = .ok (.invokespecial 13, 3) := by decide +kernel
theorem xb_5 : decode xb 5 = .ok (.return_, 1) := by decide +kernel
def A7 (ad : Nat → Nat) (sz : Nat) : Nat → Prop := fun q => Aw layX ad q ∨ sz ≤ q
set_option maxHeartbeats 4000000 in
set_option maxRecDepth 100000 in
theorem mX7_of {l : Launch} {D : va_G} {cI : ClassId} {ad : Nat → Nat} {a1 a2 : Int32} {σ : Mem} {sa : Nat} (hst : l.stackTraces = false) {out : (Int32 × Mem) ⊕ Mem} (h : fX7_of a1 a2 σ = some out) (sz : Nat) : vx_Met l yX7_of (Cond.code yX7_of cX7_of 3 (some .int) :: Wall) rmX7_of (va_Pc [.ref (ad 7), .int a1, .int a2] (fun U => U.heap.size = sz ∧ Wd D cI layX ad σ U ∧ TX sa (A7 ad sz) U)) (va_Qi (fun (r : Int32) (u : Mem) => Sum.inl (r, u) = out) (fun u t => Wd D cI layX ad u t) (A7 ad sz)) (vx_X (fun u : Mem => Sum.inr u = out) (fun En u t => En = xN ∧ va_P D vwCl (wof cI ad u 0 layX) t.heap) (A7 ad sz)) 1 6 (A7 ad sz) := by
  refine vx_ofW (cc := cX7_of) (maxL := 3) (ret := some .int) (by decide) rfl ?_
  intro p e s m args below meth c s₁ B hml hnt hv
  obtain ⟨rfl, hsz, ⟨hP, hK, hN, hD⟩, hT⟩ := hv
  subst hsz
  have hx := B.exec
  have hb := B.bytes
  have hr := B.returns
  have hts0 := atoms_spec (ws := _ :: Wall) B.pre
  have hts : ∀ w ∈ Wall, w.before ([.ref (ad 7), .int a1, .int a2] : List Value).toArray s = true := fun w h => hts0 w (List.mem_cons_of_mem _ h)
  have hown : s.vm.findClass RX7 = some m.cls := findClass_of_methodNamed B.named
  have hlocks := B.notSynchronized
  have hl := lv_entry [.ref (ad 7), .int a1, .int a2] (n := 3) (Nat.le_of_ble_eq_true rfl)
  rw [lg_entry_eq]
  refine tX7_of_E (E := (p, l, e, s, m, ([.ref (ad 7), .int a1, .int a2] : List Value).toArray, below, meth, c, D, vx_MQ below (va_Qi (fun (r : Int32) (u : Mem) => Sum.inl (r, u) = out) (fun u t => Wd D cI layX ad u t) (A7 ad s.heap.size)) (vx_X (fun u : Mem => Sum.inr u = out) (fun En u t => En = xN ∧ va_P D vwCl (wof cI ad u 0 layX) t.heap) (A7 ad s.heap.size)) ([.ref (ad 7), .int a1, .int a2] : List Value).toArray s 1 6 (A7 ad s.heap.size), A7 ad s.heap.size, 0, 0)) ⟨⟨hx, hb, hml, hown, hts⟩, hK, hN, hD, fun _ h => Or.inl h, Nat.zero_le _, Nat.zero_le _⟩ ?_ h s.heap [] _ hP va_S.rf hl
  cases out with
  | inl o =>
    intro pc lv hdg H locs ls hP1 hS1 hl1
    exact vx_ret (W.widen (k := 1) (n := 6) (by omega) (by omega) (W.iret (v := o.1) hx hb hr (fun t ht hW => ⟨⟨o.1, o.2, rfl, rfl, by rw [ht]; exact hP1, va_K.moved hW.alike hK, hN.warm hW, hD⟩, hS1.F ht⟩) hS1.2.2 hdg hlocks))
  | inr u =>
    intro lv H locs ls hP1 hS1 hl1
    refine nx_make hx hb hst (own := RX7) (cls := xN) (sup := "java/lang/RuntimeException") (text := "no such name, or another what") (names := ["java/lang/Exception"]) (ik := 133) (is := 135) (ic := 137) (ix := 13) (bx := xb) (sa := sa) (A := A7 ad s.heap.size) hown (by decide) (by decide) (by decide) xb_0 xb_1 xb_2 xb_5 (hts _ wx_cl) (hts _ wx_in) hT.2.2.1 (hT.at hts) xL_ot hT.2.2.2.1 hT.2.2.2.2 hS1 (hl1.1.trans hml.symm) dX7_of_20 dX7_of_23 dX7_of_24 dX7_of_26 (Nat.le_of_ble_eq_true rfl) (Nat.le_of_ble_eq_true rfl) (Nat.le_of_ble_eq_true rfl) (Nat.le_of_ble_eq_true rfl) (fun q H1 ce hq hv hc hsz1 hk1 hS2 => ?_)
    refine nx_athrow hx hb dX7_of_29 ?_
    exact vx_out (fun x hx => (hnt x hx).elim) hlocks hq hv hc (fun t ht hal => ⟨u, rfl, ⟨rfl, by rw [ht]; exact hP1.kept (fun k x hx => hk1 x.1 (hP1 k x hx).lt)⟩, hS2.F ht⟩) hS2.2.2 (Nat.le_refl _) (Nat.le_refl _)
