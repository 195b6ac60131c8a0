/-! the law's of: it catches -/
theorem wcw_of : Cond.codeWith yL_of cL_of 5 (some .int) [(0, 10, 13, 13)] ∈ Wall := wt4 (List.mem_of_getElem? (i := 66) rfl) rfl
theorem wcl_L13 : Cond.classLink RL 13 xN ∈ Wall := wt4 (List.mem_of_getElem? (i := 67) rfl) rfl
theorem DL_of : ∀ q ∈ ([(0, .aload_n 3, 1), (1, .iconst 0, 1), (2, .aload_n 0, 1), (3, .iload_n 1, 1), (4, .iload_n 2, 1), (5, .invokevirtual 7, 3), (8, .i2l, 1), (9, .lastore, 1), (10, .goto 7, 3), (13, .astore 4, 2), (15, .iconst 1, 1), (16, .ireturn, 1), (17, .iconst 0, 1), (18, .ireturn, 1)] : List (Nat × Instr × Nat)), decode cL_of q.1 = .ok q.2 := by decide +kernel
theorem Met.ofWH {l : Launch} {y : MethodName} {ws ws' : List Cond} {rm : Room} {Pc : Array Value → State → Prop} {Qc : Array Value → State → Outcome → State → Prop} {mc ms : Nat} {free : Addr → Prop} {cc : ByteArray} {maxL : Nat} {ret : Option FieldType} {hh : List (Nat × Nat × Nat × Nat)}
    (hy : plainName y.cls = true) (hw : ws = Cond.codeWith y cc maxL ret hh :: ws')
    (body : ∀ p e s m args below meth c s₁, BodyLoose p l y (headSpec ws rm) cc maxL ret e s m args below meth c s₁ → c.maxLocals = maxL → Pc args s →
      W p l e (headSpec ws rm).room s m args below meth c s.heap [] 0 0 (MQ below Qc args s mc ms free) (entryFrame m args maxL)) : Met l y ws rm Pc Qc mc ms free := by
  refine MetFree.of_bodyS (code := cc) (maxLocals := maxL) (ret := ret) hy ?_ ?_
  · intro args s m h hn
    obtain ⟨m9, meth, c, hn9, h1, h2, h3, h4, -, h5, h6, -⟩ := Cond.codeWith_spec (atoms_spec (ws := ws) h _ (by rw [hw]; exact List.mem_cons_self))
    cases hn.symm.trans hn9
    exact ⟨meth, c, h1, h2, h3, h4, h5, h6⟩
  · intro p e s m args below meth c s₁ B hml hP _
    have hh0 : s₁.heap = s.heap := by rw [B.state]; rfl
    obtain ⟨t, a1, o, b1, b2, b3⟩ := body p e s m args below meth c s₁ B hml hP s₁ hh0 (Stand.of_body B)
    exact ⟨t, o, a1, b1, b2, ⟨b3.1, b3.2⟩⟩
def AL (ad : Nat → Nat) (qo sz : Nat) : Nat → Prop := fun q => Aw layX ad q ∨ q = qo ∨ sz ≤ q
def ofOut (fo : Nat → Int64) (out : (Int32 × Mem) ⊕ Mem) : Int32 × Mem × (Nat → Int64) := Sum.elim (fun o => (0, o.2, vp_updL fo 0 o.1.toInt64)) (fun u => (1, u, fo)) out
theorem TX.narrow {sa : Nat} {A B : Nat → Prop} {U : State} (h : TX sa A U) (hAB : ∀ q, B q → A q) : TX sa B U := ⟨h.1, h.2.1, h.2.2.1, h.2.2.2.1.narrow hAB, h.2.2.2.2.narrow hAB⟩
/-- the same facts at another state that has grown out of this one: what lies outside of A is as it was -/
theorem TX.go {sa : Nat} {A : Nat → Prop} {s U : State} (h : TX sa A s) (hW : s.WarmedH U.vm) (hk : ∀ a : Nat, a < s.heap.size → ¬ A a → U.heap[a]? = s.heap[a]?) : TX sa A U :=
  ⟨fun y hy => va_Nw.warmD hW (h.1 y hy), va_Nw.warmC hW h.2.1, vk_R.warm hW h.2.2.1, (vx_Zq.moved hW.alike h.2.2.2.1).kept hk, (vx_Zq.moved hW.alike h.2.2.2.2).kept hk⟩
theorem TX.same {sa : Nat} {A : Nat → Prop} {s U : State} (h : TX sa A s) (hv : s.vm = U.vm) (hh : U.heap = s.heap) : TX sa A U := by
  refine TX.go h (by rw [← hv]; exact State.WarmedH.refl s) (fun a _ _ => by rw [hh])
theorem P_left {D : va_G} {cl : List vw_C} {w1 w2 : va_W} {H : Heap} (h : va_P D cl (w1 ++ w2) H) : va_P D cl w1 H := fun k q hk => h k q (by rw [List.getElem?_append_left (List.getElem?_eq_some_iff.mp hk).1]; exact hk)
theorem P_right {D : va_G} {cl : List vw_C} {w1 w2 : va_W} {H : Heap} (h : va_P D cl (w1 ++ w2) H) : va_P D cl w2 H := fun k q hk => h (w1.length + k) q (by rw [List.getElem?_append_right (by omega)]; simpa using hk)
abbrev rmL_of : Room := { frames := 7, cells := 1, slots := 6, locals := 122 }
set_option maxHeartbeats 4000000 in
set_option maxRecDepth 100000 in
theorem mL_of {l : Launch} {D : va_G} {cI cL : ClassId} {ad : Nat → Nat} {a1 a2 : Int32} {σ : Mem} {sa qo : Nat} {fo : Nat → Int64} (hst : l.stackTraces = false) {out : (Int32 × Mem) ⊕ Mem} (h : fX7_of a1 a2 σ = some out) (sz : Nat) : Met l yL_of (Cond.codeWith yL_of cL_of 5 (some .int) [(0, 10, 13, 13)] :: Wall) rmL_of (va_Pc [.ref (ad 7), .int a1, .int a2, .ref qo] (fun U => U.heap.size = sz ∧ Wd D cI layX ad σ U ∧ va_K D vwCl [(cI, .int), (cL, .long)] U ∧ va_P D vwCl [(qo, .inl (cL, 1, .inr (.inl fo)))] U.heap ∧ ¬ Aw layX ad qo ∧ TX sa (AL ad qo sz) U)) (va_Qi (fun (r : Int32) (u : Mem × (Nat → Int64)) => (r, u.1, u.2) = ofOut fo out) (fun u t => va_P D vwCl (wof cI ad u.1 0 layX) t.heap ∧ va_P D vwCl [(qo, .inl (cL, 1, .inr (.inl u.2)))] t.heap) (AL ad qo sz)) 1 6 (AL ad qo sz) := by
  refine Met.ofWH (cc := cL_of) (maxL := 5) (ret := some .int) (by decide) rfl ?_
  intro p e s m args below meth c s₁ B hml hv
  obtain ⟨rfl, hsz, ⟨hP, hK, hN, hD⟩, hKL, hPo, hqo, hT⟩ := hv
  subst hsz
  have hx := B.exec
  have hb := B.bytes
  have hr := B.returns
  have hts0 := atoms_spec (ws := _ :: Wall) B.pre
  have hts : ∀ w ∈ Wall, w.before ([.ref (ad 7), .int a1, .int a2, .ref qo] : List Value).toArray s = true := fun w h => hts0 w (List.mem_cons_of_mem _ h)
  have hown : s.vm.findClass RL = some m.cls := findClass_of_methodNamed B.named
  have hlocks := B.notSynchronized
  have htab := vx_table (x := yL_of) B (hts0 _ List.mem_cons_self)
  have hqlt : qo < s.heap.size := (hPo 0 _ rfl).lt
  have hl := lv_entry [.ref (ad 7), .int a1, .int a2, .ref qo] (n := 5) (Nat.le_of_ble_eq_true rfl)
  rw [lg_entry_eq]
  generalize (lg_sl ([.ref (ad 7), .int a1, .int a2, .ref qo]) ++ List.replicate (5 - (lg_sl ([.ref (ad 7), .int a1, .int a2, .ref qo])).length) Slot.unset).toArray = ls at hl ⊢
  have hl : lv_has ls 5 [(0, .ref (ad 7)), (1, .int a1), (2, .int a2), (3, .ref qo)] := hl
  refine lv_aload_n hx hb (DL_of (0, .aload_n 3, 1) (List.mem_of_getElem? (i := 0) rfl)) rfl (lv_at hl 3 rfl) ?_
  refine lv_iconst (v := 0) hx hb (DL_of (1, .iconst 0, 1) (List.mem_of_getElem? (i := 1) rfl)) (by decide) ?_
  refine lv_aload_n hx hb (DL_of (2, .aload_n 0, 1) (List.mem_of_getElem? (i := 2) rfl)) rfl (lv_at hl 0 rfl) ?_
  refine lv_iload_n hx hb (DL_of (3, .iload_n 1, 1) (List.mem_of_getElem? (i := 3) rfl)) rfl (lv_at hl 1 rfl) ?_
  refine lv_iload_n hx hb (DL_of (4, .iload_n 2, 1) (List.mem_of_getElem? (i := 4) rfl)) rfl (lv_at hl 2 rfl) ?_
  have hM := mX7_of (D := D) (cI := cI) (ad := ad) (sa := sa) hst h s.heap.size
  have hA7 : ∀ q, A7 ad s.heap.size q → AL ad qo s.heap.size q := fun q hq => hq.elim Or.inl (fun z => Or.inr (Or.inr z))
  have hn7 : ¬ A7 ad s.heap.size qo := fun z => z.elim hqo (fun z => absurd hqlt (Nat.not_lt.mpr z))
  have hSr : va_S (AL ad qo s.heap.size) s.heap s.heap [] := va_S.rf
  refine vx_calli (vx_runV (As := [.int a1, .int a2]) (rest := [.int 0, .ref qo]) ⟨hx, hb, hml, hown, hts⟩ hM ⟨callB_of 2 hts (good_call wc_X7_of) rfl rfl rfl (hts _ wn_X7) (hts _ wl_L_7) qX7_of ⟨Nat.le_of_ble_eq_true rfl, Nat.le_of_ble_eq_true rfl⟩, hts _ wi_X7_of, hts _ wz_X7_of⟩ ⟨fun a U g mk z => ?_, va_recv hK hP (ci := 7) (q0 := 7) rfl rfl, fun U hU hW => ⟨rfl, by rw [hU], ⟨by rw [hU]; exact hP, va_K.moved hW.alike hK, hN.warm hW, hD⟩, (hT.narrow hA7).go hW (fun a _ _ => by rw [hU])⟩⟩ rfl rfl hl.1 rfl (lv_room (Nat.le_of_ble_eq_true rfl)) (DL_of (5, .invokevirtual 7, 3) (List.mem_of_getElem? (i := 5) rfl)) ⟨Nat.le_of_ble_eq_true rfl, Nat.le_of_ble_eq_true rfl⟩) hSr (fun q _ h => hA7 q h) hA7 (fun q _ h => hA7 q h) (fun En ce q9 u t H1 locs1 ht hvm hpx hBX hz1 hk1 hS1 hq9 hv9 hc9 => ?_) (fun r u t H1 locs1 ht hvm hw hB hz1 hk1 hS1 => ?_)
  · obtain ⟨z0, z1, ⟨zP, zK, zN, zD⟩, zT⟩ := z
    exact ⟨z0, z1, ⟨zP, va_K.moved (u := U) (U := U.calling g mk a) (Vm.Alike.refl U.vm) zK, zN.same rfl, zD⟩, zT.same rfl rfl⟩
  · obtain ⟨rfl, hP1⟩ := hBX
    rw [ht] at hP1
    refine vx_catch (name := xN) hown [] ⟨0, 10, 13, 13⟩ [] htab (fun z hz => nomatch hz) (by decide) (by decide) (hts _ wcl_L13) (va_Nw.use rfl hT.2.1) hq9 hv9 hc9 ?_
    refine lv_astore (lv' := [(4, .ref q9), (0, .ref (ad 7)), (1, .int a1), (2, .int a2), (3, .ref qo)]) hx hb (DL_of (13, .astore 4, 2) (List.mem_of_getElem? (i := 9) rfl)) hl (by decide) rfl (fun ls hl => ?_)
    refine lv_iconst (v := 1) hx hb (DL_of (15, .iconst 1, 1) (List.mem_of_getElem? (i := 10) rfl)) (by decide) ?_
    have hPo1 : va_P D vwCl [(qo, .inl (cL, 1, .inr (.inl fo)))] H1 := hPo.kept (fun k x hx => by
      have hk : k < 1 := (List.getElem?_eq_some_iff.mp hx).1
      rw [show k = 0 by omega] at hx
      cases hx
      exact hk1 qo hqlt hn7)
    exact W.iret (v := 1) hx hb hr (fun t ht hW => ⟨⟨1, (u, fo), rfl, by rw [← hpx]; rfl, by rw [ht]; exact hP1, by rw [ht]; exact hPo1⟩, hS1.F ht⟩) hS1.2.2 (DL_of (16, .ireturn, 1) (List.mem_of_getElem? (i := 11) rfl)) hlocks
  · have hP1 := hB.1
    rw [ht] at hP1
    have hPo1 : va_P D vwCl [(qo, .inl (cL, 1, .inr (.inl fo)))] H1 := hPo.kept (fun k x hx => by
      have hk : k < 1 := (List.getElem?_eq_some_iff.mp hx).1
      rw [show k = 0 by omega] at hx
      cases hx
      exact hk1 qo hqlt hn7)
    refine lv_i2l (v := r.toInt64) hx hb (DL_of (8, .i2l, 1) (List.mem_of_getElem? (i := 6) rfl)) rfl ?_
    have hDo : va_D (AL ad qo s.heap.size) [(qo, (.inl (cL, 1, .inr (.inl fo)) : va_E))] := (D_one _).weaken (fun k x hx _ => by
      have hk : k < 1 := (List.getElem?_eq_some_iff.mp hx).1
      rw [show k = 0 by omega] at hx
      cases hx
      exact Or.inr (Or.inl rfl))
    have hap : ∀ (k : Nat) (x : Nat × va_E), (wof cI ad u 0 layX)[k]? = some x → x.1 ≠ qo := fun k x hx e => hqo (by
      rw [wof_get] at hx
      obtain ⟨d, h1, h2⟩ := Option.map_eq_some_iff.mp hx
      subst h2
      exact ⟨k, (List.getElem?_eq_some_iff.mp h1).1, by simpa using e⟩)
    have hDc := va_D.app ((D_of (σ := u) hD).weaken (B := AL ad qo s.heap.size) (fun _ _ _ h => Or.inl h)) hDo (fun i j x y hx hy => by
      have hk : j < 1 := (List.getElem?_eq_some_iff.mp hy).1
      rw [show j = 0 by omega] at hy
      cases hy
      exact hap i x hx)
    refine va_last (i := 0) (x := r.toInt64) hx hb hKL (va_P.app hP1 hPo1) hDc hS1 32 1 rfl rfl (inb_in (by decide)) (DL_of (9, .lastore, 1) (List.mem_of_getElem? (i := 7) rfl)) (fun H2 locs2 hP2 hD2 hS2 => ?_)
    have hP2 : va_P D vwCl (wof cI ad u 0 layX ++ [(qo, .inl (cL, 1, .inr (.inl (vp_updL fo 0 r.toInt64))))]) H2 := hP2
    refine lv_goto (tgt := 17) hx hb (DL_of (10, .goto 7, 3) (List.mem_of_getElem? (i := 8) rfl)) (by decide) ?_
    refine lv_iconst (v := 0) hx hb (DL_of (17, .iconst 0, 1) (List.mem_of_getElem? (i := 12) rfl)) (by decide) ?_
    exact W.iret (v := 0) hx hb hr (fun t ht hW => ⟨⟨0, (u, vp_updL fo 0 r.toInt64), rfl, by rw [← hw]; rfl, by rw [ht]; exact P_left hP2, by rw [ht]; exact P_right hP2⟩, hS2.F ht⟩) hS2.2.2 (DL_of (18, .ireturn, 1) (List.mem_of_getElem? (i := 13) rfl)) hlocks
