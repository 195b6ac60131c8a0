/-! the judgement G: a method's walk over a world of rows of ints (written by wip/whole/frame.py) -/
abbrev Mem : Type := Nat → Nat → Int32
def up2 (σ : Mem) (k j : Nat) (v : Int32) : Mem := fun k' j' => if k' = k ∧ j' = j then v else σ k' j'
def upR (σ : Mem) (k : Nat) (f : Nat → Int32) : Mem := fun k' => if k' = k then f else σ k'
abbrev Ly : Type := List (Nat ⊕ (Nat × List (Option Nat)))
def wfs (ad : Nat → Nat) (row : Nat → Int32) : Nat → List (Option Nat) → List Value
  | _, [] => []
  | j, some t :: r => .ref (ad t) :: wfs ad row (j + 1) r
  | j, none :: r => .int (row j) :: wfs ad row (j + 1) r
def wcell (cI : ClassId) (ad : Nat → Nat) (row : Nat → Int32) : Nat ⊕ (Nat × List (Option Nat)) → va_E
  | .inl n => .inl (cI, n, .inl row)
  | .inr o => .inr (o.1, wfs ad row 0 o.2)
def wof (cI : ClassId) (ad : Nat → Nat) (σ : Mem) : Nat → Ly → va_W
  | _, [] => []
  | k, d :: r => (ad k, wcell cI ad (σ k) d) :: wof cI ad σ (k + 1) r
theorem wof_get (cI : ClassId) (ad : Nat → Nat) (σ : Mem) : ∀ (lay : Ly) (k0 k : Nat), (wof cI ad σ k0 lay)[k]? = (lay[k]?).map (fun d => (ad (k0 + k), wcell cI ad (σ (k0 + k)) d))
  | [], k0, k => by simp [wof]
  | d :: r, k0, 0 => by simp [wof]
  | d :: r, k0, k + 1 => by
    have h := wof_get cI ad σ r (k0 + 1) k
    simp only [wof, List.getElem?_cons_succ, h]
    rw [show k0 + 1 + k = k0 + (k + 1) by omega]
theorem wof_at {cI : ClassId} {ad : Nat → Nat} {σ : Mem} {lay : Ly} {k : Nat} {d : Nat ⊕ (Nat × List (Option Nat))} (h : lay[k]? = some d) : (wof cI ad σ 0 lay)[k]? = some (ad k, wcell cI ad (σ k) d) := by
  rw [wof_get, h]; simp
theorem wof_set {cI : ClassId} {ad : Nat → Nat} {σ : Mem} {lay : Ly} {k : Nat} {d : Nat ⊕ (Nat × List (Option Nat))} (h : lay[k]? = some d) (row : Nat → Int32) : (wof cI ad σ 0 lay).set k (ad k, wcell cI ad row d) = wof cI ad (upR σ k row) 0 lay := by
  apply List.ext_getElem?
  intro i
  have hk : k < (wof cI ad σ 0 lay).length := by
    have := wof_at (cI := cI) (ad := ad) (σ := σ) h
    exact (List.getElem?_eq_some_iff.mp this).1
  rw [List.getElem?_set, wof_get, wof_get]
  by_cases hi : k = i
  · subst hi
    simp [hk, h, upR]
  · rw [if_neg hi]
    cases lay[i]? with
    | none => rfl
    | some z => simp [upR, Ne.symm hi]
theorem wfs_get (ad : Nat → Nat) (row : Nat → Int32) : ∀ (fds : List (Option Nat)) (j0 j : Nat), (wfs ad row j0 fds)[j]? = (fds[j]?).map (fun o => match o with | some t => Value.ref (ad t) | none => Value.int (row (j0 + j)))
  | [], j0, j => by simp [wfs]
  | some t :: r, j0, 0 => by simp [wfs]
  | none :: r, j0, 0 => by simp [wfs]
  | some t :: r, j0, j + 1 => by
    have h := wfs_get ad row r (j0 + 1) j
    simp only [wfs, List.getElem?_cons_succ, h]
    rw [show j0 + 1 + j = j0 + (j + 1) by omega]
  | none :: r, j0, j + 1 => by
    have h := wfs_get ad row r (j0 + 1) j
    simp only [wfs, List.getElem?_cons_succ, h]
    rw [show j0 + 1 + j = j0 + (j + 1) by omega]
theorem wfs_set {ad : Nat → Nat} {row : Nat → Int32} {fds : List (Option Nat)} {j : Nat} (h : fds[j]? = some none) (v : Int32) : (wfs ad row 0 fds).set j (.int v) = wfs ad (fun i => if i = j then v else row i) 0 fds := by
  apply List.ext_getElem?
  intro i
  have hj : j < (wfs ad row 0 fds).length := by
    have h2 : (wfs ad row 0 fds)[j]? = some (.int (row j)) := by rw [wfs_get, h]; simp
    exact (List.getElem?_eq_some_iff.mp h2).1
  rw [List.getElem?_set, wfs_get, wfs_get]
  by_cases hi : j = i
  · subst hi
    simp [hj, h]
  · rw [if_neg hi]
    cases hfi : fds[i]? with
    | none => rfl
    | some z =>
      cases z with
      | none => simp [Ne.symm hi]
      | some t => simp
theorem up2_R (σ : Mem) (k j : Nat) (v : Int32) : upR σ k (fun i => if i = j then v else σ k i) = up2 σ k j v := by
  funext k' j'
  unfold upR up2
  by_cases h : k' = k
  · subst h; simp
  · simp [h]
def Aw (lay : Ly) (ad : Nat → Nat) : Nat → Prop := fun q => ∃ k, k < lay.length ∧ ad k = q
theorem D_of {cI : ClassId} {ad : Nat → Nat} {σ τ : Mem} {lay : Ly} (h : va_D (fun _ => True) (wof cI ad τ 0 lay)) : va_D (Aw lay ad) (wof cI ad σ 0 lay) := by
  constructor
  · intro i j p q hp hq hpq
    rw [wof_get] at hp hq
    obtain ⟨d1, h1, e1⟩ := Option.map_eq_some_iff.mp hp
    obtain ⟨d2, h2, e2⟩ := Option.map_eq_some_iff.mp hq
    subst e1; subst e2
    exact h.1 i j _ _ (wof_at h1) (wof_at h2) (by simpa using hpq)
  · intro k q hk
    rw [wof_get] at hk
    obtain ⟨d1, h1, e1⟩ := Option.map_eq_some_iff.mp hk
    subst e1
    exact ⟨k, (List.getElem?_eq_some_iff.mp h1).1, by simp⟩
def nsF : List (String × Nat × String × String × String × String) := [("LoopReducer", 79, "LoopReducer$Names", "mask", "I", "LoopReducer"), ("LoopReducer$Runner", 46, "LoopReducer$Names", "mask", "I", "LoopReducer"), ("LoopReducer$Cycles", 136, "LoopReducer$Names", "mask", "I", "LoopReducer"), ("LoopReducer$Runner", 55, "LoopReducer$Names", "type", "[I", "LoopReducer"), ("LoopReducer$Plan", 84, "LoopReducer$Names", "type", "[I", "LoopReducer"), ("LoopReducer$Cycles", 65, "LoopReducer$Names", "type", "[I", "LoopReducer"), ("LoopReducer", 140, "LoopReducer$Names", "type", "[I", "LoopReducer"), ("LoopReducer$Runner", 52, "LoopReducer$Names", "first", "[I", "LoopReducer"), ("LoopReducer$Cycles", 82, "LoopReducer$Names", "first", "[I", "LoopReducer"), ("LoopReducer", 143, "LoopReducer$Names", "first", "[I", "LoopReducer"), ("LoopReducer", 101, "LoopReducer$Names", "second", "[I", "LoopReducer"), ("LoopReducer$Cycles", 92, "LoopReducer$Names", "second", "[I", "LoopReducer"), ("LoopReducer$Runner", 114, "LoopReducer$Names", "second", "[I", "LoopReducer"), ("LoopReducer$Cycles", 42, "LoopReducer$Names", "size", "I", "LoopReducer"), ("LoopReducer$Plan", 61, "LoopReducer$Names", "size", "I", "LoopReducer"), ("LoopReducer", 94, "LoopReducer$Names", "size", "I", "LoopReducer"), ("LoopReducer$Runner", 104, "LoopReducer$Names", "size", "I", "LoopReducer"), ("LoopReducer", 87, "LoopReducer$Names", "inputs", "I", "LoopReducer"), ("LoopReducer", 130, "LoopReducer$Names", "carriers", "I", "LoopReducer"), ("LoopReducer", 124, "LoopReducer$Names", "shown", "I", "LoopReducer"), ("LoopReducer$Runner", 174, "LoopReducer$Names", "shown", "I", "LoopReducer"), ("LoopReducer", 112, "LoopReducer$Names", "testKind", "I", "LoopReducer"), ("LoopReducer$Runner", 171, "LoopReducer$Names", "testKind", "I", "LoopReducer"), ("LoopReducer", 115, "LoopReducer$Names", "testFirst", "I", "LoopReducer"), ("LoopReducer$Runner", 165, "LoopReducer$Names", "testFirst", "I", "LoopReducer"), ("LoopReducer", 118, "LoopReducer$Names", "testSecond", "I", "LoopReducer"), ("LoopReducer$Runner", 168, "LoopReducer$Names", "testSecond", "I", "LoopReducer"), ("LoopReducer$Cycles", 36, "LoopReducer$Names", "version", "I", "LoopReducer"), ("LoopReducer$Plan", 40, "LoopReducer$Names", "version", "I", "LoopReducer"), ("LoopReducer", 105, "LoopReducer$Names", "version", "I", "LoopReducer"), ("LoopReducer$Plan", 46, "LoopReducer$Names", "askVersion", "I", "LoopReducer"), ("LoopReducer", 121, "LoopReducer$Names", "askVersion", "I", "LoopReducer"), ("LoopReducer$Polys", 30, "LoopReducer$Monomials", "places", "[I", "LoopReducer"), ("LoopReducer$Forms", 23, "LoopReducer$Polys", "sizes", "[I", "LoopReducer"), ("LoopReducer$Cycles", 60, "LoopReducer$Forms", "delays", "[I", "LoopReducer"), ("LoopReducer", 162, "LoopReducer$Forms", "delays", "[I", "LoopReducer"), ("LoopReducer", 149, "LoopReducer$Cycles", "members", "[I", "LoopReducer"), ("LoopReducer$Plan", 76, "LoopReducer$Cycles", "kinds", "[I", "LoopReducer"), ("LoopReducer$Runner", 139, "LoopReducer$Cycles", "kinds", "[I", "LoopReducer"), ("LoopReducer", 155, "LoopReducer$Cycles", "kinds", "[I", "LoopReducer"), ("LoopReducer$Runner", 132, "LoopReducer$Plan", "neededNames", "I", "LoopReducer"), ("LoopReducer", 207, "LoopReducer$Plan", "neededNames", "I", "LoopReducer"), ("LoopReducer$Runner", 150, "LoopReducer$Plan", "cells", "I", "LoopReducer"), ("LoopReducer", 210, "LoopReducer$Plan", "cells", "I", "LoopReducer"), ("LoopReducer$Runner", 153, "LoopReducer$Plan", "owner", "[I", "LoopReducer"), ("LoopReducer", 226, "LoopReducer$Plan", "owner", "[I", "LoopReducer"), ("LoopReducer$Runner", 156, "LoopReducer$Plan", "without", "[I", "LoopReducer"), ("LoopReducer$Runner", 162, "LoopReducer$Plan", "behind", "[I", "LoopReducer"), ("LoopReducer", 223, "LoopReducer$Plan", "behind", "[I", "LoopReducer"), ("LoopReducer$Runner", 129, "LoopReducer$Plan", "cellOf", "[I", "LoopReducer"), ("LoopReducer", 241, "LoopReducer$Runner", "seenNumbers", "[I", "LoopReducer"), ("LoopReducer", 238, "LoopReducer$Runner", "seenAmount", "I", "LoopReducer")]
def nsM : List (String × Nat × MethodName × String) := [("LoopReducer", 20, ⟨"LoopReducer$Names", "<init>", "(I)V"⟩, "LoopReducer"), ("LoopReducer", 29, ⟨"LoopReducer$Monomials", "<init>", "(I)V"⟩, "LoopReducer"), ("LoopReducer", 36, ⟨"LoopReducer$Polys", "<init>", "(LLoopReducer$Monomials;I)V"⟩, "LoopReducer"), ("LoopReducer", 45, ⟨"LoopReducer$Forms", "<init>", "(LLoopReducer$Polys;I)V"⟩, "LoopReducer"), ("LoopReducer", 54, ⟨"LoopReducer$Cycles", "<init>", "(LLoopReducer$Names;LLoopReducer$Forms;)V"⟩, "LoopReducer"), ("LoopReducer", 63, ⟨"LoopReducer$Plan", "<init>", "(LLoopReducer$Names;LLoopReducer$Cycles;LLoopReducer$Forms;)V"⟩, "LoopReducer"), ("LoopReducer", 72, ⟨"LoopReducer$Runner", "<init>", "(LLoopReducer$Names;LLoopReducer$Cycles;LLoopReducer$Plan;LLoopReducer$Forms;)V"⟩, "LoopReducer"), ("LoopReducer", 83, ⟨"LoopReducer$Names", "add", "(III)I"⟩, "LoopReducer"), ("LoopReducer", 90, ⟨"LoopReducer$Names", "isOf", "(II)Z"⟩, "LoopReducer"), ("LoopReducer", 97, ⟨"LoopReducer$Names", "has", "(I)Z"⟩, "LoopReducer"), ("LoopReducer", 108, ⟨"LoopReducer$Names", "takeLast", "()I"⟩, "LoopReducer"), ("LoopReducer$Names", 63, ⟨"LoopReducer", "isIn", "(II)Z"⟩, "LoopReducer"), ("LoopReducer", 146, ⟨"LoopReducer$Cycles", "refresh", "()V"⟩, "LoopReducer"), ("LoopReducer$Cycles", 56, ⟨"LoopReducer$Names", "parts", "(I)I"⟩, "LoopReducer"), ("LoopReducer$Cycles", 45, ⟨"LoopReducer", "isIn", "(II)Z"⟩, "LoopReducer"), ("LoopReducer$Cycles", 121, ⟨"LoopReducer$Forms", "clear", "(I)V"⟩, "LoopReducer"), ("LoopReducer$Forms", 28, ⟨"LoopReducer$Polys", "clear", "(I)V"⟩, "LoopReducer"), ("LoopReducer$Cycles", 105, ⟨"LoopReducer$Forms", "putSum", "(IIII)V"⟩, "LoopReducer"), ("LoopReducer$Forms", 37, ⟨"LoopReducer$Polys", "putSum", "(IIII)V"⟩, "LoopReducer"), ("LoopReducer$Cycles", 139, ⟨"LoopReducer$Forms", "putTimes", "(III)V"⟩, "LoopReducer"), ("LoopReducer$Cycles", 79, ⟨"LoopReducer$Forms", "degree", "(I)I"⟩, "LoopReducer"), ("LoopReducer$Cycles", 127, ⟨"LoopReducer$Forms", "putAddedUp", "(III)V"⟩, "LoopReducer"), ("LoopReducer$Cycles", 75, ⟨"LoopReducer$Forms", "isThere", "(I)Z"⟩, "LoopReducer"), ("LoopReducer$Cycles", 115, ⟨"LoopReducer$Forms", "putLater", "(II)V"⟩, "LoopReducer"), ("LoopReducer$Cycles", 118, ⟨"LoopReducer$Forms", "startsAlike", "(II)Z"⟩, "LoopReducer"), ("LoopReducer$Forms", 58, ⟨"LoopReducer$Polys", "isSame", "(II)Z"⟩, "LoopReducer"), ("LoopReducer$Cycles", 85, ⟨"LoopReducer$Forms", "putOne", "(III)V"⟩, "LoopReducer"), ("LoopReducer$Forms", 33, ⟨"LoopReducer$Polys", "putOne", "(III)V"⟩, "LoopReducer"), ("LoopReducer$Cycles", 101, ⟨"LoopReducer$Forms", "putProduct", "(III)Z"⟩, "LoopReducer"), ("LoopReducer$Forms", 54, ⟨"LoopReducer$Polys", "addProduct", "(IIII)Z"⟩, "LoopReducer"), ("LoopReducer$Polys", 41, ⟨"LoopReducer$Monomials", "placeOfProduct", "(II)I"⟩, "LoopReducer"), ("LoopReducer", 152, ⟨"LoopReducer$Forms", "isThere", "(I)Z"⟩, "LoopReducer"), ("LoopReducer", 158, ⟨"LoopReducer$Forms", "degree", "(I)I"⟩, "LoopReducer"), ("LoopReducer", 170, ⟨"LoopReducer$Cycles", "leastAlike", "(I)I"⟩, "LoopReducer"), ("LoopReducer$Cycles", 142, ⟨"LoopReducer$Forms", "isSame", "(IIII)Z"⟩, "LoopReducer"), ("LoopReducer", 176, ⟨"LoopReducer$Polys", "amount", "(I)I"⟩, "LoopReducer"), ("LoopReducer", 179, ⟨"LoopReducer$Polys", "placeOf", "(II)I"⟩, "LoopReducer"), ("LoopReducer", 182, ⟨"LoopReducer$Polys", "factorAt", "(II)I"⟩, "LoopReducer"), ("LoopReducer", 185, ⟨"LoopReducer$Monomials", "exponent", "(II)I"⟩, "LoopReducer"), ("LoopReducer", 188, ⟨"LoopReducer$Monomials", "give", "(III)V"⟩, "LoopReducer"), ("LoopReducer", 192, ⟨"LoopReducer$Polys", "worth", "(I)I"⟩, "LoopReducer"), ("LoopReducer$Polys", 47, ⟨"LoopReducer$Monomials", "worth", "(I)I"⟩, "LoopReducer"), ("LoopReducer", 196, ⟨"LoopReducer$Runner", "give", "(III)V"⟩, "LoopReducer"), ("LoopReducer", 197, ⟨"LoopReducer$Cycles", "roundBy", "(II)I"⟩, "LoopReducer"), ("LoopReducer", 200, ⟨"LoopReducer$Runner", "startOf", "(I)I"⟩, "LoopReducer"), ("LoopReducer", 203, ⟨"LoopReducer$Forms", "tell", "(II)I"⟩, "LoopReducer"), ("LoopReducer$Forms", 65, ⟨"LoopReducer$Polys", "worth", "(I)I"⟩, "LoopReducer"), ("LoopReducer", 206, ⟨"LoopReducer$Plan", "refresh", "()V"⟩, "LoopReducer"), ("LoopReducer$Plan", 47, ⟨"LoopReducer$Names", "asked", "()I"⟩, "LoopReducer"), ("LoopReducer$Plan", 64, ⟨"LoopReducer", "isIn", "(II)Z"⟩, "LoopReducer"), ("LoopReducer$Plan", 81, ⟨"LoopReducer$Names", "parts", "(I)I"⟩, "LoopReducer"), ("LoopReducer$Plan", 87, ⟨"LoopReducer$Forms", "degree", "(I)I"⟩, "LoopReducer"), ("LoopReducer$Plan", 96, ⟨"LoopReducer$Forms", "isSame", "(IIII)Z"⟩, "LoopReducer"), ("LoopReducer", 213, ⟨"LoopReducer$Names", "amountOf", "(I)I"⟩, "LoopReducer"), ("LoopReducer", 216, ⟨"LoopReducer$Plan", "sumsLeft", "()I"⟩, "LoopReducer"), ("LoopReducer", 219, ⟨"LoopReducer$Plan", "productsLeft", "()I"⟩, "LoopReducer"), ("LoopReducer", 222, ⟨"LoopReducer$Plan", "degree", "(I)I"⟩, "LoopReducer"), ("LoopReducer", 229, ⟨"LoopReducer$Plan", "neededFor", "(I)I"⟩, "LoopReducer"), ("LoopReducer", 232, ⟨"LoopReducer$Runner", "goPlainly", "()I"⟩, "LoopReducer"), ("LoopReducer$Runner", 135, ⟨"LoopReducer", "isIn", "(II)Z"⟩, "LoopReducer"), ("LoopReducer$Runner", 117, ⟨"LoopReducer$Names", "isMade", "(I)Z"⟩, "LoopReducer"), ("LoopReducer$Runner", 124, ⟨"LoopReducer$Plan", "isOfCells", "(I)Z"⟩, "LoopReducer"), ("LoopReducer$Runner", 120, ⟨"LoopReducer$Names", "reckon", "(I[I)I"⟩, "LoopReducer"), ("LoopReducer$Runner", 159, ⟨"LoopReducer$Plan", "degree", "(I)I"⟩, "LoopReducer"), ("LoopReducer", 235, ⟨"LoopReducer$Runner", "goReduced", "()I"⟩, "LoopReducer"), ("LoopReducer$Runner", 144, ⟨"LoopReducer$Forms", "worth", "(II)I"⟩, "LoopReducer"), ("LoopReducer", 250, ⟨"LoopReducer$Forms", "putSum", "(IIII)V"⟩, "LoopReducer")]
def Nst (U : State) : Prop := (∀ q ∈ nsF, va_Nw (.fieldLinkNest q.1 q.2.1 q.2.2.1 q.2.2.2.1 q.2.2.2.2.1 q.2.2.2.2.2) U) ∧ ∀ q ∈ nsM, va_Nw (.methodLinkNest q.1 q.2.1 q.2.2.1 q.2.2.2) U
theorem Nst.warm {s U : State} (h : Nst s) (hW : s.WarmedH U.vm) : Nst U := ⟨fun q hq => va_Nw.warmF hW (h.1 q hq), fun q hq => va_Nw.warmM hW (h.2 q hq)⟩
theorem Nst.same {s U : State} (h : Nst s) (hv : s.vm = U.vm) : Nst U := ⟨fun q hq => va_Nw.same rfl hv (h.1 q hq), fun q hq => va_Nw.same rfl hv (h.2 q hq)⟩
abbrev Gx : Type := Program × Launch × Env × State × MethodId × Array Value × List Frame × Method × Code × va_G × (State → Prop) × (Nat → Prop) × Nat × Nat
def lof : Gx → Launch
  | (_, l, _) => l
def Dof : Gx → va_G
  | (_, _, _, _, _, _, _, _, _, D, _) => D
def G (E : Gx) (R : Room) (cI : ClassId) (lay : Ly) (ad : Nat → Nat) (nL pc : Nat) (lv : List (Nat × Value)) (st : List Value) (σ : Mem) : Prop := match E with
  | (p, l, e, s, m, args, below, meth, c, D, Q, A, ce, sl) => ∀ (H : Heap) (locs : List Loc) (ls : Array Slot), va_P D vwCl (wof cI ad σ 0 lay) H → va_S A s.heap H locs → lv_has ls nL lv → W p l e R s m args below meth c H locs ce sl Q (F0 m pc ls st)
def Cx (E : Gx) (R : Room) (cI : ClassId) (lay : Ly) (ad : Nat → Nat) (nL : Nat) (own : String) (cc : ByteArray) : Prop := match E with
  | (p, l, e, s, m, args, below, meth, c, D, Q, A, ce, sl) => CallFix p m c cc nL s args Wall own ∧ va_K D vwCl [(cI, .int)] s ∧ Nst s ∧ va_D (fun _ => True) (wof cI ad (fun _ _ => 0) 0 lay) ∧ (∀ q, Aw lay ad q → A q) ∧ ce ≤ R.cells ∧ sl ≤ R.slots
def KI (E : Gx) (R : Room) (cI : ClassId) (lay : Ly) (ad : Nat → Nat) (nL : Nat) (cc : ByteArray) (ty : FieldType) (out : Int32 × Mem) : Prop := ∀ (pc : Nat) (lv : List (Nat × Value)), decode cc pc = .ok (.ireturn, 1) → narrow ty (.int out.1) = .int out.1 → G E R cI lay ad nL pc lv [.int out.1] out.2
def KV (E : Gx) (R : Room) (cI : ClassId) (lay : Ly) (ad : Nat → Nat) (nL : Nat) (cc : ByteArray) (out : Mem) : Prop := ∀ (pc : Nat) (lv : List (Nat × Value)), decode cc pc = .ok (.return_, 1) → G E R cI lay ad nL pc lv [] out
def Wd (D : va_G) (cI : ClassId) (lay : Ly) (ad : Nat → Nat) (σ : Mem) (U : State) : Prop := va_P D vwCl (wof cI ad σ 0 lay) U.heap ∧ va_K D vwCl [(cI, .int)] U ∧ Nst U ∧ va_D (fun _ => True) (wof cI ad (fun _ _ => 0) 0 lay)
def MI (l : Launch) (D : va_G) (cI : ClassId) (lay : Ly) (ad : Nat → Nat) (y : MethodName) (cc : ByteArray) (maxL : Nat) (ty : FieldType) (rm : Room) (av : List Value) (σ : Mem) (out : Int32 × Mem) : Prop :=
  Met l y (Cond.code y cc maxL (some ty) :: Wall) rm (va_Pc av (Wd D cI lay ad σ)) (va_Qi (fun (r : Int32) (u : Mem) => (r, u) = out) (fun u t => Wd D cI lay ad u t) (Aw lay ad)) 0 0 (Aw lay ad)
def MV (l : Launch) (D : va_G) (cI : ClassId) (lay : Ly) (ad : Nat → Nat) (y : MethodName) (cc : ByteArray) (maxL : Nat) (rm : Room) (av : List Value) (σ : Mem) (out : Mem) : Prop :=
  Met l y (Cond.code y cc maxL none :: Wall) rm (va_Pc av (Wd D cI lay ad σ)) (va_Qv (fun (u : Mem) => u = out) (fun u t => Wd D cI lay ad u t) (Aw lay ad)) 0 0 (Aw lay ad)
theorem Wd.blind {D : va_G} {cI : ClassId} {lay : Ly} {ad : Nat → Nat} {σ : Mem} (av : List Value) : FrameBlind (va_Pc av (Wd D cI lay ad σ)) := by
  intro a U g mk q
  obtain ⟨q0, qP, qK, qN, qD⟩ := q
  exact ⟨q0, qP, va_K.moved (u := U) (U := U.calling g mk a) (Vm.Alike.refl U.vm) qK, qN.same rfl, qD⟩
theorem met_i {l : Launch} {D : va_G} {cI : ClassId} {lay : Ly} {ad : Nat → Nat} {y : MethodName} {rm : Room} {av : List Value} {σ : Mem} {out : Int32 × Mem} {cc : ByteArray} {maxL : Nat} {ty : FieldType}
    (hy : plainName y.cls = true) (hlen : (lg_sl av).length ≤ maxL)
    (body : ∀ E : Gx, Cx E rm cI lay ad maxL y.cls cc → KI E rm cI lay ad maxL cc ty out → G E rm cI lay ad maxL 0 (lv_args 0 av) [] σ) : MI l D cI lay ad y cc maxL ty rm av σ out := by
  refine Met.ofW (cc := cc) (maxL := maxL) (ret := some ty) hy rfl ?_
  intro p e s m args below meth c s₁ B hml hv
  obtain ⟨rfl, hP, hK, hN, hD⟩ := hv
  have hx := B.exec
  have hb := B.bytes
  have hr := B.returns
  have hts0 := atoms_spec (ws := _ :: Wall) B.pre
  have hts : ∀ w ∈ Wall, w.before av.toArray s = true := fun w h => hts0 w (List.mem_cons_of_mem _ h)
  have hown : s.vm.findClass y.cls = some m.cls := findClass_of_methodNamed B.named
  have hlocks := B.notSynchronized
  have hl := lv_entry av (n := maxL) hlen
  rw [lg_entry_eq]
  refine body (p, l, e, s, m, av.toArray, below, meth, c, D, MQ below (va_Qi (fun (r : Int32) (u : Mem) => (r, u) = out) (fun u t => Wd D cI lay ad u t) (Aw lay ad)) av.toArray s 0 0 (Aw lay ad), Aw lay ad, 0, 0) ⟨⟨hx, hb, hml, hown, hts⟩, hK, hN, hD, fun _ h => h, Nat.zero_le _, Nat.zero_le _⟩ ?_ s.heap [] _ hP va_S.rf hl
  intro pc lv hdg hn H locs ls hP1 hS1 hl1
  exact W.zret hx hb hr hn (fun t ht hW => ⟨⟨out.1, out.2, rfl, rfl, by rw [ht]; exact hP1, va_K.moved hW.alike hK, hN.warm hW, hD⟩, hS1.F ht⟩) hS1.2.2 hdg hlocks
theorem met_v {l : Launch} {D : va_G} {cI : ClassId} {lay : Ly} {ad : Nat → Nat} {y : MethodName} {rm : Room} {av : List Value} {σ : Mem} {out : Mem} {cc : ByteArray} {maxL : Nat}
    (hy : plainName y.cls = true) (hlen : (lg_sl av).length ≤ maxL)
    (body : ∀ E : Gx, Cx E rm cI lay ad maxL y.cls cc → KV E rm cI lay ad maxL cc out → G E rm cI lay ad maxL 0 (lv_args 0 av) [] σ) : MV l D cI lay ad y cc maxL rm av σ out := by
  refine Met.ofW (cc := cc) (maxL := maxL) (ret := none) hy rfl ?_
  intro p e s m args below meth c s₁ B hml hv
  obtain ⟨rfl, hP, hK, hN, hD⟩ := hv
  have hx := B.exec
  have hb := B.bytes
  have hr := B.returns
  have hts0 := atoms_spec (ws := _ :: Wall) B.pre
  have hts : ∀ w ∈ Wall, w.before av.toArray s = true := fun w h => hts0 w (List.mem_cons_of_mem _ h)
  have hown : s.vm.findClass y.cls = some m.cls := findClass_of_methodNamed B.named
  have hlocks := B.notSynchronized
  have hl := lv_entry av (n := maxL) hlen
  rw [lg_entry_eq]
  refine body (p, l, e, s, m, av.toArray, below, meth, c, D, MQ below (va_Qv (fun (u : Mem) => u = out) (fun u t => Wd D cI lay ad u t) (Aw lay ad)) av.toArray s 0 0 (Aw lay ad), Aw lay ad, 0, 0) ⟨⟨hx, hb, hml, hown, hts⟩, hK, hN, hD, fun _ h => h, Nat.zero_le _, Nat.zero_le _⟩ ?_ s.heap [] _ hP va_S.rf hl
  intro pc lv hdg H locs ls hP1 hS1 hl1
  exact W.vret hx hb hr (fun t ht hW => ⟨⟨out, rfl, rfl, by rw [ht]; exact hP1, va_K.moved hW.alike hK, hN.warm hW, hD⟩, hS1.F ht⟩) hS1.2.2 hdg hlocks
section GR
variable {E : Gx} {R : Room} {cI : ClassId} {lay : Ly} {ad : Nat → Nat} {nL : Nat} {own : String} {cc : ByteArray} {pc : Nat} {lv : List (Nat × Value)} {rest : List Value} {σ : Mem}
theorem g_iconst (q : Nat) (C : Cx E R cI lay ad nL own cc) {n : Int} {v : Int32} (hdg : decode cc pc = .ok (.iconst n, 1)) (hv : Int32.ofInt n = v) (hq : pc + 1 = q)
    (k : G E R cI lay ad nL q lv (.int v :: rest) σ) : G E R cI lay ad nL pc lv rest σ := by
  subst hq
  obtain ⟨p, l, e, s, m, args, below, meth, c, D, Q, A, ce, sl⟩ := E
  intro H locs ls hP hS hl
  exact lv_iconst C.1.1 C.1.2.1 hdg hv (k H locs ls hP hS hl)
theorem g_bipush (q : Nat) (C : Cx E R cI lay ad nL own cc) {n : Int} {v : Int32} (hdg : decode cc pc = .ok (.bipush n, 2)) (hv : (Int8.ofInt n).toInt32 = v) (hq : pc + 2 = q)
    (k : G E R cI lay ad nL q lv (.int v :: rest) σ) : G E R cI lay ad nL pc lv rest σ := by
  subst hq
  obtain ⟨p, l, e, s, m, args, below, meth, c, D, Q, A, ce, sl⟩ := E
  intro H locs ls hP hS hl
  exact lv_bipush C.1.1 C.1.2.1 hdg hv (k H locs ls hP hS hl)
theorem g_sipush (q : Nat) (C : Cx E R cI lay ad nL own cc) {n : Int} {v : Int32} (hdg : decode cc pc = .ok (.sipush n, 3)) (hv : (Int16.ofInt n).toInt32 = v) (hq : pc + 3 = q)
    (k : G E R cI lay ad nL q lv (.int v :: rest) σ) : G E R cI lay ad nL pc lv rest σ := by
  subst hq
  obtain ⟨p, l, e, s, m, args, below, meth, c, D, Q, A, ce, sl⟩ := E
  intro H locs ls hP hS hl
  exact lv_sipush C.1.1 C.1.2.1 hdg hv (k H locs ls hP hS hl)
theorem g_lconst (q : Nat) (C : Cx E R cI lay ad nL own cc) {n : Fin 2} {v : Int64} (hdg : decode cc pc = .ok (.lconst n, 1)) (hv : Int64.ofNat (n : Nat) = v) (hq : pc + 1 = q)
    (k : G E R cI lay ad nL q lv (.long v :: rest) σ) : G E R cI lay ad nL pc lv rest σ := by
  subst hq
  obtain ⟨p, l, e, s, m, args, below, meth, c, D, Q, A, ce, sl⟩ := E
  intro H locs ls hP hS hl
  exact lv_lconst C.1.1 C.1.2.1 hdg hv (k H locs ls hP hS hl)
theorem g_iload_n (q : Nat) (C : Cx E R cI lay ad nL own cc) {z : Fin 4} {i j : Nat} {x : Int32} (hdg : decode cc pc = .ok (.iload_n z, 1)) (hi : (z : Nat) = i) (hj : lv[j]? = some (i, .int x)) (hq : pc + 1 = q)
    (k : G E R cI lay ad nL q lv (.int x :: rest) σ) : G E R cI lay ad nL pc lv rest σ := by
  subst hq
  obtain ⟨p, l, e, s, m, args, below, meth, c, D, Q, A, ce, sl⟩ := E
  intro H locs ls hP hS hl
  exact lv_iload_n C.1.1 C.1.2.1 hdg hi (lv_at hl j hj) (k H locs ls hP hS hl)
theorem g_iload (q : Nat) (C : Cx E R cI lay ad nL own cc) {i j : Nat} {x : Int32} (hdg : decode cc pc = .ok (.iload i, 2)) (hj : lv[j]? = some (i, .int x)) (hq : pc + 2 = q)
    (k : G E R cI lay ad nL q lv (.int x :: rest) σ) : G E R cI lay ad nL pc lv rest σ := by
  subst hq
  obtain ⟨p, l, e, s, m, args, below, meth, c, D, Q, A, ce, sl⟩ := E
  intro H locs ls hP hS hl
  exact lv_iload C.1.1 C.1.2.1 hdg (lv_at hl j hj) (k H locs ls hP hS hl)
theorem g_istore_n (q : Nat) (lv2 : List (Nat × Value)) (C : Cx E R cI lay ad nL own cc) {z : Fin 4} {i : Nat} {x : Int32} (hdg : decode cc pc = .ok (.istore_n z, 1)) (hi : (z : Nat) = i) (hn : i < nL) (hl2 : (i, Value.int x) :: lv.filter (fun q => !(q.1 == i) && !(q.1 + 1 == i && q.2.category == 2)) = lv2) (hq : pc + 1 = q)
    (k : G E R cI lay ad nL q lv2 rest σ) : G E R cI lay ad nL pc lv (.int x :: rest) σ := by
  subst hq
  obtain ⟨p, l, e, s, m, args, below, meth, c, D, Q, A, ce, sl⟩ := E
  intro H locs ls hP hS hl
  exact lv_istore_n C.1.1 C.1.2.1 hdg hi hl hn hl2 (fun ls2 hl3 => k H locs ls2 hP hS hl3)
theorem g_istore (q : Nat) (lv2 : List (Nat × Value)) (C : Cx E R cI lay ad nL own cc) {i : Nat} {x : Int32} (hdg : decode cc pc = .ok (.istore i, 2)) (hn : i < nL) (hl2 : (i, Value.int x) :: lv.filter (fun q => !(q.1 == i) && !(q.1 + 1 == i && q.2.category == 2)) = lv2) (hq : pc + 2 = q)
    (k : G E R cI lay ad nL q lv2 rest σ) : G E R cI lay ad nL pc lv (.int x :: rest) σ := by
  subst hq
  obtain ⟨p, l, e, s, m, args, below, meth, c, D, Q, A, ce, sl⟩ := E
  intro H locs ls hP hS hl
  exact lv_istore C.1.1 C.1.2.1 hdg hl hn hl2 (fun ls2 hl3 => k H locs ls2 hP hS hl3)
theorem g_lload_n (q : Nat) (C : Cx E R cI lay ad nL own cc) {z : Fin 4} {i j : Nat} {x : Int64} (hdg : decode cc pc = .ok (.lload_n z, 1)) (hi : (z : Nat) = i) (hj : lv[j]? = some (i, .long x)) (hq : pc + 1 = q)
    (k : G E R cI lay ad nL q lv (.long x :: rest) σ) : G E R cI lay ad nL pc lv rest σ := by
  subst hq
  obtain ⟨p, l, e, s, m, args, below, meth, c, D, Q, A, ce, sl⟩ := E
  intro H locs ls hP hS hl
  exact lv_lload_n C.1.1 C.1.2.1 hdg hi (lv_at hl j hj) (k H locs ls hP hS hl)
theorem g_lload (q : Nat) (C : Cx E R cI lay ad nL own cc) {i j : Nat} {x : Int64} (hdg : decode cc pc = .ok (.lload i, 2)) (hj : lv[j]? = some (i, .long x)) (hq : pc + 2 = q)
    (k : G E R cI lay ad nL q lv (.long x :: rest) σ) : G E R cI lay ad nL pc lv rest σ := by
  subst hq
  obtain ⟨p, l, e, s, m, args, below, meth, c, D, Q, A, ce, sl⟩ := E
  intro H locs ls hP hS hl
  exact lv_lload C.1.1 C.1.2.1 hdg (lv_at hl j hj) (k H locs ls hP hS hl)
theorem g_lstore_n (q : Nat) (lv2 : List (Nat × Value)) (C : Cx E R cI lay ad nL own cc) {z : Fin 4} {i : Nat} {x : Int64} (hdg : decode cc pc = .ok (.lstore_n z, 1)) (hi : (z : Nat) = i) (hn : i + 1 < nL) (hl2 : (i, Value.long x) :: lv.filter (fun q => !(q.1 == i) && (!(q.1 == i + 1) && !(q.1 + 1 == i && q.2.category == 2))) = lv2) (hq : pc + 1 = q)
    (k : G E R cI lay ad nL q lv2 rest σ) : G E R cI lay ad nL pc lv (.long x :: rest) σ := by
  subst hq
  obtain ⟨p, l, e, s, m, args, below, meth, c, D, Q, A, ce, sl⟩ := E
  intro H locs ls hP hS hl
  exact lv_lstore_n C.1.1 C.1.2.1 hdg hi hl hn hl2 (fun ls2 hl3 => k H locs ls2 hP hS hl3)
theorem g_lstore (q : Nat) (lv2 : List (Nat × Value)) (C : Cx E R cI lay ad nL own cc) {i : Nat} {x : Int64} (hdg : decode cc pc = .ok (.lstore i, 2)) (hn : i + 1 < nL) (hl2 : (i, Value.long x) :: lv.filter (fun q => !(q.1 == i) && (!(q.1 == i + 1) && !(q.1 + 1 == i && q.2.category == 2))) = lv2) (hq : pc + 2 = q)
    (k : G E R cI lay ad nL q lv2 rest σ) : G E R cI lay ad nL pc lv (.long x :: rest) σ := by
  subst hq
  obtain ⟨p, l, e, s, m, args, below, meth, c, D, Q, A, ce, sl⟩ := E
  intro H locs ls hP hS hl
  exact lv_lstore C.1.1 C.1.2.1 hdg hl hn hl2 (fun ls2 hl3 => k H locs ls2 hP hS hl3)
theorem g_aload_n (q : Nat) (C : Cx E R cI lay ad nL own cc) {z : Fin 4} {i j : Nat} {x : Nat} (hdg : decode cc pc = .ok (.aload_n z, 1)) (hi : (z : Nat) = i) (hj : lv[j]? = some (i, .ref x)) (hq : pc + 1 = q)
    (k : G E R cI lay ad nL q lv (.ref x :: rest) σ) : G E R cI lay ad nL pc lv rest σ := by
  subst hq
  obtain ⟨p, l, e, s, m, args, below, meth, c, D, Q, A, ce, sl⟩ := E
  intro H locs ls hP hS hl
  exact lv_aload_n C.1.1 C.1.2.1 hdg hi (lv_at hl j hj) (k H locs ls hP hS hl)
theorem g_aload (q : Nat) (C : Cx E R cI lay ad nL own cc) {i j : Nat} {x : Nat} (hdg : decode cc pc = .ok (.aload i, 2)) (hj : lv[j]? = some (i, .ref x)) (hq : pc + 2 = q)
    (k : G E R cI lay ad nL q lv (.ref x :: rest) σ) : G E R cI lay ad nL pc lv rest σ := by
  subst hq
  obtain ⟨p, l, e, s, m, args, below, meth, c, D, Q, A, ce, sl⟩ := E
  intro H locs ls hP hS hl
  exact lv_aload C.1.1 C.1.2.1 hdg (lv_at hl j hj) (k H locs ls hP hS hl)
theorem g_astore_n (q : Nat) (lv2 : List (Nat × Value)) (C : Cx E R cI lay ad nL own cc) {z : Fin 4} {i : Nat} {x : Nat} (hdg : decode cc pc = .ok (.astore_n z, 1)) (hi : (z : Nat) = i) (hn : i < nL) (hl2 : (i, Value.ref x) :: lv.filter (fun q => !(q.1 == i) && !(q.1 + 1 == i && q.2.category == 2)) = lv2) (hq : pc + 1 = q)
    (k : G E R cI lay ad nL q lv2 rest σ) : G E R cI lay ad nL pc lv (.ref x :: rest) σ := by
  subst hq
  obtain ⟨p, l, e, s, m, args, below, meth, c, D, Q, A, ce, sl⟩ := E
  intro H locs ls hP hS hl
  exact lv_astore_n C.1.1 C.1.2.1 hdg hi hl hn hl2 (fun ls2 hl3 => k H locs ls2 hP hS hl3)
theorem g_astore (q : Nat) (lv2 : List (Nat × Value)) (C : Cx E R cI lay ad nL own cc) {i : Nat} {x : Nat} (hdg : decode cc pc = .ok (.astore i, 2)) (hn : i < nL) (hl2 : (i, Value.ref x) :: lv.filter (fun q => !(q.1 == i) && !(q.1 + 1 == i && q.2.category == 2)) = lv2) (hq : pc + 2 = q)
    (k : G E R cI lay ad nL q lv2 rest σ) : G E R cI lay ad nL pc lv (.ref x :: rest) σ := by
  subst hq
  obtain ⟨p, l, e, s, m, args, below, meth, c, D, Q, A, ce, sl⟩ := E
  intro H locs ls hP hS hl
  exact lv_astore C.1.1 C.1.2.1 hdg hl hn hl2 (fun ls2 hl3 => k H locs ls2 hP hS hl3)
theorem g_iinc (q : Nat) (lv2 : List (Nat × Value)) (C : Cx E R cI lay ad nL own cc) {i j : Nat} {n : Int} {x v : Int32} (hdg : decode cc pc = .ok (.iinc i n, 3)) (hj : lv[j]? = some (i, .int x)) (hv : x + Int32.ofInt n = v) (hn : i < nL) (hl2 : (i, Value.int v) :: lv.filter (fun q => !(q.1 == i) && !(q.1 + 1 == i && q.2.category == 2)) = lv2) (hq : pc + 3 = q)
    (k : G E R cI lay ad nL q lv2 rest σ) : G E R cI lay ad nL pc lv rest σ := by
  subst hq
  obtain ⟨p, l, e, s, m, args, below, meth, c, D, Q, A, ce, sl⟩ := E
  intro H locs ls hP hS hl
  exact lv_iinc C.1.1 C.1.2.1 hdg hl hj hv hn hl2 (fun ls2 hl3 => k H locs ls2 hP hS hl3)
theorem g_iadd (q : Nat) (C : Cx E R cI lay ad nL own cc) {x y : Int32} (hdg : decode cc pc = .ok (.iadd, 1)) (hq : pc + 1 = q)
    (k : G E R cI lay ad nL q lv (.int (x + y) :: rest) σ) : G E R cI lay ad nL pc lv (.int y :: .int x :: rest) σ := by
  subst hq
  obtain ⟨p, l, e, s, m, args, below, meth, c, D, Q, A, ce, sl⟩ := E
  intro H locs ls hP hS hl
  exact lv_iadd C.1.1 C.1.2.1 hdg (k H locs ls hP hS hl)
theorem g_isub (q : Nat) (C : Cx E R cI lay ad nL own cc) {x y : Int32} (hdg : decode cc pc = .ok (.isub, 1)) (hq : pc + 1 = q)
    (k : G E R cI lay ad nL q lv (.int (x - y) :: rest) σ) : G E R cI lay ad nL pc lv (.int y :: .int x :: rest) σ := by
  subst hq
  obtain ⟨p, l, e, s, m, args, below, meth, c, D, Q, A, ce, sl⟩ := E
  intro H locs ls hP hS hl
  exact lv_isub C.1.1 C.1.2.1 hdg (k H locs ls hP hS hl)
theorem g_imul (q : Nat) (C : Cx E R cI lay ad nL own cc) {x y : Int32} (hdg : decode cc pc = .ok (.imul, 1)) (hq : pc + 1 = q)
    (k : G E R cI lay ad nL q lv (.int (x * y) :: rest) σ) : G E R cI lay ad nL pc lv (.int y :: .int x :: rest) σ := by
  subst hq
  obtain ⟨p, l, e, s, m, args, below, meth, c, D, Q, A, ce, sl⟩ := E
  intro H locs ls hP hS hl
  exact lv_imul C.1.1 C.1.2.1 hdg (k H locs ls hP hS hl)
theorem g_iand (q : Nat) (C : Cx E R cI lay ad nL own cc) {x y : Int32} (hdg : decode cc pc = .ok (.iand, 1)) (hq : pc + 1 = q)
    (k : G E R cI lay ad nL q lv (.int (x &&& y) :: rest) σ) : G E R cI lay ad nL pc lv (.int y :: .int x :: rest) σ := by
  subst hq
  obtain ⟨p, l, e, s, m, args, below, meth, c, D, Q, A, ce, sl⟩ := E
  intro H locs ls hP hS hl
  exact lv_iand C.1.1 C.1.2.1 hdg (k H locs ls hP hS hl)
theorem g_ior (q : Nat) (C : Cx E R cI lay ad nL own cc) {x y : Int32} (hdg : decode cc pc = .ok (.ior, 1)) (hq : pc + 1 = q)
    (k : G E R cI lay ad nL q lv (.int (x ||| y) :: rest) σ) : G E R cI lay ad nL pc lv (.int y :: .int x :: rest) σ := by
  subst hq
  obtain ⟨p, l, e, s, m, args, below, meth, c, D, Q, A, ce, sl⟩ := E
  intro H locs ls hP hS hl
  exact lv_ior C.1.1 C.1.2.1 hdg (k H locs ls hP hS hl)
theorem g_ixor (q : Nat) (C : Cx E R cI lay ad nL own cc) {x y : Int32} (hdg : decode cc pc = .ok (.ixor, 1)) (hq : pc + 1 = q)
    (k : G E R cI lay ad nL q lv (.int (x ^^^ y) :: rest) σ) : G E R cI lay ad nL pc lv (.int y :: .int x :: rest) σ := by
  subst hq
  obtain ⟨p, l, e, s, m, args, below, meth, c, D, Q, A, ce, sl⟩ := E
  intro H locs ls hP hS hl
  exact lv_ixor C.1.1 C.1.2.1 hdg (k H locs ls hP hS hl)
theorem g_ishl (q : Nat) (C : Cx E R cI lay ad nL own cc) {x y : Int32} (hdg : decode cc pc = .ok (.ishl, 1)) (hq : pc + 1 = q)
    (k : G E R cI lay ad nL q lv (.int (x <<< (y &&& 31)) :: rest) σ) : G E R cI lay ad nL pc lv (.int y :: .int x :: rest) σ := by
  subst hq
  obtain ⟨p, l, e, s, m, args, below, meth, c, D, Q, A, ce, sl⟩ := E
  intro H locs ls hP hS hl
  exact lv_ishl C.1.1 C.1.2.1 hdg (k H locs ls hP hS hl)
theorem g_ishr (q : Nat) (C : Cx E R cI lay ad nL own cc) {x y : Int32} (hdg : decode cc pc = .ok (.ishr, 1)) (hq : pc + 1 = q)
    (k : G E R cI lay ad nL q lv (.int (x >>> (y &&& 31)) :: rest) σ) : G E R cI lay ad nL pc lv (.int y :: .int x :: rest) σ := by
  subst hq
  obtain ⟨p, l, e, s, m, args, below, meth, c, D, Q, A, ce, sl⟩ := E
  intro H locs ls hP hS hl
  exact lv_ishr C.1.1 C.1.2.1 hdg (k H locs ls hP hS hl)
theorem g_idiv (q : Nat) (C : Cx E R cI lay ad nL own cc) {x y : Int32} (hdg : decode cc pc = .ok (.idiv, 1)) (hne : ¬ y = 0) (hq : pc + 1 = q)
    (k : G E R cI lay ad nL q lv (.int (x / y) :: rest) σ) : G E R cI lay ad nL pc lv (.int y :: .int x :: rest) σ := by
  subst hq
  obtain ⟨p, l, e, s, m, args, below, meth, c, D, Q, A, ce, sl⟩ := E
  intro H locs ls hP hS hl
  exact lv_idiv C.1.1 C.1.2.1 hdg hne (k H locs ls hP hS hl)
theorem g_irem (q : Nat) (C : Cx E R cI lay ad nL own cc) {x y : Int32} (hdg : decode cc pc = .ok (.irem, 1)) (hne : ¬ y = 0) (hq : pc + 1 = q)
    (k : G E R cI lay ad nL q lv (.int (x - x / y * y) :: rest) σ) : G E R cI lay ad nL pc lv (.int y :: .int x :: rest) σ := by
  subst hq
  obtain ⟨p, l, e, s, m, args, below, meth, c, D, Q, A, ce, sl⟩ := E
  intro H locs ls hP hS hl
  exact lv_irem C.1.1 C.1.2.1 hdg hne (k H locs ls hP hS hl)
theorem g_ladd (q : Nat) (C : Cx E R cI lay ad nL own cc) {x y : Int64} (hdg : decode cc pc = .ok (.ladd, 1)) (hq : pc + 1 = q)
    (k : G E R cI lay ad nL q lv (.long (x + y) :: rest) σ) : G E R cI lay ad nL pc lv (.long y :: .long x :: rest) σ := by
  subst hq
  obtain ⟨p, l, e, s, m, args, below, meth, c, D, Q, A, ce, sl⟩ := E
  intro H locs ls hP hS hl
  exact lv_ladd C.1.1 C.1.2.1 hdg (k H locs ls hP hS hl)
theorem g_lsub (q : Nat) (C : Cx E R cI lay ad nL own cc) {x y : Int64} (hdg : decode cc pc = .ok (.lsub, 1)) (hq : pc + 1 = q)
    (k : G E R cI lay ad nL q lv (.long (x - y) :: rest) σ) : G E R cI lay ad nL pc lv (.long y :: .long x :: rest) σ := by
  subst hq
  obtain ⟨p, l, e, s, m, args, below, meth, c, D, Q, A, ce, sl⟩ := E
  intro H locs ls hP hS hl
  exact lv_lsub C.1.1 C.1.2.1 hdg (k H locs ls hP hS hl)
theorem g_lmul (q : Nat) (C : Cx E R cI lay ad nL own cc) {x y : Int64} (hdg : decode cc pc = .ok (.lmul, 1)) (hq : pc + 1 = q)
    (k : G E R cI lay ad nL q lv (.long (x * y) :: rest) σ) : G E R cI lay ad nL pc lv (.long y :: .long x :: rest) σ := by
  subst hq
  obtain ⟨p, l, e, s, m, args, below, meth, c, D, Q, A, ce, sl⟩ := E
  intro H locs ls hP hS hl
  exact lv_lmul C.1.1 C.1.2.1 hdg (k H locs ls hP hS hl)
theorem g_land (q : Nat) (C : Cx E R cI lay ad nL own cc) {x y : Int64} (hdg : decode cc pc = .ok (.land, 1)) (hq : pc + 1 = q)
    (k : G E R cI lay ad nL q lv (.long (x &&& y) :: rest) σ) : G E R cI lay ad nL pc lv (.long y :: .long x :: rest) σ := by
  subst hq
  obtain ⟨p, l, e, s, m, args, below, meth, c, D, Q, A, ce, sl⟩ := E
  intro H locs ls hP hS hl
  exact lv_land C.1.1 C.1.2.1 hdg (k H locs ls hP hS hl)
theorem g_ldiv (q : Nat) (C : Cx E R cI lay ad nL own cc) {x y : Int64} (hdg : decode cc pc = .ok (.ldiv, 1)) (hne : ¬ y = 0) (hq : pc + 1 = q)
    (k : G E R cI lay ad nL q lv (.long (x / y) :: rest) σ) : G E R cI lay ad nL pc lv (.long y :: .long x :: rest) σ := by
  subst hq
  obtain ⟨p, l, e, s, m, args, below, meth, c, D, Q, A, ce, sl⟩ := E
  intro H locs ls hP hS hl
  exact lv_ldiv C.1.1 C.1.2.1 hdg hne (k H locs ls hP hS hl)
theorem g_lrem (q : Nat) (C : Cx E R cI lay ad nL own cc) {x y : Int64} (hdg : decode cc pc = .ok (.lrem, 1)) (hne : ¬ y = 0) (hq : pc + 1 = q)
    (k : G E R cI lay ad nL q lv (.long (x - x / y * y) :: rest) σ) : G E R cI lay ad nL pc lv (.long y :: .long x :: rest) σ := by
  subst hq
  obtain ⟨p, l, e, s, m, args, below, meth, c, D, Q, A, ce, sl⟩ := E
  intro H locs ls hP hS hl
  exact lv_lrem C.1.1 C.1.2.1 hdg hne (k H locs ls hP hS hl)
def iushrV (x y : Int32) : Int32 := (x.toUInt32 >>> (y.toUInt32 &&& Int32.toUInt32 31)).toInt32
theorem g_iushr (q : Nat) (C : Cx E R cI lay ad nL own cc) {x y : Int32} (hdg : decode cc pc = .ok (.iushr, 1)) (hq : pc + 1 = q)
    (k : G E R cI lay ad nL q lv (.int (iushrV x y) :: rest) σ) : G E R cI lay ad nL pc lv (.int y :: .int x :: rest) σ := by
  subst hq
  obtain ⟨p, l, e, s, m, args, below, meth, c, D, Q, A, ce, sl⟩ := E
  intro H locs ls hP hS hl
  exact lv_iushr C.1.1 C.1.2.1 hdg rfl (k H locs ls hP hS hl)
theorem g_ineg (q : Nat) (C : Cx E R cI lay ad nL own cc) {x : Int32} (hdg : decode cc pc = .ok (.ineg, 1)) (hq : pc + 1 = q)
    (k : G E R cI lay ad nL q lv (.int (-x) :: rest) σ) : G E R cI lay ad nL pc lv (.int x :: rest) σ := by
  subst hq
  obtain ⟨p, l, e, s, m, args, below, meth, c, D, Q, A, ce, sl⟩ := E
  intro H locs ls hP hS hl
  exact lv_ineg C.1.1 C.1.2.1 hdg (k H locs ls hP hS hl)
theorem g_lneg (q : Nat) (C : Cx E R cI lay ad nL own cc) {x : Int64} (hdg : decode cc pc = .ok (.lneg, 1)) (hq : pc + 1 = q)
    (k : G E R cI lay ad nL q lv (.long (-x) :: rest) σ) : G E R cI lay ad nL pc lv (.long x :: rest) σ := by
  subst hq
  obtain ⟨p, l, e, s, m, args, below, meth, c, D, Q, A, ce, sl⟩ := E
  intro H locs ls hP hS hl
  exact lv_lneg C.1.1 C.1.2.1 hdg (k H locs ls hP hS hl)
theorem g_i2l (q : Nat) (C : Cx E R cI lay ad nL own cc) {x : Int32} (hdg : decode cc pc = .ok (.i2l, 1)) (hq : pc + 1 = q)
    (k : G E R cI lay ad nL q lv (.long x.toInt64 :: rest) σ) : G E R cI lay ad nL pc lv (.int x :: rest) σ := by
  subst hq
  obtain ⟨p, l, e, s, m, args, below, meth, c, D, Q, A, ce, sl⟩ := E
  intro H locs ls hP hS hl
  exact lv_i2l C.1.1 C.1.2.1 hdg rfl (k H locs ls hP hS hl)
theorem g_l2i (q : Nat) (C : Cx E R cI lay ad nL own cc) {x : Int64} (hdg : decode cc pc = .ok (.l2i, 1)) (hq : pc + 1 = q)
    (k : G E R cI lay ad nL q lv (.int x.toInt32 :: rest) σ) : G E R cI lay ad nL pc lv (.long x :: rest) σ := by
  subst hq
  obtain ⟨p, l, e, s, m, args, below, meth, c, D, Q, A, ce, sl⟩ := E
  intro H locs ls hP hS hl
  exact lv_l2i C.1.1 C.1.2.1 hdg rfl (k H locs ls hP hS hl)
theorem g_dup (q : Nat) (C : Cx E R cI lay ad nL own cc) {va : Value} (hdg : decode cc pc = .ok (.dup, 1)) (hva : va.category = 1) (hq : pc + 1 = q)
    (k : G E R cI lay ad nL q lv (va :: va :: rest) σ) : G E R cI lay ad nL pc lv (va :: rest) σ := by
  subst hq
  obtain ⟨p, l, e, s, m, args, below, meth, c, D, Q, A, ce, sl⟩ := E
  intro H locs ls hP hS hl
  exact lv_dup C.1.1 C.1.2.1 hdg hva (k H locs ls hP hS hl)
theorem g_dup2 (q : Nat) (C : Cx E R cI lay ad nL own cc) {va vb : Value} (hdg : decode cc pc = .ok (.dup2, 1)) (hva : va.category = 1) (hvb : vb.category = 1) (hq : pc + 1 = q)
    (k : G E R cI lay ad nL q lv (va :: vb :: va :: vb :: rest) σ) : G E R cI lay ad nL pc lv (va :: vb :: rest) σ := by
  subst hq
  obtain ⟨p, l, e, s, m, args, below, meth, c, D, Q, A, ce, sl⟩ := E
  intro H locs ls hP hS hl
  exact lv_dup2_11 C.1.1 C.1.2.1 hdg hva hvb (k H locs ls hP hS hl)
theorem g_pop (q : Nat) (C : Cx E R cI lay ad nL own cc) {va : Value} (hdg : decode cc pc = .ok (.pop, 1)) (hva : va.category = 1) (hq : pc + 1 = q)
    (k : G E R cI lay ad nL q lv rest σ) : G E R cI lay ad nL pc lv (va :: rest) σ := by
  subst hq
  obtain ⟨p, l, e, s, m, args, below, meth, c, D, Q, A, ce, sl⟩ := E
  intro H locs ls hP hS hl
  exact lv_pop C.1.1 C.1.2.1 hdg hva (k H locs ls hP hS hl)
theorem g_ldc (q : Nat) (C : Cx E R cI lay ad nL own cc) {index : Nat} {v : Int32} (hdg : decode cc pc = .ok (.ldc index, 2)) (hc : Cond.constant own index v ∈ Wall) (hq : pc + 2 = q)
    (k : G E R cI lay ad nL q lv (.int v :: rest) σ) : G E R cI lay ad nL pc lv rest σ := by
  subst hq
  obtain ⟨p, l, e, s, m, args, below, meth, c, D, Q, A, ce, sl⟩ := E
  intro H locs ls hP hS hl
  exact lv_ldc C.1.1 C.1.2.1 C.1.2.2.2.1 (C.1.2.2.2.2 _ hc) hdg (k H locs ls hP hS hl)
theorem g_ldcw (q : Nat) (C : Cx E R cI lay ad nL own cc) {index : Nat} {v : Int32} (hdg : decode cc pc = .ok (.ldc_w index, 3)) (hc : Cond.constant own index v ∈ Wall) (hq : pc + 3 = q)
    (k : G E R cI lay ad nL q lv (.int v :: rest) σ) : G E R cI lay ad nL pc lv rest σ := by
  subst hq
  obtain ⟨p, l, e, s, m, args, below, meth, c, D, Q, A, ce, sl⟩ := E
  intro H locs ls hP hS hl
  exact lv_ldcw C.1.1 C.1.2.1 C.1.2.2.2.1 (C.1.2.2.2.2 _ hc) hdg (k H locs ls hP hS hl)
theorem g_ldc2 (q : Nat) (C : Cx E R cI lay ad nL own cc) {index : Nat} {v : Int64} (hdg : decode cc pc = .ok (.ldc2_w index, 3)) (hc : Cond.constantLong own index v ∈ Wall) (hq : pc + 3 = q)
    (k : G E R cI lay ad nL q lv (.long v :: rest) σ) : G E R cI lay ad nL pc lv rest σ := by
  subst hq
  obtain ⟨p, l, e, s, m, args, below, meth, c, D, Q, A, ce, sl⟩ := E
  intro H locs ls hP hS hl
  exact lv_ldc2 C.1.1 C.1.2.1 C.1.2.2.2.1 (C.1.2.2.2.2 _ hc) hdg (k H locs ls hP hS hl)
def chk {β : Type} (b : Bool) (A : Option β) : Option β := match b with
  | true => A
  | false => none
def inb (i : Int32) (n : Nat) : Bool := decide (0 ≤ i) && decide (i.toNatClampNeg < n)
theorem inb_in {i : Int32} {n : Nat} (h : inb i n = true) : vp_in i n := by
  unfold inb at h
  simp only [Bool.and_eq_true, decide_eq_true_eq] at h
  intro hc
  rcases hc with hc | hc
  · exact absurd h.1 (Int32.not_le.mpr hc)
  · omega
theorem chk_some {β : Type} {b : Bool} {A : Option β} {r : β} (h : chk b A = some r) : b = true ∧ A = some r := by
  cases b with
  | true => exact ⟨rfl, h⟩
  | false => cases h
theorem bind_some {α β : Type} {o : Option α} {g : α → Option β} {r : β} (h : o.bind g = some r) : ∃ a, o = some a ∧ g a = some r := by
  cases o with
  | none => cases h
  | some a => exact ⟨a, rfl, h⟩
theorem g_goto (tgt : Nat) (C : Cx E R cI lay ad nL own cc) {off : Int} (hdg : decode cc pc = .ok (.goto off, 3)) (ht : (pc : Int) + off = (tgt : Int)) (k : G E R cI lay ad nL tgt lv rest σ) : G E R cI lay ad nL pc lv rest σ := by
  obtain ⟨p, l, e, s, m, args, below, meth, c, D, Q, A, ce, sl⟩ := E
  intro H locs ls hP hS hl
  exact lv_goto C.1.1 C.1.2.1 hdg ht (k H locs ls hP hS hl)
theorem g_if_eq (tgt q : Nat) {β : Type} {A B : Option β} {res : β} (C : Cx E R cI lay ad nL own cc) {x : Int32} {_ : Decidable (x = 0)} {off : Int} (hdg : decode cc pc = .ok (.ifCond .eq off, 3)) (ht : (pc : Int) + off = (tgt : Int)) (hq : pc + 3 = q) (h : (if x = 0 then A else B) = some res)
    (kt : A = some res → G E R cI lay ad nL tgt lv rest σ) (kf : B = some res → G E R cI lay ad nL q lv rest σ) : G E R cI lay ad nL pc lv (.int x :: rest) σ := by
  subst hq
  obtain ⟨p, l, e, s, m, args, below, meth, c, D, Q, A, ce, sl⟩ := E
  intro H locs ls hP hS hl
  exact lv_if_eq C.1.1 C.1.2.1 hdg ht (fun hc => kt (by rw [if_pos hc] at h; exact h) H locs ls hP hS hl) (fun hc => kf (by rw [if_neg hc] at h; exact h) H locs ls hP hS hl)
theorem g_if_ne (tgt q : Nat) {β : Type} {A B : Option β} {res : β} (C : Cx E R cI lay ad nL own cc) {x : Int32} {_ : Decidable (x = 0)} {off : Int} (hdg : decode cc pc = .ok (.ifCond .ne off, 3)) (ht : (pc : Int) + off = (tgt : Int)) (hq : pc + 3 = q) (h : (if x = 0 then A else B) = some res)
    (kf : A = some res → G E R cI lay ad nL q lv rest σ) (kt : B = some res → G E R cI lay ad nL tgt lv rest σ) : G E R cI lay ad nL pc lv (.int x :: rest) σ := by
  subst hq
  obtain ⟨p, l, e, s, m, args, below, meth, c, D, Q, A, ce, sl⟩ := E
  intro H locs ls hP hS hl
  exact lv_if_ne C.1.1 C.1.2.1 hdg ht (fun hc => kt (by rw [if_neg hc] at h; exact h) H locs ls hP hS hl) (fun hc => kf (by rw [if_pos hc] at h; exact h) H locs ls hP hS hl)
theorem g_if_lt (tgt q : Nat) {β : Type} {A B : Option β} {res : β} (C : Cx E R cI lay ad nL own cc) {x : Int32} {_ : Decidable (x < 0)} {off : Int} (hdg : decode cc pc = .ok (.ifCond .lt off, 3)) (ht : (pc : Int) + off = (tgt : Int)) (hq : pc + 3 = q) (h : (if x < 0 then A else B) = some res)
    (kt : A = some res → G E R cI lay ad nL tgt lv rest σ) (kf : B = some res → G E R cI lay ad nL q lv rest σ) : G E R cI lay ad nL pc lv (.int x :: rest) σ := by
  subst hq
  obtain ⟨p, l, e, s, m, args, below, meth, c, D, Q, A, ce, sl⟩ := E
  intro H locs ls hP hS hl
  exact lv_if_lt C.1.1 C.1.2.1 hdg ht (fun hc => kt (by rw [if_pos hc] at h; exact h) H locs ls hP hS hl) (fun hc => kf (by rw [if_neg hc] at h; exact h) H locs ls hP hS hl)
theorem g_if_ge (tgt q : Nat) {β : Type} {A B : Option β} {res : β} (C : Cx E R cI lay ad nL own cc) {x : Int32} {_ : Decidable (0 ≤ x)} {off : Int} (hdg : decode cc pc = .ok (.ifCond .ge off, 3)) (ht : (pc : Int) + off = (tgt : Int)) (hq : pc + 3 = q) (h : (if 0 ≤ x then A else B) = some res)
    (kt : A = some res → G E R cI lay ad nL tgt lv rest σ) (kf : B = some res → G E R cI lay ad nL q lv rest σ) : G E R cI lay ad nL pc lv (.int x :: rest) σ := by
  subst hq
  obtain ⟨p, l, e, s, m, args, below, meth, c, D, Q, A, ce, sl⟩ := E
  intro H locs ls hP hS hl
  exact lv_if_ge C.1.1 C.1.2.1 hdg ht (fun hc => kt (by rw [if_pos hc] at h; exact h) H locs ls hP hS hl) (fun hc => kf (by rw [if_neg hc] at h; exact h) H locs ls hP hS hl)
theorem g_if_gt (tgt q : Nat) {β : Type} {A B : Option β} {res : β} (C : Cx E R cI lay ad nL own cc) {x : Int32} {_ : Decidable (0 < x)} {off : Int} (hdg : decode cc pc = .ok (.ifCond .gt off, 3)) (ht : (pc : Int) + off = (tgt : Int)) (hq : pc + 3 = q) (h : (if 0 < x then A else B) = some res)
    (kt : A = some res → G E R cI lay ad nL tgt lv rest σ) (kf : B = some res → G E R cI lay ad nL q lv rest σ) : G E R cI lay ad nL pc lv (.int x :: rest) σ := by
  subst hq
  obtain ⟨p, l, e, s, m, args, below, meth, c, D, Q, A, ce, sl⟩ := E
  intro H locs ls hP hS hl
  exact lv_if_gt C.1.1 C.1.2.1 hdg ht (fun hc => kt (by rw [if_pos hc] at h; exact h) H locs ls hP hS hl) (fun hc => kf (by rw [if_neg hc] at h; exact h) H locs ls hP hS hl)
theorem g_if_le (tgt q : Nat) {β : Type} {A B : Option β} {res : β} (C : Cx E R cI lay ad nL own cc) {x : Int32} {_ : Decidable (x ≤ 0)} {off : Int} (hdg : decode cc pc = .ok (.ifCond .le off, 3)) (ht : (pc : Int) + off = (tgt : Int)) (hq : pc + 3 = q) (h : (if x ≤ 0 then A else B) = some res)
    (kt : A = some res → G E R cI lay ad nL tgt lv rest σ) (kf : B = some res → G E R cI lay ad nL q lv rest σ) : G E R cI lay ad nL pc lv (.int x :: rest) σ := by
  subst hq
  obtain ⟨p, l, e, s, m, args, below, meth, c, D, Q, A, ce, sl⟩ := E
  intro H locs ls hP hS hl
  exact lv_if_le C.1.1 C.1.2.1 hdg ht (fun hc => kt (by rw [if_pos hc] at h; exact h) H locs ls hP hS hl) (fun hc => kf (by rw [if_neg hc] at h; exact h) H locs ls hP hS hl)
theorem g_icmp_eq (tgt q : Nat) {β : Type} {A B : Option β} {res : β} (C : Cx E R cI lay ad nL own cc) {x y : Int32} {_ : Decidable (x = y)} {off : Int} (hdg : decode cc pc = .ok (.if_icmp .eq off, 3)) (ht : (pc : Int) + off = (tgt : Int)) (hq : pc + 3 = q) (h : (if x = y then A else B) = some res)
    (kt : A = some res → G E R cI lay ad nL tgt lv rest σ) (kf : B = some res → G E R cI lay ad nL q lv rest σ) : G E R cI lay ad nL pc lv (.int y :: .int x :: rest) σ := by
  subst hq
  obtain ⟨p, l, e, s, m, args, below, meth, c, D, Q, A, ce, sl⟩ := E
  intro H locs ls hP hS hl
  exact lv_icmp_eq C.1.1 C.1.2.1 hdg ht (fun hc => kt (by rw [if_pos hc] at h; exact h) H locs ls hP hS hl) (fun hc => kf (by rw [if_neg hc] at h; exact h) H locs ls hP hS hl)
theorem g_icmp_ne (tgt q : Nat) {β : Type} {A B : Option β} {res : β} (C : Cx E R cI lay ad nL own cc) {x y : Int32} {_ : Decidable (x = y)} {off : Int} (hdg : decode cc pc = .ok (.if_icmp .ne off, 3)) (ht : (pc : Int) + off = (tgt : Int)) (hq : pc + 3 = q) (h : (if x = y then A else B) = some res)
    (kf : A = some res → G E R cI lay ad nL q lv rest σ) (kt : B = some res → G E R cI lay ad nL tgt lv rest σ) : G E R cI lay ad nL pc lv (.int y :: .int x :: rest) σ := by
  subst hq
  obtain ⟨p, l, e, s, m, args, below, meth, c, D, Q, A, ce, sl⟩ := E
  intro H locs ls hP hS hl
  exact lv_icmp_ne C.1.1 C.1.2.1 hdg ht (fun hc => kt (by rw [if_neg hc] at h; exact h) H locs ls hP hS hl) (fun hc => kf (by rw [if_pos hc] at h; exact h) H locs ls hP hS hl)
theorem g_icmp_lt (tgt q : Nat) {β : Type} {A B : Option β} {res : β} (C : Cx E R cI lay ad nL own cc) {x y : Int32} {_ : Decidable (x < y)} {off : Int} (hdg : decode cc pc = .ok (.if_icmp .lt off, 3)) (ht : (pc : Int) + off = (tgt : Int)) (hq : pc + 3 = q) (h : (if x < y then A else B) = some res)
    (kt : A = some res → G E R cI lay ad nL tgt lv rest σ) (kf : B = some res → G E R cI lay ad nL q lv rest σ) : G E R cI lay ad nL pc lv (.int y :: .int x :: rest) σ := by
  subst hq
  obtain ⟨p, l, e, s, m, args, below, meth, c, D, Q, A, ce, sl⟩ := E
  intro H locs ls hP hS hl
  exact lv_icmp_lt C.1.1 C.1.2.1 hdg ht (fun hc => kt (by rw [if_pos hc] at h; exact h) H locs ls hP hS hl) (fun hc => kf (by rw [if_neg hc] at h; exact h) H locs ls hP hS hl)
theorem g_icmp_ge (tgt q : Nat) {β : Type} {A B : Option β} {res : β} (C : Cx E R cI lay ad nL own cc) {x y : Int32} {_ : Decidable (y ≤ x)} {off : Int} (hdg : decode cc pc = .ok (.if_icmp .ge off, 3)) (ht : (pc : Int) + off = (tgt : Int)) (hq : pc + 3 = q) (h : (if y ≤ x then A else B) = some res)
    (kt : A = some res → G E R cI lay ad nL tgt lv rest σ) (kf : B = some res → G E R cI lay ad nL q lv rest σ) : G E R cI lay ad nL pc lv (.int y :: .int x :: rest) σ := by
  subst hq
  obtain ⟨p, l, e, s, m, args, below, meth, c, D, Q, A, ce, sl⟩ := E
  intro H locs ls hP hS hl
  exact lv_icmp_ge C.1.1 C.1.2.1 hdg ht (fun hc => kt (by rw [if_pos hc] at h; exact h) H locs ls hP hS hl) (fun hc => kf (by rw [if_neg hc] at h; exact h) H locs ls hP hS hl)
theorem g_icmp_gt (tgt q : Nat) {β : Type} {A B : Option β} {res : β} (C : Cx E R cI lay ad nL own cc) {x y : Int32} {_ : Decidable (y < x)} {off : Int} (hdg : decode cc pc = .ok (.if_icmp .gt off, 3)) (ht : (pc : Int) + off = (tgt : Int)) (hq : pc + 3 = q) (h : (if y < x then A else B) = some res)
    (kt : A = some res → G E R cI lay ad nL tgt lv rest σ) (kf : B = some res → G E R cI lay ad nL q lv rest σ) : G E R cI lay ad nL pc lv (.int y :: .int x :: rest) σ := by
  subst hq
  obtain ⟨p, l, e, s, m, args, below, meth, c, D, Q, A, ce, sl⟩ := E
  intro H locs ls hP hS hl
  exact lv_icmp_gt C.1.1 C.1.2.1 hdg ht (fun hc => kt (by rw [if_pos hc] at h; exact h) H locs ls hP hS hl) (fun hc => kf (by rw [if_neg hc] at h; exact h) H locs ls hP hS hl)
theorem g_icmp_le (tgt q : Nat) {β : Type} {A B : Option β} {res : β} (C : Cx E R cI lay ad nL own cc) {x y : Int32} {_ : Decidable (x ≤ y)} {off : Int} (hdg : decode cc pc = .ok (.if_icmp .le off, 3)) (ht : (pc : Int) + off = (tgt : Int)) (hq : pc + 3 = q) (h : (if x ≤ y then A else B) = some res)
    (kt : A = some res → G E R cI lay ad nL tgt lv rest σ) (kf : B = some res → G E R cI lay ad nL q lv rest σ) : G E R cI lay ad nL pc lv (.int y :: .int x :: rest) σ := by
  subst hq
  obtain ⟨p, l, e, s, m, args, below, meth, c, D, Q, A, ce, sl⟩ := E
  intro H locs ls hP hS hl
  exact lv_icmp_le C.1.1 C.1.2.1 hdg ht (fun hc => kt (by rw [if_pos hc] at h; exact h) H locs ls hP hS hl) (fun hc => kf (by rw [if_neg hc] at h; exact h) H locs ls hP hS hl)
theorem g_sub (ks : List Nat) {lv2 : List (Nat × Value)} {st : List Value} (k : G E R cI lay ad nL pc lv2 st σ) (hs : lv_pick lv ks = lv2) : G E R cI lay ad nL pc lv st σ := by
  obtain ⟨p, l, e, s, m, args, below, meth, c, D, Q, A, ce, sl⟩ := E
  intro H locs ls hP hS hl
  exact k H locs ls hP hS (lv_sub hl ks hs)
theorem g_geti (q : Nat) (C : Cx E R cI lay ad nL own cc) {k j ci N index : Nat} {Cn : String} {T : u_T} {fds : List (Option Nat)} (hlay : lay[k]? = some (.inr (ci, fds))) (hcl : vwCl[ci]? = some (Cn, T, N)) (hin : ∀ w ∈ u_ws Cn T N, w ∈ Wall) (hj : j < N) (hlink : Cond.fieldLink own index (T j).1 (T j).2.1 (T j).2.2.1 ∈ Wall) (hf : fds[j]? = some none) (hdg : decode cc pc = .ok (.getfield index, 3)) (hq : pc + 3 = q)
    (kk : G E R cI lay ad nL q lv ((.int (σ k j)) :: rest) σ) : G E R cI lay ad nL pc lv (.ref (ad k) :: rest) σ := by
  subst hq
  obtain ⟨p, l, e, s, m, args, below, meth, c, D, Q, A, ce, sl⟩ := E
  intro H locs ls hP hS hl
  exact va_get C.1.1 C.1.2.1 C.1.2.2.2.2 hin C.1.2.2.2.1 C.2.1 hP k (wof_at hlay) hcl j hj (C.1.2.2.2.2 _ hlink) (fun _ h9 => h9) (by rw [wfs_get, hf]; simp) hdg (kk H locs ls hP hS hl)
theorem g_getr (q : Nat) (C : Cx E R cI lay ad nL own cc) {t : Nat} {k j ci N index : Nat} {Cn : String} {T : u_T} {fds : List (Option Nat)} (hlay : lay[k]? = some (.inr (ci, fds))) (hcl : vwCl[ci]? = some (Cn, T, N)) (hin : ∀ w ∈ u_ws Cn T N, w ∈ Wall) (hj : j < N) (hlink : Cond.fieldLink own index (T j).1 (T j).2.1 (T j).2.2.1 ∈ Wall) (hf : fds[j]? = some (some t)) (hdg : decode cc pc = .ok (.getfield index, 3)) (hq : pc + 3 = q)
    (kk : G E R cI lay ad nL q lv ((.ref (ad t)) :: rest) σ) : G E R cI lay ad nL pc lv (.ref (ad k) :: rest) σ := by
  subst hq
  obtain ⟨p, l, e, s, m, args, below, meth, c, D, Q, A, ce, sl⟩ := E
  intro H locs ls hP hS hl
  exact va_get C.1.1 C.1.2.1 C.1.2.2.2.2 hin C.1.2.2.2.1 C.2.1 hP k (wof_at hlay) hcl j hj (C.1.2.2.2.2 _ hlink) (fun _ h9 => h9) (by rw [wfs_get, hf]; simp) hdg (kk H locs ls hP hS hl)
theorem g_puti (q : Nat) (C : Cx E R cI lay ad nL own cc) {k j ci N index : Nat} {Cn : String} {T : u_T} {fds : List (Option Nat)} (hlay : lay[k]? = some (.inr (ci, fds))) (hcl : vwCl[ci]? = some (Cn, T, N)) (hin : ∀ w ∈ u_ws Cn T N, w ∈ Wall) (hj : j < N) (hlink : Cond.fieldLink own index (T j).1 (T j).2.1 (T j).2.2.1 ∈ Wall) (ty0 : Nat → FieldType) (hty : ∀ k, k < N → parseFieldDescriptor (T k).2.2.1 = some (ty0 k)) (hnm : ∀ a, a < N → ∀ b, b < N → a ≠ b → (T a).2.1 ≠ (T b).2.1) (hfin : (T j).2.2.2 = false) (hf : fds[j]? = some none) {x : Int32} (hd : narrow (ty0 j) (.int x) = .int x) (hfit : fits (ty0 j) (.int x) = true) (hdg : decode cc pc = .ok (.putfield index, 3)) (hq : pc + 3 = q)
    (kk : G E R cI lay ad nL q lv rest (up2 σ k j x)) : G E R cI lay ad nL pc lv (.int x :: .ref (ad k) :: rest) σ := by
  subst hq
  obtain ⟨p, l, e, s, m, args, below, meth, c, D, Q, A, ce, sl⟩ := E
  intro H locs ls hP hS hl
  have hjl : j < (wfs ad (σ k) 0 fds).length := by
    have h2 : (wfs ad (σ k) 0 fds)[j]? = some (.int (σ k j)) := by rw [wfs_get, hf]; simp
    exact (List.getElem?_eq_some_iff.mp h2).1
  refine va_put C.1.1 C.1.2.1 C.1.2.2.2.2 hin ty0 hty hnm C.1.2.2.2.1 C.2.1 hP ((D_of C.2.2.2.1).weaken (fun _ _ _ h => C.2.2.2.2.1 _ h)) hS k (wof_at hlay) hcl j hj (C.1.2.2.2.2 _ hlink) (fun _ h9 => h9) hfin (hty j hj) hd hfit hjl hdg (fun H1 locs1 hP1 hD1 hS1 => kk H1 locs1 ls ?_ hS1 hl)
  have e : (wof cI ad σ 0 lay).set k (ad k, .inr (ci, (wfs ad (σ k) 0 fds).set j (.int x))) = wof cI ad (up2 σ k j x) 0 lay := by
    rw [wfs_set hf, ← up2_R]
    exact wof_set hlay _
  rw [e] at hP1
  exact hP1
theorem g_getiN (q : Nat) (C : Cx E R cI lay ad nL own cc) {k j ci N index : Nat} {Cn : String} {T : u_T} {fds : List (Option Nat)} (hlay : lay[k]? = some (.inr (ci, fds))) (hcl : vwCl[ci]? = some (Cn, T, N)) (hin : ∀ w ∈ u_ws Cn T N, w ∈ Wall) (hj : j < N) {host : String} (hlink : (own, index, (T j).1, (T j).2.1, (T j).2.2.1, host) ∈ nsF) (hf : fds[j]? = some none) (hdg : decode cc pc = .ok (.getfield index, 3)) (hq : pc + 3 = q)
    (kk : G E R cI lay ad nL q lv ((.int (σ k j)) :: rest) σ) : G E R cI lay ad nL pc lv (.ref (ad k) :: rest) σ := by
  subst hq
  obtain ⟨p, l, e, s, m, args, below, meth, c, D, Q, A, ce, sl⟩ := E
  intro H locs ls hP hS hl
  exact va_getN C.1.1 C.1.2.1 C.1.2.2.2.2 hin C.1.2.2.2.1 C.2.1 hP k (wof_at hlay) hcl j hj (va_Nw.use rfl (C.2.2.1.1 _ hlink)) (fun _ h9 => h9) (by rw [wfs_get, hf]; simp) hdg (kk H locs ls hP hS hl)
theorem g_getrN (q : Nat) (C : Cx E R cI lay ad nL own cc) {t : Nat} {k j ci N index : Nat} {Cn : String} {T : u_T} {fds : List (Option Nat)} (hlay : lay[k]? = some (.inr (ci, fds))) (hcl : vwCl[ci]? = some (Cn, T, N)) (hin : ∀ w ∈ u_ws Cn T N, w ∈ Wall) (hj : j < N) {host : String} (hlink : (own, index, (T j).1, (T j).2.1, (T j).2.2.1, host) ∈ nsF) (hf : fds[j]? = some (some t)) (hdg : decode cc pc = .ok (.getfield index, 3)) (hq : pc + 3 = q)
    (kk : G E R cI lay ad nL q lv ((.ref (ad t)) :: rest) σ) : G E R cI lay ad nL pc lv (.ref (ad k) :: rest) σ := by
  subst hq
  obtain ⟨p, l, e, s, m, args, below, meth, c, D, Q, A, ce, sl⟩ := E
  intro H locs ls hP hS hl
  exact va_getN C.1.1 C.1.2.1 C.1.2.2.2.2 hin C.1.2.2.2.1 C.2.1 hP k (wof_at hlay) hcl j hj (va_Nw.use rfl (C.2.2.1.1 _ hlink)) (fun _ h9 => h9) (by rw [wfs_get, hf]; simp) hdg (kk H locs ls hP hS hl)
theorem g_putiN (q : Nat) (C : Cx E R cI lay ad nL own cc) {k j ci N index : Nat} {Cn : String} {T : u_T} {fds : List (Option Nat)} (hlay : lay[k]? = some (.inr (ci, fds))) (hcl : vwCl[ci]? = some (Cn, T, N)) (hin : ∀ w ∈ u_ws Cn T N, w ∈ Wall) (hj : j < N) {host : String} (hlink : (own, index, (T j).1, (T j).2.1, (T j).2.2.1, host) ∈ nsF) (ty0 : Nat → FieldType) (hty : ∀ k, k < N → parseFieldDescriptor (T k).2.2.1 = some (ty0 k)) (hnm : ∀ a, a < N → ∀ b, b < N → a ≠ b → (T a).2.1 ≠ (T b).2.1) (hfin : (T j).2.2.2 = false) (hf : fds[j]? = some none) {x : Int32} (hd : narrow (ty0 j) (.int x) = .int x) (hfit : fits (ty0 j) (.int x) = true) (hdg : decode cc pc = .ok (.putfield index, 3)) (hq : pc + 3 = q)
    (kk : G E R cI lay ad nL q lv rest (up2 σ k j x)) : G E R cI lay ad nL pc lv (.int x :: .ref (ad k) :: rest) σ := by
  subst hq
  obtain ⟨p, l, e, s, m, args, below, meth, c, D, Q, A, ce, sl⟩ := E
  intro H locs ls hP hS hl
  have hjl : j < (wfs ad (σ k) 0 fds).length := by
    have h2 : (wfs ad (σ k) 0 fds)[j]? = some (.int (σ k j)) := by rw [wfs_get, hf]; simp
    exact (List.getElem?_eq_some_iff.mp h2).1
  refine va_putN C.1.1 C.1.2.1 C.1.2.2.2.2 hin ty0 hty hnm C.1.2.2.2.1 C.2.1 hP ((D_of C.2.2.2.1).weaken (fun _ _ _ h => C.2.2.2.2.1 _ h)) hS k (wof_at hlay) hcl j hj (va_Nw.use rfl (C.2.2.1.1 _ hlink)) (fun _ h9 => h9) hfin (hty j hj) hd hfit hjl hdg (fun H1 locs1 hP1 hD1 hS1 => kk H1 locs1 ls ?_ hS1 hl)
  have e : (wof cI ad σ 0 lay).set k (ad k, .inr (ci, (wfs ad (σ k) 0 fds).set j (.int x))) = wof cI ad (up2 σ k j x) 0 lay := by
    rw [wfs_set hf, ← up2_R]
    exact wof_set hlay _
  rw [e] at hP1
  exact hP1
theorem g_iald (q : Nat) {β : Type} {A : Option β} {res : β} (C : Cx E R cI lay ad nL own cc) {k n : Nat} {i : Int32} (hlay : lay[k]? = some (.inl n)) (hdg : decode cc pc = .ok (.iaload, 1)) (hq : pc + 1 = q) (h : chk (inb i n) A = some res)
    (kk : A = some res → G E R cI lay ad nL q lv (.int (σ k i.toNatClampNeg) :: rest) σ) : G E R cI lay ad nL pc lv (.int i :: .ref (ad k) :: rest) σ := by
  subst hq
  obtain ⟨hi, hA⟩ := chk_some h
  obtain ⟨p, l, e, s, m, args, below, meth, c, D, Q, A, ce, sl⟩ := E
  intro H locs ls hP hS hl
  exact va_iald C.1.1 C.1.2.1 C.2.1 hP k 0 (wof_at hlay) rfl (inb_in hi) hdg (kk hA H locs ls hP hS hl)
theorem g_iast (q : Nat) {β : Type} {A : Option β} {res : β} (C : Cx E R cI lay ad nL own cc) {k n : Nat} {i x : Int32} (hlay : lay[k]? = some (.inl n)) (hdg : decode cc pc = .ok (.iastore, 1)) (hq : pc + 1 = q) (h : chk (inb i n) A = some res)
    (kk : A = some res → G E R cI lay ad nL q lv rest (up2 σ k i.toNatClampNeg x)) : G E R cI lay ad nL pc lv (.int x :: .int i :: .ref (ad k) :: rest) σ := by
  subst hq
  obtain ⟨hi, hA⟩ := chk_some h
  obtain ⟨p, l, e, s, m, args, below, meth, c, D, Q, A, ce, sl⟩ := E
  intro H locs ls hP hS hl
  refine va_iast C.1.1 C.1.2.1 C.2.1 hP ((D_of C.2.2.2.1).weaken (fun _ _ _ h => C.2.2.2.2.1 _ h)) hS k 0 (wof_at hlay) rfl (inb_in hi) hdg (fun H1 locs1 hP1 hD1 hS1 => kk hA H1 locs1 ls ?_ hS1 hl)
  have e : (wof cI ad σ 0 lay).set k (ad k, .inl (cI, n, .inl (upd (σ k) i.toNatClampNeg x))) = wof cI ad (up2 σ k i.toNatClampNeg x) 0 lay := by
    rw [← up2_R]
    exact wof_set hlay _
  rw [e] at hP1
  exact hP1
theorem g_mmax (q : Nat) (C : Cx E R cI lay ad nL own cc) {index : Nat} (hlink : Cond.methodLink own index Lib.Math.max.name ∈ Wall) (hstat : Cond.static Lib.Math.max.name ∈ Wall) (hini : Cond.initialized "java/lang/Math" ∈ Wall) (hcode : Cond.code Lib.Math.max.name Lib.Math.max.code 2 (some .int) ∈ Wall) (hframes : 1 ≤ R.frames) (hlocals : (rest.map fun v => v.category).sum + 13 ≤ R.locals) {x y : Int32} (hdg : decode cc pc = .ok (.invokestatic index, 3)) (hq : pc + 3 = q)
    (kk : G E R cI lay ad nL q lv (.int (if x < y then y else x) :: rest) σ) : G E R cI lay ad nL pc lv (.int y :: .int x :: rest) σ := by
  subst hq
  obtain ⟨p, l, e, s, m, args, below, meth, c, D, Q, A, ce, sl⟩ := E
  intro H locs ls hP hS hl
  exact va_mmax C.1.1 C.1.2.1 (C.1.2.2.1.trans hl.1.symm) C.1.2.2.2.1 (C.1.2.2.2.2 _ hlink) (C.1.2.2.2.2 _ hstat) (C.1.2.2.2.2 _ hini) (C.1.2.2.2.2 _ hcode) hframes hlocals C.2.2.2.2.2.1 C.2.2.2.2.2.2 hdg (kk H locs ls hP hS hl)
theorem g_mmin (q : Nat) (C : Cx E R cI lay ad nL own cc) {index : Nat} (hlink : Cond.methodLink own index Lib.Math.min.name ∈ Wall) (hstat : Cond.static Lib.Math.min.name ∈ Wall) (hini : Cond.initialized "java/lang/Math" ∈ Wall) (hcode : Cond.code Lib.Math.min.name Lib.Math.min.code 2 (some .int) ∈ Wall) (hframes : 1 ≤ R.frames) (hlocals : (rest.map fun v => v.category).sum + 13 ≤ R.locals) {x y : Int32} (hdg : decode cc pc = .ok (.invokestatic index, 3)) (hq : pc + 3 = q)
    (kk : G E R cI lay ad nL q lv (.int (if y < x then y else x) :: rest) σ) : G E R cI lay ad nL pc lv (.int y :: .int x :: rest) σ := by
  subst hq
  obtain ⟨p, l, e, s, m, args, below, meth, c, D, Q, A, ce, sl⟩ := E
  intro H locs ls hP hS hl
  exact va_mmin C.1.1 C.1.2.1 (C.1.2.2.1.trans hl.1.symm) C.1.2.2.2.1 (C.1.2.2.2.2 _ hlink) (C.1.2.2.2.2 _ hstat) (C.1.2.2.2.2 _ hini) (C.1.2.2.2.2 _ hcode) hframes hlocals C.2.2.2.2.2.1 C.2.2.2.2.2.2 hdg (kk H locs ls hP hS hl)
theorem good_call {y : MethodName} {c : ByteArray} {maxL : Nat} {ret : Option FieldType} (hc : Cond.code y c maxL ret ∈ Wall) : GoodIn Wall (Cond.code y c maxL ret :: Wall) := fun w h => (List.mem_cons.mp h).elim (fun e => by subst e; exact ⟨hc, Wall_good _ hc⟩) (fun h => ⟨h, Wall_good w h⟩)
theorem g_cvi (q : Nat) {β : Type} {res : β} {F : Option (Int32 × Mem)} {g : Int32 × Mem → Option β} (C : Cx E R cI lay ad nL own cc) {y : MethodName} {rm : Room} {bytes : ByteArray} {maxL index : Nat} {ty : FieldType} {As st : List Value} {n : Nat} {k ci N : Nat} {Cn : String} {T : u_T} {fds : List (Option Nat)} (hM : ∀ o, F = some o → MI (lof E) (Dof E) cI lay ad y bytes maxL ty rm (.ref (ad k) :: As) σ o) (hlk : Cond.methodLink own index y ∈ Wall) (hinst : Cond.instanceMethod y ∈ Wall) (hsel : Cond.selects Cn y y ∈ Wall) (hcode : Cond.code y bytes maxL (some ty) ∈ Wall) (hini : Cond.initialized y.cls ∈ Wall) (hd : y.cls ≠ "java/lang/invoke/MethodHandle" ∧ y.cls ≠ "java/lang/invoke/VarHandle" ∧ (parseMethodDescriptor y.desc).map (fun d => d.parameters.length) = some n) (hrc : rm.cells = 0) (hrs : rm.slots = 0) (hR : rm.frames + 1 ≤ R.frames ∧ 8 + (maxL + 11) + rm.locals ≤ R.locals) (hlay : lay[k]? = some (.inr (ci, fds))) (hcl : vwCl[ci]? = some (Cn, T, N)) (hst : st = As.reverse ++ .ref (ad k) :: rest) (hn : As.length = n) (hsum : (rest.map fun v => v.category).sum ≤ 8) (hdg : decode cc pc = .ok (.invokevirtual index, 3)) (hq : pc + 3 = q) (h : F.bind g = some res)
    (kk : ∀ o, g o = some res → G E R cI lay ad nL q lv (.int o.1 :: rest) o.2) : G E R cI lay ad nL pc lv st σ := by
  subst hq
  subst hst
  obtain ⟨o, hF, hg⟩ := bind_some h
  have hM := hM o hF
  obtain ⟨p, l, e, s, m, args, below, meth, c, D, Q, A, ce, sl⟩ := E
  intro H locs ls hP hS hl
  refine va_calli (va_runV (C := Cn) (As := As) (rest := rest) C.1 hM ⟨(callB_of n C.1.2.2.2.2 (good_call hcode) rfl hrc hrs (C.1.2.2.2.2 _ hini) (C.1.2.2.2.2 _ hlk) hd hR), C.1.2.2.2.2 _ hinst, C.1.2.2.2.2 _ hsel⟩ ⟨Wd.blind _, va_recv C.2.1 hP hcl (wof_at hlay), fun U hU hW => ⟨rfl, by rw [hU]; exact hP, va_K.moved hW.alike C.2.1, C.2.2.1.warm hW, C.2.2.2.1⟩⟩ rfl hn hl.1 rfl (lv_room hsum) hdg ⟨C.2.2.2.2.2.1, C.2.2.2.2.2.2⟩) hS (fun q _ h => C.2.2.2.2.1 q h) (fun q h => C.2.2.2.2.1 q h) (fun r u t H1 locs1 ht hvm hw1 hB hz hk hS1 => ?_)
  subst hw1
  exact kk _ hg H1 locs1 ls (by rw [← ht]; exact hB.1) hS1 hl
theorem g_cni (q : Nat) {β : Type} {res : β} {F : Option (Int32 × Mem)} {g : Int32 × Mem → Option β} (C : Cx E R cI lay ad nL own cc) {y : MethodName} {rm : Room} {bytes : ByteArray} {maxL index : Nat} {ty : FieldType} {As st : List Value} {n : Nat} {k ci N : Nat} {Cn : String} {T : u_T} {fds : List (Option Nat)} (hM : ∀ o, F = some o → MI (lof E) (Dof E) cI lay ad y bytes maxL ty rm (.ref (ad k) :: As) σ o) {host : String} (hlk : (own, index, y, host) ∈ nsM) (hinst : Cond.instanceMethod y ∈ Wall) (hsel : Cond.selects Cn y y ∈ Wall) (hcode : Cond.code y bytes maxL (some ty) ∈ Wall) (hini : Cond.initialized y.cls ∈ Wall) (hd : y.cls ≠ "java/lang/invoke/MethodHandle" ∧ y.cls ≠ "java/lang/invoke/VarHandle" ∧ (parseMethodDescriptor y.desc).map (fun d => d.parameters.length) = some n) (hrc : rm.cells = 0) (hrs : rm.slots = 0) (hR : rm.frames + 1 ≤ R.frames ∧ 8 + (maxL + 11) + rm.locals ≤ R.locals) (hlay : lay[k]? = some (.inr (ci, fds))) (hcl : vwCl[ci]? = some (Cn, T, N)) (hst : st = As.reverse ++ .ref (ad k) :: rest) (hn : As.length = n) (hsum : (rest.map fun v => v.category).sum ≤ 8) (hdg : decode cc pc = .ok (.invokevirtual index, 3)) (hq : pc + 3 = q) (h : F.bind g = some res)
    (kk : ∀ o, g o = some res → G E R cI lay ad nL q lv (.int o.1 :: rest) o.2) : G E R cI lay ad nL pc lv st σ := by
  subst hq
  subst hst
  obtain ⟨o, hF, hg⟩ := bind_some h
  have hM := hM o hF
  obtain ⟨p, l, e, s, m, args, below, meth, c, D, Q, A, ce, sl⟩ := E
  intro H locs ls hP hS hl
  refine va_calli (va_runVN (C := Cn) (As := As) (rest := rest) C.1 hM ⟨(va_cnB n C.1.2.2.2.2 (good_call hcode) rfl hrc hrs (C.2.2.1.2 _ hlk) (C.1.2.2.2.2 _ hini) hd hR), C.1.2.2.2.2 _ hinst, C.1.2.2.2.2 _ hsel⟩ ⟨Wd.blind _, va_recv C.2.1 hP hcl (wof_at hlay), fun U hU hW => ⟨rfl, by rw [hU]; exact hP, va_K.moved hW.alike C.2.1, C.2.2.1.warm hW, C.2.2.2.1⟩⟩ rfl hn hl.1 rfl (lv_room hsum) hdg ⟨C.2.2.2.2.2.1, C.2.2.2.2.2.2⟩) hS (fun q _ h => C.2.2.2.2.1 q h) (fun q h => C.2.2.2.2.1 q h) (fun r u t H1 locs1 ht hvm hw1 hB hz hk hS1 => ?_)
  subst hw1
  exact kk _ hg H1 locs1 ls (by rw [← ht]; exact hB.1) hS1 hl
theorem g_csi (q : Nat) {β : Type} {res : β} {F : Option (Int32 × Mem)} {g : Int32 × Mem → Option β} (C : Cx E R cI lay ad nL own cc) {y : MethodName} {rm : Room} {bytes : ByteArray} {maxL index : Nat} {ty : FieldType} {As st : List Value} {n : Nat}  (hM : ∀ o, F = some o → MI (lof E) (Dof E) cI lay ad y bytes maxL ty rm As σ o) (hlk : Cond.methodLink own index y ∈ Wall) (hstat : Cond.static y ∈ Wall) (hcode : Cond.code y bytes maxL (some ty) ∈ Wall) (hini : Cond.initialized y.cls ∈ Wall) (hd : y.cls ≠ "java/lang/invoke/MethodHandle" ∧ y.cls ≠ "java/lang/invoke/VarHandle" ∧ (parseMethodDescriptor y.desc).map (fun d => d.parameters.length) = some n) (hrc : rm.cells = 0) (hrs : rm.slots = 0) (hR : rm.frames + 1 ≤ R.frames ∧ 8 + (maxL + 11) + rm.locals ≤ R.locals)  (hst : st = As.reverse ++ rest) (hn : As.length = n) (hsum : (rest.map fun v => v.category).sum ≤ 8) (hdg : decode cc pc = .ok (.invokestatic index, 3)) (hq : pc + 3 = q) (h : F.bind g = some res)
    (kk : ∀ o, g o = some res → G E R cI lay ad nL q lv (.int o.1 :: rest) o.2) : G E R cI lay ad nL pc lv st σ := by
  subst hq
  subst hst
  obtain ⟨o, hF, hg⟩ := bind_some h
  have hM := hM o hF
  obtain ⟨p, l, e, s, m, args, below, meth, c, D, Q, A, ce, sl⟩ := E
  intro H locs ls hP hS hl
  refine va_calli (va_runS (As := As) (rest := rest) C.1 hM ⟨(callB_of n C.1.2.2.2.2 (good_call hcode) rfl hrc hrs (C.1.2.2.2.2 _ hini) (C.1.2.2.2.2 _ hlk) hd hR), C.1.2.2.2.2 _ hstat⟩ ⟨Wd.blind _, fun U hU hW => ⟨rfl, by rw [hU]; exact hP, va_K.moved hW.alike C.2.1, C.2.2.1.warm hW, C.2.2.2.1⟩⟩ rfl hn hl.1 rfl (lv_room hsum) hdg ⟨C.2.2.2.2.2.1, C.2.2.2.2.2.2⟩) hS (fun q _ h => C.2.2.2.2.1 q h) (fun q h => C.2.2.2.2.1 q h) (fun r u t H1 locs1 ht hvm hw1 hB hz hk hS1 => ?_)
  subst hw1
  exact kk _ hg H1 locs1 ls (by rw [← ht]; exact hB.1) hS1 hl
theorem g_cti (q : Nat) {β : Type} {res : β} {F : Option (Int32 × Mem)} {g : Int32 × Mem → Option β} (C : Cx E R cI lay ad nL own cc) {y : MethodName} {rm : Room} {bytes : ByteArray} {maxL index : Nat} {ty : FieldType} {As st : List Value} {n : Nat}  (hM : ∀ o, F = some o → MI (lof E) (Dof E) cI lay ad y bytes maxL ty rm As σ o) {host : String} (hlk : (own, index, y, host) ∈ nsM) (hstat : Cond.static y ∈ Wall) (hcode : Cond.code y bytes maxL (some ty) ∈ Wall) (hini : Cond.initialized y.cls ∈ Wall) (hd : y.cls ≠ "java/lang/invoke/MethodHandle" ∧ y.cls ≠ "java/lang/invoke/VarHandle" ∧ (parseMethodDescriptor y.desc).map (fun d => d.parameters.length) = some n) (hrc : rm.cells = 0) (hrs : rm.slots = 0) (hR : rm.frames + 1 ≤ R.frames ∧ 8 + (maxL + 11) + rm.locals ≤ R.locals)  (hst : st = As.reverse ++ rest) (hn : As.length = n) (hsum : (rest.map fun v => v.category).sum ≤ 8) (hdg : decode cc pc = .ok (.invokestatic index, 3)) (hq : pc + 3 = q) (h : F.bind g = some res)
    (kk : ∀ o, g o = some res → G E R cI lay ad nL q lv (.int o.1 :: rest) o.2) : G E R cI lay ad nL pc lv st σ := by
  subst hq
  subst hst
  obtain ⟨o, hF, hg⟩ := bind_some h
  have hM := hM o hF
  obtain ⟨p, l, e, s, m, args, below, meth, c, D, Q, A, ce, sl⟩ := E
  intro H locs ls hP hS hl
  refine va_calli (va_runSN (As := As) (rest := rest) C.1 hM ⟨(va_cnB n C.1.2.2.2.2 (good_call hcode) rfl hrc hrs (C.2.2.1.2 _ hlk) (C.1.2.2.2.2 _ hini) hd hR), C.1.2.2.2.2 _ hstat, trivial⟩ ⟨Wd.blind _, fun U hU hW => ⟨rfl, by rw [hU]; exact hP, va_K.moved hW.alike C.2.1, C.2.2.1.warm hW, C.2.2.2.1⟩⟩ rfl hn hl.1 rfl (lv_room hsum) hdg ⟨C.2.2.2.2.2.1, C.2.2.2.2.2.2⟩) hS (fun q _ h => C.2.2.2.2.1 q h) (fun q h => C.2.2.2.2.1 q h) (fun r u t H1 locs1 ht hvm hw1 hB hz hk hS1 => ?_)
  subst hw1
  exact kk _ hg H1 locs1 ls (by rw [← ht]; exact hB.1) hS1 hl
theorem g_cvv (q : Nat) {β : Type} {res : β} {F : Option Mem} {g : Mem → Option β} (C : Cx E R cI lay ad nL own cc) {y : MethodName} {rm : Room} {bytes : ByteArray} {maxL index : Nat} {As st : List Value} {n : Nat} {k ci N : Nat} {Cn : String} {T : u_T} {fds : List (Option Nat)} (hM : ∀ o, F = some o → MV (lof E) (Dof E) cI lay ad y bytes maxL rm (.ref (ad k) :: As) σ o) (hlk : Cond.methodLink own index y ∈ Wall) (hinst : Cond.instanceMethod y ∈ Wall) (hsel : Cond.selects Cn y y ∈ Wall) (hcode : Cond.code y bytes maxL none ∈ Wall) (hini : Cond.initialized y.cls ∈ Wall) (hd : y.cls ≠ "java/lang/invoke/MethodHandle" ∧ y.cls ≠ "java/lang/invoke/VarHandle" ∧ (parseMethodDescriptor y.desc).map (fun d => d.parameters.length) = some n) (hrc : rm.cells = 0) (hrs : rm.slots = 0) (hR : rm.frames + 1 ≤ R.frames ∧ 8 + (maxL + 11) + rm.locals ≤ R.locals) (hlay : lay[k]? = some (.inr (ci, fds))) (hcl : vwCl[ci]? = some (Cn, T, N)) (hst : st = As.reverse ++ .ref (ad k) :: rest) (hn : As.length = n) (hsum : (rest.map fun v => v.category).sum ≤ 8) (hdg : decode cc pc = .ok (.invokevirtual index, 3)) (hq : pc + 3 = q) (h : F.bind g = some res)
    (kk : ∀ o, g o = some res → G E R cI lay ad nL q lv rest o) : G E R cI lay ad nL pc lv st σ := by
  subst hq
  subst hst
  obtain ⟨o, hF, hg⟩ := bind_some h
  have hM := hM o hF
  obtain ⟨p, l, e, s, m, args, below, meth, c, D, Q, A, ce, sl⟩ := E
  intro H locs ls hP hS hl
  refine va_callv (va_runV (C := Cn) (As := As) (rest := rest) C.1 hM ⟨(callB_of n C.1.2.2.2.2 (good_call hcode) rfl hrc hrs (C.1.2.2.2.2 _ hini) (C.1.2.2.2.2 _ hlk) hd hR), C.1.2.2.2.2 _ hinst, C.1.2.2.2.2 _ hsel⟩ ⟨Wd.blind _, va_recv C.2.1 hP hcl (wof_at hlay), fun U hU hW => ⟨rfl, by rw [hU]; exact hP, va_K.moved hW.alike C.2.1, C.2.2.1.warm hW, C.2.2.2.1⟩⟩ rfl hn hl.1 rfl (lv_room hsum) hdg ⟨C.2.2.2.2.2.1, C.2.2.2.2.2.2⟩) hS (fun q _ h => C.2.2.2.2.1 q h) (fun q h => C.2.2.2.2.1 q h) (fun u t H1 locs1 ht hvm hw1 hB hz hk hS1 => ?_)
  subst hw1
  exact kk _ hg H1 locs1 ls (by rw [← ht]; exact hB.1) hS1 hl
theorem g_cnv (q : Nat) {β : Type} {res : β} {F : Option Mem} {g : Mem → Option β} (C : Cx E R cI lay ad nL own cc) {y : MethodName} {rm : Room} {bytes : ByteArray} {maxL index : Nat} {As st : List Value} {n : Nat} {k ci N : Nat} {Cn : String} {T : u_T} {fds : List (Option Nat)} (hM : ∀ o, F = some o → MV (lof E) (Dof E) cI lay ad y bytes maxL rm (.ref (ad k) :: As) σ o) {host : String} (hlk : (own, index, y, host) ∈ nsM) (hinst : Cond.instanceMethod y ∈ Wall) (hsel : Cond.selects Cn y y ∈ Wall) (hcode : Cond.code y bytes maxL none ∈ Wall) (hini : Cond.initialized y.cls ∈ Wall) (hd : y.cls ≠ "java/lang/invoke/MethodHandle" ∧ y.cls ≠ "java/lang/invoke/VarHandle" ∧ (parseMethodDescriptor y.desc).map (fun d => d.parameters.length) = some n) (hrc : rm.cells = 0) (hrs : rm.slots = 0) (hR : rm.frames + 1 ≤ R.frames ∧ 8 + (maxL + 11) + rm.locals ≤ R.locals) (hlay : lay[k]? = some (.inr (ci, fds))) (hcl : vwCl[ci]? = some (Cn, T, N)) (hst : st = As.reverse ++ .ref (ad k) :: rest) (hn : As.length = n) (hsum : (rest.map fun v => v.category).sum ≤ 8) (hdg : decode cc pc = .ok (.invokevirtual index, 3)) (hq : pc + 3 = q) (h : F.bind g = some res)
    (kk : ∀ o, g o = some res → G E R cI lay ad nL q lv rest o) : G E R cI lay ad nL pc lv st σ := by
  subst hq
  subst hst
  obtain ⟨o, hF, hg⟩ := bind_some h
  have hM := hM o hF
  obtain ⟨p, l, e, s, m, args, below, meth, c, D, Q, A, ce, sl⟩ := E
  intro H locs ls hP hS hl
  refine va_callv (va_runVN (C := Cn) (As := As) (rest := rest) C.1 hM ⟨(va_cnB n C.1.2.2.2.2 (good_call hcode) rfl hrc hrs (C.2.2.1.2 _ hlk) (C.1.2.2.2.2 _ hini) hd hR), C.1.2.2.2.2 _ hinst, C.1.2.2.2.2 _ hsel⟩ ⟨Wd.blind _, va_recv C.2.1 hP hcl (wof_at hlay), fun U hU hW => ⟨rfl, by rw [hU]; exact hP, va_K.moved hW.alike C.2.1, C.2.2.1.warm hW, C.2.2.2.1⟩⟩ rfl hn hl.1 rfl (lv_room hsum) hdg ⟨C.2.2.2.2.2.1, C.2.2.2.2.2.2⟩) hS (fun q _ h => C.2.2.2.2.1 q h) (fun q h => C.2.2.2.2.1 q h) (fun u t H1 locs1 ht hvm hw1 hB hz hk hS1 => ?_)
  subst hw1
  exact kk _ hg H1 locs1 ls (by rw [← ht]; exact hB.1) hS1 hl
theorem g_csv (q : Nat) {β : Type} {res : β} {F : Option Mem} {g : Mem → Option β} (C : Cx E R cI lay ad nL own cc) {y : MethodName} {rm : Room} {bytes : ByteArray} {maxL index : Nat} {As st : List Value} {n : Nat}  (hM : ∀ o, F = some o → MV (lof E) (Dof E) cI lay ad y bytes maxL rm As σ o) (hlk : Cond.methodLink own index y ∈ Wall) (hstat : Cond.static y ∈ Wall) (hcode : Cond.code y bytes maxL none ∈ Wall) (hini : Cond.initialized y.cls ∈ Wall) (hd : y.cls ≠ "java/lang/invoke/MethodHandle" ∧ y.cls ≠ "java/lang/invoke/VarHandle" ∧ (parseMethodDescriptor y.desc).map (fun d => d.parameters.length) = some n) (hrc : rm.cells = 0) (hrs : rm.slots = 0) (hR : rm.frames + 1 ≤ R.frames ∧ 8 + (maxL + 11) + rm.locals ≤ R.locals)  (hst : st = As.reverse ++ rest) (hn : As.length = n) (hsum : (rest.map fun v => v.category).sum ≤ 8) (hdg : decode cc pc = .ok (.invokestatic index, 3)) (hq : pc + 3 = q) (h : F.bind g = some res)
    (kk : ∀ o, g o = some res → G E R cI lay ad nL q lv rest o) : G E R cI lay ad nL pc lv st σ := by
  subst hq
  subst hst
  obtain ⟨o, hF, hg⟩ := bind_some h
  have hM := hM o hF
  obtain ⟨p, l, e, s, m, args, below, meth, c, D, Q, A, ce, sl⟩ := E
  intro H locs ls hP hS hl
  refine va_callv (va_runS (As := As) (rest := rest) C.1 hM ⟨(callB_of n C.1.2.2.2.2 (good_call hcode) rfl hrc hrs (C.1.2.2.2.2 _ hini) (C.1.2.2.2.2 _ hlk) hd hR), C.1.2.2.2.2 _ hstat⟩ ⟨Wd.blind _, fun U hU hW => ⟨rfl, by rw [hU]; exact hP, va_K.moved hW.alike C.2.1, C.2.2.1.warm hW, C.2.2.2.1⟩⟩ rfl hn hl.1 rfl (lv_room hsum) hdg ⟨C.2.2.2.2.2.1, C.2.2.2.2.2.2⟩) hS (fun q _ h => C.2.2.2.2.1 q h) (fun q h => C.2.2.2.2.1 q h) (fun u t H1 locs1 ht hvm hw1 hB hz hk hS1 => ?_)
  subst hw1
  exact kk _ hg H1 locs1 ls (by rw [← ht]; exact hB.1) hS1 hl
theorem g_ctv (q : Nat) {β : Type} {res : β} {F : Option Mem} {g : Mem → Option β} (C : Cx E R cI lay ad nL own cc) {y : MethodName} {rm : Room} {bytes : ByteArray} {maxL index : Nat} {As st : List Value} {n : Nat}  (hM : ∀ o, F = some o → MV (lof E) (Dof E) cI lay ad y bytes maxL rm As σ o) {host : String} (hlk : (own, index, y, host) ∈ nsM) (hstat : Cond.static y ∈ Wall) (hcode : Cond.code y bytes maxL none ∈ Wall) (hini : Cond.initialized y.cls ∈ Wall) (hd : y.cls ≠ "java/lang/invoke/MethodHandle" ∧ y.cls ≠ "java/lang/invoke/VarHandle" ∧ (parseMethodDescriptor y.desc).map (fun d => d.parameters.length) = some n) (hrc : rm.cells = 0) (hrs : rm.slots = 0) (hR : rm.frames + 1 ≤ R.frames ∧ 8 + (maxL + 11) + rm.locals ≤ R.locals)  (hst : st = As.reverse ++ rest) (hn : As.length = n) (hsum : (rest.map fun v => v.category).sum ≤ 8) (hdg : decode cc pc = .ok (.invokestatic index, 3)) (hq : pc + 3 = q) (h : F.bind g = some res)
    (kk : ∀ o, g o = some res → G E R cI lay ad nL q lv rest o) : G E R cI lay ad nL pc lv st σ := by
  subst hq
  subst hst
  obtain ⟨o, hF, hg⟩ := bind_some h
  have hM := hM o hF
  obtain ⟨p, l, e, s, m, args, below, meth, c, D, Q, A, ce, sl⟩ := E
  intro H locs ls hP hS hl
  refine va_callv (va_runSN (As := As) (rest := rest) C.1 hM ⟨(va_cnB n C.1.2.2.2.2 (good_call hcode) rfl hrc hrs (C.2.2.1.2 _ hlk) (C.1.2.2.2.2 _ hini) hd hR), C.1.2.2.2.2 _ hstat, trivial⟩ ⟨Wd.blind _, fun U hU hW => ⟨rfl, by rw [hU]; exact hP, va_K.moved hW.alike C.2.1, C.2.2.1.warm hW, C.2.2.2.1⟩⟩ rfl hn hl.1 rfl (lv_room hsum) hdg ⟨C.2.2.2.2.2.1, C.2.2.2.2.2.2⟩) hS (fun q _ h => C.2.2.2.2.1 q h) (fun q h => C.2.2.2.2.1 q h) (fun u t H1 locs1 ht hvm hw1 hB hz hk hS1 => ?_)
  subst hw1
  exact kk _ hg H1 locs1 ls (by rw [← ht]; exact hB.1) hS1 hl
end GR
/-! loops -/
def itr {α β : Type} (body : α → Option (α ⊕ β)) : Nat → α → Option β
  | 0, _ => none
  | n + 1, a => (body a).bind (Sum.elim (itr body n) some)
noncomputable def loop {α β : Type} (body : α → Option (α ⊕ β)) (a : α) : Option β :=
  @dite _ (∃ b : β, ∃ n : Nat, itr body n a = some b) (Classical.propDecidable _) (fun h => some h.choose) (fun _ => none)
theorem loop_some {α β : Type} {body : α → Option (α ⊕ β)} {a : α} {b : β} (h : loop body a = some b) : ∃ n, itr body n a = some b := by
  unfold loop at h
  split at h
  · rename_i hx
    cases h
    exact hx.choose_spec
  · cases h
theorem itr_mono {α β : Type} {body : α → Option (α ⊕ β)} : ∀ (n m : Nat) (a : α) (b : β), n ≤ m → itr body n a = some b → itr body m a = some b
  | 0, _, _, _, _, h => by cases h
  | n + 1, 0, _, _, hm, _ => by omega
  | n + 1, m + 1, a, b, hm, h => by
    obtain ⟨x, hx, h⟩ := bind_some h
    show (body a).bind _ = some b
    rw [hx]
    cases x with
    | inl a' => exact itr_mono n m a' b (by omega) h
    | inr b' => exact h
theorem loop_of {α β : Type} {body : α → Option (α ⊕ β)} {n : Nat} {a : α} {b : β} (h : itr body n a = some b) : loop body a = some b := by
  unfold loop
  have hx : ∃ b : β, ∃ n : Nat, itr body n a = some b := ⟨b, n, h⟩
  rw [dif_pos hx]
  obtain ⟨m, hm⟩ := hx.choose_spec
  have h1 := itr_mono n (max n m) a b (Nat.le_max_left _ _) h
  have h2 := itr_mono m (max n m) a _ (Nat.le_max_right _ _) hm
  rw [h1] at h2
  exact h2.symm
theorem loop_eq {α β : Type} (body : α → Option (α ⊕ β)) (a : α) {x : α ⊕ β} (hx : body a = some x) {b : β} (h : Sum.elim (loop body) some x = some b) : loop body a = some b := by
  cases x with
  | inl a' =>
    obtain ⟨n, hn⟩ := loop_some h
    refine loop_of (n := n + 1) ?_
    show (body a).bind _ = some b
    rw [hx]
    exact hn
  | inr b' =>
    refine loop_of (n := 1) ?_
    show (body a).bind _ = some b
    rw [hx]
    exact h
theorem g_loop {α β : Type} {body : α → Option (α ⊕ β)} (P : α → Prop) (KX : β → Prop) {a : α} {b : β} (hb : loop body a = some b) (hstep : ∀ (a : α) (res : α ⊕ β), body a = some res → Sum.elim P KX res → P a) (hx : KX b) : P a := by
  obtain ⟨n, hn⟩ := loop_some hb
  clear hb
  induction n generalizing a with
  | zero => cases hn
  | succ n ih =>
    obtain ⟨x, hx1, h1⟩ := bind_some hn
    refine hstep a x hx1 ?_
    cases x with
    | inl a' => exact ih h1
    | inr b' => cases h1; exact hx
/-- the rule of a loop: an invariant, a measure that falls -/
theorem loop_rule {α β : Type} {body : α → Option (α ⊕ β)} (I : α → Prop) (μ : α → Nat) (Q : β → Prop) (hstep : ∀ a, I a → ∃ x, body a = some x ∧ Sum.elim (fun a' => I a' ∧ μ a' < μ a) Q x) (a : α) (hI : I a) : ∃ b, loop body a = some b ∧ Q b := by
  generalize hn : μ a = n
  induction n using Nat.strongRecOn generalizing a with
  | ind n ih =>
    obtain ⟨x, hx, h⟩ := hstep a hI
    cases x with
    | inl a' =>
      obtain ⟨b, hb, hq⟩ := ih (μ a') (by rw [← hn]; exact h.2) a' h.1 rfl
      exact ⟨b, loop_eq body a hx hb, hq⟩
    | inr b => exact ⟨b, loop_eq body a hx rfl, h⟩
theorem zb_nar {x : Int32} (h : (x == 0 || x == 1) = true) : narrow .boolean (.int x) = .int x := by
  simp only [Bool.or_eq_true, beq_iff_eq] at h
  rcases h with rfl | rfl <;> rfl
theorem end_top {α : Type} {a b : α} (h : some a = some b) : a = b := Option.some.inj h
theorem end_inl {α β : Type} {P : α → Prop} {Z : β → Prop} {a : α} {res : α ⊕ β} (h : some (Sum.inl a) = some res) (K : Sum.elim P Z res) : P a := by cases h; exact K
theorem end_inr {α β : Type} {P : α → Prop} {Z : β → Prop} {b : β} {res : α ⊕ β} (h : some (Sum.inr b) = some res) (K : Sum.elim P Z res) : Z b := by cases h; exact K
theorem end_alt0_2 {α β γ : Type} {P : α → Prop} {Y : β → Prop} {Z : γ → Prop} {b : β} {res : α ⊕ (β ⊕ γ)} (h : some (Sum.inr (Sum.inl b)) = some res) (K : Sum.elim P (Sum.elim Y Z) res) : Y b := by cases h; exact K
theorem end_alt1_2 {α β γ : Type} {P : α → Prop} {Y : β → Prop} {Z : γ → Prop} {b : γ} {res : α ⊕ (β ⊕ γ)} (h : some (Sum.inr (Sum.inr b)) = some res) (K : Sum.elim P (Sum.elim Y Z) res) : Z b := by cases h; exact K
theorem end_alt0_3 {α β γ δ : Type} {P : α → Prop} {Y : β → Prop} {Z : γ → Prop} {V : δ → Prop} {b : β} {res : α ⊕ (β ⊕ (γ ⊕ δ))} (h : some (Sum.inr (Sum.inl b)) = some res) (K : Sum.elim P (Sum.elim Y (Sum.elim Z V)) res) : Y b := by cases h; exact K
theorem end_alt1_3 {α β γ δ : Type} {P : α → Prop} {Y : β → Prop} {Z : γ → Prop} {V : δ → Prop} {b : γ} {res : α ⊕ (β ⊕ (γ ⊕ δ))} (h : some (Sum.inr (Sum.inr (Sum.inl b))) = some res) (K : Sum.elim P (Sum.elim Y (Sum.elim Z V)) res) : Z b := by cases h; exact K
theorem end_alt2_3 {α β γ δ : Type} {P : α → Prop} {Y : β → Prop} {Z : γ → Prop} {V : δ → Prop} {b : δ} {res : α ⊕ (β ⊕ (γ ⊕ δ))} (h : some (Sum.inr (Sum.inr (Sum.inr b))) = some res) (K : Sum.elim P (Sum.elim Y (Sum.elim Z V)) res) : V b := by cases h; exact K
theorem i32_ext {x y : Int32} (h : x.toInt = y.toInt) : x = y := by
  rw [← Int32.ofInt_toInt x, ← Int32.ofInt_toInt y, h]
theorem ne_toInt {x v : Int32} (h : ¬ x = v) : ¬ x.toInt = v.toInt := fun e => h (i32_ext e)
def layX : Ly := [.inr (0, [some 3, some 1, some 18, some 19, some 20, some 21, none]), .inr (1, [some 5, none, some 17]), .inr (2, [none, some 11, some 12, some 13, some 14]), .inr (3, [none, some 8, some 9, some 10, none, none, none, none, none, none, none, none, none]), .inr (4, [some 3, some 0, some 1, none, none, some 22, some 23, some 24, some 25, none, none]), .inr (5, [some 2, none, some 15, some 16]), .inr (6, [some 3, some 0, some 4, some 1, some 26, some 27, some 28, some 29, some 30, some 31, none]), .inr (7, [some 3, some 2, some 5, some 1, some 0, some 4, some 6]), .inl 30, .inl 30, .inl 30, .inl 84, .inl 84, .inl 343, .inl 21, .inl 10500, .inl 125, .inl 31, .inl 30, .inl 30, .inl 30, .inl 30, .inl 90, .inl 90, .inl 90, .inl 30, .inl 3, .inl 30, .inl 30, .inl 90, .inl 90, .inl 400]
def layM : Ly := [.inr (8, [some 1, none, none, some 2, some 3, some 4, none, none, none, none, none, none, some 5, some 6, some 7, some 8, some 9, none, some 10, some 11, none, some 12, some 13, some 14, some 15, none]), .inl 170128, .inl 30, .inl 30, .inl 30, .inl 30, .inl 30, .inl 30, .inl 30, .inl 3, .inl 90, .inl 90, .inl 30, .inl 30, .inl 90, .inl 400]
section GS
variable {E : Gx} {R : Room} {cI : ClassId} {lay : Ly} {ad : Nat → Nat} {nL : Nat} {own : String} {cc : ByteArray} {pc : Nat} {lv : List (Nat × Value)} {rest : List Value} {σ : Mem}
theorem g_tswC (tgt : Nat) (C : Cx E R cI lay ad nL own cc) {dflt lo hi : Int} {offs : Array Int} {len : Nat} {x v : Int32} {off : Int} (hdg : decode cc pc = .ok (.tableswitch dflt lo hi offs, len)) (hx : x = v) (h1 : ¬ v.toInt < lo) (h2 : ¬ hi < v.toInt) (ho : offs[(v.toInt - lo).toNat]? = some off) (ht : (pc : Int) + off = (tgt : Int)) (k : G E R cI lay ad nL tgt lv rest σ) : G E R cI lay ad nL pc lv (.int x :: rest) σ := by
  subst hx
  obtain ⟨p, l, e, s, m, args, below, meth, c, D, Q, A, ce, sl⟩ := E
  intro H locs ls hP hS hl
  exact lv_tableIn C.1.1 C.1.2.1 hdg h1 h2 ho ht (k H locs ls hP hS hl)
theorem g_tswD (tgt : Nat) (C : Cx E R cI lay ad nL own cc) {dflt lo hi : Int} {offs : Array Int} {len : Nat} {x : Int32} (hdg : decode cc pc = .ok (.tableswitch dflt lo hi offs, len)) (h1 : x.toInt < lo ∨ hi < x.toInt) (ht : (pc : Int) + dflt = (tgt : Int)) (k : G E R cI lay ad nL tgt lv rest σ) : G E R cI lay ad nL pc lv (.int x :: rest) σ := by
  obtain ⟨p, l, e, s, m, args, below, meth, c, D, Q, A, ce, sl⟩ := E
  intro H locs ls hP hS hl
  exact lv_tableOut C.1.1 C.1.2.1 hdg h1 ht (k H locs ls hP hS hl)
theorem g_lswC (tgt : Nat) (C : Cx E R cI lay ad nL own cc) {dflt : Int} {ps : Array (Int × Int)} {len : Nat} {x v : Int32} {off : Int} (hdg : decode cc pc = .ok (.lookupswitch dflt ps, len)) (hx : x = v) (hp : (ps.toList.zip (ps.toList.drop 1)).all (fun (a, next) => a.1 < next.1) = true) (ho : Op.lookupswitch.offset ps.toList dflt v.toInt = off) (ht : (pc : Int) + off = (tgt : Int)) (k : G E R cI lay ad nL tgt lv rest σ) : G E R cI lay ad nL pc lv (.int x :: rest) σ := by
  subst hx
  obtain ⟨p, l, e, s, m, args, below, meth, c, D, Q, A, ce, sl⟩ := E
  intro H locs ls hP hS hl
  exact lv_lookup C.1.1 C.1.2.1 hdg hp ho ht (k H locs ls hP hS hl)
theorem g_lswD (tgt : Nat) (C : Cx E R cI lay ad nL own cc) {dflt : Int} {ps : Array (Int × Int)} {len : Nat} {x : Int32} (hdg : decode cc pc = .ok (.lookupswitch dflt ps, len)) (hp : (ps.toList.zip (ps.toList.drop 1)).all (fun (a, next) => a.1 < next.1) = true) (ho : Op.lookupswitch.offset ps.toList dflt x.toInt = dflt) (ht : (pc : Int) + dflt = (tgt : Int)) (k : G E R cI lay ad nL tgt lv rest σ) : G E R cI lay ad nL pc lv (.int x :: rest) σ := by
  obtain ⟨p, l, e, s, m, args, below, meth, c, D, Q, A, ce, sl⟩ := E
  intro H locs ls hP hS hl
  exact lv_lookup C.1.1 C.1.2.1 hdg hp ho ht (k H locs ls hP hS hl)
def lshlV (x : Int64) (y : Int32) : Int64 := x <<< (y.toInt64 &&& 63)
theorem g_lshl (q : Nat) (C : Cx E R cI lay ad nL own cc) {x : Int64} {y : Int32} (hdg : decode cc pc = .ok (.lshl, 1)) (hq : pc + 1 = q) (k : G E R cI lay ad nL q lv (.long (lshlV x y) :: rest) σ) : G E R cI lay ad nL pc lv (.int y :: .long x :: rest) σ := by
  subst hq
  obtain ⟨p, l, e, s, m, args, below, meth, c, D, Q, A, ce, sl⟩ := E
  intro H locs ls hP hS hl
  exact lv_lshl C.1.1 C.1.2.1 hdg rfl (k H locs ls hP hS hl)
theorem g_copy (q : Nat) (C : Cx E R cI lay ad nL own cc) {index k0 k1 n : Nat} {z : Int32} (hlink : Cond.methodLink own index arraycopyName ∈ Wall) (hnat : Cond.native arraycopyName ∈ Wall) (hstat : Cond.static arraycopyName ∈ Wall) (hini : Cond.initialized "java/lang/System" ∈ Wall) (hl0 : lay[k0]? = some (.inl n)) (hl1 : lay[k1]? = some (.inl n)) (hz : ¬ z < 0) (hzn : z.toNatClampNeg = n) (hfr : 1 ≤ R.frames) (hlo : (rest.map fun v => v.category).sum + (nativeFrameWords "java/lang/System" "arraycopy" 5 + 11) ≤ R.locals) (hdg : decode cc pc = .ok (.invokestatic index, 3)) (hq : pc + 3 = q)
    (kk : G E R cI lay ad nL q lv rest (upR σ k1 (va_cpy (σ k0) (σ k1) 0 0 n))) : G E R cI lay ad nL pc lv (.int z :: .int 0 :: .ref (ad k1) :: .int 0 :: .ref (ad k0) :: rest) σ := by
  subst hq
  obtain ⟨p, l, e, s, m, args, below, meth, c, D, Q, A, ce, sl⟩ := E
  intro H locs ls hP hS hl
  refine va_copyi C.1.1 C.1.2.1 (C.1.2.2.1.trans hl.1.symm) C.1.2.2.2.1 (C.1.2.2.2.2 _ hlink) (C.1.2.2.2.2 _ hnat) (C.1.2.2.2.2 _ hstat) (C.1.2.2.2.2 _ hini) C.2.1 hP ((D_of C.2.2.2.1).weaken (fun _ _ _ h => C.2.2.2.2.1 _ h)) hS k0 k1 0 0 (wof_at hl0) (wof_at hl1) rfl rfl rfl (by decide) (by decide) hz (by rw [hzn]; show (0 : Int32).toNatClampNeg + n ≤ n; exact Nat.le_of_eq (Nat.zero_add n)) (by rw [hzn]; show (0 : Int32).toNatClampNeg + n ≤ n; exact Nat.le_of_eq (Nat.zero_add n)) (fun i _ => rfl) hfr hlo hdg (fun H1 locs1 hP1 hD1 hS1 => kk H1 locs1 ls ?_ hS1 hl)
  rw [hzn] at hP1
  have e : (wof cI ad σ 0 lay).set k1 (ad k1, .inl (cI, n, .inl (va_cpy (σ k0) (σ k1) (0 : Int32).toNatClampNeg (0 : Int32).toNatClampNeg n))) = wof cI ad (upR σ k1 (va_cpy (σ k0) (σ k1) 0 0 n)) 0 lay := wof_set hl1 _
  rw [e] at hP1
  exact hP1
theorem g_cviW (q : Nat) {β : Type} {res : β} {F : Option (Int32 × Mem)} {g : Int32 × Mem → Option β} (C : Cx E R cI lay ad nL own cc) {y : MethodName} {rm : Room} {bytes : ByteArray} {maxL index : Nat} {ty : FieldType} {As st : List Value} {n : Nat} {k ci N : Nat} {Cn : String} {T : u_T} {fds : List (Option Nat)} (hM : ∀ o, F = some o → MI (lof E) (Dof E) cI lay ad y bytes maxL ty rm (.ref (ad k) :: As) σ o) (hlk : Cond.methodLink own index y ∈ Wall) (hinst : Cond.instanceMethod y ∈ Wall) (hsel : Cond.selects Cn y y ∈ Wall) (hcode : Cond.code y bytes maxL (some ty) ∈ Wall) (hini : Cond.initialized y.cls ∈ Wall) (hd : y.cls ≠ "java/lang/invoke/MethodHandle" ∧ y.cls ≠ "java/lang/invoke/VarHandle" ∧ (parseMethodDescriptor y.desc).map (fun d => d.parameters.length) = some n) (hrc : rm.cells = 0) (hrs : rm.slots = 0) (hR : rm.frames + 1 ≤ R.frames ∧ 16 + (maxL + 11) + rm.locals ≤ R.locals) (hlay : lay[k]? = some (.inr (ci, fds))) (hcl : vwCl[ci]? = some (Cn, T, N)) (hst : st = As.reverse ++ .ref (ad k) :: rest) (hn : As.length = n) (hsum : (rest.map fun v => v.category).sum ≤ 16) (hdg : decode cc pc = .ok (.invokevirtual index, 3)) (hq : pc + 3 = q) (h : F.bind g = some res)
    (kk : ∀ o, g o = some res → G E R cI lay ad nL q lv (.int o.1 :: rest) o.2) : G E R cI lay ad nL pc lv st σ := by
  subst hq
  subst hst
  obtain ⟨o, hF, hg⟩ := bind_some h
  have hM := hM o hF
  obtain ⟨p, l, e, s, m, args, below, meth, c, D, Q, A, ce, sl⟩ := E
  intro H locs ls hP hS hl
  have hK : Back l R p e below s args y 3 16 (PreOf R 0 0 _) (PostOf _ 0 0 (Aw lay ad)) := back_of (bytes := bytes) (maxL := maxL) (ret := some ty) hM (Wd.blind _) hrc hrs hR.1 hR.2 (pay_in C.1.2.2.2.2 (good_call hcode)) List.mem_cons_self (fun a' U hW => word_at hW (Or.inl (by first | rfl | simp [Cond.onTables, Cond.keeps, Cond.steady])) (C.1.2.2.2.2 _ hini))
  obtain ⟨cellB, hcB, hoB, hclB⟩ := va_recv C.2.1 hP hcl (wof_at hlay)
  have hrun : va_Run p l e R s m args below meth c H locs ce sl 0 0 (F0 m pc ls (As.reverse ++ .ref (ad k) :: rest)) rest (va_Qi (fun (r : Int32) (u : Mem) => (r, u) = o) (fun u t => Wd D cI lay ad u t) (Aw lay ad) (Value.ref (ad k) :: As).toArray) (Aw lay ad) := by
    intro T hT X
    obtain ⟨v, vm₁, ⟨U', l2, c2, s2⟩, hW₁, X', ⟨g', mk, t, L, e1, e2, hq, h1, hL, h2, h3⟩, st⟩ := callV X C.1.1 (C := Cn) (bytes := bytes) (maxL := maxL) (ret := some ty) C.1.2.2.2.1 (C.1.2.2.2.2 _ hlk) (C.1.2.2.2.2 _ hinst) (C.1.2.2.2.2 _ hsel) (C.1.2.2.2.2 _ hcode) ⟨hd.1, hd.2.1⟩ hK (by rw [hT]; exact hcB) hoB hclB (g := F0 m pc ls (As.reverse ++ .ref (ad k) :: rest)) rfl (hl.1.trans C.1.2.2.1.symm) (argsL := As) (rest := rest) (fun sig h => by
      have h2 := hd.2.2
      rw [h] at h2
      exact hn.trans (Option.some.inj h2).symm) rfl (by show 2 * 0 + _ ≤ 16; omega) (by rw [C.1.2.1]; exact hdg)
      (fun vm₁ hW₁ => ⟨C.2.2.2.2.2.1, C.2.2.2.2.2.2, rfl, by show va_P _ _ _ T.heap; rw [hT]; exact hP, va_K.moved hW₁.alike C.2.1, C.2.2.1.warm hW₁, C.2.2.2.1⟩)
    dsimp only [Pt.U, Pt.locs, Pt.cells, Pt.slots] at X' e1 e2 h1 h2 h3 st
    subst h1; subst h2; subst h3
    exact ⟨v, (T.setVm vm₁).calling g' mk (Value.ref (ad k) :: As).toArray, t, U', L, hT, X', hL, e1, e2, hq, st⟩
  refine va_calli hrun hS (fun q _ h => C.2.2.2.2.1 q h) (fun q h => C.2.2.2.2.1 q h) (fun r u t H1 locs1 ht hvm hw1 hB hz hk hS1 => ?_)
  subst hw1
  exact kk _ hg H1 locs1 ls (by rw [← ht]; exact hB.1) hS1 hl
end GS
