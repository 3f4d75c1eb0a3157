/-! THE WALK'S OWN LAYER: the whole heap as functions (ints, longs, references by address and place), one predicate 'w' for a walk, rows over it. -/
abbrev Mm : Type := (Nat → Nat → Int32) × (Nat → Nat → Int64)
abbrev Rr : Type := Nat → Nat → Option Nat
abbrev Kk : Type := List Nat × (Nat → Nat ⊕ (Nat × Nat))
abbrev Gg : Type := va_G × (Nat → ClassId)
def u2 {α : Type} (f : Nat → Nat → α) (a k : Nat) (v : α) : Nat → Nat → α := fun b j => if b = a ∧ j = k then v else f b j
def pI (M : Mm) (a k : Nat) (v : Int32) : Mm := (u2 M.1 a k v, M.2)
def pL (M : Mm) (a k : Nat) (v : Int64) : Mm := (M.1, u2 M.2 a k v)
def pR (R : Rr) (a k : Nat) (v : Option Nat) : Rr := u2 R a k v
/-- the types of the fields of a class, by slot: 0 int, 1 long, 2 reference -/
def tyl (c : Nat) : List Nat := match c with
  | 0 => [2, 2, 2]
  | 1 => [2, 2, 0, 0]
  | 2 => [0, 0, 0, 0, 0, 0, 0, 0]
  | 3 => [2, 0, 0, 0, 0]
  | 4 => [2, 0]
  | 5 => [2, 2, 0]
  | 6 => [2, 2, 2, 0]
  | 7 => [2, 2, 2, 2, 2, 2, 2, 2, 2, 2, 2, 2, 2, 2]
  | _ => [2, 2, 2, 0, 0, 2, 2, 2, 2, 2, 2, 2, 0, 2, 2, 0, 2, 2, 0, 2, 2, 0, 2, 2, 0, 1, 1, 1, 1, 2, 2, 0, 2, 2, 2, 0, 0, 2, 2]
def fv (R : Rr) (M : Mm) (a k : Nat) (t : Nat) : Value := match t with
  | 0 => .int (M.1 a k)
  | 1 => .long (M.2 a k)
  | _ => va_rf (R a k)
def fl (R : Rr) (M : Mm) (a : Nat) (c : Nat) : List Value := (tyl c).mapIdx (fun k t => fv R M a k t)
def ce (G : Gg) (R : Rr) (M : Mm) (a : Nat) (sh : Nat ⊕ (Nat × Nat)) : va_E := match sh with
  | .inl c => .inr (c, fl R M a c)
  | .inr (0, n) => .inl (G.2 0, n, .inl (M.1 a))
  | .inr (1, n) => .inl (G.2 1, n, .inr (.inl (M.2 a)))
  | .inr (2, n) => .inl (G.2 2, n, .inl (M.1 a))
  | .inr (t + 3, n) => .inl (G.2 (t + 3), n, .inr (.inr (.inr (.inr (R a)))))
def wd (G : Gg) (K : Kk) (R : Rr) (M : Mm) : va_W := va_pl K.1 (fun a => ce G R M a (K.2 a))
def isO (K : Kk) (a c : Nat) : Prop := a ∈ K.1 ∧ K.2 a = .inl c
def isA (K : Kk) (a t n : Nat) : Prop := a ∈ K.1 ∧ K.2 a = .inr (t, n)
/-- an index within an array of a type -/
def ixA (K : Kk) (a t : Nat) (i : Int32) : Prop := ∃ n, isA K a t n ∧ vp_in i n
def alen (K : Kk) (a : Nat) : Int32 := match K.2 a with
  | .inr (_, n) => Int32.ofNat n
  | .inl _ => 0
def isAr (K : Kk) (a : Nat) : Prop := ∃ t n, t < 6 ∧ isA K a t n
abbrev tysG (G : Gg) : List (ClassId × FieldType) := [(G.2 0, .int), (G.2 1, .long), (G.2 2, .boolean), (G.2 3, .object RX5), (G.2 4, .object RX4), (G.2 5, .object RX3)]
/-- the words that last -/
def ws0 : List Cond := lw_tbl.filter goodWord
theorem ws0_good {w : Cond} (h : w ∈ ws0) : goodWord w = true := (List.mem_filter.mp h).2
theorem ws0_tbl {w : Cond} (h : w ∈ ws0) : w ∈ lw_tbl := (List.mem_filter.mp h).1
theorem ws0_at (i : Nat) {w : Cond} (h : lw_tbl[i]? = some w) (hg : goodWord w = true) : w ∈ ws0 := List.mem_filter.mpr ⟨List.mem_of_getElem? h, hg⟩
theorem ws0_m {w : Cond} (h : w ∈ tables_1) (hg : goodWord w = true) : w ∈ ws0 := List.mem_filter.mpr ⟨List.mem_append_right _ h, hg⟩
theorem ws0_1 (i : Nat) {w : Cond} (h : tables_1_1[i]? = some w) (hg : goodWord w = true) : w ∈ ws0 := ws0_m (List.mem_append_left _ (List.mem_of_getElem? h)) hg
theorem ws0_2 (i : Nat) {w : Cond} (h : tables_1_2[i]? = some w) (hg : goodWord w = true) : w ∈ ws0 := ws0_m (List.mem_append_right _ (List.mem_append_left _ (List.mem_of_getElem? h))) hg
theorem ws0_3 (i : Nat) {w : Cond} (h : tables_1_3[i]? = some w) (hg : goodWord w = true) : w ∈ ws0 := ws0_m (List.mem_append_right _ (List.mem_append_right _ (List.mem_append_left _ (List.mem_of_getElem? h)))) hg
theorem ws0_4 (i : Nat) {w : Cond} (h : tables_1_4[i]? = some w) (hg : goodWord w = true) : w ∈ ws0 := ws0_m (List.mem_append_right _ (List.mem_append_right _ (List.mem_append_right _ (List.mem_append_left _ (List.mem_of_getElem? h))))) hg
theorem ws0_5 (i : Nat) {w : Cond} (h : tables_1_5[i]? = some w) (hg : goodWord w = true) : w ∈ ws0 := ws0_m (List.mem_append_right _ (List.mem_append_right _ (List.mem_append_right _ (List.mem_append_right _ (List.mem_of_getElem? h))))) hg
def nestW : List (String × Nat × MethodName × String) := [(RX4, 17, yX3_init, RX7), (RX7, 42, yX6_init, RX7), (RX7, 49, yX2_init, RX7), (RX7, 56, yX0_init, RX7), (RX0, 25, yX2_init, RX7), (RX7, 63, yX3_init, RX7), (RX5, 55, yX7_sideOf, RX7), (RX5, 61, yX7_isPlace, RX7)]
/-- what is known of the classes in every state of the run -/
def KF (G : Gg) (U : State) : Prop := va_K G.1 vwCl (tysG G) U ∧ (∀ q ∈ nestW, va_Nw (.methodLinkNest q.1 q.2.1 q.2.2.1 q.2.2.2) U) ∧ va_AO RX5 U ∧ va_AO RX4 U ∧ va_AO RX3 U
theorem KF.moved {G : Gg} {s U : State} (hW : s.WarmedH U.vm) (h : KF G s) : KF G U :=
  ⟨va_K.moved hW.alike h.1, fun q hq => va_Nw.warmM hW (h.2.1 q hq), va_AO.moved hW.alike h.2.2.1, va_AO.moved hW.alike h.2.2.2.1, va_AO.moved hW.alike h.2.2.2.2⟩
theorem KF.same {G : Gg} {s U : State} (hv : s.vm = U.vm) (h : KF G s) : KF G U :=
  ⟨va_K.moved (by rw [hv]; exact Vm.Alike.refl _) h.1, fun q hq => va_Nw.same rfl hv (h.2.1 q hq), va_AO.moved (by rw [hv]; exact Vm.Alike.refl _) h.2.2.1, va_AO.moved (by rw [hv]; exact Vm.Alike.refl _) h.2.2.2.1, va_AO.moved (by rw [hv]; exact Vm.Alike.refl _) h.2.2.2.2⟩
abbrev Ab (b0 : Nat) : Nat → Prop := fun q => b0 ≤ q
def RS (G : Gg) (b0 : Nat) (K : Kk) (R : Rr) (M : Mm) (U : State) : Prop := va_P G.1 vwCl (wd G K R M) U.heap ∧ va_D (Ab b0) (wd G K R M) ∧ KF G U
/-- a method's end: its answer, its memory -/
def QR (G : Gg) (b0 : Nat) (res : Option Value) (K : Kk) (R : Rr) (M : Mm) : Array Value → State → Outcome → State → Prop := fun _ st o t => o = .returned res ∧ RS G b0 K R M t ∧ va_F (Ab b0) st t
/-- a method's contract: from memory K R M with the arguments av to memory K' R' M' with the answer res -/
def CT (l : Launch) (G : Gg) (b0 : Nat) (y : MethodName) (cc : ByteArray) (maxL : Nat) (ret : Option FieldType) (rm : Room) (av : List Value) (K : Kk) (R : Rr) (M : Mm) (res : Option Value) (K' : Kk) (R' : Rr) (M' : Mm) : Prop :=
  Met l y (.code y cc maxL ret :: ws0) rm (va_Pc av (fun U => RS G b0 K R M U ∧ b0 ≤ U.heap.size)) (QR G b0 res K' R' M') rm.cells rm.slots (Ab b0)
def wq (G : Gg) (b0 : Nat) (p : Program) (l : Launch) (e : Env) (rm : Room) (s : State) (m : MethodId) (args : Array Value) (below : List Frame) (meth : Method) (c : Code) (nL : Nat) (Q : State → Prop) : Nat → Nat → Nat → List (Nat × Value) → List Value → Kk → Rr → Mm → Prop :=
  fun cl sl pc lv st K R M => ∀ (H : Heap) (locs : List Loc) (ls : Array Slot), va_P G.1 vwCl (wd G K R M) H → va_D (Ab b0) (wd G K R M) → va_S (Ab b0) s.heap H locs → lv_has ls nL lv → W p l e rm s m args below meth c H locs cl sl Q (F0 m pc ls st)
abbrev Wt : Type := Nat → Nat → Nat → List (Nat × Value) → List Value → Kk → Rr → Mm → Prop
/-- what is fixed in a walk -/
def SyB (l : Launch) (G : Gg) (b0 : Nat) (y : MethodName) (cc : ByteArray) (nL : Nat) (rm : Room) (w : Wt) : Prop :=
  ∃ (p : Program) (e : Env) (s : State) (m : MethodId) (args : Array Value) (below : List Frame) (meth : Method) (c : Code) (Q : State → Prop) (w0 : Cond),
    w = wq G b0 p l e rm s m args below meth c nL Q ∧ p.tables.exec = Jvm.exec ∧ c.code = cc ∧ c.maxLocals = nL ∧ s.vm.findClass y.cls = some m.cls ∧ (∀ x ∈ (w0 :: ws0), x.before args s = true) ∧ KF G s ∧ b0 ≤ s.heap.size
/-- and Qc: what the method's end is to be -/
def SyQ (l : Launch) (G : Gg) (b0 : Nat) (y : MethodName) (cc : ByteArray) (nL : Nat) (ret : Option FieldType) (rm : Room) (Qc : Array Value → State → Outcome → State → Prop) (w : Wt) : Prop :=
  ∃ (p : Program) (e : Env) (s : State) (m : MethodId) (args : Array Value) (below : List Frame) (meth : Method) (c : Code),
    w = wq G b0 p l e rm s m args below meth c nL (MQ below Qc args s rm.cells rm.slots (Ab b0)) ∧
    p.tables.exec = Jvm.exec ∧ c.code = cc ∧ meth.sig.returnType = ret ∧ c.maxLocals = nL ∧ s.vm.findClass y.cls = some m.cls ∧ (∀ x ∈ (Cond.code y cc nL ret :: ws0), x.before args s = true) ∧ KF G s ∧ b0 ≤ s.heap.size ∧ meth.locks = false ∧ meth.name = y.name
theorem SyQ.b {l : Launch} {G : Gg} {b0 : Nat} {y : MethodName} {cc : ByteArray} {nL : Nat} {ret : Option FieldType} {rm : Room} {Qc : Array Value → State → Outcome → State → Prop} {w : Wt} (h : SyQ l G b0 y cc nL ret rm Qc w) : SyB l G b0 y cc nL rm w := by
  obtain ⟨p, e, s, m, args, below, meth, c, h1, h2, h3, h4, h5, h6, h7, h8, h9, -⟩ := h
  exact ⟨p, e, s, m, args, below, meth, c, _, _, h1, h2, h3, h5, h6, h7, h8, h9⟩
abbrev Sy (l : Launch) (G : Gg) (b0 : Nat) (y : MethodName) (cc : ByteArray) (nL : Nat) (ret : Option FieldType) (rm : Room) (res : Option Value) (K' : Kk) (R' : Rr) (M' : Mm) (w : Wt) : Prop := SyQ l G b0 y cc nL ret rm (QR G b0 res K' R' M') w
theorem ct_of {l : Launch} {G : Gg} {b0 : Nat} {y : MethodName} {cc : ByteArray} {maxL : Nat} {ret : Option FieldType} {rm : Room} {av : List Value} {K : Kk} {R : Rr} {M : Mm} {res : Option Value} {K' : Kk} {R' : Rr} {M' : Mm}
    (hy : plainName y.cls = true) (hlen : (lg_sl av).length ≤ maxL) (body : ∀ w : Wt, Sy l G b0 y cc maxL ret rm res K' R' M' w → w 0 0 0 (lv_args 0 av) [] K R M) : CT l G b0 y cc maxL ret rm av K R M res K' R' M' := by
  refine Met.ofW (cc := cc) (maxL := maxL) (ret := ret) hy rfl ?_
  intro p e s m args below meth c s₁ B hml hv
  obtain ⟨rfl, ⟨hP, hD, hK⟩, hb0⟩ := hv
  have h := body _ ⟨p, e, s, m, _, below, meth, c, rfl, B.exec, B.bytes, B.returns, hml, findClass_of_methodNamed B.named, atoms_spec (ws := Cond.code y cc maxL ret :: ws0) B.pre, hK, hb0, B.notSynchronized, (name_of_methodNamed B.named B.method).1⟩
  have hl := lv_entry av hlen
  rw [lg_entry_eq]
  exact h s.heap [] _ hP hD va_S.rf hl
section RW
variable {l : Launch} {G : Gg} {b0 : Nat} {y : MethodName} {cc : ByteArray} {nL : Nat} {ret : Option FieldType} {rm : Room} {Qc : Array Value → State → Outcome → State → Prop} {w : Wt}
variable {cl sl pc : Nat} {lv lv' : List (Nat × Value)} {rest : List Value} {K : Kk} {R : Rr} {M : Mm}
theorem r_sub (hw : SyB l G b0 y cc nL rm w) (ks : List Nat) (hl : lv_pick lv ks = lv') (k : w cl sl pc lv' rest K R M) : w cl sl pc lv rest K R M := by
  obtain ⟨p, e, s, m, args, below, meth, c, Q, w0, rfl, hx, hb, hml, hown, hts, hKF, hb0⟩ := hw
  exact fun H locs ls hP hD hS h => k H locs ls hP hD hS (lv_sub h ks hl)
theorem r_iconst (hw : SyB l G b0 y cc nL rm w) {n : Int} {v : Int32} (hd : decode cc pc = .ok (.iconst n, 1)) (hv : Int32.ofInt n = v) (k : w cl sl (pc + 1) lv (.int v :: rest) K R M) : w cl sl pc lv rest K R M := by
  obtain ⟨p, e, s, m, args, below, meth, c, Q, w0, rfl, hx, hb, hml, hown, hts, hKF, hb0⟩ := hw
  exact fun H locs ls hP hD hS h => lv_iconst hx hb hd hv (k H locs ls hP hD hS h)
theorem r_bipush (hw : SyB l G b0 y cc nL rm w) {n : Int} {v : Int32} (hd : decode cc pc = .ok (.bipush n, 2)) (hv : (Int8.ofInt n).toInt32 = v) (k : w cl sl (pc + 2) lv (.int v :: rest) K R M) : w cl sl pc lv rest K R M := by
  obtain ⟨p, e, s, m, args, below, meth, c, Q, w0, rfl, hx, hb, hml, hown, hts, hKF, hb0⟩ := hw
  exact fun H locs ls hP hD hS h => lv_bipush hx hb hd hv (k H locs ls hP hD hS h)
theorem r_sipush (hw : SyB l G b0 y cc nL rm w) {n : Int} {v : Int32} (hd : decode cc pc = .ok (.sipush n, 3)) (hv : (Int16.ofInt n).toInt32 = v) (k : w cl sl (pc + 3) lv (.int v :: rest) K R M) : w cl sl pc lv rest K R M := by
  obtain ⟨p, e, s, m, args, below, meth, c, Q, w0, rfl, hx, hb, hml, hown, hts, hKF, hb0⟩ := hw
  exact fun H locs ls hP hD hS h => lv_sipush hx hb hd hv (k H locs ls hP hD hS h)
theorem r_lconst (hw : SyB l G b0 y cc nL rm w) {n : Fin 2} {v : Int64} (hd : decode cc pc = .ok (.lconst n, 1)) (hv : Int64.ofNat (n : Nat) = v) (k : w cl sl (pc + 1) lv (.long v :: rest) K R M) : w cl sl pc lv rest K R M := by
  obtain ⟨p, e, s, m, args, below, meth, c, Q, w0, rfl, hx, hb, hml, hown, hts, hKF, hb0⟩ := hw
  exact fun H locs ls hP hD hS h => lv_lconst hx hb hd hv (k H locs ls hP hD hS h)
theorem r_ldc (hw : SyB l G b0 y cc nL rm w) {i : Nat} {v : Int32} (hd : decode cc pc = .ok (.ldc i, 2)) (hc : Cond.constant y.cls i v ∈ ws0) (k : w cl sl (pc + 2) lv (.int v :: rest) K R M) : w cl sl pc lv rest K R M := by
  obtain ⟨p, e, s, m, args, below, meth, c, Q, w0, rfl, hx, hb, hml, hown, hts, hKF, hb0⟩ := hw
  exact fun H locs ls hP hD hS h => lv_ldc hx hb hown (hts _ (List.mem_cons_of_mem _ hc)) hd (k H locs ls hP hD hS h)
theorem r_ldcw (hw : SyB l G b0 y cc nL rm w) {i : Nat} {v : Int32} (hd : decode cc pc = .ok (.ldc_w i, 3)) (hc : Cond.constant y.cls i v ∈ ws0) (k : w cl sl (pc + 3) lv (.int v :: rest) K R M) : w cl sl pc lv rest K R M := by
  obtain ⟨p, e, s, m, args, below, meth, c, Q, w0, rfl, hx, hb, hml, hown, hts, hKF, hb0⟩ := hw
  exact fun H locs ls hP hD hS h => lv_ldcw hx hb hown (hts _ (List.mem_cons_of_mem _ hc)) hd (k H locs ls hP hD hS h)
theorem r_ldc2 (hw : SyB l G b0 y cc nL rm w) {i : Nat} {v : Int64} (hd : decode cc pc = .ok (.ldc2_w i, 3)) (hc : Cond.constantLong y.cls i v ∈ ws0) (k : w cl sl (pc + 3) lv (.long v :: rest) K R M) : w cl sl pc lv rest K R M := by
  obtain ⟨p, e, s, m, args, below, meth, c, Q, w0, rfl, hx, hb, hml, hown, hts, hKF, hb0⟩ := hw
  exact fun H locs ls hP hD hS h => lv_ldc2 hx hb hown (hts _ (List.mem_cons_of_mem _ hc)) hd (k H locs ls hP hD hS h)
theorem r_iload_n (hw : SyB l G b0 y cc nL rm w) {i : Fin 4} {x : Int32} (hd : decode cc pc = .ok (.iload_n i, 1)) (j : Nat) (hj : lv[j]? = some ((i : Nat), .int x)) (k : w cl sl (pc + 1) lv (.int x :: rest) K R M) : w cl sl pc lv rest K R M := by
  obtain ⟨p, e, s, m, args, below, meth, c, Q, w0, rfl, hx, hb, hml, hown, hts, hKF, hb0⟩ := hw
  exact fun H locs ls hP hD hS h => lv_iload_n hx hb hd rfl (lv_at h j hj) (k H locs ls hP hD hS h)
theorem r_iload (hw : SyB l G b0 y cc nL rm w) {i : Nat} {x : Int32} (hd : decode cc pc = .ok (.iload i, 2)) (j : Nat) (hj : lv[j]? = some (i, .int x)) (k : w cl sl (pc + 2) lv (.int x :: rest) K R M) : w cl sl pc lv rest K R M := by
  obtain ⟨p, e, s, m, args, below, meth, c, Q, w0, rfl, hx, hb, hml, hown, hts, hKF, hb0⟩ := hw
  exact fun H locs ls hP hD hS h => lv_iload hx hb hd (lv_at h j hj) (k H locs ls hP hD hS h)
theorem r_lload_n (hw : SyB l G b0 y cc nL rm w) {i : Fin 4} {x : Int64} (hd : decode cc pc = .ok (.lload_n i, 1)) (j : Nat) (hj : lv[j]? = some ((i : Nat), .long x)) (k : w cl sl (pc + 1) lv (.long x :: rest) K R M) : w cl sl pc lv rest K R M := by
  obtain ⟨p, e, s, m, args, below, meth, c, Q, w0, rfl, hx, hb, hml, hown, hts, hKF, hb0⟩ := hw
  exact fun H locs ls hP hD hS h => lv_lload_n hx hb hd rfl (lv_at h j hj) (k H locs ls hP hD hS h)
theorem r_lload (hw : SyB l G b0 y cc nL rm w) {i : Nat} {x : Int64} (hd : decode cc pc = .ok (.lload i, 2)) (j : Nat) (hj : lv[j]? = some (i, .long x)) (k : w cl sl (pc + 2) lv (.long x :: rest) K R M) : w cl sl pc lv rest K R M := by
  obtain ⟨p, e, s, m, args, below, meth, c, Q, w0, rfl, hx, hb, hml, hown, hts, hKF, hb0⟩ := hw
  exact fun H locs ls hP hD hS h => lv_lload hx hb hd (lv_at h j hj) (k H locs ls hP hD hS h)
theorem r_aload_n (hw : SyB l G b0 y cc nL rm w) {i : Fin 4} {x : Nat} (hd : decode cc pc = .ok (.aload_n i, 1)) (j : Nat) (hj : lv[j]? = some ((i : Nat), .ref x)) (k : w cl sl (pc + 1) lv (.ref x :: rest) K R M) : w cl sl pc lv rest K R M := by
  obtain ⟨p, e, s, m, args, below, meth, c, Q, w0, rfl, hx, hb, hml, hown, hts, hKF, hb0⟩ := hw
  exact fun H locs ls hP hD hS h => lv_aload_n hx hb hd rfl (lv_at h j hj) (k H locs ls hP hD hS h)
theorem r_aload (hw : SyB l G b0 y cc nL rm w) {i : Nat} {x : Nat} (hd : decode cc pc = .ok (.aload i, 2)) (j : Nat) (hj : lv[j]? = some (i, .ref x)) (k : w cl sl (pc + 2) lv (.ref x :: rest) K R M) : w cl sl pc lv rest K R M := by
  obtain ⟨p, e, s, m, args, below, meth, c, Q, w0, rfl, hx, hb, hml, hown, hts, hKF, hb0⟩ := hw
  exact fun H locs ls hP hD hS h => lv_aload hx hb hd (lv_at h j hj) (k H locs ls hP hD hS h)
theorem r_istore_n (hw : SyB l G b0 y cc nL rm w) {n : Fin 4} {i : Nat} {x : Int32} (hd : decode cc pc = .ok (.istore_n n, 1)) (hi : (n : Nat) = i) (hn : i < nL) (hl : (i, Value.int x) :: lv.filter (fun q => !(q.1 == i) && !(q.1 + 1 == i && q.2.category == 2)) = lv') (k : w cl sl (pc + 1) lv' rest K R M) : w cl sl pc lv (.int x :: rest) K R M := by
  obtain ⟨p, e, s, m, args, below, meth, c, Q, w0, rfl, hx, hb, hml, hown, hts, hKF, hb0⟩ := hw
  exact fun H locs ls hP hD hS h => lv_istore_n hx hb hd hi h hn hl (fun ls' h' => k H locs ls' hP hD hS h')
theorem r_istore (hw : SyB l G b0 y cc nL rm w) {i : Nat} {x : Int32} (hd : decode cc pc = .ok (.istore i, 2)) (hn : i < nL) (hl : (i, Value.int x) :: lv.filter (fun q => !(q.1 == i) && !(q.1 + 1 == i && q.2.category == 2)) = lv') (k : w cl sl (pc + 2) lv' rest K R M) : w cl sl pc lv (.int x :: rest) K R M := by
  obtain ⟨p, e, s, m, args, below, meth, c, Q, w0, rfl, hx, hb, hml, hown, hts, hKF, hb0⟩ := hw
  exact fun H locs ls hP hD hS h => lv_istore hx hb hd h hn hl (fun ls' h' => k H locs ls' hP hD hS h')
theorem r_lstore_n (hw : SyB l G b0 y cc nL rm w) {n : Fin 4} {i : Nat} {x : Int64} (hd : decode cc pc = .ok (.lstore_n n, 1)) (hi : (n : Nat) = i) (hn : i + 1 < nL) (hl : (i, Value.long x) :: lv.filter (fun q => !(q.1 == i) && (!(q.1 == i + 1) && !(q.1 + 1 == i && q.2.category == 2))) = lv') (k : w cl sl (pc + 1) lv' rest K R M) : w cl sl pc lv (.long x :: rest) K R M := by
  obtain ⟨p, e, s, m, args, below, meth, c, Q, w0, rfl, hx, hb, hml, hown, hts, hKF, hb0⟩ := hw
  exact fun H locs ls hP hD hS h => lv_lstore_n hx hb hd hi h hn hl (fun ls' h' => k H locs ls' hP hD hS h')
theorem r_lstore (hw : SyB l G b0 y cc nL rm w) {i : Nat} {x : Int64} (hd : decode cc pc = .ok (.lstore i, 2)) (hn : i + 1 < nL) (hl : (i, Value.long x) :: lv.filter (fun q => !(q.1 == i) && (!(q.1 == i + 1) && !(q.1 + 1 == i && q.2.category == 2))) = lv') (k : w cl sl (pc + 2) lv' rest K R M) : w cl sl pc lv (.long x :: rest) K R M := by
  obtain ⟨p, e, s, m, args, below, meth, c, Q, w0, rfl, hx, hb, hml, hown, hts, hKF, hb0⟩ := hw
  exact fun H locs ls hP hD hS h => lv_lstore hx hb hd h hn hl (fun ls' h' => k H locs ls' hP hD hS h')
theorem r_astore_n (hw : SyB l G b0 y cc nL rm w) {n : Fin 4} {i : Nat} {x : Nat} (hd : decode cc pc = .ok (.astore_n n, 1)) (hi : (n : Nat) = i) (hn : i < nL) (hl : (i, Value.ref x) :: lv.filter (fun q => !(q.1 == i) && !(q.1 + 1 == i && q.2.category == 2)) = lv') (k : w cl sl (pc + 1) lv' rest K R M) : w cl sl pc lv (.ref x :: rest) K R M := by
  obtain ⟨p, e, s, m, args, below, meth, c, Q, w0, rfl, hx, hb, hml, hown, hts, hKF, hb0⟩ := hw
  exact fun H locs ls hP hD hS h => lv_astore_n hx hb hd hi h hn hl (fun ls' h' => k H locs ls' hP hD hS h')
theorem r_astore (hw : SyB l G b0 y cc nL rm w) {i : Nat} {x : Nat} (hd : decode cc pc = .ok (.astore i, 2)) (hn : i < nL) (hl : (i, Value.ref x) :: lv.filter (fun q => !(q.1 == i) && !(q.1 + 1 == i && q.2.category == 2)) = lv') (k : w cl sl (pc + 2) lv' rest K R M) : w cl sl pc lv (.ref x :: rest) K R M := by
  obtain ⟨p, e, s, m, args, below, meth, c, Q, w0, rfl, hx, hb, hml, hown, hts, hKF, hb0⟩ := hw
  exact fun H locs ls hP hD hS h => lv_astore hx hb hd h hn hl (fun ls' h' => k H locs ls' hP hD hS h')
theorem r_iinc (hw : SyB l G b0 y cc nL rm w) {i j : Nat} {n : Int} {x v : Int32} (hd : decode cc pc = .ok (.iinc i n, 3)) (hj : lv[j]? = some (i, .int x)) (hv : x + Int32.ofInt n = v) (hn : i < nL) (hl : (i, Value.int v) :: lv.filter (fun q => !(q.1 == i) && !(q.1 + 1 == i && q.2.category == 2)) = lv') (k : w cl sl (pc + 3) lv' rest K R M) : w cl sl pc lv rest K R M := by
  obtain ⟨p, e, s, m, args, below, meth, c, Q, w0, rfl, hx, hb, hml, hown, hts, hKF, hb0⟩ := hw
  exact fun H locs ls hP hD hS h => lv_iinc hx hb hd h hj hv hn hl (fun ls' h' => k H locs ls' hP hD hS h')
theorem r_iadd (hw : SyB l G b0 y cc nL rm w) {x y' : Int32} (hd : decode cc pc = .ok (.iadd, 1)) (k : w cl sl (pc + 1) lv (.int (x + y') :: rest) K R M) : w cl sl pc lv (.int y' :: .int x :: rest) K R M := by
  obtain ⟨p, e, s, m, args, below, meth, c, Q, w0, rfl, hx, hb, hml, hown, hts, hKF, hb0⟩ := hw
  exact fun H locs ls hP hD hS h => lv_iadd hx hb hd (k H locs ls hP hD hS h)
theorem r_isub (hw : SyB l G b0 y cc nL rm w) {x y' : Int32} (hd : decode cc pc = .ok (.isub, 1)) (k : w cl sl (pc + 1) lv (.int (x - y') :: rest) K R M) : w cl sl pc lv (.int y' :: .int x :: rest) K R M := by
  obtain ⟨p, e, s, m, args, below, meth, c, Q, w0, rfl, hx, hb, hml, hown, hts, hKF, hb0⟩ := hw
  exact fun H locs ls hP hD hS h => lv_isub hx hb hd (k H locs ls hP hD hS h)
theorem r_imul (hw : SyB l G b0 y cc nL rm w) {x y' : Int32} (hd : decode cc pc = .ok (.imul, 1)) (k : w cl sl (pc + 1) lv (.int (x * y') :: rest) K R M) : w cl sl pc lv (.int y' :: .int x :: rest) K R M := by
  obtain ⟨p, e, s, m, args, below, meth, c, Q, w0, rfl, hx, hb, hml, hown, hts, hKF, hb0⟩ := hw
  exact fun H locs ls hP hD hS h => lv_imul hx hb hd (k H locs ls hP hD hS h)
theorem r_iand (hw : SyB l G b0 y cc nL rm w) {x y' : Int32} (hd : decode cc pc = .ok (.iand, 1)) (k : w cl sl (pc + 1) lv (.int (x &&& y') :: rest) K R M) : w cl sl pc lv (.int y' :: .int x :: rest) K R M := by
  obtain ⟨p, e, s, m, args, below, meth, c, Q, w0, rfl, hx, hb, hml, hown, hts, hKF, hb0⟩ := hw
  exact fun H locs ls hP hD hS h => lv_iand hx hb hd (k H locs ls hP hD hS h)
theorem r_ladd (hw : SyB l G b0 y cc nL rm w) {x y' : Int64} (hd : decode cc pc = .ok (.ladd, 1)) (k : w cl sl (pc + 1) lv (.long (x + y') :: rest) K R M) : w cl sl pc lv (.long y' :: .long x :: rest) K R M := by
  obtain ⟨p, e, s, m, args, below, meth, c, Q, w0, rfl, hx, hb, hml, hown, hts, hKF, hb0⟩ := hw
  exact fun H locs ls hP hD hS h => lv_ladd hx hb hd (k H locs ls hP hD hS h)
theorem r_lsub (hw : SyB l G b0 y cc nL rm w) {x y' : Int64} (hd : decode cc pc = .ok (.lsub, 1)) (k : w cl sl (pc + 1) lv (.long (x - y') :: rest) K R M) : w cl sl pc lv (.long y' :: .long x :: rest) K R M := by
  obtain ⟨p, e, s, m, args, below, meth, c, Q, w0, rfl, hx, hb, hml, hown, hts, hKF, hb0⟩ := hw
  exact fun H locs ls hP hD hS h => lv_lsub hx hb hd (k H locs ls hP hD hS h)
theorem r_lmul (hw : SyB l G b0 y cc nL rm w) {x y' : Int64} (hd : decode cc pc = .ok (.lmul, 1)) (k : w cl sl (pc + 1) lv (.long (x * y') :: rest) K R M) : w cl sl pc lv (.long y' :: .long x :: rest) K R M := by
  obtain ⟨p, e, s, m, args, below, meth, c, Q, w0, rfl, hx, hb, hml, hown, hts, hKF, hb0⟩ := hw
  exact fun H locs ls hP hD hS h => lv_lmul hx hb hd (k H locs ls hP hD hS h)
theorem r_idiv (hw : SyB l G b0 y cc nL rm w) {x y' : Int32} (hd : decode cc pc = .ok (.idiv, 1)) (hne : ¬ y' = 0) (k : w cl sl (pc + 1) lv (.int (x / y') :: rest) K R M) : w cl sl pc lv (.int y' :: .int x :: rest) K R M := by
  obtain ⟨p, e, s, m, args, below, meth, c, Q, w0, rfl, hx, hb, hml, hown, hts, hKF, hb0⟩ := hw
  exact fun H locs ls hP hD hS h => lv_idiv hx hb hd hne (k H locs ls hP hD hS h)
theorem r_irem (hw : SyB l G b0 y cc nL rm w) {x y' : Int32} (hd : decode cc pc = .ok (.irem, 1)) (hne : ¬ y' = 0) (k : w cl sl (pc + 1) lv (.int (x - x / y' * y') :: rest) K R M) : w cl sl pc lv (.int y' :: .int x :: rest) K R M := by
  obtain ⟨p, e, s, m, args, below, meth, c, Q, w0, rfl, hx, hb, hml, hown, hts, hKF, hb0⟩ := hw
  exact fun H locs ls hP hD hS h => lv_irem hx hb hd hne (k H locs ls hP hD hS h)
theorem r_ldiv (hw : SyB l G b0 y cc nL rm w) {x y' : Int64} (hd : decode cc pc = .ok (.ldiv, 1)) (hne : ¬ y' = 0) (k : w cl sl (pc + 1) lv (.long (x / y') :: rest) K R M) : w cl sl pc lv (.long y' :: .long x :: rest) K R M := by
  obtain ⟨p, e, s, m, args, below, meth, c, Q, w0, rfl, hx, hb, hml, hown, hts, hKF, hb0⟩ := hw
  exact fun H locs ls hP hD hS h => lv_ldiv hx hb hd hne (k H locs ls hP hD hS h)
theorem r_lrem (hw : SyB l G b0 y cc nL rm w) {x y' : Int64} (hd : decode cc pc = .ok (.lrem, 1)) (hne : ¬ y' = 0) (k : w cl sl (pc + 1) lv (.long (x - x / y' * y') :: rest) K R M) : w cl sl pc lv (.long y' :: .long x :: rest) K R M := by
  obtain ⟨p, e, s, m, args, below, meth, c, Q, w0, rfl, hx, hb, hml, hown, hts, hKF, hb0⟩ := hw
  exact fun H locs ls hP hD hS h => lv_lrem hx hb hd hne (k H locs ls hP hD hS h)
theorem r_ineg (hw : SyB l G b0 y cc nL rm w) {x : Int32} (hd : decode cc pc = .ok (.ineg, 1)) (k : w cl sl (pc + 1) lv (.int (-x) :: rest) K R M) : w cl sl pc lv (.int x :: rest) K R M := by
  obtain ⟨p, e, s, m, args, below, meth, c, Q, w0, rfl, hx, hb, hml, hown, hts, hKF, hb0⟩ := hw
  exact fun H locs ls hP hD hS h => lv_ineg hx hb hd (k H locs ls hP hD hS h)
theorem r_lneg (hw : SyB l G b0 y cc nL rm w) {x : Int64} (hd : decode cc pc = .ok (.lneg, 1)) (k : w cl sl (pc + 1) lv (.long (-x) :: rest) K R M) : w cl sl pc lv (.long x :: rest) K R M := by
  obtain ⟨p, e, s, m, args, below, meth, c, Q, w0, rfl, hx, hb, hml, hown, hts, hKF, hb0⟩ := hw
  exact fun H locs ls hP hD hS h => lv_lneg hx hb hd (k H locs ls hP hD hS h)
theorem r_i2l (hw : SyB l G b0 y cc nL rm w) {x : Int32} (hd : decode cc pc = .ok (.i2l, 1)) (k : w cl sl (pc + 1) lv (.long (x.toInt64) :: rest) K R M) : w cl sl pc lv (.int x :: rest) K R M := by
  obtain ⟨p, e, s, m, args, below, meth, c, Q, w0, rfl, hx, hb, hml, hown, hts, hKF, hb0⟩ := hw
  exact fun H locs ls hP hD hS h => lv_i2l hx hb hd rfl (k H locs ls hP hD hS h)
theorem r_l2i (hw : SyB l G b0 y cc nL rm w) {x : Int64} (hd : decode cc pc = .ok (.l2i, 1)) (k : w cl sl (pc + 1) lv (.int (x.toInt32) :: rest) K R M) : w cl sl pc lv (.long x :: rest) K R M := by
  obtain ⟨p, e, s, m, args, below, meth, c, Q, w0, rfl, hx, hb, hml, hown, hts, hKF, hb0⟩ := hw
  exact fun H locs ls hP hD hS h => lv_l2i hx hb hd rfl (k H locs ls hP hD hS h)
theorem r_dup (hw : SyB l G b0 y cc nL rm w) {v : Value} (hd : decode cc pc = .ok (.dup, 1)) (hv : v.category = 1) (k : w cl sl (pc + 1) lv (v :: v :: rest) K R M) : w cl sl pc lv (v :: rest) K R M := by
  obtain ⟨p, e, s, m, args, below, meth, c, Q, w0, rfl, hx, hb, hml, hown, hts, hKF, hb0⟩ := hw
  exact fun H locs ls hP hD hS h => lv_dup hx hb hd hv (k H locs ls hP hD hS h)
theorem r_dup2 (hw : SyB l G b0 y cc nL rm w) {v v2 : Value} (hd : decode cc pc = .ok (.dup2, 1)) (hv : v.category = 1) (hv2 : v2.category = 1) (k : w cl sl (pc + 1) lv (v :: v2 :: v :: v2 :: rest) K R M) : w cl sl pc lv (v :: v2 :: rest) K R M := by
  obtain ⟨p, e, s, m, args, below, meth, c, Q, w0, rfl, hx, hb, hml, hown, hts, hKF, hb0⟩ := hw
  exact fun H locs ls hP hD hS h => lv_dup2_11 hx hb hd hv hv2 (k H locs ls hP hD hS h)
theorem r_goto (hw : SyB l G b0 y cc nL rm w) {off : Int} {tgt : Nat} (hd : decode cc pc = .ok (.goto off, 3)) (ht : (pc : Int) + off = (tgt : Int)) (k : w cl sl tgt lv rest K R M) : w cl sl pc lv rest K R M := by
  obtain ⟨p, e, s, m, args, below, meth, c, Q, w0, rfl, hx, hb, hml, hown, hts, hKF, hb0⟩ := hw
  exact fun H locs ls hP hD hS h => lv_goto hx hb hd ht (k H locs ls hP hD hS h)
theorem r_if_eq (hw : SyB l G b0 y cc nL rm w) {x : Int32} {off : Int} {tgt : Nat} (hd : decode cc pc = .ok (.ifCond .eq off, 3)) (ht : (pc : Int) + off = (tgt : Int)) (kt : x = 0 → w cl sl tgt lv rest K R M) (kf : ¬ x = 0 → w cl sl (pc + 3) lv rest K R M) : w cl sl pc lv (.int x :: rest) K R M := by
  obtain ⟨p, e, s, m, args, below, meth, c, Q, w0, rfl, hx, hb, hml, hown, hts, hKF, hb0⟩ := hw
  exact fun H locs ls hP hD hS h => lv_if_eq hx hb hd ht (fun q => kt (q) H locs ls hP hD hS h) (fun q => kf (q) H locs ls hP hD hS h)
theorem r_if_ne (hw : SyB l G b0 y cc nL rm w) {x : Int32} {off : Int} {tgt : Nat} (hd : decode cc pc = .ok (.ifCond .ne off, 3)) (ht : (pc : Int) + off = (tgt : Int)) (kt : ¬ x = 0 → w cl sl tgt lv rest K R M) (kf : x = 0 → w cl sl (pc + 3) lv rest K R M) : w cl sl pc lv (.int x :: rest) K R M := by
  obtain ⟨p, e, s, m, args, below, meth, c, Q, w0, rfl, hx, hb, hml, hown, hts, hKF, hb0⟩ := hw
  exact fun H locs ls hP hD hS h => lv_if_ne hx hb hd ht (fun q => kt (q) H locs ls hP hD hS h) (fun q => kf (q) H locs ls hP hD hS h)
theorem r_if_lt (hw : SyB l G b0 y cc nL rm w) {x : Int32} {off : Int} {tgt : Nat} (hd : decode cc pc = .ok (.ifCond .lt off, 3)) (ht : (pc : Int) + off = (tgt : Int)) (kt : x < 0 → w cl sl tgt lv rest K R M) (kf : ¬ x < 0 → w cl sl (pc + 3) lv rest K R M) : w cl sl pc lv (.int x :: rest) K R M := by
  obtain ⟨p, e, s, m, args, below, meth, c, Q, w0, rfl, hx, hb, hml, hown, hts, hKF, hb0⟩ := hw
  exact fun H locs ls hP hD hS h => lv_if_lt hx hb hd ht (fun q => kt (q) H locs ls hP hD hS h) (fun q => kf (q) H locs ls hP hD hS h)
theorem r_if_ge (hw : SyB l G b0 y cc nL rm w) {x : Int32} {off : Int} {tgt : Nat} (hd : decode cc pc = .ok (.ifCond .ge off, 3)) (ht : (pc : Int) + off = (tgt : Int)) (kt : ¬ x < 0 → w cl sl tgt lv rest K R M) (kf : x < 0 → w cl sl (pc + 3) lv rest K R M) : w cl sl pc lv (.int x :: rest) K R M := by
  obtain ⟨p, e, s, m, args, below, meth, c, Q, w0, rfl, hx, hb, hml, hown, hts, hKF, hb0⟩ := hw
  exact fun H locs ls hP hD hS h => lv_if_ge hx hb hd ht (fun q => kt (Int32.not_lt.mpr q) H locs ls hP hD hS h) (fun q => kf (Int32.not_le.mp q) H locs ls hP hD hS h)
theorem r_if_gt (hw : SyB l G b0 y cc nL rm w) {x : Int32} {off : Int} {tgt : Nat} (hd : decode cc pc = .ok (.ifCond .gt off, 3)) (ht : (pc : Int) + off = (tgt : Int)) (kt : ¬ x ≤ 0 → w cl sl tgt lv rest K R M) (kf : x ≤ 0 → w cl sl (pc + 3) lv rest K R M) : w cl sl pc lv (.int x :: rest) K R M := by
  obtain ⟨p, e, s, m, args, below, meth, c, Q, w0, rfl, hx, hb, hml, hown, hts, hKF, hb0⟩ := hw
  exact fun H locs ls hP hD hS h => lv_if_gt hx hb hd ht (fun q => kt (Int32.not_le.mpr q) H locs ls hP hD hS h) (fun q => kf (Int32.not_lt.mp q) H locs ls hP hD hS h)
theorem r_if_le (hw : SyB l G b0 y cc nL rm w) {x : Int32} {off : Int} {tgt : Nat} (hd : decode cc pc = .ok (.ifCond .le off, 3)) (ht : (pc : Int) + off = (tgt : Int)) (kt : x ≤ 0 → w cl sl tgt lv rest K R M) (kf : ¬ x ≤ 0 → w cl sl (pc + 3) lv rest K R M) : w cl sl pc lv (.int x :: rest) K R M := by
  obtain ⟨p, e, s, m, args, below, meth, c, Q, w0, rfl, hx, hb, hml, hown, hts, hKF, hb0⟩ := hw
  exact fun H locs ls hP hD hS h => lv_if_le hx hb hd ht (fun q => kt (q) H locs ls hP hD hS h) (fun q => kf (q) H locs ls hP hD hS h)
theorem r_icmp_eq (hw : SyB l G b0 y cc nL rm w) {x y' : Int32} {off : Int} {tgt : Nat} (hd : decode cc pc = .ok (.if_icmp .eq off, 3)) (ht : (pc : Int) + off = (tgt : Int)) (kt : x = y' → w cl sl tgt lv rest K R M) (kf : ¬ x = y' → w cl sl (pc + 3) lv rest K R M) : w cl sl pc lv (.int y' :: .int x :: rest) K R M := by
  obtain ⟨p, e, s, m, args, below, meth, c, Q, w0, rfl, hx, hb, hml, hown, hts, hKF, hb0⟩ := hw
  exact fun H locs ls hP hD hS h => lv_icmp_eq hx hb hd ht (fun q => kt (q) H locs ls hP hD hS h) (fun q => kf (q) H locs ls hP hD hS h)
theorem r_icmp_ne (hw : SyB l G b0 y cc nL rm w) {x y' : Int32} {off : Int} {tgt : Nat} (hd : decode cc pc = .ok (.if_icmp .ne off, 3)) (ht : (pc : Int) + off = (tgt : Int)) (kt : ¬ x = y' → w cl sl tgt lv rest K R M) (kf : x = y' → w cl sl (pc + 3) lv rest K R M) : w cl sl pc lv (.int y' :: .int x :: rest) K R M := by
  obtain ⟨p, e, s, m, args, below, meth, c, Q, w0, rfl, hx, hb, hml, hown, hts, hKF, hb0⟩ := hw
  exact fun H locs ls hP hD hS h => lv_icmp_ne hx hb hd ht (fun q => kt (q) H locs ls hP hD hS h) (fun q => kf (q) H locs ls hP hD hS h)
theorem r_icmp_lt (hw : SyB l G b0 y cc nL rm w) {x y' : Int32} {off : Int} {tgt : Nat} (hd : decode cc pc = .ok (.if_icmp .lt off, 3)) (ht : (pc : Int) + off = (tgt : Int)) (kt : x < y' → w cl sl tgt lv rest K R M) (kf : ¬ x < y' → w cl sl (pc + 3) lv rest K R M) : w cl sl pc lv (.int y' :: .int x :: rest) K R M := by
  obtain ⟨p, e, s, m, args, below, meth, c, Q, w0, rfl, hx, hb, hml, hown, hts, hKF, hb0⟩ := hw
  exact fun H locs ls hP hD hS h => lv_icmp_lt hx hb hd ht (fun q => kt (q) H locs ls hP hD hS h) (fun q => kf (q) H locs ls hP hD hS h)
theorem r_icmp_ge (hw : SyB l G b0 y cc nL rm w) {x y' : Int32} {off : Int} {tgt : Nat} (hd : decode cc pc = .ok (.if_icmp .ge off, 3)) (ht : (pc : Int) + off = (tgt : Int)) (kt : ¬ x < y' → w cl sl tgt lv rest K R M) (kf : x < y' → w cl sl (pc + 3) lv rest K R M) : w cl sl pc lv (.int y' :: .int x :: rest) K R M := by
  obtain ⟨p, e, s, m, args, below, meth, c, Q, w0, rfl, hx, hb, hml, hown, hts, hKF, hb0⟩ := hw
  exact fun H locs ls hP hD hS h => lv_icmp_ge hx hb hd ht (fun q => kt (Int32.not_lt.mpr q) H locs ls hP hD hS h) (fun q => kf (Int32.not_le.mp q) H locs ls hP hD hS h)
theorem r_icmp_gt (hw : SyB l G b0 y cc nL rm w) {x y' : Int32} {off : Int} {tgt : Nat} (hd : decode cc pc = .ok (.if_icmp .gt off, 3)) (ht : (pc : Int) + off = (tgt : Int)) (kt : ¬ x ≤ y' → w cl sl tgt lv rest K R M) (kf : x ≤ y' → w cl sl (pc + 3) lv rest K R M) : w cl sl pc lv (.int y' :: .int x :: rest) K R M := by
  obtain ⟨p, e, s, m, args, below, meth, c, Q, w0, rfl, hx, hb, hml, hown, hts, hKF, hb0⟩ := hw
  exact fun H locs ls hP hD hS h => lv_icmp_gt hx hb hd ht (fun q => kt (Int32.not_le.mpr q) H locs ls hP hD hS h) (fun q => kf (Int32.not_lt.mp q) H locs ls hP hD hS h)
theorem r_icmp_le (hw : SyB l G b0 y cc nL rm w) {x y' : Int32} {off : Int} {tgt : Nat} (hd : decode cc pc = .ok (.if_icmp .le off, 3)) (ht : (pc : Int) + off = (tgt : Int)) (kt : x ≤ y' → w cl sl tgt lv rest K R M) (kf : ¬ x ≤ y' → w cl sl (pc + 3) lv rest K R M) : w cl sl pc lv (.int y' :: .int x :: rest) K R M := by
  obtain ⟨p, e, s, m, args, below, meth, c, Q, w0, rfl, hx, hb, hml, hown, hts, hKF, hb0⟩ := hw
  exact fun H locs ls hP hD hS h => lv_icmp_le hx hb hd ht (fun q => kt (q) H locs ls hP hD hS h) (fun q => kf (q) H locs ls hP hD hS h)
theorem r_lcmp_eq (hw : SyB l G b0 y cc nL rm w) {x y' : Int64} {off : Int} {tgt : Nat} (hd0 : decode cc pc = .ok (.lcmp, 1)) (hd : decode cc (pc + 1) = .ok (.ifCond .eq off, 3)) (ht : ((pc + 1 : Nat) : Int) + off = (tgt : Int)) (kt : x = y' → w cl sl tgt lv rest K R M) (kf : ¬ x = y' → w cl sl (pc + 1 + 3) lv rest K R M) : w cl sl pc lv (.long y' :: .long x :: rest) K R M := by
  obtain ⟨p, e, s, m, args, below, meth, c, Q, w0, rfl, hx, hb, hml, hown, hts, hKF, hb0⟩ := hw
  exact fun H locs ls hP hD hS h => W.lcmp hx hb hd0 (lv_if_eq hx hb hd ht (fun q => kt ((lg_cmp_eq x y').mp q) H locs ls hP hD hS h) (fun q => kf (fun z => q ((lg_cmp_eq x y').mpr z)) H locs ls hP hD hS h))
theorem r_lcmp_ne (hw : SyB l G b0 y cc nL rm w) {x y' : Int64} {off : Int} {tgt : Nat} (hd0 : decode cc pc = .ok (.lcmp, 1)) (hd : decode cc (pc + 1) = .ok (.ifCond .ne off, 3)) (ht : ((pc + 1 : Nat) : Int) + off = (tgt : Int)) (kt : ¬ x = y' → w cl sl tgt lv rest K R M) (kf : x = y' → w cl sl (pc + 1 + 3) lv rest K R M) : w cl sl pc lv (.long y' :: .long x :: rest) K R M := by
  obtain ⟨p, e, s, m, args, below, meth, c, Q, w0, rfl, hx, hb, hml, hown, hts, hKF, hb0⟩ := hw
  exact fun H locs ls hP hD hS h => W.lcmp hx hb hd0 (lv_if_ne hx hb hd ht (fun q => kt (fun z => q ((lg_cmp_eq x y').mpr z)) H locs ls hP hD hS h) (fun q => kf ((lg_cmp_eq x y').mp q) H locs ls hP hD hS h))
theorem r_lcmp_lt (hw : SyB l G b0 y cc nL rm w) {x y' : Int64} {off : Int} {tgt : Nat} (hd0 : decode cc pc = .ok (.lcmp, 1)) (hd : decode cc (pc + 1) = .ok (.ifCond .lt off, 3)) (ht : ((pc + 1 : Nat) : Int) + off = (tgt : Int)) (kt : x < y' → w cl sl tgt lv rest K R M) (kf : ¬ x < y' → w cl sl (pc + 1 + 3) lv rest K R M) : w cl sl pc lv (.long y' :: .long x :: rest) K R M := by
  obtain ⟨p, e, s, m, args, below, meth, c, Q, w0, rfl, hx, hb, hml, hown, hts, hKF, hb0⟩ := hw
  exact fun H locs ls hP hD hS h => W.lcmp hx hb hd0 (lv_if_lt hx hb hd ht (fun q => kt ((lg_cmp_lt x y').mp q) H locs ls hP hD hS h) (fun q => kf (fun z => q ((lg_cmp_lt x y').mpr z)) H locs ls hP hD hS h))
theorem r_lcmp_ge (hw : SyB l G b0 y cc nL rm w) {x y' : Int64} {off : Int} {tgt : Nat} (hd0 : decode cc pc = .ok (.lcmp, 1)) (hd : decode cc (pc + 1) = .ok (.ifCond .ge off, 3)) (ht : ((pc + 1 : Nat) : Int) + off = (tgt : Int)) (kt : ¬ x < y' → w cl sl tgt lv rest K R M) (kf : x < y' → w cl sl (pc + 1 + 3) lv rest K R M) : w cl sl pc lv (.long y' :: .long x :: rest) K R M := by
  obtain ⟨p, e, s, m, args, below, meth, c, Q, w0, rfl, hx, hb, hml, hown, hts, hKF, hb0⟩ := hw
  exact fun H locs ls hP hD hS h => W.lcmp hx hb hd0 (lv_if_ge hx hb hd ht (fun q => kt (fun z => Int32.not_lt.mpr q ((lg_cmp_lt x y').mpr z)) H locs ls hP hD hS h) (fun q => kf ((lg_cmp_lt x y').mp (Int32.not_le.mp q)) H locs ls hP hD hS h))
theorem r_lcmp_gt (hw : SyB l G b0 y cc nL rm w) {x y' : Int64} {off : Int} {tgt : Nat} (hd0 : decode cc pc = .ok (.lcmp, 1)) (hd : decode cc (pc + 1) = .ok (.ifCond .gt off, 3)) (ht : ((pc + 1 : Nat) : Int) + off = (tgt : Int)) (kt : ¬ x ≤ y' → w cl sl tgt lv rest K R M) (kf : x ≤ y' → w cl sl (pc + 1 + 3) lv rest K R M) : w cl sl pc lv (.long y' :: .long x :: rest) K R M := by
  obtain ⟨p, e, s, m, args, below, meth, c, Q, w0, rfl, hx, hb, hml, hown, hts, hKF, hb0⟩ := hw
  exact fun H locs ls hP hD hS h => W.lcmp hx hb hd0 (lv_if_gt hx hb hd ht (fun q => kt (fun z => Int32.not_le.mpr q ((lg_cmp_le x y').mpr z)) H locs ls hP hD hS h) (fun q => kf ((lg_cmp_le x y').mp (Int32.not_lt.mp q)) H locs ls hP hD hS h))
theorem r_lcmp_le (hw : SyB l G b0 y cc nL rm w) {x y' : Int64} {off : Int} {tgt : Nat} (hd0 : decode cc pc = .ok (.lcmp, 1)) (hd : decode cc (pc + 1) = .ok (.ifCond .le off, 3)) (ht : ((pc + 1 : Nat) : Int) + off = (tgt : Int)) (kt : x ≤ y' → w cl sl tgt lv rest K R M) (kf : ¬ x ≤ y' → w cl sl (pc + 1 + 3) lv rest K R M) : w cl sl pc lv (.long y' :: .long x :: rest) K R M := by
  obtain ⟨p, e, s, m, args, below, meth, c, Q, w0, rfl, hx, hb, hml, hown, hts, hKF, hb0⟩ := hw
  exact fun H locs ls hP hD hS h => W.lcmp hx hb hd0 (lv_if_le hx hb hd ht (fun q => kt ((lg_cmp_le x y').mp q) H locs ls hP hD hS h) (fun q => kf (fun z => q ((lg_cmp_le x y').mpr z)) H locs ls hP hD hS h))
theorem wd_get {a : Nat} (h : a ∈ K.1) : ∃ k : Nat, (wd G K R M)[k]? = some (a, ce G R M a (K.2 a)) := by
  have := va_pl_get (X := []) (f := fun a => ce G R M a (K.2 a)) h
  simpa [wd] using this
theorem wd_set {A : Nat → Prop} {a k : Nat} {e : va_E} {R2 : Rr} {M2 : Mm} (hD : va_D A (wd G K R M)) (h : a ∈ K.1) (hk : (wd G K R M)[k]? = some (a, ce G R M a (K.2 a))) (he : ce G R2 M2 a (K.2 a) = e) (ho : ∀ b, b ≠ a → ce G R2 M2 b (K.2 b) = ce G R M b (K.2 b)) : (wd G K R M).set k (a, e) = wd G K R2 M2 := by
  have h1 := va_pl_set (X := []) (f := fun a => ce G R M a (K.2 a)) (e := e) (by simpa [wd] using hD) h (by simpa [wd] using hk)
  have h2 : (wd G K R M).set k (a, e) = va_pl K.1 (va_up (fun a => ce G R M a (K.2 a)) a e) := by simpa [wd] using h1
  rw [h2]
  refine va_pl_congr fun b => ?_
  by_cases hb : b = a
  · subst hb
    rw [va_up_self]; exact he.symm
  · rw [va_up_ne _ _ hb]; exact (ho b hb).symm
theorem u2_ne {α : Type} {f : Nat → Nat → α} {a k b : Nat} {v : α} (h : b ≠ a) : u2 f a k v b = f b := by
  funext j
  simp [u2, h]
theorem u2_at {α : Type} {f : Nat → Nat → α} {a k j : Nat} {v : α} : u2 f a k v a j = if j = k then v else f a j := by simp [u2]
theorem fl_get {R : Rr} {M : Mm} {a c k t : Nat} (h : (tyl c)[k]? = some t) : (fl R M a c)[k]? = some (fv R M a k t) := by
  simp [fl, h]
theorem fl_len {R : Rr} {M : Mm} {a c : Nat} : (fl R M a c).length = (tyl c).length := by simp [fl]
theorem fl_set {R R2 : Rr} {M M2 : Mm} {a c k t : Nat} {v : Value} (h : (tyl c)[k]? = some t) (hv : fv R2 M2 a k t = v) (ho : ∀ j t', j ≠ k → fv R2 M2 a j t' = fv R M a j t') : fl R2 M2 a c = (fl R M a c).set k v := by
  apply List.ext_getElem?
  intro j
  have hk : k < (tyl c).length := (List.getElem?_eq_some_iff.mp h).1
  by_cases hj : j = k
  · subst hj
    rw [List.getElem?_set_self (by rw [fl_len]; exact hk), fl_get h, hv]
  · rw [List.getElem?_set_ne (Ne.symm hj)]
    cases ht : (tyl c)[j]? with
    | none => simp [fl, ht]
    | some t' => rw [fl_get ht, fl_get ht, ho j t' hj]
theorem ce_ne {R R2 : Rr} {M M2 : Mm} {b : Nat} {sh : Nat ⊕ (Nat × Nat)} (h1 : M2.1 b = M.1 b) (h2 : M2.2 b = M.2 b) (h3 : R2 b = R b) : ce G R2 M2 b sh = ce G R M b sh := by
  have hv : ∀ k t, fv R2 M2 b k t = fv R M b k t := by
    intro k t
    match t with
    | 0 => simp [fv, h1]
    | 1 => simp [fv, h2]
    | t + 2 => simp [fv, h3]
  match sh with
  | .inl c => simp [ce, fl, hv]
  | .inr (0, n) => simp [ce, h1]
  | .inr (1, n) => simp [ce, h2]
  | .inr (2, n) => simp [ce, h1]
  | .inr (t + 3, n) => simp [ce, h3]
theorem ce_o {a c : Nat} {R : Rr} {M : Mm} (h : K.2 a = .inl c) : ce G R M a (K.2 a) = .inr (c, fl R M a c) := by rw [h]; rfl
/-- the tables of a class -/
def CO (c : Nat) (C : String) (T : u_T) (N : Nat) : Prop := vwCl[c]? = some (C, T, N) ∧ (∀ x ∈ u_ws C T N, x ∈ ws0) ∧ (∃ tf : Nat → FieldType, ∀ k, k < N → parseFieldDescriptor (T k).2.2.1 = some (tf k)) ∧ (∀ a, a < N → ∀ b, b < N → a ≠ b → (T a).2.1 ≠ (T b).2.1) ∧ N = (tyl c).length
/-- a field's entry of a class's pool: class c, slot k, type t -/
def FO (own : String) (idx c k t : Nat) : Prop := ∃ (C : String) (T : u_T) (N : Nat), CO c C T N ∧ k < N ∧ (tyl c)[k]? = some t ∧ Cond.fieldLink own idx (T k).1 (T k).2.1 (T k).2.2.1 ∈ ws0
/-- of one that is written: not final, its type -/
def FP (own : String) (idx c k t : Nat) (ty : FieldType) : Prop := ∃ (C : String) (T : u_T) (N : Nat), CO c C T N ∧ k < N ∧ (tyl c)[k]? = some t ∧ Cond.fieldLink own idx (T k).1 (T k).2.1 (T k).2.2.1 ∈ ws0 ∧ (T k).2.2.2 = false ∧ parseFieldDescriptor (T k).2.2.1 = some ty
theorem r_get (hw : SyB l G b0 y cc nL rm w) {idx c k t a : Nat} (hF : FO y.cls idx c k t) (ho : isO K a c) (hd : decode cc pc = .ok (.getfield idx, 3)) (kk : w cl sl (pc + 3) lv (fv R M a k t :: rest) K R M) : w cl sl pc lv (.ref a :: rest) K R M := by
  obtain ⟨p, e, s, m, args, below, meth, cod, Q, w0, rfl, hx, hb, hml, hown, hts, hKF, hb0⟩ := hw
  obtain ⟨C, T, N, ⟨h1, h2, h3, h4, h5⟩, hk, ht, hl⟩ := hF
  intro H locs ls hP hD hS h
  obtain ⟨q0, he⟩ := wd_get (G := G) (R := R) (M := M) ho.1
  rw [ce_o ho.2] at he
  exact va_get hx hb (Ts := w0 :: ws0) hts (fun x hx => List.mem_cons_of_mem _ (h2 x hx)) hown hKF.1 hP q0 he h1 k hk (hts _ (List.mem_cons_of_mem _ hl)) (fun x hx => hx) (fl_get ht) hd (kk H locs ls hP hD hS h)
theorem r_getI (hw : SyB l G b0 y cc nL rm w) {idx c k a : Nat} (hF : FO y.cls idx c k 0) (ho : isO K a c) (hd : decode cc pc = .ok (.getfield idx, 3)) (kk : w cl sl (pc + 3) lv (.int (M.1 a k) :: rest) K R M) : w cl sl pc lv (.ref a :: rest) K R M := r_get hw hF ho hd kk
theorem r_getL (hw : SyB l G b0 y cc nL rm w) {idx c k a : Nat} (hF : FO y.cls idx c k 1) (ho : isO K a c) (hd : decode cc pc = .ok (.getfield idx, 3)) (kk : w cl sl (pc + 3) lv (.long (M.2 a k) :: rest) K R M) : w cl sl pc lv (.ref a :: rest) K R M := r_get hw hF ho hd kk
theorem r_getR (hw : SyB l G b0 y cc nL rm w) {idx c k a b : Nat} (hF : FO y.cls idx c k 2) (ho : isO K a c) (hb : R a k = some b) (hd : decode cc pc = .ok (.getfield idx, 3)) (kk : w cl sl (pc + 3) lv (.ref b :: rest) K R M) : w cl sl pc lv (.ref a :: rest) K R M := r_get hw hF ho hd (by show w _ _ _ _ (va_rf (R a k) :: rest) _ _ _; rw [hb]; exact kk)
theorem r_put (hw : SyB l G b0 y cc nL rm w) {idx c k t a : Nat} {ty : FieldType} {v : Value} {R2 : Rr} {M2 : Mm} (hF : FP y.cls idx c k t ty) (ho : isO K a c) (hn : narrow ty v = v) (hf : fits ty v = true) (hv : fv R2 M2 a k t = v) (hoth : ∀ j t', j ≠ k → fv R2 M2 a j t' = fv R M a j t') (hrest : ∀ b, b ≠ a → M2.1 b = M.1 b ∧ M2.2 b = M.2 b ∧ R2 b = R b)
    (hd : decode cc pc = .ok (.putfield idx, 3)) (kk : w cl sl (pc + 3) lv rest K R2 M2) : w cl sl pc lv (v :: .ref a :: rest) K R M := by
  obtain ⟨p, e, s, m, args, below, meth, cod, Q, w0, rfl, hx, hb, hml, hown, hts, hKF, hb0⟩ := hw
  obtain ⟨C, T, N, ⟨h1, h2, ⟨tf, h3⟩, h4, h5⟩, hk, ht, hl, hfin, hpd⟩ := hF
  intro H locs ls hP hD hS h
  obtain ⟨q0, he⟩ := wd_get (G := G) (R := R) (M := M) ho.1
  have he' := he
  rw [ce_o ho.2] at he'
  have hset : (wd G K R M).set q0 (a, .inr (c, (fl R M a c).set k v)) = wd G K R2 M2 := by
    refine wd_set hD ho.1 he ?_ (fun b hb => ce_ne (hrest b hb).1 (hrest b hb).2.1 (hrest b hb).2.2)
    rw [ce_o ho.2, fl_set ht hv hoth]
  refine va_put hx hb (Ts := w0 :: ws0) hts (fun x hx => List.mem_cons_of_mem _ (h2 x hx)) tf h3 h4 hown hKF.1 hP hD hS q0 he' h1 k hk (hts _ (List.mem_cons_of_mem _ hl)) (fun x hx => hx) hfin hpd hn hf (by rw [fl_len, ← h5]; exact hk) hd (fun H1 locs1 hP1 hD1 hS1 => ?_)
  rw [hset] at hP1 hD1
  exact kk H1 locs1 ls hP1 hD1 hS1 h
theorem fv_pI_o {a k j t' : Nat} {v : Int32} (hj : j ≠ k) : fv R (pI M a k v) a j t' = fv R M a j t' := by
  match t' with
  | 0 => simp [fv, pI, u2, hj]
  | 1 => rfl
  | t + 2 => rfl
theorem fv_pL_o {a k j t' : Nat} {v : Int64} (hj : j ≠ k) : fv R (pL M a k v) a j t' = fv R M a j t' := by
  match t' with
  | 0 => rfl
  | 1 => simp [fv, pL, u2, hj]
  | t + 2 => rfl
theorem fv_pR_o {a k j t' : Nat} {v : Option Nat} (hj : j ≠ k) : fv (pR R a k v) M a j t' = fv R M a j t' := by
  match t' with
  | 0 => rfl
  | 1 => rfl
  | t + 2 => simp [fv, pR, u2, hj]
theorem r_putI (hw : SyB l G b0 y cc nL rm w) {idx c k a : Nat} {v : Int32} (hF : FP y.cls idx c k 0 .int) (ho : isO K a c) (hd : decode cc pc = .ok (.putfield idx, 3)) (kk : w cl sl (pc + 3) lv rest K R (pI M a k v)) : w cl sl pc lv (.int v :: .ref a :: rest) K R M :=
  r_put hw hF ho rfl rfl (by simp [fv, pI, u2]) (fun j t' hj => fv_pI_o hj) (fun b hb => ⟨by simp [pI, u2_ne hb], rfl, rfl⟩) hd kk
/-- a boolean's two values -/
def isB (v : Int32) : Prop := narrow .boolean (.int v) = .int v ∧ fits .boolean (.int v) = true
theorem isB_0 : isB 0 := ⟨by decide +kernel, by decide +kernel⟩
theorem isB_1 : isB 1 := ⟨by decide +kernel, by decide +kernel⟩
theorem r_putZ (hw : SyB l G b0 y cc nL rm w) {idx c k a : Nat} {v : Int32} (hF : FP y.cls idx c k 0 .boolean) (ho : isO K a c) (hv : isB v) (hd : decode cc pc = .ok (.putfield idx, 3)) (kk : w cl sl (pc + 3) lv rest K R (pI M a k v)) : w cl sl pc lv (.int v :: .ref a :: rest) K R M :=
  r_put hw hF ho hv.1 hv.2 (by simp [fv, pI, u2]) (fun j t' hj => fv_pI_o hj) (fun b hb => ⟨by simp [pI, u2_ne hb], rfl, rfl⟩) hd kk
theorem r_putL (hw : SyB l G b0 y cc nL rm w) {idx c k a : Nat} {v : Int64} (hF : FP y.cls idx c k 1 .long) (ho : isO K a c) (hd : decode cc pc = .ok (.putfield idx, 3)) (kk : w cl sl (pc + 3) lv rest K R (pL M a k v)) : w cl sl pc lv (.long v :: .ref a :: rest) K R M :=
  r_put hw hF ho rfl rfl (by simp [fv, pL, u2]) (fun j t' hj => fv_pL_o hj) (fun b hb => ⟨rfl, by simp [pL, u2_ne hb], rfl⟩) hd kk
theorem r_putR (hw : SyB l G b0 y cc nL rm w) {idx c k a b : Nat} {C : String} (hF : FP y.cls idx c k 2 (.object C)) (ho : isO K a c) (hd : decode cc pc = .ok (.putfield idx, 3)) (kk : w cl sl (pc + 3) lv rest K (pR R a k (some b)) M) : w cl sl pc lv (.ref b :: .ref a :: rest) K R M :=
  r_put hw hF ho rfl rfl (by simp [fv, pR, u2, va_rf]) (fun j t' hj => fv_pR_o hj) (fun b hb => ⟨rfl, rfl, by simp [pR, u2_ne hb]⟩) hd kk
theorem r_iaload (hw : SyB l G b0 y cc nL rm w) {a : Nat} {i : Int32} (hi : ixA K a 0 i) (hd : decode cc pc = .ok (.iaload, 1)) (kk : w cl sl (pc + 1) lv (.int (M.1 a i.toNatClampNeg) :: rest) K R M) : w cl sl pc lv (.int i :: .ref a :: rest) K R M := by
  obtain ⟨p, e, s, m, args, below, meth, cod, Q, w0, rfl, hx, hb, hml, hown, hts, hKF, hb0⟩ := hw
  obtain ⟨n, ⟨h1, h2⟩, h3⟩ := hi
  intro H locs ls hP hD hS h
  obtain ⟨q0, he⟩ := wd_get (G := G) (R := R) (M := M) h1
  rw [h2] at he
  exact va_iald hx hb hKF.1 hP q0 0 he rfl h3 hd (kk H locs ls hP hD hS h)
theorem r_baload (hw : SyB l G b0 y cc nL rm w) {a : Nat} {i : Int32} (hi : ixA K a 2 i) (hd : decode cc pc = .ok (.baload, 1)) (kk : w cl sl (pc + 1) lv (.int (M.1 a i.toNatClampNeg) :: rest) K R M) : w cl sl pc lv (.int i :: .ref a :: rest) K R M := by
  obtain ⟨p, e, s, m, args, below, meth, cod, Q, w0, rfl, hx, hb, hml, hown, hts, hKF, hb0⟩ := hw
  obtain ⟨n, ⟨h1, h2⟩, h3⟩ := hi
  intro H locs ls hP hD hS h
  obtain ⟨q0, he⟩ := wd_get (G := G) (R := R) (M := M) h1
  rw [h2] at he
  exact va_zald hx hb hKF.1 hP q0 2 he rfl h3 hd (kk H locs ls hP hD hS h)
theorem r_laload (hw : SyB l G b0 y cc nL rm w) {a : Nat} {i : Int32} (hi : ixA K a 1 i) (hd : decode cc pc = .ok (.laload, 1)) (kk : w cl sl (pc + 1) lv (.long (M.2 a i.toNatClampNeg) :: rest) K R M) : w cl sl pc lv (.int i :: .ref a :: rest) K R M := by
  obtain ⟨p, e, s, m, args, below, meth, cod, Q, w0, rfl, hx, hb, hml, hown, hts, hKF, hb0⟩ := hw
  obtain ⟨n, ⟨h1, h2⟩, h3⟩ := hi
  intro H locs ls hP hD hS h
  obtain ⟨q0, he⟩ := wd_get (G := G) (R := R) (M := M) h1
  rw [h2] at he
  exact va_lald hx hb hKF.1 hP q0 1 he rfl h3 hd (kk H locs ls hP hD hS h)
theorem r_aaload (hw : SyB l G b0 y cc nL rm w) {a b : Nat} {i : Int32} (t : Nat) (ht : t < 3) (hi : ixA K a (t + 3) i) (hb : R a i.toNatClampNeg = some b) (hd : decode cc pc = .ok (.aaload, 1)) (kk : w cl sl (pc + 1) lv (.ref b :: rest) K R M) : w cl sl pc lv (.int i :: .ref a :: rest) K R M := by
  obtain ⟨p, e, s, m, args, below, meth, cod, Q, w0, rfl, hx, hbc, hml, hown, hts, hKF, hb0⟩ := hw
  obtain ⟨n, ⟨h1, h2⟩, h3⟩ := hi
  intro H locs ls hP hD hS h
  obtain ⟨q0, he⟩ := wd_get (G := G) (R := R) (M := M) h1
  rw [h2] at he
  have kk2 := kk H locs ls hP hD hS h
  rw [show (Value.ref b) = va_rf (R a i.toNatClampNeg) by rw [hb]; rfl] at kk2
  match t, ht, he with
  | 0, _, he => exact va_aldq hx hbc hKF.1 hP q0 3 he rfl h3 hd kk2
  | 1, _, he => exact va_aldq hx hbc hKF.1 hP q0 4 he rfl h3 hd kk2
  | 2, _, he => exact va_aldq hx hbc hKF.1 hP q0 5 he rfl h3 hd kk2
theorem upd_u2 {f : Nat → Nat → Int32} {a k : Nat} {v : Int32} : u2 f a k v a = upd (f a) k v := by
  funext j; simp [u2, upd]
theorem updL_u2 {f : Nat → Nat → Int64} {a k : Nat} {v : Int64} : u2 f a k v a = vp_updL (f a) k v := by
  funext j; simp [u2, vp_updL]
theorem updR_u2 {f : Nat → Nat → Option Nat} {a k : Nat} {v : Option Nat} : u2 f a k v a = va_up (f a) k v := by
  funext j; simp [u2, va_up]
theorem r_iastore (hw : SyB l G b0 y cc nL rm w) {a : Nat} {i v : Int32} (hi : ixA K a 0 i) (hd : decode cc pc = .ok (.iastore, 1)) (kk : w cl sl (pc + 1) lv rest K R (pI M a i.toNatClampNeg v)) : w cl sl pc lv (.int v :: .int i :: .ref a :: rest) K R M := by
  obtain ⟨p, e, s, m, args, below, meth, cod, Q, w0, rfl, hx, hb, hml, hown, hts, hKF, hb0⟩ := hw
  obtain ⟨n, ⟨h1, h2⟩, h3⟩ := hi
  intro H locs ls hP hD hS h
  obtain ⟨q0, he⟩ := wd_get (G := G) (R := R) (M := M) h1
  have he' := he
  rw [h2] at he'
  refine va_iast hx hb hKF.1 hP hD hS q0 0 he' rfl h3 hd (fun H1 locs1 hP1 hD1 hS1 => ?_)
  have hset := wd_set (R2 := R) (M2 := pI M a i.toNatClampNeg v) hD h1 he (e := .inl (G.2 0, n, .inl (upd (M.1 a) i.toNatClampNeg v))) (by rw [h2]; simp [ce, pI, upd_u2]) (fun b hb => ce_ne (by simp [pI, u2_ne hb]) rfl rfl)
  rw [hset] at hP1 hD1
  exact kk H1 locs1 ls hP1 hD1 hS1 h
theorem r_bastore (hw : SyB l G b0 y cc nL rm w) {a : Nat} {i v : Int32} (hi : ixA K a 2 i) (hd : decode cc pc = .ok (.bastore, 1)) (kk : w cl sl (pc + 1) lv rest K R (pI M a i.toNatClampNeg (vp_nar .boolean v))) : w cl sl pc lv (.int v :: .int i :: .ref a :: rest) K R M := by
  obtain ⟨p, e, s, m, args, below, meth, cod, Q, w0, rfl, hx, hb, hml, hown, hts, hKF, hb0⟩ := hw
  obtain ⟨n, ⟨h1, h2⟩, h3⟩ := hi
  intro H locs ls hP hD hS h
  obtain ⟨q0, he⟩ := wd_get (G := G) (R := R) (M := M) h1
  have he' := he
  rw [h2] at he'
  refine va_zast hx hb hKF.1 hP hD hS q0 2 he' rfl h3 hd (fun H1 locs1 hP1 hD1 hS1 => ?_)
  have hset := wd_set (R2 := R) (M2 := pI M a i.toNatClampNeg (vp_nar .boolean v)) hD h1 he (e := .inl (G.2 2, n, .inl (upd (M.1 a) i.toNatClampNeg (vp_nar .boolean v)))) (by rw [h2]; simp [ce, pI, upd_u2]) (fun b hb => ce_ne (by simp [pI, u2_ne hb]) rfl rfl)
  rw [hset] at hP1 hD1
  exact kk H1 locs1 ls hP1 hD1 hS1 h
theorem r_lastore (hw : SyB l G b0 y cc nL rm w) {a : Nat} {i : Int32} {v : Int64} (hi : ixA K a 1 i) (hd : decode cc pc = .ok (.lastore, 1)) (kk : w cl sl (pc + 1) lv rest K R (pL M a i.toNatClampNeg v)) : w cl sl pc lv (.long v :: .int i :: .ref a :: rest) K R M := by
  obtain ⟨p, e, s, m, args, below, meth, cod, Q, w0, rfl, hx, hb, hml, hown, hts, hKF, hb0⟩ := hw
  obtain ⟨n, ⟨h1, h2⟩, h3⟩ := hi
  intro H locs ls hP hD hS h
  obtain ⟨q0, he⟩ := wd_get (G := G) (R := R) (M := M) h1
  have he' := he
  rw [h2] at he'
  refine va_last hx hb hKF.1 hP hD hS q0 1 he' rfl h3 hd (fun H1 locs1 hP1 hD1 hS1 => ?_)
  have hset := wd_set (R2 := R) (M2 := pL M a i.toNatClampNeg v) hD h1 he (e := .inl (G.2 1, n, .inr (.inl (vp_updL (M.2 a) i.toNatClampNeg v)))) (by rw [h2]; simp [ce, pL, updL_u2]) (fun b hb => ce_ne rfl (by simp [pL, u2_ne hb]) rfl)
  rw [hset] at hP1 hD1
  exact kk H1 locs1 ls hP1 hD1 hS1 h
theorem r_alen (hw : SyB l G b0 y cc nL rm w) {a : Nat} (hi : isAr K a) (hd : decode cc pc = .ok (.arraylength, 1)) (kk : w cl sl (pc + 1) lv (.int (alen K a) :: rest) K R M) : w cl sl pc lv (.ref a :: rest) K R M := by
  obtain ⟨p, e, s, m, args, below, meth, cod, Q, w0, rfl, hx, hb, hml, hown, hts, hKF, hb0⟩ := hw
  obtain ⟨t, n, ht, h1, h2⟩ := hi
  intro H locs ls hP hD hS h
  obtain ⟨q0, he⟩ := wd_get (G := G) (R := R) (M := M) h1
  have kk2 := kk H locs ls hP hD hS h
  have hv : alen K a = Int32.ofNat n := by simp [alen, h2]
  rw [hv] at kk2
  rw [h2] at he
  match t, ht, he with
  | 0, _, he => exact va_alen hx hb hKF.1 hP q0 0 he rfl rfl hd kk2
  | 1, _, he => exact va_alen hx hb hKF.1 hP q0 1 he rfl rfl hd kk2
  | 2, _, he => exact va_alen hx hb hKF.1 hP q0 2 he rfl rfl hd kk2
  | 3, _, he => exact va_alen hx hb hKF.1 hP q0 3 he rfl rfl hd kk2
  | 4, _, he => exact va_alen hx hb hKF.1 hP q0 4 he rfl rfl hd kk2
  | 5, _, he => exact va_alen hx hb hKF.1 hP q0 5 he rfl rfl hd kk2
theorem r_aastore (hw : SyB l G b0 y cc nL rm w) {a b c : Nat} {i : Int32} (t : Nat) (ht : t < 3) {T : u_T} {N : Nat} {C : String} (hc : vwCl[c]? = some (C, T, N)) (hC : (tysG G)[t + 3]? = some (G.2 (t + 3), .object C)) (hi : ixA K a (t + 3) i) (ho : isO K b c) (hd : decode cc pc = .ok (.aastore, 1)) (kk : w cl sl (pc + 1) lv rest K (pR R a i.toNatClampNeg (some b)) M) : w cl sl pc lv (.ref b :: .int i :: .ref a :: rest) K R M := by
  obtain ⟨p, e, s, m, args, below, meth, cod, Q, w0, rfl, hx, hb, hml, hown, hts, hKF, hb0⟩ := hw
  obtain ⟨n, ⟨h1, h2⟩, h3⟩ := hi
  intro H locs ls hP hD hS h
  obtain ⟨q0, he⟩ := wd_get (G := G) (R := R) (M := M) h1
  obtain ⟨q1, hv⟩ := wd_get (G := G) (R := R) (M := M) ho.1
  rw [ce_o ho.2] at hv
  have he' := he
  rw [h2] at he'
  refine va_astq (r := (C, T, N)) hx hb hKF.1 hP hD hS q0 (t + 3) q1 c he' hC hv hc h3 hd (fun H1 locs1 hP1 hD1 hS1 => ?_)
  have hset := wd_set (R2 := pR R a i.toNatClampNeg (some b)) (M2 := M) hD h1 he (e := .inl (G.2 (t + 3), n, .inr (.inr (.inr (.inr (va_up (R a) i.toNatClampNeg (some b))))))) (by rw [h2]; simp [ce, pR, updR_u2]) (fun b hb => ce_ne rfl rfl (by simp [pR, u2_ne hb]))
  rw [hset] at hP1 hD1
  exact kk H1 locs1 ls hP1 hD1 hS1 h
/-- the class's own tables of a method that is called -/
def LB (y2 : MethodName) (cc2 : ByteArray) (mL2 : Nat) (ret2 : Option FieldType) (n : Nat) : Prop := Cond.code y2 cc2 mL2 ret2 ∈ ws0 ∧ Cond.initialized y2.cls ∈ ws0 ∧ y2.cls ≠ "java/lang/invoke/MethodHandle" ∧ y2.cls ≠ "java/lang/invoke/VarHandle" ∧ (parseMethodDescriptor y2.desc).map (fun d => d.parameters.length) = some n
def LI (y2 : MethodName) : Prop := Cond.instanceMethod y2 ∈ ws0 ∧ Cond.selects y2.cls y2 y2 ∈ ws0
theorem good_in {x : Cond} {Ts ws : List Cond} (hT : ∀ w ∈ ws0, w ∈ Ts) (h : ∀ w ∈ ws, w ∈ ws0) : GoodIn Ts ws := fun w hw => ⟨hT w (h w hw), good_of_word (ws0_good (h w hw))⟩
theorem frameBlind_pc {av : List Value} : FrameBlind (va_Pc av (fun U => RS G b0 K R M U ∧ b0 ≤ U.heap.size)) := by
  intro a U g mk h
  obtain ⟨h1, ⟨h2, h3, h4⟩, h5⟩ := h
  exact ⟨h1, ⟨h2, h3, KF.same (s := U) (U := U.calling g mk a) rfl h4⟩, h5⟩
/-- behind a run of a callee -/
theorem w_run {p : Program} {e : Env} {s : State} {m : MethodId} {args : Array Value} {below : List Frame} {meth : Method} {c : Code} {Rm : Room} {Q : State → Prop} {H : Heap} {locs : List Loc} {ls : Array Slot} {st0 : List Value} {mc ms : Nat} {a : Array Value} {K2 : Kk} {R2 : Rr} {M2 : Mm} {res2 : Option Value}
    (hr : va_Run p l e Rm s m args below meth c H locs cl sl mc ms (F0 m pc ls st0) rest (QR G b0 res2 K2 R2 M2 a) (Ab b0)) (hS : va_S (Ab b0) s.heap H locs) (hl : lv_has ls nL lv)
    (kk : wq G b0 p l e Rm s m args below meth c nL Q (cl + mc) (sl + ms) (pc + 3) lv (res2.toList ++ rest) K2 R2 M2) : W p l e Rm s m args below meth c H locs cl sl Q (F0 m pc ls st0) := by
  intro T hT X
  obtain ⟨v, st₀, t, T', L, h0, X', hL, e1, e2, ⟨hv, ⟨hP, hD, -⟩, hz, hk⟩, st⟩ := hr T hT X
  have hv : v = res2 := by cases hv; rfl
  subst hv
  rw [h0] at hz hk
  obtain ⟨t2, a1, b1⟩ := kk T'.heap (locs ++ L) ls (by rw [e1]; exact hP) hD ⟨Nat.le_trans hS.1 (by rw [e1]; exact hz), fun q h1 h2 => by rw [e1, hk q (Nat.lt_of_lt_of_le h1 hS.1) h2]; exact hS.2.1 q h1 h2, fun q hq => by
      rcases List.mem_append.mp hq with h | h
      · exact hS.2.2 q h
      · exact hL q h⟩ hl T' rfl X'
  exact ⟨t2, st t2 a1, b1⟩
theorem zrecv_of {s : State} {H : Heap} {a c : Nat} {C : String} {T : u_T} {N : Nat} (hKF : KF G s) (hP : va_P G.1 vwCl (wd G K R M) H) (hc : vwCl[c]? = some (C, T, N)) (ho : isO K a c) : ∃ cell : Cell, H[a]? = some cell ∧ cell.vm.isStatics = false ∧ s.vm.findClass C = some cell.cls := by
  obtain ⟨q0, he⟩ := wd_get (G := G) (R := R) (M := M) ho.1
  rw [ce_o ho.2] at he
  exact va_recv hKF.1 hP hc he
theorem zpreS_of {s : State} {H : Heap} {av : List Value} (hKF : KF G s) (hP : va_P G.1 vwCl (wd G K R M) H) (hD : va_D (Ab b0) (wd G K R M)) (hz : b0 ≤ H.size) : PreS s H (va_Pc av (fun U => RS G b0 K R M U ∧ b0 ≤ U.heap.size)) av :=
  ⟨frameBlind_pc, fun U hU hW => ⟨rfl, ⟨by rw [hU]; exact hP, hD, hKF.moved hW⟩, by rw [hU]; exact hz⟩⟩
variable {y2 : MethodName} {cc2 : ByteArray} {mL2 : Nat} {ret2 : Option FieldType} {rm2 : Room} {K2 : Kk} {R2 : Rr} {M2 : Mm} {res2 : Option Value}
theorem r_callV (hw : SyB l G b0 y cc nL rm w) {a c idx n : Nat} {As : List Value} {T : u_T} {N : Nat} (hm : CT l G b0 y2 cc2 mL2 ret2 rm2 (.ref a :: As) K R M res2 K2 R2 M2) (hB : LB y2 cc2 mL2 ret2 n) (hI : LI y2) (hL : Cond.methodLink y.cls idx y2 ∈ ws0) (hc : vwCl[c]? = some (y2.cls, T, N)) (ho : isO K a c) (hn : As.length = n)
    (hR : rm2.frames + 1 ≤ rm.frames ∧ 8 + (mL2 + 11) + rm2.locals ≤ rm.locals) (hcell : cl + rm2.cells ≤ rm.cells ∧ sl + rm2.slots ≤ rm.slots) (hcat : (rest.map fun v => v.category).sum ≤ 8) {st : List Value} (hst : st = As.reverse ++ .ref a :: rest) (hd : decode cc pc = .ok (.invokevirtual idx, 3))
    (kk : w (cl + rm2.cells) (sl + rm2.slots) (pc + 3) lv (res2.toList ++ rest) K2 R2 M2) : w cl sl pc lv st K R M := by
  obtain ⟨p, e, s, m, args, below, meth, cod, Q, w0, rfl, hx, hb, hml, hown, hts, hKF, hb0⟩ := hw
  obtain ⟨hB1, hB2, hB3, hB4, hB5⟩ := hB
  intro H locs ls hP hD hS h
  subst hst
  have hz : b0 ≤ H.size := Nat.le_trans hb0 hS.1
  have hT : ∀ w ∈ ws0, w ∈ (w0 :: ws0) := fun w hw => List.mem_cons_of_mem _ hw
  have hG : GoodIn (w0 :: ws0) (wsV y.cls idx y2.cls y2 (Cond.code y2 cc2 mL2 ret2 :: ws0)) := by
    refine good_in (x := w0) hT (fun w hw => ?_)
    simp only [wsV, List.mem_append, List.mem_cons, List.not_mem_nil, or_false] at hw
    rcases hw with (rfl | rfl | rfl | rfl) | rfl | hw
    · exact hL
    · exact hI.1
    · exact hI.2
    · exact hB2
    · exact hB1
    · exact hw
  refine w_run (va_runV (As := As) (rest := rest) (Ts := w0 :: ws0) ⟨hx, hb, hml, hown, hts⟩ hm (cwV n hts hG rfl rfl rfl ⟨rfl, hB3, hB4, hB5⟩ hR) ⟨frameBlind_pc, zrecv_of hKF hP hc ho, (zpreS_of hKF hP hD hz).2⟩ rfl hn h.1 rfl (lv_room hcat) hd hcell) hS h kk
theorem r_callS (hw : SyB l G b0 y cc nL rm w) {idx n : Nat} {As : List Value} (hm : CT l G b0 y2 cc2 mL2 ret2 rm2 As K R M res2 K2 R2 M2) (hB : LB y2 cc2 mL2 ret2 n) (hI : Cond.static y2 ∈ ws0) (hL : Cond.methodLink y.cls idx y2 ∈ ws0) (hy : y2.cls = y.cls) (hn : As.length = n)
    (hR : rm2.frames + 1 ≤ rm.frames ∧ 8 + (mL2 + 11) + rm2.locals ≤ rm.locals) (hcell : cl + rm2.cells ≤ rm.cells ∧ sl + rm2.slots ≤ rm.slots) (hcat : (rest.map fun v => v.category).sum ≤ 8) {st : List Value} (hst : st = As.reverse ++ rest) (hd : decode cc pc = .ok (.invokestatic idx, 3))
    (kk : w (cl + rm2.cells) (sl + rm2.slots) (pc + 3) lv (res2.toList ++ rest) K2 R2 M2) : w cl sl pc lv st K R M := by
  obtain ⟨p, e, s, m, args, below, meth, cod, Q, w0, rfl, hx, hb, hml, hown, hts, hKF, hb0⟩ := hw
  obtain ⟨hB1, hB2, hB3, hB4, hB5⟩ := hB
  intro H locs ls hP hD hS h
  subst hst
  have hz : b0 ≤ H.size := Nat.le_trans hb0 hS.1
  have hT : ∀ w ∈ ws0, w ∈ (w0 :: ws0) := fun w hw => List.mem_cons_of_mem _ hw
  have hG : GoodIn (w0 :: ws0) (wsS y.cls idx y2 (Cond.code y2 cc2 mL2 ret2 :: ws0)) := by
    refine good_in (x := w0) hT (fun w hw => ?_)
    simp only [wsS, List.mem_append, List.mem_cons, List.not_mem_nil, or_false] at hw
    rcases hw with (rfl | rfl | rfl) | rfl | hw
    · exact hL
    · exact hI
    · rw [← hy]; exact hB2
    · exact hB1
    · exact hw
  refine w_run (va_runS (As := As) (rest := rest) (Ts := w0 :: ws0) ⟨hx, hb, hml, hown, hts⟩ hm (cwS n hts hG rfl rfl rfl ⟨hy, hB3, hB4, hB5⟩ hR) (zpreS_of hKF hP hD hz) rfl hn h.1 rfl (lv_room hcat) hd hcell) hS h kk
theorem r_callSN (hw : SyB l G b0 y cc nL rm w) {idx n : Nat} {As : List Value} (hm : CT l G b0 y2 cc2 mL2 ret2 rm2 As K R M res2 K2 R2 M2) (hB : LB y2 cc2 mL2 ret2 n) (hI : Cond.static y2 ∈ ws0) (hL : (y.cls, idx, y2, RX7) ∈ nestW) (hn : As.length = n)
    (hR : rm2.frames + 1 ≤ rm.frames ∧ 8 + (mL2 + 11) + rm2.locals ≤ rm.locals) (hcell : cl + rm2.cells ≤ rm.cells ∧ sl + rm2.slots ≤ rm.slots) (hcat : (rest.map fun v => v.category).sum ≤ 8) {st : List Value} (hst : st = As.reverse ++ rest) (hd : decode cc pc = .ok (.invokestatic idx, 3))
    (kk : w (cl + rm2.cells) (sl + rm2.slots) (pc + 3) lv (res2.toList ++ rest) K2 R2 M2) : w cl sl pc lv st K R M := by
  obtain ⟨p, e, s, m, args, below, meth, cod, Q, w0, rfl, hx, hb, hml, hown, hts, hKF, hb0⟩ := hw
  obtain ⟨hB1, hB2, hB3, hB4, hB5⟩ := hB
  intro H locs ls hP hD hS h
  subst hst
  have hz : b0 ≤ H.size := Nat.le_trans hb0 hS.1
  have hT : ∀ w ∈ ws0, w ∈ (w0 :: ws0) := fun w hw => List.mem_cons_of_mem _ hw
  have hG : GoodIn (w0 :: ws0) (Cond.code y2 cc2 mL2 ret2 :: ws0) := by
    refine good_in (x := w0) hT (fun w hw => ?_)
    rcases List.mem_cons.mp hw with rfl | hw
    · exact hB1
    · exact hw
  refine w_run (va_runSN (As := As) (rest := rest) (Ts := w0 :: ws0) ⟨hx, hb, hml, hown, hts⟩ hm ⟨va_cnB n hts hG rfl rfl rfl (hKF.2.1 _ hL) (hts _ (hT _ hB2)) ⟨hB3, hB4, hB5⟩ hR, hts _ (hT _ hI), trivial⟩ (zpreS_of hKF hP hD hz) rfl hn h.1 rfl (lv_room hcat) hd hcell) hS h kk
theorem r_callI (hw : SyB l G b0 y cc nL rm w) {a idx n : Nat} {As : List Value} (hm : CT l G b0 y2 cc2 mL2 none rm2 (.ref a :: As) K R M res2 K2 R2 M2) (hB : LB y2 cc2 mL2 none n) (hy : y2.name = "<init>") (hI : Cond.instanceMethod y2 ∈ ws0) (hL : Cond.methodLink y.cls idx y2 ∈ ws0) (hn : As.length = n)
    (hR : rm2.frames + 1 ≤ rm.frames ∧ 8 + (mL2 + 11) + rm2.locals ≤ rm.locals) (hcell : cl + rm2.cells ≤ rm.cells ∧ sl + rm2.slots ≤ rm.slots) (hcat : (rest.map fun v => v.category).sum ≤ 8) {st : List Value} (hst : st = As.reverse ++ .ref a :: rest) (hd : decode cc pc = .ok (.invokespecial idx, 3))
    (kk : w (cl + rm2.cells) (sl + rm2.slots) (pc + 3) lv (res2.toList ++ rest) K2 R2 M2) : w cl sl pc lv st K R M := by
  obtain ⟨p, e, s, m, args, below, meth, cod, Q, w0, rfl, hx, hb, hml, hown, hts, hKF, hb0⟩ := hw
  obtain ⟨hB1, hB2, hB3, hB4, hB5⟩ := hB
  intro H locs ls hP hD hS h
  subst hst
  have hz : b0 ≤ H.size := Nat.le_trans hb0 hS.1
  have hT : ∀ w ∈ ws0, w ∈ (w0 :: ws0) := fun w hw => List.mem_cons_of_mem _ hw
  have hG : GoodIn (w0 :: ws0) (Cond.code y2 cc2 mL2 none :: ws0) := by
    refine good_in (x := w0) hT (fun w hw => ?_)
    rcases List.mem_cons.mp hw with rfl | hw
    · exact hB1
    · exact hw
  refine w_run (va_runI (As := As) (rest := rest) (Ts := w0 :: ws0) ⟨hx, hb, hml, hown, hts⟩ hm (cwI n hts hG rfl rfl rfl (hts _ (hT _ hB2)) (hts _ (hT _ hL)) (hts _ (hT _ hI)) hy ⟨hB3, hB4, hB5⟩ hR) (zpreS_of hKF hP hD hz) rfl hn h.1 rfl (lv_room hcat) hd hcell) hS h kk
theorem r_callIN (hw : SyB l G b0 y cc nL rm w) {a idx n : Nat} {As : List Value} (hm : CT l G b0 y2 cc2 mL2 none rm2 (.ref a :: As) K R M res2 K2 R2 M2) (hB : LB y2 cc2 mL2 none n) (hy : y2.name = "<init>") (hI : Cond.instanceMethod y2 ∈ ws0) (hL : (y.cls, idx, y2, RX7) ∈ nestW) (hn : As.length = n)
    (hR : rm2.frames + 1 ≤ rm.frames ∧ 8 + (mL2 + 11) + rm2.locals ≤ rm.locals) (hcell : cl + rm2.cells ≤ rm.cells ∧ sl + rm2.slots ≤ rm.slots) (hcat : (rest.map fun v => v.category).sum ≤ 8) {st : List Value} (hst : st = As.reverse ++ .ref a :: rest) (hd : decode cc pc = .ok (.invokespecial idx, 3))
    (kk : w (cl + rm2.cells) (sl + rm2.slots) (pc + 3) lv (res2.toList ++ rest) K2 R2 M2) : w cl sl pc lv st K R M := by
  obtain ⟨p, e, s, m, args, below, meth, cod, Q, w0, rfl, hx, hb, hml, hown, hts, hKF, hb0⟩ := hw
  obtain ⟨hB1, hB2, hB3, hB4, hB5⟩ := hB
  intro H locs ls hP hD hS h
  subst hst
  have hz : b0 ≤ H.size := Nat.le_trans hb0 hS.1
  have hT : ∀ w ∈ ws0, w ∈ (w0 :: ws0) := fun w hw => List.mem_cons_of_mem _ hw
  have hG : GoodIn (w0 :: ws0) (Cond.code y2 cc2 mL2 none :: ws0) := by
    refine good_in (x := w0) hT (fun w hw => ?_)
    rcases List.mem_cons.mp hw with rfl | hw
    · exact hB1
    · exact hw
  refine w_run (va_runIN (As := As) (rest := rest) (Ts := w0 :: ws0) ⟨hx, hb, hml, hown, hts⟩ hm ⟨va_cnB n hts hG rfl rfl rfl (hKF.2.1 _ hL) (hts _ (hT _ hB2)) ⟨hB3, hB4, hB5⟩ hR, hy, hts _ (hT _ hI)⟩ (zpreS_of hKF hP hD hz) rfl hn h.1 rfl (lv_room hcat) hd hcell) hS h kk
theorem r_mmax (hw : SyB l G b0 y cc nL rm w) {idx : Nat} {x y' : Int32} (hL : Cond.methodLink y.cls idx Lib.Math.max.name ∈ ws0) (hs : Cond.static Lib.Math.max.name ∈ ws0) (hi : Cond.initialized "java/lang/Math" ∈ ws0) (hc : Cond.code Lib.Math.max.name Lib.Math.max.code 2 (some .int) ∈ ws0) (hfr : 1 ≤ rm.frames) (hlo : (rest.map fun v => v.category).sum + 13 ≤ rm.locals) (hcc : cl ≤ rm.cells) (hss : sl ≤ rm.slots) (hd : decode cc pc = .ok (.invokestatic idx, 3)) (kk : w cl sl (pc + 3) lv (.int (if x < y' then y' else x) :: rest) K R M) : w cl sl pc lv (.int y' :: .int x :: rest) K R M := by
  obtain ⟨p, e, s, m, args, below, meth, cod, Q, w0, rfl, hx, hb, hml, hown, hts, hKF, hb0⟩ := hw
  have hT : ∀ w ∈ ws0, w ∈ (w0 :: ws0) := fun w hw => List.mem_cons_of_mem _ hw
  exact fun H locs ls hP hD hS h => va_mmax hx hb (by rw [hml, h.1]) hown (hts _ (hT _ hL)) (hts _ (hT _ hs)) (hts _ (hT _ hi)) (hts _ (hT _ hc)) hfr hlo hcc hss hd (kk H locs ls hP hD hS h)
theorem r_mmin (hw : SyB l G b0 y cc nL rm w) {idx : Nat} {x y' : Int32} (hL : Cond.methodLink y.cls idx Lib.Math.min.name ∈ ws0) (hs : Cond.static Lib.Math.min.name ∈ ws0) (hi : Cond.initialized "java/lang/Math" ∈ ws0) (hc : Cond.code Lib.Math.min.name Lib.Math.min.code 2 (some .int) ∈ ws0) (hfr : 1 ≤ rm.frames) (hlo : (rest.map fun v => v.category).sum + 13 ≤ rm.locals) (hcc : cl ≤ rm.cells) (hss : sl ≤ rm.slots) (hd : decode cc pc = .ok (.invokestatic idx, 3)) (kk : w cl sl (pc + 3) lv (.int (if y' < x then y' else x) :: rest) K R M) : w cl sl pc lv (.int y' :: .int x :: rest) K R M := by
  obtain ⟨p, e, s, m, args, below, meth, cod, Q, w0, rfl, hx, hb, hml, hown, hts, hKF, hb0⟩ := hw
  have hT : ∀ w ∈ ws0, w ∈ (w0 :: ws0) := fun w hw => List.mem_cons_of_mem _ hw
  exact fun H locs ls hP hD hS h => va_mmin hx hb (by rw [hml, h.1]) hown (hts _ (hT _ hL)) (hts _ (hT _ hs)) (hts _ (hT _ hi)) (hts _ (hT _ hc)) hfr hlo hcc hss hd (kk H locs ls hP hD hS h)
theorem r_mabs (hw : SyB l G b0 y cc nL rm w) {idx : Nat} {x : Int32} (hL : Cond.methodLink y.cls idx Lib.Math.abs.name ∈ ws0) (hs : Cond.static Lib.Math.abs.name ∈ ws0) (hi : Cond.initialized "java/lang/Math" ∈ ws0) (hc : Cond.code Lib.Math.abs.name Lib.Math.abs.code 1 (some .int) ∈ ws0) (hfr : 1 ≤ rm.frames) (hlo : (rest.map fun v => v.category).sum + 13 ≤ rm.locals) (hcc : cl ≤ rm.cells) (hss : sl ≤ rm.slots) (hd : decode cc pc = .ok (.invokestatic idx, 3)) (kk : w cl sl (pc + 3) lv (.int (if 0 ≤ x then x else 0 - x) :: rest) K R M) : w cl sl pc lv (.int x :: rest) K R M := by
  obtain ⟨p, e, s, m, args, below, meth, cod, Q, w0, rfl, hx, hb, hml, hown, hts, hKF, hb0⟩ := hw
  have hT : ∀ w ∈ ws0, w ∈ (w0 :: ws0) := fun w hw => List.mem_cons_of_mem _ hw
  exact fun H locs ls hP hD hS h => va_mabs hx hb (by rw [hml, h.1]) hown (hts _ (hT _ hL)) (hts _ (hT _ hs)) (hts _ (hT _ hi)) (hts _ (hT _ hc)) hfr hlo hcc hss hd (kk H locs ls hP hD hS h)
/-- System.arraycopy of ints, of longs -/
def cpI (M : Mm) (a b : Nat) (sp dp n : Int32) : Mm := (fun q => if q = b then va_cpy (M.1 a) (M.1 b) sp.toNatClampNeg dp.toNatClampNeg n.toNatClampNeg else M.1 q, M.2)
def cpL (M : Mm) (a b : Nat) (sp dp n : Int32) : Mm := (M.1, fun q => if q = b then va_cpy (M.2 a) (M.2 b) sp.toNatClampNeg dp.toNatClampNeg n.toNatClampNeg else M.2 q)
def okC (K : Kk) (t a b : Nat) (sp dp n : Int32) : Prop := ∃ n0 n1, isA K a t n0 ∧ isA K b t n1 ∧ ¬ sp < 0 ∧ ¬ dp < 0 ∧ ¬ n < 0 ∧ sp.toNatClampNeg + n.toNatClampNeg ≤ n0 ∧ dp.toNatClampNeg + n.toNatClampNeg ≤ n1
theorem r_copyI (hw : SyB l G b0 y cc nL rm w) {idx a b : Nat} {sp dp n : Int32} (hL : Cond.methodLink y.cls idx arraycopyName ∈ ws0) (hna : Cond.native arraycopyName ∈ ws0) (hs : Cond.static arraycopyName ∈ ws0) (hi : Cond.initialized "java/lang/System" ∈ ws0) (ho : okC K 0 a b sp dp n) (hfr : 1 ≤ rm.frames) (hlo : (rest.map fun v => v.category).sum + (nativeFrameWords "java/lang/System" "arraycopy" 5 + 11) ≤ rm.locals) (hd : decode cc pc = .ok (.invokestatic idx, 3)) (kk : w cl sl (pc + 3) lv rest K R (cpI M a b sp dp n)) : w cl sl pc lv (.int n :: .int dp :: .ref b :: .int sp :: .ref a :: rest) K R M := by
  obtain ⟨p, e, s, m, args, below, meth, cod, Q, w0, rfl, hx, hb, hml, hown, hts, hKF, hb0⟩ := hw
  have hT : ∀ w ∈ ws0, w ∈ (w0 :: ws0) := fun w hw => List.mem_cons_of_mem _ hw
  obtain ⟨n0, n1, ⟨a1, a2⟩, ⟨b1, b2⟩, h1, h2, h3, h4, h5⟩ := ho
  intro H locs ls hP hD hS h
  obtain ⟨q0, hea⟩ := wd_get (G := G) (R := R) (M := M) a1
  obtain ⟨q1, heb⟩ := wd_get (G := G) (R := R) (M := M) b1
  have heb' := heb
  rw [a2] at hea
  rw [b2] at heb'
  refine va_copyi hx hb (by rw [hml, h.1]) hown (hts _ (hT _ hL)) (hts _ (hT _ hna)) (hts _ (hT _ hs)) (hts _ (hT _ hi)) hKF.1 hP hD hS q0 q1 0 0 hea heb' rfl rfl rfl h1 h2 h3 h4 h5 (fun _ _ => rfl) hfr hlo hd (fun H1 locs1 hP1 hD1 hS1 => ?_)
  have hset := wd_set (R2 := R) (M2 := cpI M a b sp dp n) hD b1 heb (e := .inl (G.2 0, n1, .inl (va_cpy (M.1 a) (M.1 b) sp.toNatClampNeg dp.toNatClampNeg n.toNatClampNeg))) (by rw [b2]; simp [ce, cpI]) (fun q hq => ce_ne (by simp [cpI, hq]) rfl rfl)
  rw [hset] at hP1 hD1
  exact kk H1 locs1 ls hP1 hD1 hS1 h
theorem r_copyL (hw : SyB l G b0 y cc nL rm w) {idx a b : Nat} {sp dp n : Int32} (hL : Cond.methodLink y.cls idx arraycopyName ∈ ws0) (hna : Cond.native arraycopyName ∈ ws0) (hs : Cond.static arraycopyName ∈ ws0) (hi : Cond.initialized "java/lang/System" ∈ ws0) (ho : okC K 1 a b sp dp n) (hfr : 1 ≤ rm.frames) (hlo : (rest.map fun v => v.category).sum + (nativeFrameWords "java/lang/System" "arraycopy" 5 + 11) ≤ rm.locals) (hd : decode cc pc = .ok (.invokestatic idx, 3)) (kk : w cl sl (pc + 3) lv rest K R (cpL M a b sp dp n)) : w cl sl pc lv (.int n :: .int dp :: .ref b :: .int sp :: .ref a :: rest) K R M := by
  obtain ⟨p, e, s, m, args, below, meth, cod, Q, w0, rfl, hx, hb, hml, hown, hts, hKF, hb0⟩ := hw
  have hT : ∀ w ∈ ws0, w ∈ (w0 :: ws0) := fun w hw => List.mem_cons_of_mem _ hw
  obtain ⟨n0, n1, ⟨a1, a2⟩, ⟨b1, b2⟩, h1, h2, h3, h4, h5⟩ := ho
  intro H locs ls hP hD hS h
  obtain ⟨q0, hea⟩ := wd_get (G := G) (R := R) (M := M) a1
  obtain ⟨q1, heb⟩ := wd_get (G := G) (R := R) (M := M) b1
  have heb' := heb
  rw [a2] at hea
  rw [b2] at heb'
  refine va_copyl hx hb (by rw [hml, h.1]) hown (hts _ (hT _ hL)) (hts _ (hT _ hna)) (hts _ (hT _ hs)) (hts _ (hT _ hi)) hKF.1 hP hD hS q0 q1 1 1 hea heb' rfl rfl rfl h1 h2 h3 h4 h5 (fun _ _ => rfl) hfr hlo hd (fun H1 locs1 hP1 hD1 hS1 => ?_)
  have hset := wd_set (R2 := R) (M2 := cpL M a b sp dp n) hD b1 heb (e := .inl (G.2 1, n1, .inr (.inl (va_cpy (M.2 a) (M.2 b) sp.toNatClampNeg dp.toNatClampNeg n.toNatClampNeg)))) (by rw [b2]; simp [ce, cpL]) (fun q hq => ce_ne rfl (by simp [cpL, hq]) rfl)
  rw [hset] at hP1 hD1
  exact kk H1 locs1 ls hP1 hD1 hS1 h
theorem r_ireturn {v : Int32} (hw : Sy l G b0 y cc nL (some .int) rm (some (.int v)) K R M w) (hc : rm.cells = cl) (hs : rm.slots = sl) (hd : decode cc pc = .ok (.ireturn, 1)) : w cl sl pc lv [.int v] K R M := by
  obtain ⟨p, e, s, m, args, below, meth, cod, rfl, hx, hb, hr, hml, hown, hts, hKF, hb0, hlk, hnm⟩ := hw
  subst hc; subst hs
  intro H locs ls hP hD hS h
  exact W.iret hx hb hr (fun t ht hW => ⟨rfl, ⟨by rw [ht]; exact hP, hD, hKF.moved hW⟩, hS.F ht⟩) hS.2.2 hd
theorem r_zreturn {v : Int32} (hw : Sy l G b0 y cc nL (some .boolean) rm (some (.int v)) K R M w) (hv : isB v) (hc : rm.cells = cl) (hs : rm.slots = sl) (hd : decode cc pc = .ok (.ireturn, 1)) : w cl sl pc lv [.int v] K R M := by
  obtain ⟨p, e, s, m, args, below, meth, cod, rfl, hx, hb, hr, hml, hown, hts, hKF, hb0, hlk, hnm⟩ := hw
  subst hc; subst hs
  intro H locs ls hP hD hS h
  exact W.zret hx hb hr hv.1 (fun t ht hW => ⟨rfl, ⟨by rw [ht]; exact hP, hD, hKF.moved hW⟩, hS.F ht⟩) hS.2.2 hd
theorem r_lreturn {v : Int64} (hw : Sy l G b0 y cc nL (some .long) rm (some (.long v)) K R M w) (hc : rm.cells = cl) (hs : rm.slots = sl) (hd : decode cc pc = .ok (.lreturn, 1)) : w cl sl pc lv [.long v] K R M := by
  obtain ⟨p, e, s, m, args, below, meth, cod, rfl, hx, hb, hr, hml, hown, hts, hKF, hb0, hlk, hnm⟩ := hw
  subst hc; subst hs
  intro H locs ls hP hD hS h
  exact W.lret hx hb hr (fun t ht hW => ⟨rfl, ⟨by rw [ht]; exact hP, hD, hKF.moved hW⟩, hS.F ht⟩) hS.2.2 hd
theorem r_areturn {v : Nat} {C : String} (hw : Sy l G b0 y cc nL (some (.object C)) rm (some (.ref v)) K R M w) (hc : rm.cells = cl) (hs : rm.slots = sl) (hd : decode cc pc = .ok (.areturn, 1)) : w cl sl pc lv [.ref v] K R M := by
  obtain ⟨p, e, s, m, args, below, meth, cod, rfl, hx, hb, hr, hml, hown, hts, hKF, hb0, hlk, hnm⟩ := hw
  subst hc; subst hs
  intro H locs ls hP hD hS h
  exact W.aret hx hb hr (Or.inl ⟨_, rfl⟩) (Or.inr ⟨_, rfl⟩) (fun t ht hW => ⟨rfl, ⟨by rw [ht]; exact hP, hD, hKF.moved hW⟩, hS.F ht⟩) hS.2.2 hd
theorem r_return (hw : Sy l G b0 y cc nL none rm none K R M w) (hc : rm.cells = cl) (hs : rm.slots = sl) (hd : decode cc pc = .ok (.return_, 1)) : w cl sl pc lv [] K R M := by
  obtain ⟨p, e, s, m, args, below, meth, cod, rfl, hx, hb, hr, hml, hown, hts, hKF, hb0, hlk, hnm⟩ := hw
  subst hc; subst hs
  intro H locs ls hP hD hS h
  exact W.vret hx hb hr (fun t ht hW => ⟨rfl, ⟨by rw [ht]; exact hP, hD, hKF.moved hW⟩, hS.F ht⟩) hS.2.2 hd
theorem r_tabOut (hw : SyB l G b0 y cc nL rm w) {dflt lo hi : Int} {offs : Array Int} {len tgt : Nat} {x : Int32} (hd : decode cc pc = .ok (.tableswitch dflt lo hi offs, len)) (hx0 : x.toInt < lo ∨ hi < x.toInt) (ht : (pc : Int) + dflt = (tgt : Int)) (k : w cl sl tgt lv rest K R M) : w cl sl pc lv (.int x :: rest) K R M := by
  obtain ⟨p, e, s, m, args, below, meth, c, Q, w0, rfl, hx, hb, hml, hown, hts, hKF, hb0⟩ := hw
  exact fun H locs ls hP hD hS h => lv_tableOut hx hb hd hx0 ht (k H locs ls hP hD hS h)
theorem r_tabIn (hw : SyB l G b0 y cc nL rm w) {dflt lo hi off : Int} {offs : Array Int} {len tgt : Nat} {x : Int32} (hd : decode cc pc = .ok (.tableswitch dflt lo hi offs, len)) (h1 : ¬ x.toInt < lo) (h2 : ¬ hi < x.toInt) (ho : offs[(x.toInt - lo).toNat]? = some off) (ht : (pc : Int) + off = (tgt : Int)) (k : w cl sl tgt lv rest K R M) : w cl sl pc lv (.int x :: rest) K R M := by
  obtain ⟨p, e, s, m, args, below, meth, c, Q, w0, rfl, hx, hb, hml, hown, hts, hKF, hb0⟩ := hw
  exact fun H locs ls hP hD hS h => lv_tableIn hx hb hd h1 h2 ho ht (k H locs ls hP hD hS h)
end RW
