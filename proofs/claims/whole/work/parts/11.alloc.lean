/-! MAKING: new objects and arrays, constructors -/
def kp (K : Kk) (a : Nat) (sh : Nat ⊕ (Nat × Nat)) : Kk := (K.1 ++ [a], fun b => if b = a then sh else K.2 b)
/-- nothing is held at an address yet -/
def zr (R : Rr) (M : Mm) (a : Nat) : Prop := M.1 a = (fun _ => 0) ∧ M.2 a = (fun _ => 0) ∧ R a = (fun _ => none)
/-- a constructor's end: some memory of which Φ holds -/
def QP (G : Gg) (b0 : Nat) (Φ : Kk → Rr → Mm → Prop) : Array Value → State → Outcome → State → Prop := fun _ st o t => o = .returned none ∧ (∃ K R M, Φ K R M ∧ RS G b0 K R M t) ∧ va_F (Ab b0) st t
/-- a constructor's contract: at a heap of size top -/
def CP (l : Launch) (G : Gg) (b0 top : Nat) (y : MethodName) (cc : ByteArray) (maxL : Nat) (rm : Room) (av : List Value) (K : Kk) (R : Rr) (M : Mm) (Φ : Kk → Rr → Mm → Prop) : Prop :=
  Met l y (.code y cc maxL none :: ws0) rm (va_Pc av (fun U => (RS G b0 K R M U ∧ b0 ≤ U.heap.size) ∧ U.heap.size = top)) (QP G b0 Φ) rm.cells rm.slots (Ab b0)
def SyN (l : Launch) (G : Gg) (b0 top : Nat) (y : MethodName) (cc : ByteArray) (nL : Nat) (ret : Option FieldType) (rm : Room) (Qc : Array Value → State → Outcome → State → Prop) (w : Wt) : Prop :=
  ∃ (p : Program) (e : Env) (s : State) (m : MethodId) (args : Array Value) (below : List Frame) (meth : Method) (c : Code),
    (w = wq G b0 p l e rm s m args below meth c nL (MQ below Qc args s rm.cells rm.slots (Ab b0)) ∧
    p.tables.exec = Jvm.exec ∧ c.code = cc ∧ meth.sig.returnType = ret ∧ c.maxLocals = nL ∧ s.vm.findClass y.cls = some m.cls ∧ (∀ x ∈ (Cond.code y cc nL ret :: ws0), x.before args s = true) ∧ KF G s ∧ b0 ≤ s.heap.size ∧ meth.locks = false ∧ meth.name = y.name) ∧ s.heap.size = top
/-- a walk in which cells are made: the heap's size at its start -/
def SyT (l : Launch) (G : Gg) (b0 top : Nat) (y : MethodName) (cc : ByteArray) (nL : Nat) (rm : Room) (w : Wt) : Prop :=
  ∃ (p : Program) (e : Env) (s : State) (m : MethodId) (args : Array Value) (below : List Frame) (meth : Method) (c : Code) (Q : State → Prop) (w0 : Cond),
    (w = wq G b0 p l e rm s m args below meth c nL Q ∧ p.tables.exec = Jvm.exec ∧ c.code = cc ∧ c.maxLocals = nL ∧ s.vm.findClass y.cls = some m.cls ∧ (∀ x ∈ (w0 :: ws0), x.before args s = true) ∧ KF G s ∧ b0 ≤ s.heap.size) ∧ s.heap.size = top
theorem SyT.b {l : Launch} {G : Gg} {b0 top : Nat} {y : MethodName} {cc : ByteArray} {nL : Nat} {rm : Room} {w : Wt} (h : SyT l G b0 top y cc nL rm w) : SyB l G b0 y cc nL rm w := by
  obtain ⟨p, e, s, m, args, below, meth, c, Q, w0, h, -⟩ := h
  exact ⟨p, e, s, m, args, below, meth, c, Q, w0, h⟩
theorem SyN.t {l : Launch} {G : Gg} {b0 top : Nat} {y : MethodName} {cc : ByteArray} {nL : Nat} {ret : Option FieldType} {rm : Room} {Qc : Array Value → State → Outcome → State → Prop} {w : Wt} (h : SyN l G b0 top y cc nL ret rm Qc w) : SyT l G b0 top y cc nL rm w := by
  obtain ⟨p, e, s, m, args, below, meth, c, ⟨h1, h2, h3, h4, h5, h6, h7, h8, h9, -⟩, h10⟩ := h
  exact ⟨p, e, s, m, args, below, meth, c, _, _, ⟨h1, h2, h3, h5, h6, h7, h8, h9⟩, h10⟩
theorem SyN.sy {l : Launch} {G : Gg} {b0 top : Nat} {y : MethodName} {cc : ByteArray} {nL : Nat} {ret : Option FieldType} {rm : Room} {Qc : Array Value → State → Outcome → State → Prop} {w : Wt} (h : SyN l G b0 top y cc nL ret rm Qc w) : SyB l G b0 y cc nL rm w := h.t.b
theorem cn_of {l : Launch} {G : Gg} {b0 top : Nat} {y : MethodName} {cc : ByteArray} {maxL : Nat} {rm : Room} {av : List Value} {K : Kk} {R : Rr} {M : Mm} {Φ : Kk → Rr → Mm → Prop}
    (hy : plainName y.cls = true) (hlen : (lg_sl av).length ≤ maxL) (body : ∀ w : Wt, SyN l G b0 top y cc maxL none rm (QP G b0 Φ) w → w 0 0 0 (lv_args 0 av) [] K R M) : CP l G b0 top y cc maxL rm av K R M Φ := by
  refine Met.ofW (cc := cc) (maxL := maxL) (ret := none) hy rfl ?_
  intro p e s m args below meth c s₁ B hml hv
  obtain ⟨rfl, ⟨⟨hP, hD, hK⟩, hb0⟩, htop⟩ := hv
  have h := body _ ⟨p, e, s, m, _, below, meth, c, ⟨rfl, B.exec, B.bytes, B.returns, hml, findClass_of_methodNamed B.named, atoms_spec (ws := Cond.code y cc maxL none :: ws0) B.pre, hK, hb0, B.notSynchronized, (name_of_methodNamed B.named B.method).1⟩, htop⟩
  have hl := lv_entry av hlen
  rw [lg_entry_eq]
  exact h s.heap [] _ hP hD va_S.rf hl
/-- what the classes' defaults are -/
def DZ (c : Nat) (T : u_T) (N : Nat) : Prop := ∃ tf : Nat → FieldType, (∀ k, k < N → parseFieldDescriptor (T k).2.2.1 = some (tf k)) ∧ ∀ j, j < N → ∀ t, (tyl c)[j]? = some t → defaultValue (tf j) = fv (fun _ _ => none) (fun _ _ => 0, fun _ _ => 0) 0 j t
section AL
variable {l : Launch} {G : Gg} {b0 top : Nat} {y : MethodName} {cc : ByteArray} {nL : Nat} {ret : Option FieldType} {rm : Room} {Qc : Array Value → State → Outcome → State → Prop} {w : Wt}
variable {cl sl pc : Nat} {lv lv' : List (Nat × Value)} {rest : List Value} {K : Kk} {R : Rr} {M : Mm}
theorem fv_zr {a j t : Nat} (hz : zr R M a) : fv R M a j t = fv (fun _ _ => none) (fun _ _ => 0, fun _ _ => 0) 0 j t := by
  obtain ⟨h1, h2, h3⟩ := hz
  match t with
  | 0 => simp [fv, h1]
  | 1 => simp [fv, h2]
  | t + 2 => simp [fv, h3]
/-- the heap's size, out of the room that has been used -/
theorem sz_of {H : Heap} (hup : H.size ≤ top + cl) (hlo : top ≤ H.size) (hP : va_P G.1 vwCl (wd G K R M) H) (hlast : cl = 0 ∨ top + cl - 1 ∈ K.1) : H.size = top + cl := by
  rcases hlast with h | h
  · omega
  · obtain ⟨q, he⟩ := wd_get (G := G) (R := R) (M := M) h
    have := (hP q _ he).lt
    simp only at this
    omega
/-- one cell more in the world -/
theorem wd_push {q : Nat} {sh : Nat ⊕ (Nat × Nat)} (hq : q ∉ K.1) : wd G K R M ++ [(q, ce G R M q sh)] = wd G (kp K q sh) R M := by
  have h := va_pl_push (f := fun a => ce G R M a (K.2 a)) (e := ce G R M q sh) hq
  show va_pl K.1 (fun a => ce G R M a (K.2 a)) ++ _ = _
  rw [h]
  show va_pl (K.1 ++ [q]) _ = va_pl (K.1 ++ [q]) _
  refine va_pl_congr fun b => ?_
  by_cases hb : b = q
  · subst hb
    rw [va_up_self]; simp [kp]
  · rw [va_up_ne _ _ hb]; simp [kp, hb]
theorem wd_new {H H1 : Heap} {sh : Nat ⊕ (Nat × Nat)} (hP : va_P G.1 vwCl (wd G K R M) H) (hD : va_D (Ab b0) (wd G K R M)) (hb : b0 ≤ H.size) (o1 : ∀ q, q < H.size → H1[q]? = H[q]?) (hc : va_at G.1 vwCl (H.size, ce G R M H.size sh) H1) : va_P G.1 vwCl (wd G (kp K H.size sh) R M) H1 ∧ va_D (Ab b0) (wd G (kp K H.size sh) R M) := by
  have hq : H.size ∉ K.1 := fun h => by
    obtain ⟨k, he⟩ := wd_get (G := G) (R := R) (M := M) h
    have := (hP k _ he).lt
    exact Nat.lt_irrefl _ this
  rw [← wd_push hq]
  refine ⟨(hP.kept fun k x hx => o1 x.1 (hP k x hx).lt).app (fun k x hx => ?_), hD.push hP rfl hb⟩
  have hz : k < 1 := (List.getElem?_eq_some_iff.mp hx).1
  rw [show k = 0 by omega] at hx
  cases hx
  exact hc
theorem r_new (hw : SyT l G b0 top y cc nL rm w) {idx c N : Nat} {C : String} {T : u_T} (hC : CO c C T N) (hZ : DZ c T N) (hcl : Cond.classLink y.cls idx C ∈ ws0) (hin : Cond.instantiable C N ∈ ws0) (hini : Cond.initialized C ∈ ws0) (hlast : cl = 0 ∨ top + cl - 1 ∈ K.1) (hz : zr R M (top + cl)) (hcells : cl + 1 ≤ rm.cells) (hslots : sl + N ≤ rm.slots) (hd : decode cc pc = .ok (.new idx, 3))
    (kk : w (cl + 1) (sl + N) (pc + 3) lv (.ref (top + cl) :: rest) (kp K (top + cl) (.inl c)) R M) : w cl sl pc lv rest K R M := by
  obtain ⟨p, e, s, m, args, below, meth, cod, Q, w0, ⟨rfl, hx, hb, hml, hown, hts, hKF, hb0⟩, htop⟩ := hw
  have hT : ∀ w ∈ ws0, w ∈ (w0 :: ws0) := fun w hw => List.mem_cons_of_mem _ hw
  obtain ⟨h1, h2, -, -, h5⟩ := hC
  obtain ⟨tf, h3, h4⟩ := hZ
  intro H locs ls hP hD hS h T0 hT0 X
  have hup := X.heapSize
  rw [hT0, htop] at hup
  have hsz : H.size = top + cl := sz_of hup (by rw [← htop]; exact hS.1) hP hlast
  have hKn := hKF.1.1 c _ h1
  suffices hW : W p l e rm s m args below meth cod H locs cl sl Q (F0 m pc ls rest) from hW T0 hT0 X
  refine W.newcK hx hb hown (hts _ (hT _ hcl)) (hts _ (hT _ hin)) (hts _ (hT _ hini)) rfl hd hcells hslots hKn.2.1 rfl fun H1 kC hkC e1 z1 o1 => ?_
  have hnew := wd_new (sh := .inl c) hP hD (by omega) o1 ⟨_, h1, (u_born tf (ws := w0 :: ws0) hts (fun x hx => hT _ (h2 x hx)) hKn hkC e1 h3).to (fun j hj => by
    have hj2 : j < (tyl c).length := by rw [← h5]; exact hj
    obtain ⟨t, ht⟩ : ∃ t, (tyl c)[j]? = some t := ⟨_, List.getElem?_eq_getElem hj2⟩
    rw [h4 j hj t ht]
    show _ = (fl R M H.size c).getD j .null
    rw [List.getD_eq_getElem?_getD, fl_get ht]
    exact (fv_zr (by rw [hsz]; exact hz)).symm)⟩
  rw [hsz] at hnew e1 ⊢
  exact kk H1 locs ls hnew.1 hnew.2 ⟨Nat.le_trans hS.1 (by omega), fun x h1 h2 => (o1 x (Nat.lt_of_lt_of_le h1 hS.1)).trans (hS.2.1 x h1 h2), hS.2.2⟩ h
theorem r_newarr (hw : SyT l G b0 top y cc nL rm w) {at0 : ArrayType} {t n : Nat} {v : Int32} (ht : (tysG G)[t]? = some (G.2 t, newarray.typeOf at0)) (hra : ∀ U cA, va_RA U cA (newarray.typeOf at0) → U.vm.findClass ("[" ++ (newarray.typeOf at0).toString) = some cA) (hce : ∀ cA : ClassId, zr R M (top + cl) → ce G R M (top + cl) (.inr (t, n)) = .inl (G.2 t, n, (ce G R M (top + cl) (.inr (t, n))).elim (fun q => q.2.2) (fun _ => .inl (fun _ => 0))) ∧ vp_cell cA (n, (ce G R M (top + cl) (.inr (t, n))).elim (fun q => q.2.2) (fun _ => .inl (fun _ => 0))) = arrV cA n (fun _ => defaultValue (newarray.typeOf at0))) (harr : Cond.arrayClass (newarray.typeOf at0) ∈ ws0) (hv : v = nI n) (hn : n < 2 ^ 20) (hby : n * componentBytes (newarray.typeOf at0) ≤ 536870912) (hlast : cl = 0 ∨ top + cl - 1 ∈ K.1) (hz : zr R M (top + cl)) (hcells : cl + 1 ≤ rm.cells) (hslots : sl + n ≤ rm.slots) (hd : decode cc pc = .ok (.newarray at0, 2))
    (kk : w (cl + 1) (sl + n) (pc + 2) lv (.ref (top + cl) :: rest) (kp K (top + cl) (.inr (t, n))) R M) : w cl sl pc lv (.int v :: rest) K R M := by
  obtain ⟨p, e, s, m, args, below, meth, cod, Q, w0, ⟨rfl, hx, hb, hml, hown, hts, hKF, hb0⟩, htop⟩ := hw
  have hT : ∀ w ∈ ws0, w ∈ (w0 :: ws0) := fun w hw => List.mem_cons_of_mem _ hw
  intro H locs ls hP hD hS h T0 hT0 X
  have hup := X.heapSize
  rw [hT0, htop] at hup
  have hsz : H.size = top + cl := sz_of hup (by rw [← htop]; exact hS.1) hP hlast
  subst hv
  suffices hW : W p l e rm s m args below meth cod H locs cl sl Q (F0 m pc ls (.int (nI n) :: rest)) from hW T0 hT0 X
  refine va_newaK (N := n) hx hb (hts _ (hT _ harr)) rfl hd rfl (nI_pos (by omega)) (nI_clamp (by omega)) hby hcells hslots rfl fun H1 cA e1 z1 o1 hAr hNm => ?_
  have hcA : cA = G.2 t := by
    have h1 := hra s (G.2 t) (hKF.1.2 t _ ht).2
    rw [hNm] at h1
    exact Option.some.inj h1
  subst hcA
  have hc := hce (G.2 t) hz
  have hnew := wd_new (sh := .inr (t, n)) hP hD (by omega) o1 (by
    rw [hsz, hc.1]
    show H1[top + cl]? = some (vp_cell _ _)
    rw [hc.2, ← hsz]
    exact e1)
  rw [hsz] at hnew ⊢
  exact kk H1 locs ls hnew.1 hnew.2 ⟨Nat.le_trans hS.1 (by omega), fun x h1 h2 => (o1 x (Nat.lt_of_lt_of_le h1 hS.1)).trans (hS.2.1 x h1 h2), hS.2.2⟩ h
theorem r_newI (hw : SyT l G b0 top y cc nL rm w) (n : Nat) {v : Int32} (harr : Cond.arrayClass .int ∈ ws0) (hv : v = nI n) (hn : n < 2 ^ 20) (hlast : cl = 0 ∨ top + cl - 1 ∈ K.1) (hz : zr R M (top + cl)) (hcells : cl + 1 ≤ rm.cells) (hslots : sl + n ≤ rm.slots) (hd : decode cc pc = .ok (.newarray .int, 2))
    (kk : w (cl + 1) (sl + n) (pc + 2) lv (.ref (top + cl) :: rest) (kp K (top + cl) (.inr (0, n))) R M) : w cl sl pc lv (.int v :: rest) K R M :=
  r_newarr (at0 := .int) (t := 0) hw rfl (fun U cA h => h) (fun cA hz => ⟨rfl, by show vp_cell cA (n, .inl (M.1 (top + cl))) = _; rw [hz.1]; rfl⟩) harr hv hn (by show n * 4 ≤ _; omega) hlast hz hcells hslots hd kk
theorem r_newL (hw : SyT l G b0 top y cc nL rm w) (n : Nat) {v : Int32} (harr : Cond.arrayClass .long ∈ ws0) (hv : v = nI n) (hn : n < 2 ^ 20) (hlast : cl = 0 ∨ top + cl - 1 ∈ K.1) (hz : zr R M (top + cl)) (hcells : cl + 1 ≤ rm.cells) (hslots : sl + n ≤ rm.slots) (hd : decode cc pc = .ok (.newarray .long, 2))
    (kk : w (cl + 1) (sl + n) (pc + 2) lv (.ref (top + cl) :: rest) (kp K (top + cl) (.inr (1, n))) R M) : w cl sl pc lv (.int v :: rest) K R M :=
  r_newarr (at0 := .long) (t := 1) hw rfl (fun U cA h => h) (fun cA hz => ⟨rfl, by show vp_cell cA (n, .inr (.inl (M.2 (top + cl)))) = _; rw [hz.2.1]; rfl⟩) harr hv hn (by show n * 8 ≤ _; omega) hlast hz hcells hslots hd kk
theorem r_newZ (hw : SyT l G b0 top y cc nL rm w) (n : Nat) {v : Int32} (harr : Cond.arrayClass .boolean ∈ ws0) (hv : v = nI n) (hn : n < 2 ^ 20) (hlast : cl = 0 ∨ top + cl - 1 ∈ K.1) (hz : zr R M (top + cl)) (hcells : cl + 1 ≤ rm.cells) (hslots : sl + n ≤ rm.slots) (hd : decode cc pc = .ok (.newarray .boolean, 2))
    (kk : w (cl + 1) (sl + n) (pc + 2) lv (.ref (top + cl) :: rest) (kp K (top + cl) (.inr (2, n))) R M) : w cl sl pc lv (.int v :: rest) K R M :=
  r_newarr (at0 := .boolean) (t := 2) hw rfl (fun U cA h => h) (fun cA hz => ⟨rfl, by show vp_cell cA (n, .inl (M.1 (top + cl))) = _; rw [hz.1]; rfl⟩) harr hv hn (by show n * 1 ≤ _; omega) hlast hz hcells hslots hd kk
/-- a new array of references; t: 0 Ring, 1 Pieces, 2 Piece -/
theorem r_newA (hw : SyT l G b0 top y cc nL rm w) (n t : Nat) {idx : Nat} {v : Int32} {C : String} (ht : (tysG G)[t + 3]? = some (G.2 (t + 3), .object C)) (hcl : Cond.classLink y.cls idx C ∈ ws0) (hao : ∀ U, KF G U → va_AO C U) (hv : v = nI n) (hn : n < 2 ^ 20) (hlast : cl = 0 ∨ top + cl - 1 ∈ K.1) (hz : zr R M (top + cl)) (hcells : cl + 1 ≤ rm.cells) (hslots : sl + n ≤ rm.slots) (hd : decode cc pc = .ok (.anewarray idx, 3))
    (kk : w (cl + 1) (sl + n) (pc + 3) lv (.ref (top + cl) :: rest) (kp K (top + cl) (.inr (t + 3, n))) R M) : w cl sl pc lv (.int v :: rest) K R M := by
  obtain ⟨p, e, s, m, args, below, meth, cod, Q, w0, ⟨rfl, hx, hb, hml, hown, hts, hKF, hb0⟩, htop⟩ := hw
  have hT : ∀ w ∈ ws0, w ∈ (w0 :: ws0) := fun w hw => List.mem_cons_of_mem _ hw
  intro H locs ls hP hD hS h T0 hT0 X
  have hup := X.heapSize
  rw [hT0, htop] at hup
  have hsz : H.size = top + cl := sz_of hup (by rw [← htop]; exact hS.1) hP hlast
  subst hv
  have hcl0 : (nI n).toNatClampNeg = n := nI_clamp (by omega)
  suffices hW : W p l e rm s m args below meth cod H locs cl sl Q (F0 m pc ls (.int (nI n) :: rest)) from hW T0 hT0 X
  refine W.anew hx hb hown (hts _ (hT _ hcl)) (va_AO.use (hao _ hKF)) rfl hd rfl (nI_pos (by omega)) (by rw [hcl0]; omega) hcells (by rw [hcl0]; exact hslots) fun cA kA comp f1 f2 f3 f4 => ?_
  have hcA : cA = G.2 (t + 3) := by
    obtain ⟨_, _, _, _, _, h1⟩ := (hKF.1.2 (t + 3) _ ht).2
    rw [f1] at h1
    exact Option.some.inj h1
  subst hcA
  generalize hH1 : H.push ({ cls := G.2 (t + 3), slots := Array.replicate (nI n).toNatClampNeg .null, vm := .none } : Cell) = H1
  have z1 : H1.size = H.size + 1 := by rw [← hH1, Array.size_push]
  have e1 : H1[H.size]? = some (arrV (G.2 (t + 3)) n (fun _ => .null)) := by rw [← hH1, Array.getElem?_push_size, hcl0, ← arrV_new]
  have o1 : ∀ q : Nat, q < H.size → H1[q]? = H[q]? := fun q hq => by rw [← hH1, Array.getElem?_push, if_neg (Nat.ne_of_lt hq)]
  have hnew := wd_new (sh := .inr (t + 3, n)) hP hD (by omega) o1 (by
    show H1[H.size]? = some (vp_cell (G.2 (t + 3)) (n, .inr (.inr (.inr (.inr (R H.size))))))
    rw [e1, vp_cell_q, hsz, hz.2.2]
    rfl)
  rw [hsz] at hnew ⊢
  rw [hcl0]
  exact kk H1 locs ls hnew.1 hnew.2 ⟨Nat.le_trans hS.1 (by omega), fun x h1 h2 => (o1 x (Nat.lt_of_lt_of_le h1 hS.1)).trans (hS.2.1 x h1 h2), hS.2.2⟩ h
theorem r_objInit (hw : SyT l G b0 top y cc nL rm w) {idx a : Nat} (hL : Cond.methodLink y.cls idx objectInit ∈ ws0) (hI : Cond.instanceMethod objectInit ∈ ws0) (hc : Cond.code objectInit ⟨#[0xb1]⟩ 1 none ∈ ws0) (hfr : 1 ≤ rm.frames) (hlo : (rest.map fun v => v.category).sum + 12 ≤ rm.locals) (hd : decode cc pc = .ok (.invokespecial idx, 3)) (kk : w cl sl (pc + 3) lv rest K R M) : w cl sl pc lv (.ref a :: rest) K R M := by
  obtain ⟨p, e, s, m, args, below, meth, cod, Q, w0, ⟨rfl, hx, hb, hml, hown, hts, hKF, hb0⟩, htop⟩ := hw
  have hT : ∀ w ∈ ws0, w ∈ (w0 :: ws0) := fun w hw => List.mem_cons_of_mem _ hw
  exact fun H locs ls hP hD hS h => W.objInit hx hb hown (hts _ (hT _ hL)) (hts _ (hT _ hI)) (hts _ (hT _ hc)) rfl (by rw [hml]; exact h.1) rfl hd hfr (by show 2 * 0 + _ + 12 ≤ rm.locals; omega) (kk H locs ls hP hD hS h)
/-- a final field, in its class's constructor -/
def FF (own : String) (idx c k t : Nat) (ty : FieldType) : Prop := ∃ (C : String) (T : u_T) (N : Nat), CO c C T N ∧ k < N ∧ (tyl c)[k]? = some t ∧ Cond.fieldLink own idx (T k).1 (T k).2.1 (T k).2.2.1 ∈ ws0 ∧ (T k).2.2.2 = true ∧ (T k).1 = own ∧ parseFieldDescriptor (T k).2.2.1 = some ty
theorem r_putFR (hw : SyN l G b0 top y cc nL ret rm Qc w) {idx c k a b : Nat} {ty : FieldType} (hF : FF y.cls idx c k 2 ty) (hnme : y.name = "<init>") (hty : narrow ty (.ref b) = .ref b ∧ fits ty (.ref b) = true) (ho : isO K a c) (hd : decode cc pc = .ok (.putfield idx, 3)) (kk : w cl sl (pc + 3) lv rest K (pR R a k (some b)) M) : w cl sl pc lv (.ref b :: .ref a :: rest) K R M := by
  obtain ⟨p, e, s, m, args, below, meth, cod, ⟨rfl, hx, hb, hr, hml, hown, hts, hKF, hb0, hlk, hnm⟩, htop⟩ := hw
  obtain ⟨C, T, N, ⟨h1, h2, ⟨tf, h3⟩, h4, h5⟩, hk, ht, hl, hfin, hdecl, hpd⟩ := hF
  intro H locs ls hP hD hS h
  obtain ⟨q0, he⟩ := wd_get (G := G) (R := R) (M := M) ho.1
  have he' := he
  rw [ce_o ho.2] at he'
  have hset : (wd G K R M).set q0 (a, .inr (c, (fl R M a c).set k (.ref b))) = wd G K (pR R a k (some b)) M := by
    refine wd_set hD ho.1 he ?_ (fun b hb => ce_ne rfl rfl (by simp [pR, u2_ne hb]))
    rw [ce_o ho.2, fl_set (t := 2) (v := .ref b) ht (by simp [fv, pR, u2, va_rf]) (fun j t' hj => fv_pR_o hj)]
  refine va_putF hx hb (Ts := Cond.code y cc nL ret :: ws0) hts (fun x hx => List.mem_cons_of_mem _ (h2 x hx)) tf h3 h4 hown hKF.1 hP hD hS q0 he' h1 k hk (hts _ (List.mem_cons_of_mem _ hl)) (fun x hx => hx) hfin (hnm.trans hnme) hdecl hpd hty.1 hty.2 (by rw [fl_len, ← h5]; exact hk) hd (fun H1 locs1 hP1 hD1 hS1 => ?_)
  rw [hset] at hP1 hD1
  exact kk H1 locs1 ls hP1 hD1 hS1 h
variable {y2 : MethodName} {cc2 : ByteArray} {mL2 : Nat} {rm2 : Room} {Φ : Kk → Rr → Mm → Prop}
theorem frameBlind_pn {av : List Value} : FrameBlind (va_Pc av (fun U => (RS G b0 K R M U ∧ b0 ≤ U.heap.size) ∧ U.heap.size = top)) := by
  intro a U g mk h
  obtain ⟨h1, ⟨⟨h2, h3, h4⟩, h5⟩, h6⟩ := h
  exact ⟨h1, ⟨⟨h2, h3, KF.same (s := U) (U := U.calling g mk a) rfl h4⟩, h5⟩, h6⟩
theorem w_runP {p : Program} {e : Env} {s : State} {m : MethodId} {args : Array Value} {below : List Frame} {meth : Method} {c : Code} {Rm : Room} {Q : State → Prop} {H : Heap} {locs : List Loc} {ls : Array Slot} {st0 : List Value} {mc ms : Nat} {a : Array Value}
    (hr : va_Run p l e Rm s m args below meth c H locs cl sl mc ms (F0 m pc ls st0) rest (QP G b0 Φ a) (Ab b0)) (hS : va_S (Ab b0) s.heap H locs) (hl : lv_has ls nL lv)
    (kk : ∀ K2 R2 M2, Φ K2 R2 M2 → wq G b0 p l e Rm s m args below meth c nL Q (cl + mc) (sl + ms) (pc + 3) lv rest K2 R2 M2) : W p l e Rm s m args below meth c H locs cl sl Q (F0 m pc ls st0) := by
  intro T hT X
  obtain ⟨v, st₀, t, T', L, h0, X', hL, e1, e2, ⟨hv, ⟨K2, R2, M2, hΦ, hP, hD, -⟩, hz, hk⟩, st⟩ := hr T hT X
  have hv : v = none := by cases hv; rfl
  subst hv
  rw [h0] at hz hk
  obtain ⟨t2, a1, b1⟩ := kk K2 R2 M2 hΦ T'.heap (locs ++ L) ls (by rw [e1]; exact hP) hD ⟨Nat.le_trans hS.1 (by rw [e1]; exact hz), fun q h1 h2 => by rw [e1, hk q (Nat.lt_of_lt_of_le h1 hS.1) h2]; exact hS.2.1 q h1 h2, fun q hq => by
      rcases List.mem_append.mp hq with h | h
      · exact hS.2.2 q h
      · exact hL q h⟩ hl T' rfl X'
  exact ⟨t2, st t2 a1, b1⟩
theorem r_returnP (hw : SyN l G b0 top y cc nL none rm (QP G b0 Φ) w) (hΦ : Φ K R M) (hc : rm.cells = cl) (hs : rm.slots = sl) (hd : decode cc pc = .ok (.return_, 1)) : w cl sl pc lv [] K R M := by
  obtain ⟨p, e, s, m, args, below, meth, cod, ⟨rfl, hx, hb, hr, hml, hown, hts, hKF, hb0, hlk, hnm⟩, htop⟩ := hw
  subst hc; subst hs
  intro H locs ls hP hD hS h
  exact W.vret hx hb hr (fun t ht hW => ⟨rfl, ⟨K, R, M, hΦ, by rw [ht]; exact hP, hD, hKF.moved hW⟩, hS.F ht⟩) hS.2.2 hd
theorem r_callC (hw : SyT l G b0 top y cc nL rm w) {a idx n : Nat} {As : List Value} (hm : CP l G b0 (top + cl) y2 cc2 mL2 rm2 (.ref a :: As) K R M Φ) (hB : LB y2 cc2 mL2 none n) (hy : y2.name = "<init>") (hI : Cond.instanceMethod y2 ∈ ws0) (hL : Cond.methodLink y.cls idx y2 ∈ ws0) (hn : As.length = n)
    (hR : rm2.frames + 1 ≤ rm.frames ∧ 8 + (mL2 + 11) + rm2.locals ≤ rm.locals) (hcell : cl + rm2.cells ≤ rm.cells ∧ sl + rm2.slots ≤ rm.slots) (hlast : cl = 0 ∨ top + cl - 1 ∈ K.1) {st : List Value} (hst : st = As.reverse ++ .ref a :: rest) (hcat : (rest.map fun v => v.category).sum ≤ 8) (hd : decode cc pc = .ok (.invokespecial idx, 3))
    (kk : ∀ K2 R2 M2, Φ K2 R2 M2 → w (cl + rm2.cells) (sl + rm2.slots) (pc + 3) lv rest K2 R2 M2) : w cl sl pc lv st K R M := by
  obtain ⟨p, e, s, m, args, below, meth, cod, Q, w0, ⟨rfl, hx, hb, hml, hown, hts, hKF, hb0⟩, htop⟩ := hw
  obtain ⟨hB1, hB2, hB3, hB4, hB5⟩ := hB
  intro H locs ls hP hD hS h T0 hT0 X
  have hup := X.heapSize
  rw [hT0, htop] at hup
  have hsz : H.size = top + cl := sz_of hup (by rw [← htop]; exact hS.1) hP hlast
  subst hst
  have hT : ∀ w ∈ ws0, w ∈ (w0 :: ws0) := fun w hw => List.mem_cons_of_mem _ hw
  have hG : GoodIn (w0 :: ws0) (Cond.code y2 cc2 mL2 none :: ws0) := by
    refine good_in (x := w0) hT (fun w hw => ?_)
    rcases List.mem_cons.mp hw with rfl | hw
    · exact hB1
    · exact hw
  exact (w_runP (va_runI (As := As) (rest := rest) (Ts := w0 :: ws0) ⟨hx, hb, hml, hown, hts⟩ hm (cwI n hts hG rfl rfl rfl (hts _ (hT _ hB2)) (hts _ (hT _ hL)) (hts _ (hT _ hI)) hy ⟨hB3, hB4, hB5⟩ hR) ⟨frameBlind_pn, fun U hU hW => ⟨rfl, ⟨⟨by rw [hU]; exact hP, hD, hKF.moved hW⟩, by rw [hU]; omega⟩, by rw [hU]; exact hsz⟩⟩ rfl hn h.1 rfl (lv_room hcat) hd hcell) hS h kk) T0 hT0 X
theorem r_callCN (hw : SyT l G b0 top y cc nL rm w) {a idx n : Nat} {As : List Value} (hm : CP l G b0 (top + cl) y2 cc2 mL2 rm2 (.ref a :: As) K R M Φ) (hB : LB y2 cc2 mL2 none n) (hy : y2.name = "<init>") (hI : Cond.instanceMethod y2 ∈ ws0) (hL : (y.cls, idx, y2, RX7) ∈ nestW) (hn : As.length = n)
    (hR : rm2.frames + 1 ≤ rm.frames ∧ 8 + (mL2 + 11) + rm2.locals ≤ rm.locals) (hcell : cl + rm2.cells ≤ rm.cells ∧ sl + rm2.slots ≤ rm.slots) (hlast : cl = 0 ∨ top + cl - 1 ∈ K.1) {st : List Value} (hst : st = As.reverse ++ .ref a :: rest) (hcat : (rest.map fun v => v.category).sum ≤ 8) (hd : decode cc pc = .ok (.invokespecial idx, 3))
    (kk : ∀ K2 R2 M2, Φ K2 R2 M2 → w (cl + rm2.cells) (sl + rm2.slots) (pc + 3) lv rest K2 R2 M2) : w cl sl pc lv st K R M := by
  obtain ⟨p, e, s, m, args, below, meth, cod, Q, w0, ⟨rfl, hx, hb, hml, hown, hts, hKF, hb0⟩, htop⟩ := hw
  obtain ⟨hB1, hB2, hB3, hB4, hB5⟩ := hB
  intro H locs ls hP hD hS h T0 hT0 X
  have hup := X.heapSize
  rw [hT0, htop] at hup
  have hsz : H.size = top + cl := sz_of hup (by rw [← htop]; exact hS.1) hP hlast
  subst hst
  have hT : ∀ w ∈ ws0, w ∈ (w0 :: ws0) := fun w hw => List.mem_cons_of_mem _ hw
  have hG : GoodIn (w0 :: ws0) (Cond.code y2 cc2 mL2 none :: ws0) := by
    refine good_in (x := w0) hT (fun w hw => ?_)
    rcases List.mem_cons.mp hw with rfl | hw
    · exact hB1
    · exact hw
  exact (w_runP (va_runIN (As := As) (rest := rest) (Ts := w0 :: ws0) ⟨hx, hb, hml, hown, hts⟩ hm ⟨va_cnB n hts hG rfl rfl rfl (hKF.2.1 _ hL) (hts _ (hT _ hB2)) ⟨hB3, hB4, hB5⟩ hR, hy, hts _ (hT _ hI)⟩ ⟨frameBlind_pn, fun U hU hW => ⟨rfl, ⟨⟨by rw [hU]; exact hP, hD, hKF.moved hW⟩, by rw [hU]; omega⟩, by rw [hU]; exact hsz⟩⟩ rfl hn h.1 rfl (lv_room hcat) hd hcell) hS h kk) T0 hT0 X
end AL
