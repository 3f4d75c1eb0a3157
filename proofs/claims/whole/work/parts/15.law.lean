theorem tb_1 (i : Nat) {w : Cond} (h : tables_1_1[i]? = some w) : w ∈ lw_tbl := List.mem_append_right _ (List.mem_append_left _ (List.mem_of_getElem? h))
theorem tb_2 (i : Nat) {w : Cond} (h : tables_1_2[i]? = some w) : w ∈ lw_tbl := List.mem_append_right _ (List.mem_append_right _ (List.mem_append_left _ (List.mem_of_getElem? h)))
theorem tb_3 (i : Nat) {w : Cond} (h : tables_1_3[i]? = some w) : w ∈ lw_tbl := List.mem_append_right _ (List.mem_append_right _ (List.mem_append_right _ (List.mem_append_left _ (List.mem_of_getElem? h))))
theorem tb_4 (i : Nat) {w : Cond} (h : tables_1_4[i]? = some w) : w ∈ lw_tbl := List.mem_append_right _ (List.mem_append_right _ (List.mem_append_right _ (List.mem_append_right _ (List.mem_append_left _ (List.mem_of_getElem? h)))))
theorem tb_5 (i : Nat) {w : Cond} (h : tables_1_5[i]? = some w) : w ∈ lw_tbl := List.mem_append_right _ (List.mem_append_right _ (List.mem_append_right _ (List.mem_append_right _ (List.mem_append_right _ ((List.mem_of_getElem? h))))))
theorem wA_5 : Cond.arrayOver (.object RX5) ∈ lw_tbl := tb_1 50 rfl
theorem wA_4 : Cond.arrayOver (.object RX4) ∈ lw_tbl := tb_1 58 rfl
theorem wA_3 : Cond.arrayOver (.object RX3) ∈ lw_tbl := tb_1 65 rfl
theorem wN_0 : Cond.methodLinkNest RX4 17 yX3_init RX7 ∈ lw_tbl := tb_1 67 rfl
theorem wN_1 : Cond.methodLinkNest RX7 42 yX6_init RX7 ∈ lw_tbl := tb_1 123 rfl
theorem wN_2 : Cond.methodLinkNest RX7 49 yX2_init RX7 ∈ lw_tbl := tb_1 148 rfl
theorem wN_3 : Cond.methodLinkNest RX7 56 yX0_init RX7 ∈ lw_tbl := tb_1 181 rfl
theorem wN_4 : Cond.methodLinkNest RX0 25 yX2_init RX7 ∈ lw_tbl := tb_1 188 rfl
theorem wN_5 : Cond.methodLinkNest RX7 63 yX3_init RX7 ∈ lw_tbl := tb_1 201 rfl
theorem wN_6 : Cond.methodLinkNest RX5 55 yX7_sideOf RX7 ∈ lw_tbl := tb_2 60 rfl
theorem wN_7 : Cond.methodLinkNest RX5 61 yX7_isPlace RX7 ∈ lw_tbl := tb_2 199 rfl
theorem wN_all : ∀ q ∈ nestW, Cond.methodLinkNest q.1 q.2.1 q.2.2.1 q.2.2.2 ∈ lw_tbl := by
  intro q hq
  simp only [nestW, List.mem_cons, List.not_mem_nil, or_false] at hq
  rcases hq with rfl | rfl | rfl | rfl | rfl | rfl | rfl | rfl
  · exact wN_0
  · exact wN_1
  · exact wN_2
  · exact wN_3
  · exact wN_4
  · exact wN_5
  · exact wN_6
  · exact wN_7
theorem mL_L_9 : Cond.methodLink RL 9 yX7_init ∈ ws0 := ws0_1 14 rfl rfl
theorem mL_L_12 : Cond.methodLink RL 12 yX8_init ∈ ws0 := ws0_3 207 rfl rfl
theorem mL_L_13 : Cond.methodLink RL 13 yX7_corner ∈ ws0 := ws0_2 5 rfl rfl
theorem mL_L_17 : Cond.methodLink RL 17 yX8_corner ∈ ws0 := ws0_4 98 rfl rfl
theorem mL_L_18 : Cond.methodLink RL 18 yX7_figure ∈ ws0 := ws0_2 22 rfl rfl
theorem mL_L_22 : Cond.methodLink RL 22 yX8_figure ∈ ws0 := ws0_4 112 rfl rfl
theorem mL_L_23 : Cond.methodLink RL 23 yX7_area ∈ ws0 := ws0_2 72 rfl rfl
theorem mL_L_26 : Cond.methodLink RL 26 yX8_area ∈ ws0 := ws0_4 144 rfl rfl
theorem mL_L_27 : Cond.methodLink RL 27 yX7_begin ∈ ws0 := ws0_2 76 rfl rfl
theorem mL_L_30 : Cond.methodLink RL 30 yX8_begin ∈ ws0 := ws0_4 152 rfl rfl
theorem mL_L_31 : Cond.methodLink RL 31 yX7_cut ∈ ws0 := ws0_2 107 rfl rfl
theorem mL_L_35 : Cond.methodLink RL 35 yX8_cut ∈ ws0 := ws0_4 168 rfl rfl
theorem mL_L_36 : Cond.methodLink RL 36 yX7_part ∈ ws0 := ws0_2 178 rfl rfl
theorem mL_L_40 : Cond.methodLink RL 40 yX8_part ∈ ws0 := ws0_4 217 rfl rfl
theorem mL_L_41 : Cond.methodLink RL 41 yX7_slide ∈ ws0 := ws0_2 186 rfl rfl
theorem mL_L_45 : Cond.methodLink RL 45 yX8_slide ∈ ws0 := ws0_4 227 rfl rfl
theorem mL_L_46 : Cond.methodLink RL 46 yX7_half ∈ ws0 := ws0_2 200 rfl rfl
theorem mL_L_49 : Cond.methodLink RL 49 yX8_half ∈ ws0 := ws0_5 1 rfl rfl
theorem mL_L_50 : Cond.methodLink RL 50 yX7_join ∈ ws0 := ws0_2 204 rfl rfl
theorem mL_L_53 : Cond.methodLink RL 53 yX8_join ∈ ws0 := ws0_5 5 rfl rfl
theorem mL_L_54 : Cond.methodLink RL 54 yX7_aside ∈ ws0 := ws0_2 232 rfl rfl
theorem mL_L_57 : Cond.methodLink RL 57 yX8_aside ∈ ws0 := ws0_5 29 rfl rfl
theorem mL_L_58 : Cond.methodLink RL 58 yX7_back ∈ ws0 := ws0_3 0 rfl rfl
theorem mL_L_62 : Cond.methodLink RL 62 yX8_back ∈ ws0 := ws0_5 33 rfl rfl
theorem mL_L_63 : Cond.methodLink RL 63 yX7_undo ∈ ws0 := ws0_3 4 rfl rfl
theorem mL_L_66 : Cond.methodLink RL 66 yX8_undo ∈ ws0 := ws0_4 89 rfl rfl
theorem mL_L_67 : Cond.methodLink RL 67 yX7_redo ∈ ws0 := ws0_3 16 rfl rfl
theorem mL_L_70 : Cond.methodLink RL 70 yX8_redo ∈ ws0 := ws0_4 94 rfl rfl
theorem mL_L_71 : Cond.methodLink RL 71 yX7_isOf ∈ ws0 := ws0_3 28 rfl rfl
theorem mL_L_74 : Cond.methodLink RL 74 yX8_isOf ∈ ws0 := ws0_5 37 rfl rfl
theorem mL_L_75 : Cond.methodLink RL 75 yX7_about ∈ ws0 := ws0_3 45 rfl rfl
theorem mL_L_78 : Cond.methodLink RL 78 yX8_about ∈ ws0 := ws0_5 49 rfl rfl
theorem mL_L_79 : Cond.methodLink RL 79 yX7_at ∈ ws0 := ws0_3 49 rfl rfl
theorem mL_L_82 : Cond.methodLink RL 82 yX8_at ∈ ws0 := ws0_5 58 rfl rfl
theorem mL_L_83 : Cond.methodLink RL 83 yX7_over ∈ ws0 := ws0_3 54 rfl rfl
theorem mL_L_86 : Cond.methodLink RL 86 yX8_over ∈ ws0 := ws0_5 64 rfl rfl
theorem mL_L_87 : Cond.methodLink RL 87 yX7_find ∈ ws0 := ws0_3 70 rfl rfl
theorem mL_L_90 : Cond.methodLink RL 90 yX8_find ∈ ws0 := ws0_5 76 rfl rfl
theorem mL_L_91 : Cond.methodLink RL 91 yX7_covers ∈ ws0 := ws0_3 78 rfl rfl
theorem mL_L_94 : Cond.methodLink RL 94 yX8_covers ∈ ws0 := ws0_5 84 rfl rfl
theorem mL_L_95 : Cond.methodLink RL 95 yX7_sums ∈ ws0 := ws0_3 98 rfl rfl
theorem mL_L_98 : Cond.methodLink RL 98 yX8_sums ∈ ws0 := ws0_5 107 rfl rfl
theorem mL_L_99 : Cond.methodLink RL 99 yX7_sum ∈ ws0 := ws0_3 134 rfl rfl
theorem mL_L_102 : Cond.methodLink RL 102 yX8_sum ∈ ws0 := ws0_5 122 rfl rfl
theorem mL_L_103 : Cond.methodLink RL 103 yX7_shelve ∈ ws0 := ws0_3 138 rfl rfl
theorem mL_L_106 : Cond.methodLink RL 106 yX8_shelve ∈ ws0 := ws0_5 131 rfl rfl
theorem mL_L_107 : Cond.methodLink RL 107 yX7_fetch ∈ ws0 := ws0_3 146 rfl rfl
theorem mL_L_110 : Cond.methodLink RL 110 yX8_fetch ∈ ws0 := ws0_5 135 rfl rfl
theorem mL_L_111 : Cond.methodLink RL 111 yX7_third ∈ ws0 := ws0_3 150 rfl rfl
theorem mL_L_114 : Cond.methodLink RL 114 yX8_third ∈ ws0 := ws0_5 139 rfl rfl
theorem mL_L_115 : Cond.methodLink RL 115 yX7_count ∈ ws0 := ws0_3 193 rfl rfl
theorem mL_L_118 : Cond.methodLink RL 118 yX8_count ∈ ws0 := ws0_5 159 rfl rfl
theorem cL_L_7 : Cond.classLink RL 7 RX7 ∈ ws0 := ws0_1 12 rfl rfl
theorem cL_L_10 : Cond.classLink RL 10 RX8 ∈ ws0 := ws0_3 205 rfl rfl
/-! THE LAW: what its walk stands on -/
theorem arr_known {s : State} {args : Array Value} {ty : FieldType} (h : (Cond.arrayClass ty).before args s = true) : ∃ cA, ArrOfT s cA ty ∧ s.vm.findClass ("[" ++ ty.toString) = some cA := by
  obtain ⟨c, k, comp, h1, h2, h3⟩ := Cond.arrayClass_spec h
  exact ⟨c, fun n z => ⟨fun k h => (by cases h), k, h2, comp, h3⟩, h1⟩
theorem arr_over {s : State} {args : Array Value} {C : String} (h : (Cond.arrayOver (.object C)).before args s = true) : ∃ cA, ArrOfT s cA (.object C) ∧ va_RA s cA (.object C) := by
  obtain ⟨comp, c, k, h1, h2, h3, h4, h5⟩ := Cond.arrayOver_spec h
  exact ⟨c, fun n z => ⟨fun k h => (by cases h), k, h3, comp, h4⟩, k, comp, h3, h4, h1, h5⟩
theorem cl_known {s : State} {args : Array Value} (hts : ∀ w ∈ ws0, w.before args s = true) {c : Nat} {C : String} {T : u_T} {N : Nat} (hC : CO c C T N) (hi : Cond.instantiable C N ∈ ws0) : ∃ (cC : ClassId) (iS : Nat → Nat), u_Kn s C T N cC iS := u_known hts hC.2.1 (hts _ hi)
theorem kf_of {s : State} {args : Array Value} (hts : ∀ w ∈ lw_tbl, w.before args s = true) : ∃ G : Gg, KF G s := by
  have ht0 : ∀ w ∈ ws0, w.before args s = true := fun w hw => hts w (ws0_tbl hw)
  obtain ⟨c0, i0, k0⟩ := cl_known ht0 cO_0 iN_X0
  obtain ⟨c1, i1, k1⟩ := cl_known ht0 cO_1 iN_X1
  obtain ⟨c2, i2, k2⟩ := cl_known ht0 cO_2 iN_X2
  obtain ⟨c3, i3, k3⟩ := cl_known ht0 cO_3 iN_X3
  obtain ⟨c4, i4, k4⟩ := cl_known ht0 cO_4 iN_X4
  obtain ⟨c5, i5, k5⟩ := cl_known ht0 cO_5 iN_X5
  obtain ⟨c6, i6, k6⟩ := cl_known ht0 cO_6 iN_X6
  obtain ⟨c7, i7, k7⟩ := cl_known ht0 cO_7 iN_X7
  obtain ⟨c8, i8, k8⟩ := cl_known ht0 cO_8 iN_X8
  obtain ⟨aI, hI, nI'⟩ := arr_known (ht0 _ aC_int)
  obtain ⟨aJ, hJ, nJ⟩ := arr_known (ht0 _ aC_long)
  obtain ⟨aZ, hZ, nZ⟩ := arr_known (ht0 _ aC_boolean)
  obtain ⟨a5, h5, n5⟩ := arr_over (hts _ wA_5)
  obtain ⟨a4, h4, n4⟩ := arr_over (hts _ wA_4)
  obtain ⟨a3, h3, n3⟩ := arr_over (hts _ wA_3)
  refine ⟨((fun k => match k with | 0 => c0 | 1 => c1 | 2 => c2 | 3 => c3 | 4 => c4 | 5 => c5 | 6 => c6 | 7 => c7 | _ => c8, fun k => match k with | 0 => i0 | 1 => i1 | 2 => i2 | 3 => i3 | 4 => i4 | 5 => i5 | 6 => i6 | 7 => i7 | _ => i8), fun k => match k with | 0 => aI | 1 => aJ | 2 => aZ | 3 => a5 | 4 => a4 | _ => a3), ⟨fun k q hq => ?_, fun k q hq => ?_⟩, fun q hq => va_Nw.of rfl (hts _ (wN_all q hq)), va_AO.of (hts _ wA_5), va_AO.of (hts _ wA_4), va_AO.of (hts _ wA_3)⟩
  · match k, hq with
    | 0, hq => cases hq; exact k0
    | 1, hq => cases hq; exact k1
    | 2, hq => cases hq; exact k2
    | 3, hq => cases hq; exact k3
    | 4, hq => cases hq; exact k4
    | 5, hq => cases hq; exact k5
    | 6, hq => cases hq; exact k6
    | 7, hq => cases hq; exact k7
    | 8, hq => cases hq; exact k8
    | k + 9, hq => cases hq
  · match k, hq with
    | 0, hq => cases hq; exact ⟨hI, nI'⟩
    | 1, hq => cases hq; exact ⟨hJ, nJ⟩
    | 2, hq => cases hq; exact ⟨hZ, nZ⟩
    | 3, hq => cases hq; exact ⟨h5, n5⟩
    | 4, hq => cases hq; exact ⟨h4, n4⟩
    | 5, hq => cases hq; exact ⟨h3, n3⟩
    | k + 6, hq => cases hq
/-- the law's walk: the script of L ints xs at b, its end -/
def SyL (l : Launch) (G : Gg) (b0 : Nat) (b L : Nat) (xs : Nat → Int32) (w : Wt) : Prop :=
  ∃ (p : Program) (e : Env) (s : State) (m : MethodId) (below : List Frame) (meth : Method) (c : Code) (w0 : Cond),
    w = wq G b0 p l e room_1 s m #[Value.ref b] below meth c 4 (lw_Z below #[Value.ref b] s) ∧ p.tables.exec = Jvm.exec ∧ c.code = code ∧ meth.sig.returnType = ret ∧ c.maxLocals = 4 ∧ s.vm.findClass RL = some m.cls ∧ (∀ x ∈ (w0 :: ws0), x.before #[Value.ref b] s = true) ∧ KF G s ∧ s.heap.size = b0 ∧ meth.locks = false ∧ va_X b L xs s s.heap ∧ b < b0
theorem SyL.t {l : Launch} {G : Gg} {b0 : Nat} {b L : Nat} {xs : Nat → Int32} {w : Wt} (h : SyL l G b0 b L xs w) : SyT l G b0 b0 yL_law code 4 room_1 w := by
  obtain ⟨p, e, s, m, below, meth, c, w0, h1, h2, h3, h4, h5, h6, h7, h8, h9, -⟩ := h
  exact ⟨p, e, s, m, _, below, meth, c, _, w0, ⟨h1, h2, h3, h5, h6, h7, h8, by omega⟩, h9⟩
section LL
variable {l : Launch} {G : Gg} {b0 : Nat} {b L : Nat} {xs : Nat → Int32} {w : Wt} {cl sl pc : Nat} {lv : List (Nat × Value)} {rest : List Value} {K : Kk} {R : Rr} {M : Mm}
theorem r_sload (hw : SyL l G b0 b L xs w) {i : Int32} (hi : vp_in i L) (hd : decode code pc = .ok (.iaload, 1)) (kk : w cl sl (pc + 1) lv (.int (xs i.toNatClampNeg) :: rest) K R M) : w cl sl pc lv (.int i :: .ref b :: rest) K R M := by
  obtain ⟨p, e, s, m, below, meth, c, w0, rfl, hx, hb, hr, hml, hown, hts, hKF, hb0, hlk, hX, hbl⟩ := hw
  exact fun H locs ls hP hD hS h => va_sld hx hb hX (by omega) (show ¬ b0 ≤ b by omega) hS hi hd (kk H locs ls hP hD hS h)
theorem r_slen (hw : SyL l G b0 b L xs w) (hd : decode code pc = .ok (.arraylength, 1)) (kk : w cl sl (pc + 1) lv (.int (nI L) :: rest) K R M) : w cl sl pc lv (.ref b :: rest) K R M := by
  obtain ⟨p, e, s, m, below, meth, c, w0, rfl, hx, hb, hr, hml, hown, hts, hKF, hb0, hlk, hX, hbl⟩ := hw
  exact fun H locs ls hP hD hS h => va_slen hx hb hX (by omega) (show ¬ b0 ≤ b by omega) hS hd (kk H locs ls hP hD hS h)
theorem r_lawret (hw : SyL l G b0 b L xs w) (hc : cl ≤ 600000) (hs : sl ≤ 7302250) (hd : decode code pc = .ok (.ireturn, 1)) : w cl sl pc lv [.int 1] K R M := by
  obtain ⟨p, e, s, m, below, meth, c, w0, rfl, hx, hb, hr, hml, hown, hts, hKF, hb0, hlk, hX, hbl⟩ := hw
  intro H locs ls hP hD hS h
  refine va_forget (fun q hq => by have := hS.2.2 q hq; show s.heap.size ≤ _; omega) ?_
  exact W.widen hc hs (lw_ret hx hb hr hlk hd)
variable {y2 : MethodName} {cc2 : ByteArray} {mL2 : Nat} {ret2 : Option FieldType} {f2 l2 : Nat} {K2 : Kk} {R2 : Rr} {M2 : Mm} {v : Value}
theorem r_callG {rm : Room} {y : MethodName} {cc : ByteArray} {nL : Nat} (hw : SyB l G b0 y cc nL rm w) {a c idx n : Nat} {As : List Value} {T : u_T} {N : Nat} (hm : CT l G b0 y2 cc2 mL2 ret2 (rmz f2 l2) (.ref a :: As) K R M (some v) K2 R2 M2) (hB : LB y2 cc2 mL2 ret2 n) (hI : LI y2) (hL : Cond.methodLink y.cls idx y2 ∈ ws0) (hc : vwCl[c]? = some (y2.cls, T, N)) (ho : isO K a c) (hn : As.length = n)
    (h1 : f2 + 1 ≤ rm.frames) (h2 : 8 + (mL2 + 11) + l2 ≤ rm.locals) (h3 : cl ≤ rm.cells) (h4 : sl ≤ rm.slots) {st : List Value} (hst : st = As.reverse ++ .ref a :: rest) (hcat : (rest.map fun v => v.category).sum ≤ 8) (hd : decode cc pc = .ok (.invokevirtual idx, 3))
    (kk : w cl sl (pc + 3) lv (v :: rest) K2 R2 M2) : w cl sl pc lv st K R M := r_callV hw hm hB hI hL hc ho hn ⟨h1, h2⟩ ⟨h3, h4⟩ hcat hst hd kk
end LL
