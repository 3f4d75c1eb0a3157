def hiA (K : Kk) (R : Rr) (a : Nat) : Prop := isO K a 1 ∧ R a 0 = some (a + 1) ∧ isA K (a + 1) 4 7 ∧ R a 1 = some (a + 2) ∧ psA K R (a + 2) ∧ ∀ p, p < 7 → R (a + 1) p = some (a + 164 + 162 * p) ∧ psA K R (a + 164 + 162 * p)
theorem tlA.gr {K K2 : Kk} {R R2 : Rr} {a : Nat} (h : tlA K R a) (g : Gr K R K2 R2) : tlA K2 R2 a := ⟨g.1 _ _ h.1, g.2.2 _ _ _ h.2.1, g.2.2 _ _ _ h.2.2.1, g.2.2 _ _ _ h.2.2.2.1, g.2.1 _ _ _ h.2.2.2.2.1, g.2.1 _ _ _ h.2.2.2.2.2.1, g.2.1 _ _ _ h.2.2.2.2.2.2⟩
theorem cmA.gr {K K2 : Kk} {R R2 : Rr} {a : Nat} (h : cmA K R a) (g : Gr K R K2 R2) : cmA K2 R2 a := ⟨g.1 _ _ h.1, g.2.2 _ _ _ h.2.1, h.2.2.1.gr g, g.2.2 _ _ _ h.2.2.2.1, h.2.2.2.2.1.gr g, g.2.2 _ _ _ h.2.2.2.2.2.1, g.1 _ _ h.2.2.2.2.2.2⟩
theorem hiA.gr {K K2 : Kk} {R R2 : Rr} {a : Nat} (h : hiA K R a) (g : Gr K R K2 R2) : hiA K2 R2 a := ⟨g.1 _ _ h.1, g.2.2 _ _ _ h.2.1, g.2.1 _ _ _ h.2.2.1, g.2.2 _ _ _ h.2.2.2.1, h.2.2.2.2.1.gr g, fun p hp => ⟨g.2.2 _ _ _ (h.2.2.2.2.2 p hp).1, (h.2.2.2.2.2 p hp).2.gr g⟩⟩
def beA (K : Kk) (R : Rr) (a : Nat) : Prop := isO K a 7 ∧ R a 0 = some (a + 1) ∧ R a 1 = some (a + 4) ∧ R a 2 = some (a + 20) ∧ R a 3 = some (a + 1318) ∧ R a 4 = some (a + 1967) ∧ R a 5 = some (a + 1968) ∧ R a 6 = some (a + 1972) ∧ R a 7 = some (a + 1973) ∧ R a 8 = some (a + 1981) ∧ R a 9 = some (a + 1985) ∧ R a 10 = some (a + 1988) ∧ R a 11 = some (a + 1991) ∧ R a 12 = some (a + 1994) ∧ R a 13 = some (a + 1997) ∧ rgA K R (a + 1) 16 ∧ isA K (a + 4) 3 5 ∧ (∀ p, p < 5 → R (a + 4) p = some (a + 5 + 3 * p) ∧ rgA K R (a + 5 + 3 * p) 16) ∧ hiA K R (a + 20) ∧ isA K (a + 1318) 4 4 ∧ (∀ p, p < 4 → R (a + 1318) p = some (a + 1319 + 162 * p) ∧ psA K R (a + 1319 + 162 * p)) ∧ isA K (a + 1967) 2 4 ∧ tlA K R (a + 1968) ∧ isO K (a + 1972) 2 ∧ cmA K R (a + 1973) ∧ pcA K R (a + 1981) ∧ rgA K R (a + 1985) 66 ∧ rgA K R (a + 1988) 66 ∧ rgA K R (a + 1991) 16 ∧ rgA K R (a + 1994) 16 ∧ isA K (a + 1997) 3 40 ∧ (∀ p, p < 40 → R (a + 1997) p = some (a + 1998 + 3 * p) ∧ rgA K R (a + 1998 + 3 * p) 16)
def moA (K : Kk) (R : Rr) (a : Nat) : Prop := isO K a 8 ∧ R a 0 = some (a + 1) ∧ isA K (a + 1) 1 1481 ∧ R a 1 = some (a + 2) ∧ isA K (a + 2) 1 8886 ∧ R a 2 = some (a + 3) ∧ isA K (a + 3) 1 8886 ∧ R a 5 = some (a + 4) ∧ isA K (a + 4) 1 5924 ∧ R a 6 = some (a + 5) ∧ isA K (a + 5) 2 4 ∧ R a 7 = some (a + 6) ∧ isA K (a + 6) 1 80 ∧ R a 8 = some (a + 7) ∧ isA K (a + 7) 1 80 ∧ R a 9 = some (a + 8) ∧ isA K (a + 8) 0 5 ∧ R a 10 = some (a + 9) ∧ isA K (a + 9) 1 16 ∧ R a 11 = some (a + 10) ∧ isA K (a + 10) 1 16 ∧ R a 13 = some (a + 11) ∧ isA K (a + 11) 1 20 ∧ R a 14 = some (a + 12) ∧ isA K (a + 12) 1 20 ∧ R a 16 = some (a + 13) ∧ isA K (a + 13) 1 20 ∧ R a 17 = some (a + 14) ∧ isA K (a + 14) 1 20 ∧ R a 19 = some (a + 15) ∧ isA K (a + 15) 1 600 ∧ R a 20 = some (a + 16) ∧ isA K (a + 16) 1 600 ∧ R a 22 = some (a + 17) ∧ isA K (a + 17) 1 600 ∧ R a 23 = some (a + 18) ∧ isA K (a + 18) 1 600 ∧ R a 29 = some (a + 19) ∧ isA K (a + 19) 1 40 ∧ R a 30 = some (a + 20) ∧ isA K (a + 20) 1 40 ∧ R a 32 = some (a + 21) ∧ isA K (a + 21) 1 640 ∧ R a 33 = some (a + 22) ∧ isA K (a + 22) 1 640 ∧ R a 34 = some (a + 23) ∧ isA K (a + 23) 1 640 ∧ R a 37 = some (a + 24) ∧ isA K (a + 24) 1 1481 ∧ R a 38 = some (a + 25) ∧ isA K (a + 25) 1 37
theorem dX5_init_0 : decode cX5_init 0 = .ok (.aload_n 0, 1) := by decide +kernel
theorem dX5_init_1 : decode cX5_init 1 = .ok (.invokespecial 1, 3) := by decide +kernel
theorem dX5_init_4 : decode cX5_init 4 = .ok (.aload_n 0, 1) := by decide +kernel
theorem dX5_init_5 : decode cX5_init 5 = .ok (.iload_n 1, 1) := by decide +kernel
theorem dX5_init_6 : decode cX5_init 6 = .ok (.newarray .int, 2) := by decide +kernel
theorem dX5_init_8 : decode cX5_init 8 = .ok (.putfield 7, 3) := by decide +kernel
theorem dX5_init_11 : decode cX5_init 11 = .ok (.aload_n 0, 1) := by decide +kernel
theorem dX5_init_12 : decode cX5_init 12 = .ok (.iload_n 1, 1) := by decide +kernel
theorem dX5_init_13 : decode cX5_init 13 = .ok (.newarray .int, 2) := by decide +kernel
theorem dX5_init_15 : decode cX5_init 15 = .ok (.putfield 13, 3) := by decide +kernel
theorem dX5_init_18 : decode cX5_init 18 = .ok (.return_, 1) := by decide +kernel
set_option maxHeartbeats 4000000 in
set_option maxRecDepth 100000 in
theorem kX5_init (l : Launch) (G : Gg) (b0 : Nat) {K : Kk} {R : Rr} {M : Mm} {a : Nat} {n : Nat} (hn : n < 2 ^ 20) (ho : isO K a 5) (hr : R a = fun _ => none) (hz : FZ R M (a + 1)) (hl : Lo K (a + 1)) : CP l G b0 (a + 1) yX5_init cX5_init 2 { frames := 2, cells := 2, slots := 2 * n, locals := 21 } [.ref a, .int (nI n)] K R M (fun K' R' M' => CR K R M a (a + 1) K' R' M' (a + 3) ∧ rgA K' R' a n) := by
  refine cn_of (by decide +kernel) (Nat.le_of_ble_eq_true rfl) (fun w hw => ?_)
  change w 0 0 0 [(0, .ref a), (1, .int (nI n))] [] K R M
  have s0 := ST.start (Nat.lt_succ_self a) hr hz hl
  refine r_aload_n hw.sy dX5_init_0 0 rfl ?_
  refine r_objInit hw.t mL_X5_1 zO_in zO_c (Nat.le_of_ble_eq_true rfl) (Nat.le_of_ble_eq_true rfl) dX5_init_1 ?_
  refine r_aload_n hw.sy dX5_init_4 0 rfl ?_
  refine r_iload_n hw.sy dX5_init_5 1 rfl ?_
  refine r_newI hw.t n aC_int rfl hn s0.last s0.z (Nat.le_of_ble_eq_true rfl) (by show _ ≤ 2 * n; omega) dX5_init_6 ?_
  have t1 := s0.new (.inr (0, n))
  have s2 := t1.1
  have g3 := t1.2.1
  have o4 := g3.1 _ _ ho
  have f5 : isA _ (a + 1 + 0) 0 n := t1.2.2
  refine r_putFR hw fF_X5_7 rfl ⟨rfl, rfl⟩ o4 dX5_init_8 ?_
  have t6 := s2.put 0 (a + 1 + 0) (by decide)
  have s7 := t6.1
  have g8 := t6.2.1
  have f9 := g8.2.1 _ _ _ f5
  clear f5
  have o10 := g8.1 _ _ o4
  have f11 := t6.2.2
  refine r_aload_n hw.sy dX5_init_11 0 rfl ?_
  refine r_iload_n hw.sy dX5_init_12 1 rfl ?_
  refine r_newI hw.t n aC_int rfl hn s7.last s7.z (Nat.le_of_ble_eq_true rfl) (by show _ ≤ 2 * n; omega) dX5_init_13 ?_
  have t12 := s7.new (.inr (0, n))
  have s13 := t12.1
  have g14 := t12.2.1
  have f15 := g14.2.1 _ _ _ f9
  clear f9
  have f16 := g14.2.2 _ _ _ f11
  clear f11
  have o17 := g14.1 _ _ o10
  have f18 : isA _ (a + 1 + 1) 0 n := t12.2.2
  refine r_putFR hw fF_X5_13 rfl ⟨rfl, rfl⟩ o17 dX5_init_15 ?_
  have t19 := s13.put 1 (a + 1 + 1) (by decide)
  have s20 := t19.1
  have g21 := t19.2.1
  have f22 := g21.2.1 _ _ _ f15
  clear f15
  have f23 := g21.2.2 _ _ _ f16
  clear f16
  have f24 := g21.2.1 _ _ _ f18
  clear f18
  have o25 := g21.1 _ _ o17
  have f26 := t19.2.2
  exact r_returnP hw ⟨s20.cr, ⟨o25, f23, f26, f22, f24⟩⟩ rfl (by show 2 * n = 0 + n + n; omega) dX5_init_18
theorem dX2_init_0 : decode cX2_init 0 = .ok (.aload_n 0, 1) := by decide +kernel
theorem dX2_init_1 : decode cX2_init 1 = .ok (.invokespecial 3, 3) := by decide +kernel
theorem dX2_init_4 : decode cX2_init 4 = .ok (.return_, 1) := by decide +kernel
set_option maxHeartbeats 4000000 in
set_option maxRecDepth 100000 in
theorem kX2_init (l : Launch) (G : Gg) (b0 : Nat) {K : Kk} {R : Rr} {M : Mm} {a : Nat} (ho : isO K a 2) (hr : R a = fun _ => none) (hz : FZ R M (a + 1)) (hl : Lo K (a + 1)) : CP l G b0 (a + 1) yX2_init cX2_init 1 { frames := 2, cells := 0, slots := 0, locals := 21 } [.ref a] K R M (fun K' R' M' => CR K R M a (a + 1) K' R' M' (a + 1) ∧ isO K' a 2) := by
  refine cn_of (by decide +kernel) (Nat.le_of_ble_eq_true rfl) (fun w hw => ?_)
  change w 0 0 0 [(0, .ref a)] [] K R M
  have s0 := ST.start (Nat.lt_succ_self a) hr hz hl
  refine r_aload_n hw.sy dX2_init_0 0 rfl ?_
  refine r_objInit hw.t mL_X2_3 zO_in zO_c (Nat.le_of_ble_eq_true rfl) (Nat.le_of_ble_eq_true rfl) dX2_init_1 ?_
  exact r_returnP hw ⟨s0.cr, ho⟩ rfl rfl dX2_init_4
theorem dX3_init_0 : decode cX3_init 0 = .ok (.aload_n 0, 1) := by decide +kernel
theorem dX3_init_1 : decode cX3_init 1 = .ok (.invokespecial 3, 3) := by decide +kernel
theorem dX3_init_4 : decode cX3_init 4 = .ok (.aload_n 0, 1) := by decide +kernel
theorem dX3_init_5 : decode cX3_init 5 = .ok (.new 9, 3) := by decide +kernel
theorem dX3_init_8 : decode cX3_init 8 = .ok (.dup, 1) := by decide +kernel
theorem dX3_init_9 : decode cX3_init 9 = .ok (.bipush 16, 2) := by decide +kernel
theorem dX3_init_11 : decode cX3_init 11 = .ok (.invokespecial 11, 3) := by decide +kernel
theorem dX3_init_14 : decode cX3_init 14 = .ok (.putfield 14, 3) := by decide +kernel
theorem dX3_init_17 : decode cX3_init 17 = .ok (.aload_n 0, 1) := by decide +kernel
theorem dX3_init_18 : decode cX3_init 18 = .ok (.iconst 1, 1) := by decide +kernel
theorem dX3_init_19 : decode cX3_init 19 = .ok (.putfield 20, 3) := by decide +kernel
theorem dX3_init_22 : decode cX3_init 22 = .ok (.return_, 1) := by decide +kernel
set_option maxHeartbeats 4000000 in
set_option maxRecDepth 100000 in
theorem kX3_init (l : Launch) (G : Gg) (b0 : Nat) {K : Kk} {R : Rr} {M : Mm} {a : Nat} (ho : isO K a 3) (hr : R a = fun _ => none) (hz : FZ R M (a + 1)) (hl : Lo K (a + 1)) : CP l G b0 (a + 1) yX3_init cX3_init 1 { frames := 3, cells := 3, slots := 35, locals := 42 } [.ref a] K R M (fun K' R' M' => CR K R M a (a + 1) K' R' M' (a + 4) ∧ pcA K' R' a) := by
  refine cn_of (by decide +kernel) (Nat.le_of_ble_eq_true rfl) (fun w hw => ?_)
  change w 0 0 0 [(0, .ref a)] [] K R M
  have s0 := ST.start (Nat.lt_succ_self a) hr hz hl
  refine r_aload_n hw.sy dX3_init_0 0 rfl ?_
  refine r_objInit hw.t mL_X3_3 zO_in zO_c (Nat.le_of_ble_eq_true rfl) (Nat.le_of_ble_eq_true rfl) dX3_init_1 ?_
  refine r_aload_n hw.sy dX3_init_4 0 rfl ?_
  refine r_new hw.t cO_5 dZ_5 cL_X3_9 iN_X5 iZ_X5 s0.last s0.z (Nat.le_of_ble_eq_true rfl) (Nat.le_of_ble_eq_true rfl) dX3_init_5 ?_
  have z1 := s0.z.2.2
  have t2 := s0.new (.inl 5)
  have s3 := t2.1
  have g4 := t2.2.1
  have o5 := g4.1 _ _ ho
  have f6 : isO _ (a + 1 + 0) 5 := t2.2.2
  refine r_dup hw.sy dX3_init_8 rfl ?_
  refine r_bipush (v := nI 16) hw.sy dX3_init_9 rfl ?_
  refine r_callC hw.t (kX5_init l G b0 (a := (a + 1 + 0)) (n := 16) (by decide) f6 z1 s3.1.2.2.1 s3.1.2.2.2.2.2) lB_X5_init rfl iM_X5_init mL_X3_11 rfl ⟨(Nat.le_of_ble_eq_true rfl), (Nat.le_of_ble_eq_true rfl)⟩ ⟨(Nat.le_of_ble_eq_true rfl), (Nat.le_of_ble_eq_true rfl)⟩ s3.last rfl (Nat.le_of_ble_eq_true rfl) dX3_init_11 (fun K7 R8 M9 h10 => ?_)
  have t11 := s3.call (b := (a + 1 + 0)) (d := 2) (by omega) h10.1 (by omega)
  have s12 := t11.1
  have g13 := t11.2
  have o14 := g13.1 _ _ o5
  have f15 := h10.2
  refine r_putFR hw fF_X3_14 rfl ⟨rfl, rfl⟩ o14 dX3_init_14 ?_
  have t16 := s12.put 0 (a + 1 + 0) (by decide)
  have s17 := t16.1
  have g18 := t16.2.1
  have f19 := f15.gr g18
  clear f15
  have o20 := g18.1 _ _ o14
  have f21 := t16.2.2
  refine r_aload_n hw.sy dX3_init_17 0 rfl ?_
  refine r_iconst (v := 1) hw.sy dX3_init_18 rfl ?_
  refine r_putI hw.sy fP_X3_20 o20 dX3_init_19 ?_
  have s22 := s17.int 1 o20
  exact r_returnP hw ⟨s22.cr, ⟨o20, f21, f19⟩⟩ rfl rfl dX3_init_22
theorem dX6_init_0 : decode cX6_init 0 = .ok (.aload_n 0, 1) := by decide +kernel
theorem dX6_init_1 : decode cX6_init 1 = .ok (.invokespecial 3, 3) := by decide +kernel
theorem dX6_init_4 : decode cX6_init 4 = .ok (.aload_n 0, 1) := by decide +kernel
theorem dX6_init_5 : decode cX6_init 5 = .ok (.sipush 640, 3) := by decide +kernel
theorem dX6_init_8 : decode cX6_init 8 = .ok (.newarray .int, 2) := by decide +kernel
theorem dX6_init_10 : decode cX6_init 10 = .ok (.putfield 9, 3) := by decide +kernel
theorem dX6_init_13 : decode cX6_init 13 = .ok (.aload_n 0, 1) := by decide +kernel
theorem dX6_init_14 : decode cX6_init 14 = .ok (.sipush 640, 3) := by decide +kernel
theorem dX6_init_17 : decode cX6_init 17 = .ok (.newarray .int, 2) := by decide +kernel
theorem dX6_init_19 : decode cX6_init 19 = .ok (.putfield 15, 3) := by decide +kernel
theorem dX6_init_22 : decode cX6_init 22 = .ok (.aload_n 0, 1) := by decide +kernel
theorem dX6_init_23 : decode cX6_init 23 = .ok (.sipush 640, 3) := by decide +kernel
theorem dX6_init_26 : decode cX6_init 26 = .ok (.newarray .long, 2) := by decide +kernel
theorem dX6_init_28 : decode cX6_init 28 = .ok (.putfield 18, 3) := by decide +kernel
theorem dX6_init_31 : decode cX6_init 31 = .ok (.return_, 1) := by decide +kernel
set_option maxHeartbeats 4000000 in
set_option maxRecDepth 100000 in
theorem kX6_init (l : Launch) (G : Gg) (b0 : Nat) {K : Kk} {R : Rr} {M : Mm} {a : Nat} (ho : isO K a 6) (hr : R a = fun _ => none) (hz : FZ R M (a + 1)) (hl : Lo K (a + 1)) : CP l G b0 (a + 1) yX6_init cX6_init 1 { frames := 2, cells := 3, slots := 1920, locals := 21 } [.ref a] K R M (fun K' R' M' => CR K R M a (a + 1) K' R' M' (a + 4) ∧ tlA K' R' a) := by
  refine cn_of (by decide +kernel) (Nat.le_of_ble_eq_true rfl) (fun w hw => ?_)
  change w 0 0 0 [(0, .ref a)] [] K R M
  have s0 := ST.start (Nat.lt_succ_self a) hr hz hl
  refine r_aload_n hw.sy dX6_init_0 0 rfl ?_
  refine r_objInit hw.t mL_X6_3 zO_in zO_c (Nat.le_of_ble_eq_true rfl) (Nat.le_of_ble_eq_true rfl) dX6_init_1 ?_
  refine r_aload_n hw.sy dX6_init_4 0 rfl ?_
  refine r_sipush (v := 640) hw.sy dX6_init_5 rfl ?_
  refine r_newI hw.t 640 aC_int rfl (by decide) s0.last s0.z (Nat.le_of_ble_eq_true rfl) (Nat.le_of_ble_eq_true rfl) dX6_init_8 ?_
  have t1 := s0.new (.inr (0, 640))
  have s2 := t1.1
  have g3 := t1.2.1
  have o4 := g3.1 _ _ ho
  have f5 : isA _ (a + 1 + 0) 0 640 := t1.2.2
  refine r_putFR hw fF_X6_9 rfl ⟨rfl, rfl⟩ o4 dX6_init_10 ?_
  have t6 := s2.put 0 (a + 1 + 0) (by decide)
  have s7 := t6.1
  have g8 := t6.2.1
  have f9 := g8.2.1 _ _ _ f5
  clear f5
  have o10 := g8.1 _ _ o4
  have f11 := t6.2.2
  refine r_aload_n hw.sy dX6_init_13 0 rfl ?_
  refine r_sipush (v := 640) hw.sy dX6_init_14 rfl ?_
  refine r_newI hw.t 640 aC_int rfl (by decide) s7.last s7.z (Nat.le_of_ble_eq_true rfl) (Nat.le_of_ble_eq_true rfl) dX6_init_17 ?_
  have t12 := s7.new (.inr (0, 640))
  have s13 := t12.1
  have g14 := t12.2.1
  have f15 := g14.2.1 _ _ _ f9
  clear f9
  have f16 := g14.2.2 _ _ _ f11
  clear f11
  have o17 := g14.1 _ _ o10
  have f18 : isA _ (a + 1 + 1) 0 640 := t12.2.2
  refine r_putFR hw fF_X6_15 rfl ⟨rfl, rfl⟩ o17 dX6_init_19 ?_
  have t19 := s13.put 1 (a + 1 + 1) (by decide)
  have s20 := t19.1
  have g21 := t19.2.1
  have f22 := g21.2.1 _ _ _ f15
  clear f15
  have f23 := g21.2.2 _ _ _ f16
  clear f16
  have f24 := g21.2.1 _ _ _ f18
  clear f18
  have o25 := g21.1 _ _ o17
  have f26 := t19.2.2
  refine r_aload_n hw.sy dX6_init_22 0 rfl ?_
  refine r_sipush (v := 640) hw.sy dX6_init_23 rfl ?_
  refine r_newL hw.t 640 aC_long rfl (by decide) s20.last s20.z (Nat.le_of_ble_eq_true rfl) (Nat.le_of_ble_eq_true rfl) dX6_init_26 ?_
  have t27 := s20.new (.inr (1, 640))
  have s28 := t27.1
  have g29 := t27.2.1
  have f30 := g29.2.1 _ _ _ f22
  clear f22
  have f31 := g29.2.2 _ _ _ f23
  clear f23
  have f32 := g29.2.1 _ _ _ f24
  clear f24
  have f33 := g29.2.2 _ _ _ f26
  clear f26
  have o34 := g29.1 _ _ o25
  have f35 : isA _ (a + 1 + 2) 1 640 := t27.2.2
  refine r_putFR hw fF_X6_18 rfl ⟨rfl, rfl⟩ o34 dX6_init_28 ?_
  have t36 := s28.put 2 (a + 1 + 2) (by decide)
  have s37 := t36.1
  have g38 := t36.2.1
  have f39 := g38.2.1 _ _ _ f30
  clear f30
  have f40 := g38.2.2 _ _ _ f31
  clear f31
  have f41 := g38.2.1 _ _ _ f32
  clear f32
  have f42 := g38.2.2 _ _ _ f33
  clear f33
  have f43 := g38.2.1 _ _ _ f35
  clear f35
  have o44 := g38.1 _ _ o34
  have f45 := t36.2.2
  exact r_returnP hw ⟨s37.cr, ⟨o44, f40, f42, f45, f39, f41, f43⟩⟩ rfl rfl dX6_init_31
theorem dX0_init_0 : decode cX0_init 0 = .ok (.aload_n 0, 1) := by decide +kernel
theorem dX0_init_1 : decode cX0_init 1 = .ok (.invokespecial 3, 3) := by decide +kernel
theorem dX0_init_4 : decode cX0_init 4 = .ok (.aload_n 0, 1) := by decide +kernel
theorem dX0_init_5 : decode cX0_init 5 = .ok (.new 9, 3) := by decide +kernel
theorem dX0_init_8 : decode cX0_init 8 = .ok (.dup, 1) := by decide +kernel
theorem dX0_init_9 : decode cX0_init 9 = .ok (.bipush 66, 2) := by decide +kernel
theorem dX0_init_11 : decode cX0_init 11 = .ok (.invokespecial 11, 3) := by decide +kernel
theorem dX0_init_14 : decode cX0_init 14 = .ok (.putfield 14, 3) := by decide +kernel
theorem dX0_init_17 : decode cX0_init 17 = .ok (.aload_n 0, 1) := by decide +kernel
theorem dX0_init_18 : decode cX0_init 18 = .ok (.new 9, 3) := by decide +kernel
theorem dX0_init_21 : decode cX0_init 21 = .ok (.dup, 1) := by decide +kernel
theorem dX0_init_22 : decode cX0_init 22 = .ok (.bipush 66, 2) := by decide +kernel
theorem dX0_init_24 : decode cX0_init 24 = .ok (.invokespecial 11, 3) := by decide +kernel
theorem dX0_init_27 : decode cX0_init 27 = .ok (.putfield 20, 3) := by decide +kernel
theorem dX0_init_30 : decode cX0_init 30 = .ok (.aload_n 0, 1) := by decide +kernel
theorem dX0_init_31 : decode cX0_init 31 = .ok (.new 23, 3) := by decide +kernel
theorem dX0_init_34 : decode cX0_init 34 = .ok (.dup, 1) := by decide +kernel
theorem dX0_init_35 : decode cX0_init 35 = .ok (.invokespecial 25, 3) := by decide +kernel
theorem dX0_init_38 : decode cX0_init 38 = .ok (.putfield 26, 3) := by decide +kernel
theorem dX0_init_41 : decode cX0_init 41 = .ok (.return_, 1) := by decide +kernel
set_option maxHeartbeats 4000000 in
set_option maxRecDepth 100000 in
theorem kX0_init (l : Launch) (G : Gg) (b0 : Nat) {K : Kk} {R : Rr} {M : Mm} {a : Nat} (ho : isO K a 0) (hr : R a = fun _ => none) (hz : FZ R M (a + 1)) (hl : Lo K (a + 1)) : CP l G b0 (a + 1) yX0_init cX0_init 1 { frames := 3, cells := 7, slots := 278, locals := 42 } [.ref a] K R M (fun K' R' M' => CR K R M a (a + 1) K' R' M' (a + 8) ∧ cmA K' R' a) := by
  refine cn_of (by decide +kernel) (Nat.le_of_ble_eq_true rfl) (fun w hw => ?_)
  change w 0 0 0 [(0, .ref a)] [] K R M
  have s0 := ST.start (Nat.lt_succ_self a) hr hz hl
  refine r_aload_n hw.sy dX0_init_0 0 rfl ?_
  refine r_objInit hw.t mL_X0_3 zO_in zO_c (Nat.le_of_ble_eq_true rfl) (Nat.le_of_ble_eq_true rfl) dX0_init_1 ?_
  refine r_aload_n hw.sy dX0_init_4 0 rfl ?_
  refine r_new hw.t cO_5 dZ_5 cL_X0_9 iN_X5 iZ_X5 s0.last s0.z (Nat.le_of_ble_eq_true rfl) (Nat.le_of_ble_eq_true rfl) dX0_init_5 ?_
  have z1 := s0.z.2.2
  have t2 := s0.new (.inl 5)
  have s3 := t2.1
  have g4 := t2.2.1
  have o5 := g4.1 _ _ ho
  have f6 : isO _ (a + 1 + 0) 5 := t2.2.2
  refine r_dup hw.sy dX0_init_8 rfl ?_
  refine r_bipush (v := nI 66) hw.sy dX0_init_9 rfl ?_
  refine r_callC hw.t (kX5_init l G b0 (a := (a + 1 + 0)) (n := 66) (by decide) f6 z1 s3.1.2.2.1 s3.1.2.2.2.2.2) lB_X5_init rfl iM_X5_init mL_X0_11 rfl ⟨(Nat.le_of_ble_eq_true rfl), (Nat.le_of_ble_eq_true rfl)⟩ ⟨(Nat.le_of_ble_eq_true rfl), (Nat.le_of_ble_eq_true rfl)⟩ s3.last rfl (Nat.le_of_ble_eq_true rfl) dX0_init_11 (fun K7 R8 M9 h10 => ?_)
  have t11 := s3.call (b := (a + 1 + 0)) (d := 2) (by omega) h10.1 (by omega)
  have s12 := t11.1
  have g13 := t11.2
  have o14 := g13.1 _ _ o5
  have f15 := h10.2
  refine r_putFR hw fF_X0_14 rfl ⟨rfl, rfl⟩ o14 dX0_init_14 ?_
  have t16 := s12.put 0 (a + 1 + 0) (by decide)
  have s17 := t16.1
  have g18 := t16.2.1
  have f19 := f15.gr g18
  clear f15
  have o20 := g18.1 _ _ o14
  have f21 := t16.2.2
  refine r_aload_n hw.sy dX0_init_17 0 rfl ?_
  refine r_new hw.t cO_5 dZ_5 cL_X0_9 iN_X5 iZ_X5 s17.last s17.z (Nat.le_of_ble_eq_true rfl) (Nat.le_of_ble_eq_true rfl) dX0_init_18 ?_
  have z22 := s17.z.2.2
  have t23 := s17.new (.inl 5)
  have s24 := t23.1
  have g25 := t23.2.1
  have f26 := f19.gr g25
  clear f19
  have f27 := g25.2.2 _ _ _ f21
  clear f21
  have o28 := g25.1 _ _ o20
  have f29 : isO _ (a + 1 + 3) 5 := t23.2.2
  refine r_dup hw.sy dX0_init_21 rfl ?_
  refine r_bipush (v := nI 66) hw.sy dX0_init_22 rfl ?_
  refine r_callC hw.t (kX5_init l G b0 (a := (a + 1 + 3)) (n := 66) (by decide) f29 z22 s24.1.2.2.1 s24.1.2.2.2.2.2) lB_X5_init rfl iM_X5_init mL_X0_11 rfl ⟨(Nat.le_of_ble_eq_true rfl), (Nat.le_of_ble_eq_true rfl)⟩ ⟨(Nat.le_of_ble_eq_true rfl), (Nat.le_of_ble_eq_true rfl)⟩ s24.last rfl (Nat.le_of_ble_eq_true rfl) dX0_init_24 (fun K30 R31 M32 h33 => ?_)
  have t34 := s24.call (b := (a + 1 + 3)) (d := 2) (by omega) h33.1 (by omega)
  have s35 := t34.1
  have g36 := t34.2
  have f37 := f26.gr g36
  clear f26
  have f38 := g36.2.2 _ _ _ f27
  clear f27
  have o39 := g36.1 _ _ o28
  have f40 := h33.2
  refine r_putFR hw fF_X0_20 rfl ⟨rfl, rfl⟩ o39 dX0_init_27 ?_
  have t41 := s35.put 1 (a + 1 + 3) (by decide)
  have s42 := t41.1
  have g43 := t41.2.1
  have f44 := f37.gr g43
  clear f37
  have f45 := g43.2.2 _ _ _ f38
  clear f38
  have f46 := f40.gr g43
  clear f40
  have o47 := g43.1 _ _ o39
  have f48 := t41.2.2
  refine r_aload_n hw.sy dX0_init_30 0 rfl ?_
  refine r_new hw.t cO_2 dZ_2 cL_X0_23 iN_X2 iZ_X2 s42.last s42.z (Nat.le_of_ble_eq_true rfl) (Nat.le_of_ble_eq_true rfl) dX0_init_31 ?_
  have z49 := s42.z.2.2
  have t50 := s42.new (.inl 2)
  have s51 := t50.1
  have g52 := t50.2.1
  have f53 := f44.gr g52
  clear f44
  have f54 := g52.2.2 _ _ _ f45
  clear f45
  have f55 := f46.gr g52
  clear f46
  have f56 := g52.2.2 _ _ _ f48
  clear f48
  have o57 := g52.1 _ _ o47
  have f58 : isO _ (a + 1 + 6) 2 := t50.2.2
  refine r_dup hw.sy dX0_init_34 rfl ?_
  refine r_callCN hw.t (kX2_init l G b0 (a := (a + 1 + 6)) f58 z49 s51.1.2.2.1 s51.1.2.2.2.2.2) lB_X2_init rfl iM_X2_init nw_X0_25 rfl ⟨(Nat.le_of_ble_eq_true rfl), (Nat.le_of_ble_eq_true rfl)⟩ ⟨(Nat.le_of_ble_eq_true rfl), (Nat.le_of_ble_eq_true rfl)⟩ s51.last rfl (Nat.le_of_ble_eq_true rfl) dX0_init_35 (fun K59 R60 M61 h62 => ?_)
  have t63 := s51.call (b := (a + 1 + 6)) (d := 0) (by omega) h62.1 (by omega)
  have s64 := t63.1
  have g65 := t63.2
  have f66 := f53.gr g65
  clear f53
  have f67 := g65.2.2 _ _ _ f54
  clear f54
  have f68 := f55.gr g65
  clear f55
  have f69 := g65.2.2 _ _ _ f56
  clear f56
  have o70 := g65.1 _ _ o57
  have f71 := h62.2
  refine r_putFR hw fF_X0_26 rfl ⟨rfl, rfl⟩ o70 dX0_init_38 ?_
  have t72 := s64.put 2 (a + 1 + 6) (by decide)
  have s73 := t72.1
  have g74 := t72.2.1
  have f75 := f66.gr g74
  clear f66
  have f76 := g74.2.2 _ _ _ f67
  clear f67
  have f77 := f68.gr g74
  clear f68
  have f78 := g74.2.2 _ _ _ f69
  clear f69
  have f79 := g74.1 _ _ f71
  clear f71
  have o80 := g74.1 _ _ o70
  have f81 := t72.2.2
  exact r_returnP hw ⟨s73.cr, ⟨o80, f76, f75, f78, f77, f81, f79⟩⟩ rfl rfl dX0_init_41
theorem dX4_init_0 : decode cX4_init 0 = .ok (.aload_n 0, 1) := by decide +kernel
theorem dX4_init_1 : decode cX4_init 1 = .ok (.invokespecial 3, 3) := by decide +kernel
theorem dX4_init_4 : decode cX4_init 4 = .ok (.aload_n 0, 1) := by decide +kernel
theorem dX4_init_5 : decode cX4_init 5 = .ok (.bipush 40, 2) := by decide +kernel
theorem dX4_init_7 : decode cX4_init 7 = .ok (.anewarray 9, 3) := by decide +kernel
theorem dX4_init_10 : decode cX4_init 10 = .ok (.putfield 11, 3) := by decide +kernel
theorem dX4_init_13 : decode cX4_init 13 = .ok (.iconst 0, 1) := by decide +kernel
theorem dX4_init_14 : decode cX4_init 14 = .ok (.istore_n 1, 1) := by decide +kernel
theorem dX4_init_15 : decode cX4_init 15 = .ok (.iload_n 1, 1) := by decide +kernel
theorem dX4_init_16 : decode cX4_init 16 = .ok (.bipush 40, 2) := by decide +kernel
theorem dX4_init_18 : decode cX4_init 18 = .ok (.if_icmp .ge 22, 3) := by decide +kernel
theorem dX4_init_21 : decode cX4_init 21 = .ok (.aload_n 0, 1) := by decide +kernel
theorem dX4_init_22 : decode cX4_init 22 = .ok (.getfield 11, 3) := by decide +kernel
theorem dX4_init_25 : decode cX4_init 25 = .ok (.iload_n 1, 1) := by decide +kernel
theorem dX4_init_26 : decode cX4_init 26 = .ok (.new 9, 3) := by decide +kernel
theorem dX4_init_29 : decode cX4_init 29 = .ok (.dup, 1) := by decide +kernel
theorem dX4_init_30 : decode cX4_init 30 = .ok (.invokespecial 17, 3) := by decide +kernel
theorem dX4_init_33 : decode cX4_init 33 = .ok (.aastore, 1) := by decide +kernel
theorem dX4_init_34 : decode cX4_init 34 = .ok (.iinc 1 1, 3) := by decide +kernel
theorem dX4_init_37 : decode cX4_init 37 = .ok (.goto (-22), 3) := by decide +kernel
theorem dX4_init_40 : decode cX4_init 40 = .ok (.return_, 1) := by decide +kernel
set_option maxHeartbeats 4000000 in
set_option maxRecDepth 100000 in
theorem kX4_init (l : Launch) (G : Gg) (b0 : Nat) {K : Kk} {R : Rr} {M : Mm} {a : Nat} (ho : isO K a 4) (hr : R a = fun _ => none) (hz : FZ R M (a + 1)) (hl : Lo K (a + 1)) : CP l G b0 (a + 1) yX4_init cX4_init 2 { frames := 4, cells := 161, slots := 1640, locals := 62 } [.ref a] K R M (fun K' R' M' => CR K R M a (a + 1) K' R' M' (a + 162) ∧ psA K' R' a) := by
  refine cn_of (by decide +kernel) (Nat.le_of_ble_eq_true rfl) (fun w hw => ?_)
  change w 0 0 0 [(0, .ref a)] [] K R M
  have s0 := ST.start (Nat.lt_succ_self a) hr hz hl
  refine r_aload_n hw.sy dX4_init_0 0 rfl ?_
  refine r_objInit hw.t mL_X4_3 zO_in zO_c (Nat.le_of_ble_eq_true rfl) (Nat.le_of_ble_eq_true rfl) dX4_init_1 ?_
  refine r_aload_n hw.sy dX4_init_4 0 rfl ?_
  refine r_bipush (v := 40) hw.sy dX4_init_5 rfl ?_
  refine r_newA hw.t 40 2 (C := RX3) rfl cL_X4_9 (fun U h => h.2.2.2.2) rfl (by decide) s0.last s0.z (Nat.le_of_ble_eq_true rfl) (Nat.le_of_ble_eq_true rfl) dX4_init_7 ?_
  have z1 := s0.z.2.2
  have t2 := s0.new (.inr (5, 40))
  have s3 := t2.1
  have g4 := t2.2.1
  have o5 := g4.1 _ _ ho
  have f6 : isA _ (a + 1 + 0) 5 40 := t2.2.2
  refine r_putFR hw fF_X4_11 rfl ⟨rfl, rfl⟩ o5 dX4_init_10 ?_
  have t7 := s3.put 0 (a + 1 + 0) (by decide)
  have s8 := t7.1
  have g9 := t7.2.1
  have f10 := g9.2.1 _ _ _ f6
  clear f6
  have o11 := g9.1 _ _ o5
  have f12 := t7.2.2
  have z13 : pR _ a 0 (some (a + 1 + 0)) (a + 1 + 0) = fun _ => none := (u2_ne (by omega)).trans z1
  refine r_iconst (v := 0) hw.sy dX4_init_13 rfl ?_
  refine r_istore_n hw.sy dX4_init_14 rfl (by decide) rfl ?_
  have LP14 : ∀ (d k : Nat), d + k = 40 → ∀ (K' : Kk) (R' : Rr) (M' : Mm), ST K R M a (a + 1) K' R' M' (1 + 4 * k) 1 → isO K' a 4 → isA K' (a + 1 + 0) 5 40 → R' a 0 = some (a + 1 + 0) → (∀ i, k ≤ i → R' (a + 1 + 0) i = none) → (∀ i, i < k → R' (a + 1 + 0) i = some (a + 1 + (1 + 4 * i)) ∧ pcA K' R' (a + 1 + (1 + 4 * i))) → w (1 + 4 * k) (40 + 40 * k) 15 [(0, .ref a), (1, .int (nI k))] [] K' R' M' := by
    intro d
    induction d with
    | zero =>
      intro k hk15 K' R' M' ss oo ia ra zz ff 
      obtain rfl : k = 40 := by omega
      refine r_iload_n hw.sy dX4_init_15 1 rfl ?_
      refine r_bipush (v := 40) hw.sy dX4_init_16 rfl ?_
      refine r_icmp_ge (tgt := 40) hw.sy dX4_init_18 (by decide) (fun cc => ?_) (fun cc => ?_)
      rotate_left
      · exact absurd cc (by decide)
      exact r_returnP hw ⟨ss.cr, ⟨oo, ra, ia, fun p hp => by rw [show a + 2 + 4 * p = a + 1 + (1 + 4 * p) by omega]; exact ff p hp⟩⟩ rfl rfl dX4_init_40
    | succ d ih =>
      intro k hk15 K' R' M' ss oo ia ra zz ff 
      have hkN : k < 40 := by omega
      refine r_iload_n hw.sy dX4_init_15 1 rfl ?_
      refine r_bipush (v := 40) hw.sy dX4_init_16 rfl ?_
      refine r_icmp_ge (tgt := 40) hw.sy dX4_init_18 (by decide) (fun cc => ?_) (fun cc => ?_)
      · exact absurd ((nI_ltI (b := 40) (by omega) (by decide)).mpr hkN) cc
      refine r_aload_n hw.sy dX4_init_21 0 rfl ?_
      refine r_getR hw.sy fO_X4_11 oo ra dX4_init_22 ?_
      refine r_iload_n hw.sy dX4_init_25 1 rfl ?_
      refine r_new hw.t cO_3 dZ_3 cL_X4_9 iN_X3 iZ_X3 ss.last ss.z (by show 1 + 4 * k + 1 ≤ 161; omega) (by show 40 + 40 * k + 5 ≤ 1640; omega) dX4_init_26 ?_
      have z16 := ss.z.2.2
      have t17 := ss.new (.inl 3)
      have s18 := t17.1
      have g19 := t17.2.1
      have f20 := g19.2.1 _ _ _ ia
      clear ia
      have f21 := g19.2.2 _ _ _ ra
      clear ra
      have o22 := g19.1 _ _ oo
      have f23 := fun i (hi : i < k) => And.intro (g19.2.2 _ _ _ (ff i hi).1) ((ff i hi).2.gr g19)
      have f24 : isO _ (a + 1 + (1 + 4 * k)) 3 := t17.2.2
      refine r_dup hw.sy dX4_init_29 rfl ?_
      refine r_callCN hw.t (kX3_init l G b0 (a := (a + 1 + (1 + 4 * k))) f24 z16 s18.1.2.2.1 s18.1.2.2.2.2.2) lB_X3_init rfl iM_X3_init nw_X4_17 rfl ⟨(Nat.le_of_ble_eq_true rfl), (Nat.le_of_ble_eq_true rfl)⟩ ⟨by show 1 + 4 * k + 1 + 3 ≤ 161; omega, by show 40 + 40 * k + 5 + 35 ≤ 1640; omega⟩ s18.last rfl (Nat.le_of_ble_eq_true rfl) dX4_init_30 (fun K2 R2 M2 h25 => ?_)
      have t26 := s18.call (b := (a + 1 + (1 + 4 * k))) (d := 3) (by omega) h25.1 (by omega)
      have s27 := t26.1
      have g28 := t26.2
      have f29 := g28.2.1 _ _ _ f20
      clear f20
      have f30 := g28.2.2 _ _ _ f21
      clear f21
      have o31 := g28.1 _ _ o22
      have f32 := fun i (hi : i < k) => And.intro (g28.2.2 _ _ _ (f23 i hi).1) ((f23 i hi).2.gr g28)
      have z33 : ∀ i, k ≤ i → R2 (a + 1 + 0) i = none := fun i hi => by rw [h25.1.2.1 (a + 1 + 0) (by omega) (by omega)]; exact zz i hi
      refine r_aastore hw.sy 2 (by decide) (c := 3) rfl rfl ⟨40, f29, vp_in_nI hkN (by decide)⟩ h25.2.1 dX4_init_33 ?_
      rw [nI_clamp (show k < 2 ^ 31 by omega)]
      have t34 := s27.arr (a + 1 + 0) k (a + 1 + (1 + 4 * k)) (by omega) (by omega) (z33 k (Nat.le_refl _))
      have s35 := t34.1
      have g36 := t34.2.1
      have f37 := g36.2.1 _ _ _ f29
      clear f29
      have f38 := g36.2.2 _ _ _ f30
      clear f30
      have o39 := g36.1 _ _ o31
      have f40 := fun i (hi : i < k) => And.intro (g36.2.2 _ _ _ (f32 i hi).1) ((f32 i hi).2.gr g36)
      have f41 := h25.2.gr g36
      refine r_iinc (j := 1) (v := nI (k + 1)) hw.sy dX4_init_34 rfl (by rw [show Int32.ofInt 1 = 1 from rfl]; exact nI_1 k) (by decide) rfl ?_
      refine r_goto (tgt := 15) hw.sy dX4_init_37 (by decide) ?_
      refine r_sub hw.sy [1, 0] (lv' := [(0, .ref a), (1, .int (nI (k + 1)))]) rfl ?_
      have e1 : 1 + 4 * k + 1 + 3 = 1 + 4 * (k + 1) := by omega
      have e2 : 40 + 40 * k + 5 + 35 = 40 + 40 * (k + 1) := by omega
      change w (1 + 4 * k + 1 + 3) (40 + 40 * k + 5 + 35) _ _ _ _ _ _
      rw [e1, e2]
      rw [e1] at s35
      exact ih (k + 1) (by omega) _ _ _ s35 o39 f37 f38 (fun i hi => by rw [show pR R2 (a + 1 + 0) k _ (a + 1 + 0) i = R2 (a + 1 + 0) i by simp [pR, u2, show i ≠ k by omega]]; exact z33 i (by omega)) (fun i hi => by
        by_cases hik : i = k
        · subst hik; exact ⟨t34.2.2, f41⟩
        · exact f40 i (by omega)) 
  refine r_sub hw.sy [1, 0] (lv' := [(0, .ref a), (1, .int (nI 0))]) rfl ?_
  exact LP14 40 0 rfl _ _ _ s8 o11 f10 f12 (fun i _ => congrFun z13 i) (fun i hi => absurd hi (by omega)) 
theorem dX1_init_0 : decode cX1_init 0 = .ok (.aload_n 0, 1) := by decide +kernel
theorem dX1_init_1 : decode cX1_init 1 = .ok (.invokespecial 3, 3) := by decide +kernel
theorem dX1_init_4 : decode cX1_init 4 = .ok (.aload_n 0, 1) := by decide +kernel
theorem dX1_init_5 : decode cX1_init 5 = .ok (.bipush 7, 2) := by decide +kernel
theorem dX1_init_7 : decode cX1_init 7 = .ok (.anewarray 9, 3) := by decide +kernel
theorem dX1_init_10 : decode cX1_init 10 = .ok (.putfield 11, 3) := by decide +kernel
theorem dX1_init_13 : decode cX1_init 13 = .ok (.aload_n 0, 1) := by decide +kernel
theorem dX1_init_14 : decode cX1_init 14 = .ok (.new 9, 3) := by decide +kernel
theorem dX1_init_17 : decode cX1_init 17 = .ok (.dup, 1) := by decide +kernel
theorem dX1_init_18 : decode cX1_init 18 = .ok (.invokespecial 17, 3) := by decide +kernel
theorem dX1_init_21 : decode cX1_init 21 = .ok (.putfield 18, 3) := by decide +kernel
theorem dX1_init_24 : decode cX1_init 24 = .ok (.iconst 0, 1) := by decide +kernel
theorem dX1_init_25 : decode cX1_init 25 = .ok (.istore_n 1, 1) := by decide +kernel
theorem dX1_init_26 : decode cX1_init 26 = .ok (.iload_n 1, 1) := by decide +kernel
theorem dX1_init_27 : decode cX1_init 27 = .ok (.aload_n 0, 1) := by decide +kernel
theorem dX1_init_28 : decode cX1_init 28 = .ok (.getfield 11, 3) := by decide +kernel
theorem dX1_init_31 : decode cX1_init 31 = .ok (.arraylength, 1) := by decide +kernel
theorem dX1_init_32 : decode cX1_init 32 = .ok (.if_icmp .ge 22, 3) := by decide +kernel
theorem dX1_init_35 : decode cX1_init 35 = .ok (.aload_n 0, 1) := by decide +kernel
theorem dX1_init_36 : decode cX1_init 36 = .ok (.getfield 11, 3) := by decide +kernel
theorem dX1_init_39 : decode cX1_init 39 = .ok (.iload_n 1, 1) := by decide +kernel
theorem dX1_init_40 : decode cX1_init 40 = .ok (.new 9, 3) := by decide +kernel
theorem dX1_init_43 : decode cX1_init 43 = .ok (.dup, 1) := by decide +kernel
theorem dX1_init_44 : decode cX1_init 44 = .ok (.invokespecial 17, 3) := by decide +kernel
theorem dX1_init_47 : decode cX1_init 47 = .ok (.aastore, 1) := by decide +kernel
theorem dX1_init_48 : decode cX1_init 48 = .ok (.iinc 1 1, 3) := by decide +kernel
theorem dX1_init_51 : decode cX1_init 51 = .ok (.goto (-25), 3) := by decide +kernel
theorem dX1_init_54 : decode cX1_init 54 = .ok (.return_, 1) := by decide +kernel
set_option maxHeartbeats 4000000 in
set_option maxRecDepth 100000 in
theorem kX1_init (l : Launch) (G : Gg) (b0 : Nat) {K : Kk} {R : Rr} {M : Mm} {a : Nat} (ho : isO K a 1) (hr : R a = fun _ => none) (hz : FZ R M (a + 1)) (hl : Lo K (a + 1)) : CP l G b0 (a + 1) yX1_init cX1_init 2 { frames := 5, cells := 1297, slots := 13143, locals := 83 } [.ref a] K R M (fun K' R' M' => CR K R M a (a + 1) K' R' M' (a + 1298) ∧ hiA K' R' a) := by
  refine cn_of (by decide +kernel) (Nat.le_of_ble_eq_true rfl) (fun w hw => ?_)
  change w 0 0 0 [(0, .ref a)] [] K R M
  have s0 := ST.start (Nat.lt_succ_self a) hr hz hl
  refine r_aload_n hw.sy dX1_init_0 0 rfl ?_
  refine r_objInit hw.t mL_X1_3 zO_in zO_c (Nat.le_of_ble_eq_true rfl) (Nat.le_of_ble_eq_true rfl) dX1_init_1 ?_
  refine r_aload_n hw.sy dX1_init_4 0 rfl ?_
  refine r_bipush (v := 7) hw.sy dX1_init_5 rfl ?_
  refine r_newA hw.t 7 1 (C := RX4) rfl cL_X1_9 (fun U h => h.2.2.2.1) rfl (by decide) s0.last s0.z (Nat.le_of_ble_eq_true rfl) (Nat.le_of_ble_eq_true rfl) dX1_init_7 ?_
  have z1 := s0.z.2.2
  have t2 := s0.new (.inr (4, 7))
  have s3 := t2.1
  have g4 := t2.2.1
  have o5 := g4.1 _ _ ho
  have f6 : isA _ (a + 1 + 0) 4 7 := t2.2.2
  refine r_putFR hw fF_X1_11 rfl ⟨rfl, rfl⟩ o5 dX1_init_10 ?_
  have t7 := s3.put 0 (a + 1 + 0) (by decide)
  have s8 := t7.1
  have g9 := t7.2.1
  have f10 := g9.2.1 _ _ _ f6
  clear f6
  have o11 := g9.1 _ _ o5
  have f12 := t7.2.2
  have z13 : pR _ a 0 (some (a + 1 + 0)) (a + 1 + 0) = fun _ => none := (u2_ne (by omega)).trans z1
  refine r_aload_n hw.sy dX1_init_13 0 rfl ?_
  refine r_new hw.t cO_4 dZ_4 cL_X1_9 iN_X4 iZ_X4 s8.last s8.z (Nat.le_of_ble_eq_true rfl) (Nat.le_of_ble_eq_true rfl) dX1_init_14 ?_
  have z14 := s8.z.2.2
  have t15 := s8.new (.inl 4)
  have s16 := t15.1
  have g17 := t15.2.1
  have f18 := g17.2.1 _ _ _ f10
  clear f10
  have f19 := g17.2.2 _ _ _ f12
  clear f12
  have o20 := g17.1 _ _ o11
  have f21 : isO _ (a + 1 + 1) 4 := t15.2.2
  refine r_dup hw.sy dX1_init_17 rfl ?_
  refine r_callC hw.t (kX4_init l G b0 (a := (a + 1 + 1)) f21 z14 s16.1.2.2.1 s16.1.2.2.2.2.2) lB_X4_init rfl iM_X4_init mL_X1_17 rfl ⟨(Nat.le_of_ble_eq_true rfl), (Nat.le_of_ble_eq_true rfl)⟩ ⟨(Nat.le_of_ble_eq_true rfl), (Nat.le_of_ble_eq_true rfl)⟩ s16.last rfl (Nat.le_of_ble_eq_true rfl) dX1_init_18 (fun K22 R23 M24 h25 => ?_)
  have t26 := s16.call (b := (a + 1 + 1)) (d := 161) (by omega) h25.1 (by omega)
  have s27 := t26.1
  have g28 := t26.2
  have f29 := g28.2.1 _ _ _ f18
  clear f18
  have f30 := g28.2.2 _ _ _ f19
  clear f19
  have o31 := g28.1 _ _ o20
  have f32 := h25.2
  have z33 := (h25.1.2.1 (a + 1 + 0) (by omega) (by omega)).trans z13
  refine r_putR hw.sy fP_X1_18 o31 dX1_init_21 ?_
  have t34 := s27.put 1 (a + 1 + 1) (by decide)
  have s35 := t34.1
  have g36 := t34.2.1
  have f37 := g36.2.1 _ _ _ f29
  clear f29
  have f38 := g36.2.2 _ _ _ f30
  clear f30
  have f39 := f32.gr g36
  clear f32
  have o40 := g36.1 _ _ o31
  have f41 := t34.2.2
  have z42 : pR _ a 1 (some (a + 1 + 1)) (a + 1 + 0) = fun _ => none := (u2_ne (by omega)).trans z33
  refine r_iconst (v := 0) hw.sy dX1_init_24 rfl ?_
  refine r_istore_n hw.sy dX1_init_25 rfl (by decide) rfl ?_
  have LP43 : ∀ (d k : Nat), d + k = 7 → ∀ (K' : Kk) (R' : Rr) (M' : Mm), ST K R M a (a + 1) K' R' M' (163 + 162 * k) 2 → isO K' a 1 → isA K' (a + 1 + 0) 4 7 → R' a 0 = some (a + 1 + 0) → (∀ i, k ≤ i → R' (a + 1 + 0) i = none) → (∀ i, i < k → R' (a + 1 + 0) i = some (a + 1 + (163 + 162 * i)) ∧ psA K' R' (a + 1 + (163 + 162 * i))) → (psA K' R' (a + 1 + 1)) → (R' a 1 = some (a + 1 + 1)) → w (163 + 162 * k) (1649 + 1642 * k) 26 [(0, .ref a), (1, .int (nI k))] [] K' R' M' := by
    intro d
    induction d with
    | zero =>
      intro k hk44 K' R' M' ss oo ia ra zz ff f45 f46
      obtain rfl : k = 7 := by omega
      refine r_iload_n hw.sy dX1_init_26 1 rfl ?_
      refine r_aload_n hw.sy dX1_init_27 0 rfl ?_
      refine r_getR hw.sy fO_X1_11 oo ra dX1_init_28 ?_
      refine r_alen hw.sy ⟨4, 7, by decide, ia⟩ dX1_init_31 ?_
      rw [show alen K' (a + 1 + 0) = 7 by simp only [alen, ia.2]; rfl]
      refine r_icmp_ge (tgt := 54) hw.sy dX1_init_32 (by decide) (fun cc => ?_) (fun cc => ?_)
      rotate_left
      · exact absurd cc (by decide)
      exact r_returnP hw ⟨ss.cr, ⟨oo, ra, ia, f46, f45, fun p hp => by rw [show a + 164 + 162 * p = a + 1 + (163 + 162 * p) by omega]; exact ff p hp⟩⟩ rfl rfl dX1_init_54
    | succ d ih =>
      intro k hk44 K' R' M' ss oo ia ra zz ff f45 f46
      have hkN : k < 7 := by omega
      refine r_iload_n hw.sy dX1_init_26 1 rfl ?_
      refine r_aload_n hw.sy dX1_init_27 0 rfl ?_
      refine r_getR hw.sy fO_X1_11 oo ra dX1_init_28 ?_
      refine r_alen hw.sy ⟨4, 7, by decide, ia⟩ dX1_init_31 ?_
      rw [show alen K' (a + 1 + 0) = 7 by simp only [alen, ia.2]; rfl]
      refine r_icmp_ge (tgt := 54) hw.sy dX1_init_32 (by decide) (fun cc => ?_) (fun cc => ?_)
      · exact absurd ((nI_ltI (b := 7) (by omega) (by decide)).mpr hkN) cc
      refine r_aload_n hw.sy dX1_init_35 0 rfl ?_
      refine r_getR hw.sy fO_X1_11 oo ra dX1_init_36 ?_
      refine r_iload_n hw.sy dX1_init_39 1 rfl ?_
      refine r_new hw.t cO_4 dZ_4 cL_X1_9 iN_X4 iZ_X4 ss.last ss.z (by show 163 + 162 * k + 1 ≤ 1297; omega) (by show 1649 + 1642 * k + 2 ≤ 13143; omega) dX1_init_40 ?_
      have z47 := ss.z.2.2
      have t48 := ss.new (.inl 4)
      have s49 := t48.1
      have g50 := t48.2.1
      have f51 := f45.gr g50
      clear f45
      have f52 := g50.2.2 _ _ _ f46
      clear f46
      have f53 := g50.2.1 _ _ _ ia
      clear ia
      have f54 := g50.2.2 _ _ _ ra
      clear ra
      have o55 := g50.1 _ _ oo
      have f56 := fun i (hi : i < k) => And.intro (g50.2.2 _ _ _ (ff i hi).1) ((ff i hi).2.gr g50)
      have f57 : isO _ (a + 1 + (163 + 162 * k)) 4 := t48.2.2
      refine r_dup hw.sy dX1_init_43 rfl ?_
      refine r_callC hw.t (kX4_init l G b0 (a := (a + 1 + (163 + 162 * k))) f57 z47 s49.1.2.2.1 s49.1.2.2.2.2.2) lB_X4_init rfl iM_X4_init mL_X1_17 rfl ⟨(Nat.le_of_ble_eq_true rfl), (Nat.le_of_ble_eq_true rfl)⟩ ⟨by show 163 + 162 * k + 1 + 161 ≤ 1297; omega, by show 1649 + 1642 * k + 2 + 1640 ≤ 13143; omega⟩ s49.last rfl (Nat.le_of_ble_eq_true rfl) dX1_init_44 (fun K2 R2 M2 h58 => ?_)
      have t59 := s49.call (b := (a + 1 + (163 + 162 * k))) (d := 161) (by omega) h58.1 (by omega)
      have s60 := t59.1
      have g61 := t59.2
      have f62 := f51.gr g61
      clear f51
      have f63 := g61.2.2 _ _ _ f52
      clear f52
      have f64 := g61.2.1 _ _ _ f53
      clear f53
      have f65 := g61.2.2 _ _ _ f54
      clear f54
      have o66 := g61.1 _ _ o55
      have f67 := fun i (hi : i < k) => And.intro (g61.2.2 _ _ _ (f56 i hi).1) ((f56 i hi).2.gr g61)
      have z68 : ∀ i, k ≤ i → R2 (a + 1 + 0) i = none := fun i hi => by rw [h58.1.2.1 (a + 1 + 0) (by omega) (by omega)]; exact zz i hi
      refine r_aastore hw.sy 1 (by decide) (c := 4) rfl rfl ⟨7, f64, vp_in_nI hkN (by decide)⟩ h58.2.1 dX1_init_47 ?_
      rw [nI_clamp (show k < 2 ^ 31 by omega)]
      have t69 := s60.arr (a + 1 + 0) k (a + 1 + (163 + 162 * k)) (by omega) (by omega) (z68 k (Nat.le_refl _))
      have s70 := t69.1
      have g71 := t69.2.1
      have f72 := f62.gr g71
      clear f62
      have f73 := g71.2.2 _ _ _ f63
      clear f63
      have f74 := g71.2.1 _ _ _ f64
      clear f64
      have f75 := g71.2.2 _ _ _ f65
      clear f65
      have o76 := g71.1 _ _ o66
      have f77 := fun i (hi : i < k) => And.intro (g71.2.2 _ _ _ (f67 i hi).1) ((f67 i hi).2.gr g71)
      have f78 := h58.2.gr g71
      refine r_iinc (j := 1) (v := nI (k + 1)) hw.sy dX1_init_48 rfl (by rw [show Int32.ofInt 1 = 1 from rfl]; exact nI_1 k) (by decide) rfl ?_
      refine r_goto (tgt := 26) hw.sy dX1_init_51 (by decide) ?_
      refine r_sub hw.sy [1, 0] (lv' := [(0, .ref a), (1, .int (nI (k + 1)))]) rfl ?_
      have e1 : 163 + 162 * k + 1 + 161 = 163 + 162 * (k + 1) := by omega
      have e2 : 1649 + 1642 * k + 2 + 1640 = 1649 + 1642 * (k + 1) := by omega
      change w (163 + 162 * k + 1 + 161) (1649 + 1642 * k + 2 + 1640) _ _ _ _ _ _
      rw [e1, e2]
      rw [e1] at s70
      exact ih (k + 1) (by omega) _ _ _ s70 o76 f74 f75 (fun i hi => by rw [show pR R2 (a + 1 + 0) k _ (a + 1 + 0) i = R2 (a + 1 + 0) i by simp [pR, u2, show i ≠ k by omega]]; exact z68 i (by omega)) (fun i hi => by
        by_cases hik : i = k
        · subst hik; exact ⟨t69.2.2, f78⟩
        · exact f77 i (by omega)) f72 f73
  refine r_sub hw.sy [1, 0] (lv' := [(0, .ref a), (1, .int (nI 0))]) rfl ?_
  exact LP43 7 0 rfl _ _ _ s35 o40 f37 f38 (fun i _ => congrFun z42 i) (fun i hi => absurd hi (by omega)) f39 f41
theorem dX7_init_0 : decode cX7_init 0 = .ok (.aload_n 0, 1) := by decide +kernel
theorem dX7_init_1 : decode cX7_init 1 = .ok (.invokespecial 3, 3) := by decide +kernel
theorem dX7_init_4 : decode cX7_init 4 = .ok (.aload_n 0, 1) := by decide +kernel
theorem dX7_init_5 : decode cX7_init 5 = .ok (.new 9, 3) := by decide +kernel
theorem dX7_init_8 : decode cX7_init 8 = .ok (.dup, 1) := by decide +kernel
theorem dX7_init_9 : decode cX7_init 9 = .ok (.bipush 16, 2) := by decide +kernel
theorem dX7_init_11 : decode cX7_init 11 = .ok (.invokespecial 11, 3) := by decide +kernel
theorem dX7_init_14 : decode cX7_init 14 = .ok (.putfield 14, 3) := by decide +kernel
theorem dX7_init_17 : decode cX7_init 17 = .ok (.aload_n 0, 1) := by decide +kernel
theorem dX7_init_18 : decode cX7_init 18 = .ok (.iconst 5, 1) := by decide +kernel
theorem dX7_init_19 : decode cX7_init 19 = .ok (.anewarray 9, 3) := by decide +kernel
theorem dX7_init_22 : decode cX7_init 22 = .ok (.putfield 18, 3) := by decide +kernel
theorem dX7_init_25 : decode cX7_init 25 = .ok (.iconst 0, 1) := by decide +kernel
theorem dX7_init_26 : decode cX7_init 26 = .ok (.istore_n 1, 1) := by decide +kernel
theorem dX7_init_27 : decode cX7_init 27 = .ok (.iload_n 1, 1) := by decide +kernel
theorem dX7_init_28 : decode cX7_init 28 = .ok (.iconst 5, 1) := by decide +kernel
theorem dX7_init_29 : decode cX7_init 29 = .ok (.if_icmp .ge 24, 3) := by decide +kernel
theorem dX7_init_32 : decode cX7_init 32 = .ok (.aload_n 0, 1) := by decide +kernel
theorem dX7_init_33 : decode cX7_init 33 = .ok (.getfield 18, 3) := by decide +kernel
theorem dX7_init_36 : decode cX7_init 36 = .ok (.iload_n 1, 1) := by decide +kernel
theorem dX7_init_37 : decode cX7_init 37 = .ok (.new 9, 3) := by decide +kernel
theorem dX7_init_40 : decode cX7_init 40 = .ok (.dup, 1) := by decide +kernel
theorem dX7_init_41 : decode cX7_init 41 = .ok (.bipush 16, 2) := by decide +kernel
theorem dX7_init_43 : decode cX7_init 43 = .ok (.invokespecial 11, 3) := by decide +kernel
theorem dX7_init_46 : decode cX7_init 46 = .ok (.aastore, 1) := by decide +kernel
theorem dX7_init_47 : decode cX7_init 47 = .ok (.iinc 1 1, 3) := by decide +kernel
theorem dX7_init_50 : decode cX7_init 50 = .ok (.goto (-23), 3) := by decide +kernel
theorem dX7_init_53 : decode cX7_init 53 = .ok (.aload_n 0, 1) := by decide +kernel
theorem dX7_init_54 : decode cX7_init 54 = .ok (.new 22, 3) := by decide +kernel
theorem dX7_init_57 : decode cX7_init 57 = .ok (.dup, 1) := by decide +kernel
theorem dX7_init_58 : decode cX7_init 58 = .ok (.invokespecial 24, 3) := by decide +kernel
theorem dX7_init_61 : decode cX7_init 61 = .ok (.putfield 25, 3) := by decide +kernel
theorem dX7_init_64 : decode cX7_init 64 = .ok (.aload_n 0, 1) := by decide +kernel
theorem dX7_init_65 : decode cX7_init 65 = .ok (.iconst 4, 1) := by decide +kernel
theorem dX7_init_66 : decode cX7_init 66 = .ok (.anewarray 29, 3) := by decide +kernel
theorem dX7_init_69 : decode cX7_init 69 = .ok (.putfield 31, 3) := by decide +kernel
theorem dX7_init_72 : decode cX7_init 72 = .ok (.iconst 0, 1) := by decide +kernel
theorem dX7_init_73 : decode cX7_init 73 = .ok (.istore_n 1, 1) := by decide +kernel
theorem dX7_init_74 : decode cX7_init 74 = .ok (.iload_n 1, 1) := by decide +kernel
theorem dX7_init_75 : decode cX7_init 75 = .ok (.iconst 4, 1) := by decide +kernel
theorem dX7_init_76 : decode cX7_init 76 = .ok (.if_icmp .ge 22, 3) := by decide +kernel
theorem dX7_init_79 : decode cX7_init 79 = .ok (.aload_n 0, 1) := by decide +kernel
theorem dX7_init_80 : decode cX7_init 80 = .ok (.getfield 31, 3) := by decide +kernel
theorem dX7_init_83 : decode cX7_init 83 = .ok (.iload_n 1, 1) := by decide +kernel
theorem dX7_init_84 : decode cX7_init 84 = .ok (.new 29, 3) := by decide +kernel
theorem dX7_init_87 : decode cX7_init 87 = .ok (.dup, 1) := by decide +kernel
theorem dX7_init_88 : decode cX7_init 88 = .ok (.invokespecial 35, 3) := by decide +kernel
theorem dX7_init_91 : decode cX7_init 91 = .ok (.aastore, 1) := by decide +kernel
theorem dX7_init_92 : decode cX7_init 92 = .ok (.iinc 1 1, 3) := by decide +kernel
theorem dX7_init_95 : decode cX7_init 95 = .ok (.goto (-21), 3) := by decide +kernel
theorem dX7_init_98 : decode cX7_init 98 = .ok (.aload_n 0, 1) := by decide +kernel
theorem dX7_init_99 : decode cX7_init 99 = .ok (.iconst 4, 1) := by decide +kernel
theorem dX7_init_100 : decode cX7_init 100 = .ok (.newarray .boolean, 2) := by decide +kernel
theorem dX7_init_102 : decode cX7_init 102 = .ok (.putfield 36, 3) := by decide +kernel
theorem dX7_init_105 : decode cX7_init 105 = .ok (.aload_n 0, 1) := by decide +kernel
theorem dX7_init_106 : decode cX7_init 106 = .ok (.new 40, 3) := by decide +kernel
theorem dX7_init_109 : decode cX7_init 109 = .ok (.dup, 1) := by decide +kernel
theorem dX7_init_110 : decode cX7_init 110 = .ok (.invokespecial 42, 3) := by decide +kernel
theorem dX7_init_113 : decode cX7_init 113 = .ok (.putfield 43, 3) := by decide +kernel
theorem dX7_init_116 : decode cX7_init 116 = .ok (.aload_n 0, 1) := by decide +kernel
theorem dX7_init_117 : decode cX7_init 117 = .ok (.new 47, 3) := by decide +kernel
theorem dX7_init_120 : decode cX7_init 120 = .ok (.dup, 1) := by decide +kernel
theorem dX7_init_121 : decode cX7_init 121 = .ok (.invokespecial 49, 3) := by decide +kernel
theorem dX7_init_124 : decode cX7_init 124 = .ok (.putfield 50, 3) := by decide +kernel
theorem dX7_init_127 : decode cX7_init 127 = .ok (.aload_n 0, 1) := by decide +kernel
theorem dX7_init_128 : decode cX7_init 128 = .ok (.new 54, 3) := by decide +kernel
theorem dX7_init_131 : decode cX7_init 131 = .ok (.dup, 1) := by decide +kernel
theorem dX7_init_132 : decode cX7_init 132 = .ok (.invokespecial 56, 3) := by decide +kernel
theorem dX7_init_135 : decode cX7_init 135 = .ok (.putfield 57, 3) := by decide +kernel
theorem dX7_init_138 : decode cX7_init 138 = .ok (.aload_n 0, 1) := by decide +kernel
theorem dX7_init_139 : decode cX7_init 139 = .ok (.new 61, 3) := by decide +kernel
theorem dX7_init_142 : decode cX7_init 142 = .ok (.dup, 1) := by decide +kernel
theorem dX7_init_143 : decode cX7_init 143 = .ok (.invokespecial 63, 3) := by decide +kernel
theorem dX7_init_146 : decode cX7_init 146 = .ok (.putfield 64, 3) := by decide +kernel
theorem dX7_init_149 : decode cX7_init 149 = .ok (.aload_n 0, 1) := by decide +kernel
theorem dX7_init_150 : decode cX7_init 150 = .ok (.new 9, 3) := by decide +kernel
theorem dX7_init_153 : decode cX7_init 153 = .ok (.dup, 1) := by decide +kernel
theorem dX7_init_154 : decode cX7_init 154 = .ok (.bipush 66, 2) := by decide +kernel
theorem dX7_init_156 : decode cX7_init 156 = .ok (.invokespecial 11, 3) := by decide +kernel
theorem dX7_init_159 : decode cX7_init 159 = .ok (.putfield 68, 3) := by decide +kernel
theorem dX7_init_162 : decode cX7_init 162 = .ok (.aload_n 0, 1) := by decide +kernel
theorem dX7_init_163 : decode cX7_init 163 = .ok (.new 9, 3) := by decide +kernel
theorem dX7_init_166 : decode cX7_init 166 = .ok (.dup, 1) := by decide +kernel
theorem dX7_init_167 : decode cX7_init 167 = .ok (.bipush 66, 2) := by decide +kernel
theorem dX7_init_169 : decode cX7_init 169 = .ok (.invokespecial 11, 3) := by decide +kernel
theorem dX7_init_172 : decode cX7_init 172 = .ok (.putfield 71, 3) := by decide +kernel
theorem dX7_init_175 : decode cX7_init 175 = .ok (.aload_n 0, 1) := by decide +kernel
theorem dX7_init_176 : decode cX7_init 176 = .ok (.new 9, 3) := by decide +kernel
theorem dX7_init_179 : decode cX7_init 179 = .ok (.dup, 1) := by decide +kernel
theorem dX7_init_180 : decode cX7_init 180 = .ok (.bipush 16, 2) := by decide +kernel
theorem dX7_init_182 : decode cX7_init 182 = .ok (.invokespecial 11, 3) := by decide +kernel
theorem dX7_init_185 : decode cX7_init 185 = .ok (.putfield 74, 3) := by decide +kernel
theorem dX7_init_188 : decode cX7_init 188 = .ok (.aload_n 0, 1) := by decide +kernel
theorem dX7_init_189 : decode cX7_init 189 = .ok (.new 9, 3) := by decide +kernel
theorem dX7_init_192 : decode cX7_init 192 = .ok (.dup, 1) := by decide +kernel
theorem dX7_init_193 : decode cX7_init 193 = .ok (.bipush 16, 2) := by decide +kernel
theorem dX7_init_195 : decode cX7_init 195 = .ok (.invokespecial 11, 3) := by decide +kernel
theorem dX7_init_198 : decode cX7_init 198 = .ok (.putfield 77, 3) := by decide +kernel
theorem dX7_init_201 : decode cX7_init 201 = .ok (.aload_n 0, 1) := by decide +kernel
theorem dX7_init_202 : decode cX7_init 202 = .ok (.bipush 40, 2) := by decide +kernel
theorem dX7_init_204 : decode cX7_init 204 = .ok (.anewarray 9, 3) := by decide +kernel
theorem dX7_init_207 : decode cX7_init 207 = .ok (.putfield 80, 3) := by decide +kernel
theorem dX7_init_210 : decode cX7_init 210 = .ok (.iconst 0, 1) := by decide +kernel
theorem dX7_init_211 : decode cX7_init 211 = .ok (.istore_n 1, 1) := by decide +kernel
theorem dX7_init_212 : decode cX7_init 212 = .ok (.iload_n 1, 1) := by decide +kernel
theorem dX7_init_213 : decode cX7_init 213 = .ok (.bipush 40, 2) := by decide +kernel
theorem dX7_init_215 : decode cX7_init 215 = .ok (.if_icmp .ge 24, 3) := by decide +kernel
theorem dX7_init_218 : decode cX7_init 218 = .ok (.aload_n 0, 1) := by decide +kernel
theorem dX7_init_219 : decode cX7_init 219 = .ok (.getfield 80, 3) := by decide +kernel
theorem dX7_init_222 : decode cX7_init 222 = .ok (.iload_n 1, 1) := by decide +kernel
theorem dX7_init_223 : decode cX7_init 223 = .ok (.new 9, 3) := by decide +kernel
theorem dX7_init_226 : decode cX7_init 226 = .ok (.dup, 1) := by decide +kernel
theorem dX7_init_227 : decode cX7_init 227 = .ok (.bipush 16, 2) := by decide +kernel
theorem dX7_init_229 : decode cX7_init 229 = .ok (.invokespecial 11, 3) := by decide +kernel
theorem dX7_init_232 : decode cX7_init 232 = .ok (.aastore, 1) := by decide +kernel
theorem dX7_init_233 : decode cX7_init 233 = .ok (.iinc 1 1, 3) := by decide +kernel
theorem dX7_init_236 : decode cX7_init 236 = .ok (.goto (-24), 3) := by decide +kernel
theorem dX7_init_239 : decode cX7_init 239 = .ok (.return_, 1) := by decide +kernel
set_option maxHeartbeats 4000000 in
set_option maxRecDepth 100000 in
theorem kX7_init (l : Launch) (G : Gg) (b0 : Nat) {K : Kk} {R : Rr} {M : Mm} {a : Nat} (ho : isO K a 7) (hr : R a = fun _ => none) (hz : FZ R M (a + 1)) (hl : Lo K (a + 1)) : CP l G b0 (a + 1) yX7_init cX7_init 2 { frames := 6, cells := 2117, slots := 23971, locals := 104 } [.ref a] K R M (fun K' R' M' => CR K R M a (a + 1) K' R' M' (a + 2118) ∧ beA K' R' a) := by
  refine cn_of (by decide +kernel) (Nat.le_of_ble_eq_true rfl) (fun w hw => ?_)
  change w 0 0 0 [(0, .ref a)] [] K R M
  have s0 := ST.start (Nat.lt_succ_self a) hr hz hl
  refine r_aload_n hw.sy dX7_init_0 0 rfl ?_
  refine r_objInit hw.t mL_X7_3 zO_in zO_c (Nat.le_of_ble_eq_true rfl) (Nat.le_of_ble_eq_true rfl) dX7_init_1 ?_
  refine r_aload_n hw.sy dX7_init_4 0 rfl ?_
  refine r_new hw.t cO_5 dZ_5 cL_X7_9 iN_X5 iZ_X5 s0.last s0.z (Nat.le_of_ble_eq_true rfl) (Nat.le_of_ble_eq_true rfl) dX7_init_5 ?_
  have z1 := s0.z.2.2
  have t2 := s0.new (.inl 5)
  have s3 := t2.1
  have g4 := t2.2.1
  have o5 := g4.1 _ _ ho
  have f6 : isO _ (a + 1 + 0) 5 := t2.2.2
  refine r_dup hw.sy dX7_init_8 rfl ?_
  refine r_bipush (v := nI 16) hw.sy dX7_init_9 rfl ?_
  refine r_callC hw.t (kX5_init l G b0 (a := (a + 1 + 0)) (n := 16) (by decide) f6 z1 s3.1.2.2.1 s3.1.2.2.2.2.2) lB_X5_init rfl iM_X5_init mL_X7_11 rfl ⟨(Nat.le_of_ble_eq_true rfl), (Nat.le_of_ble_eq_true rfl)⟩ ⟨(Nat.le_of_ble_eq_true rfl), (Nat.le_of_ble_eq_true rfl)⟩ s3.last rfl (Nat.le_of_ble_eq_true rfl) dX7_init_11 (fun K7 R8 M9 h10 => ?_)
  have t11 := s3.call (b := (a + 1 + 0)) (d := 2) (by omega) h10.1 (by omega)
  have s12 := t11.1
  have g13 := t11.2
  have o14 := g13.1 _ _ o5
  have f15 := h10.2
  refine r_putFR hw fF_X7_14 rfl ⟨rfl, rfl⟩ o14 dX7_init_14 ?_
  have t16 := s12.put 0 (a + 1 + 0) (by decide)
  have s17 := t16.1
  have g18 := t16.2.1
  have f19 := f15.gr g18
  clear f15
  have o20 := g18.1 _ _ o14
  have f21 := t16.2.2
  refine r_aload_n hw.sy dX7_init_17 0 rfl ?_
  refine r_iconst (v := 5) hw.sy dX7_init_18 rfl ?_
  refine r_newA hw.t 5 0 (C := RX5) rfl cL_X7_9 (fun U h => h.2.2.1) rfl (by decide) s17.last s17.z (Nat.le_of_ble_eq_true rfl) (Nat.le_of_ble_eq_true rfl) dX7_init_19 ?_
  have z22 := s17.z.2.2
  have t23 := s17.new (.inr (3, 5))
  have s24 := t23.1
  have g25 := t23.2.1
  have f26 := f19.gr g25
  clear f19
  have f27 := g25.2.2 _ _ _ f21
  clear f21
  have o28 := g25.1 _ _ o20
  have f29 : isA _ (a + 1 + 3) 3 5 := t23.2.2
  refine r_putFR hw fF_X7_18 rfl ⟨rfl, rfl⟩ o28 dX7_init_22 ?_
  have t30 := s24.put 1 (a + 1 + 3) (by decide)
  have s31 := t30.1
  have g32 := t30.2.1
  have f33 := f26.gr g32
  clear f26
  have f34 := g32.2.2 _ _ _ f27
  clear f27
  have f35 := g32.2.1 _ _ _ f29
  clear f29
  have o36 := g32.1 _ _ o28
  have f37 := t30.2.2
  have z38 : pR _ a 1 (some (a + 1 + 3)) (a + 1 + 3) = fun _ => none := (u2_ne (by omega)).trans z22
  refine r_iconst (v := 0) hw.sy dX7_init_25 rfl ?_
  refine r_istore_n hw.sy dX7_init_26 rfl (by decide) rfl ?_
  have LP39 : ∀ (d k : Nat), d + k = 5 → ∀ (K' : Kk) (R' : Rr) (M' : Mm), ST K R M a (a + 1) K' R' M' (4 + 3 * k) 2 → isO K' a 7 → isA K' (a + 1 + 3) 3 5 → R' a 1 = some (a + 1 + 3) → (∀ i, k ≤ i → R' (a + 1 + 3) i = none) → (∀ i, i < k → R' (a + 1 + 3) i = some (a + 1 + (4 + 3 * i)) ∧ rgA K' R' (a + 1 + (4 + 3 * i)) 16) → (rgA K' R' (a + 1 + 0) 16) → (R' a 0 = some (a + 1 + 0)) → w (4 + 3 * k) (40 + 35 * k) 27 [(0, .ref a), (1, .int (nI k))] [] K' R' M' := by
    intro d
    induction d with
    | zero =>
      intro k hk40 K' R' M' ss oo ia ra zz ff f41 f42
      obtain rfl : k = 5 := by omega
      refine r_iload_n hw.sy dX7_init_27 1 rfl ?_
      refine r_iconst (v := 5) hw.sy dX7_init_28 rfl ?_
      refine r_icmp_ge (tgt := 53) hw.sy dX7_init_29 (by decide) (fun cc => ?_) (fun cc => ?_)
      rotate_left
      · exact absurd cc (by decide)
      refine r_aload_n hw.sy dX7_init_53 0 rfl ?_
      refine r_new hw.t cO_1 dZ_1 cL_X7_22 iN_X1 iZ_X1 ss.last ss.z (Nat.le_of_ble_eq_true rfl) (Nat.le_of_ble_eq_true rfl) dX7_init_54 ?_
      have z43 := ss.z.2.2
      have t44 := ss.new (.inl 1)
      have s45 := t44.1
      have g46 := t44.2.1
      have f47 := f41.gr g46
      clear f41
      have f48 := g46.2.2 _ _ _ f42
      clear f42
      have f49 := g46.2.1 _ _ _ ia
      clear ia
      have f50 := g46.2.2 _ _ _ ra
      clear ra
      have f51 := fun i (hi : i < 5) => And.intro (g46.2.2 _ _ _ (ff i hi).1) ((ff i hi).2.gr g46)
      clear ff
      have o52 := g46.1 _ _ oo
      have f53 : isO _ (a + 1 + 19) 1 := t44.2.2
      refine r_dup hw.sy dX7_init_57 rfl ?_
      refine r_callC hw.t (kX1_init l G b0 (a := (a + 1 + 19)) f53 z43 s45.1.2.2.1 s45.1.2.2.2.2.2) lB_X1_init rfl iM_X1_init mL_X7_24 rfl ⟨(Nat.le_of_ble_eq_true rfl), (Nat.le_of_ble_eq_true rfl)⟩ ⟨(Nat.le_of_ble_eq_true rfl), (Nat.le_of_ble_eq_true rfl)⟩ s45.last rfl (Nat.le_of_ble_eq_true rfl) dX7_init_58 (fun K54 R55 M56 h57 => ?_)
      have t58 := s45.call (b := (a + 1 + 19)) (d := 1297) (by omega) h57.1 (by omega)
      have s59 := t58.1
      have g60 := t58.2
      have f61 := f47.gr g60
      clear f47
      have f62 := g60.2.2 _ _ _ f48
      clear f48
      have f63 := g60.2.1 _ _ _ f49
      clear f49
      have f64 := g60.2.2 _ _ _ f50
      clear f50
      have f65 := fun i (hi : i < 5) => And.intro (g60.2.2 _ _ _ (f51 i hi).1) ((f51 i hi).2.gr g60)
      clear f51
      have o66 := g60.1 _ _ o52
      have f67 := h57.2
      refine r_putFR hw fF_X7_25 rfl ⟨rfl, rfl⟩ o66 dX7_init_61 ?_
      have t68 := s59.put 2 (a + 1 + 19) (by decide)
      have s69 := t68.1
      have g70 := t68.2.1
      have f71 := f61.gr g70
      clear f61
      have f72 := g70.2.2 _ _ _ f62
      clear f62
      have f73 := g70.2.1 _ _ _ f63
      clear f63
      have f74 := g70.2.2 _ _ _ f64
      clear f64
      have f75 := fun i (hi : i < 5) => And.intro (g70.2.2 _ _ _ (f65 i hi).1) ((f65 i hi).2.gr g70)
      clear f65
      have f76 := f67.gr g70
      clear f67
      have o77 := g70.1 _ _ o66
      have f78 := t68.2.2
      refine r_aload_n hw.sy dX7_init_64 0 rfl ?_
      refine r_iconst (v := 4) hw.sy dX7_init_65 rfl ?_
      refine r_newA hw.t 4 1 (C := RX4) rfl cL_X7_29 (fun U h => h.2.2.2.1) rfl (by decide) s69.last s69.z (Nat.le_of_ble_eq_true rfl) (Nat.le_of_ble_eq_true rfl) dX7_init_66 ?_
      have z79 := s69.z.2.2
      have t80 := s69.new (.inr (4, 4))
      have s81 := t80.1
      have g82 := t80.2.1
      have f83 := f71.gr g82
      clear f71
      have f84 := g82.2.2 _ _ _ f72
      clear f72
      have f85 := g82.2.1 _ _ _ f73
      clear f73
      have f86 := g82.2.2 _ _ _ f74
      clear f74
      have f87 := fun i (hi : i < 5) => And.intro (g82.2.2 _ _ _ (f75 i hi).1) ((f75 i hi).2.gr g82)
      clear f75
      have f88 := f76.gr g82
      clear f76
      have f89 := g82.2.2 _ _ _ f78
      clear f78
      have o90 := g82.1 _ _ o77
      have f91 : isA _ (a + 1 + 1317) 4 4 := t80.2.2
      refine r_putFR hw fF_X7_31 rfl ⟨rfl, rfl⟩ o90 dX7_init_69 ?_
      have t92 := s81.put 3 (a + 1 + 1317) (by decide)
      have s93 := t92.1
      have g94 := t92.2.1
      have f95 := f83.gr g94
      clear f83
      have f96 := g94.2.2 _ _ _ f84
      clear f84
      have f97 := g94.2.1 _ _ _ f85
      clear f85
      have f98 := g94.2.2 _ _ _ f86
      clear f86
      have f99 := fun i (hi : i < 5) => And.intro (g94.2.2 _ _ _ (f87 i hi).1) ((f87 i hi).2.gr g94)
      clear f87
      have f100 := f88.gr g94
      clear f88
      have f101 := g94.2.2 _ _ _ f89
      clear f89
      have f102 := g94.2.1 _ _ _ f91
      clear f91
      have o103 := g94.1 _ _ o90
      have f104 := t92.2.2
      have z105 : pR _ a 3 (some (a + 1 + 1317)) (a + 1 + 1317) = fun _ => none := (u2_ne (by omega)).trans z79
      refine r_iconst (v := 0) hw.sy dX7_init_72 rfl ?_
      refine r_istore_n hw.sy dX7_init_73 rfl (by decide) rfl ?_
      have LP106 : ∀ (d k : Nat), d + k = 4 → ∀ (K' : Kk) (R' : Rr) (M' : Mm), ST K R M a (a + 1) K' R' M' (1318 + 162 * k) 4 → isO K' a 7 → isA K' (a + 1 + 1317) 4 4 → R' a 3 = some (a + 1 + 1317) → (∀ i, k ≤ i → R' (a + 1 + 1317) i = none) → (∀ i, i < k → R' (a + 1 + 1317) i = some (a + 1 + (1318 + 162 * i)) ∧ psA K' R' (a + 1 + (1318 + 162 * i))) → (rgA K' R' (a + 1 + 0) 16) → (R' a 0 = some (a + 1 + 0)) → (isA K' (a + 1 + 3) 3 5) → (R' a 1 = some (a + 1 + 3)) → (∀ i, i < 5 → R' (a + 1 + 3) i = some (a + 1 + (4 + 3 * i)) ∧ rgA K' R' (a + 1 + (4 + 3 * i)) 16) → (hiA K' R' (a + 1 + 19)) → (R' a 2 = some (a + 1 + 19)) → w (1318 + 162 * k) (13366 + 1642 * k) 74 [(0, .ref a), (1, .int (nI k))] [] K' R' M' := by
        intro d
        induction d with
        | zero =>
          intro k hk107 K' R' M' ss oo ia ra zz ff f108 f109 f110 f111 f112 f113 f114
          obtain rfl : k = 4 := by omega
          refine r_iload_n hw.sy dX7_init_74 1 rfl ?_
          refine r_iconst (v := 4) hw.sy dX7_init_75 rfl ?_
          refine r_icmp_ge (tgt := 98) hw.sy dX7_init_76 (by decide) (fun cc => ?_) (fun cc => ?_)
          rotate_left
          · exact absurd cc (by decide)
          refine r_aload_n hw.sy dX7_init_98 0 rfl ?_
          refine r_iconst (v := 4) hw.sy dX7_init_99 rfl ?_
          refine r_newZ hw.t 4 aC_boolean rfl (by decide) ss.last ss.z (Nat.le_of_ble_eq_true rfl) (Nat.le_of_ble_eq_true rfl) dX7_init_100 ?_
          have t115 := ss.new (.inr (2, 4))
          have s116 := t115.1
          have g117 := t115.2.1
          have f118 := f108.gr g117
          clear f108
          have f119 := g117.2.2 _ _ _ f109
          clear f109
          have f120 := g117.2.1 _ _ _ f110
          clear f110
          have f121 := g117.2.2 _ _ _ f111
          clear f111
          have f122 := fun i (hi : i < 5) => And.intro (g117.2.2 _ _ _ (f112 i hi).1) ((f112 i hi).2.gr g117)
          clear f112
          have f123 := f113.gr g117
          clear f113
          have f124 := g117.2.2 _ _ _ f114
          clear f114
          have f125 := g117.2.1 _ _ _ ia
          clear ia
          have f126 := g117.2.2 _ _ _ ra
          clear ra
          have f127 := fun i (hi : i < 4) => And.intro (g117.2.2 _ _ _ (ff i hi).1) ((ff i hi).2.gr g117)
          clear ff
          have o128 := g117.1 _ _ oo
          have f129 : isA _ (a + 1 + 1966) 2 4 := t115.2.2
          refine r_putFR hw fF_X7_36 rfl ⟨rfl, rfl⟩ o128 dX7_init_102 ?_
          have t130 := s116.put 4 (a + 1 + 1966) (by decide)
          have s131 := t130.1
          have g132 := t130.2.1
          have f133 := f118.gr g132
          clear f118
          have f134 := g132.2.2 _ _ _ f119
          clear f119
          have f135 := g132.2.1 _ _ _ f120
          clear f120
          have f136 := g132.2.2 _ _ _ f121
          clear f121
          have f137 := fun i (hi : i < 5) => And.intro (g132.2.2 _ _ _ (f122 i hi).1) ((f122 i hi).2.gr g132)
          clear f122
          have f138 := f123.gr g132
          clear f123
          have f139 := g132.2.2 _ _ _ f124
          clear f124
          have f140 := g132.2.1 _ _ _ f125
          clear f125
          have f141 := g132.2.2 _ _ _ f126
          clear f126
          have f142 := fun i (hi : i < 4) => And.intro (g132.2.2 _ _ _ (f127 i hi).1) ((f127 i hi).2.gr g132)
          clear f127
          have f143 := g132.2.1 _ _ _ f129
          clear f129
          have o144 := g132.1 _ _ o128
          have f145 := t130.2.2
          refine r_aload_n hw.sy dX7_init_105 0 rfl ?_
          refine r_new hw.t cO_6 dZ_6 cL_X7_40 iN_X6 iZ_X6 s131.last s131.z (Nat.le_of_ble_eq_true rfl) (Nat.le_of_ble_eq_true rfl) dX7_init_106 ?_
          have z146 := s131.z.2.2
          have t147 := s131.new (.inl 6)
          have s148 := t147.1
          have g149 := t147.2.1
          have f150 := f133.gr g149
          clear f133
          have f151 := g149.2.2 _ _ _ f134
          clear f134
          have f152 := g149.2.1 _ _ _ f135
          clear f135
          have f153 := g149.2.2 _ _ _ f136
          clear f136
          have f154 := fun i (hi : i < 5) => And.intro (g149.2.2 _ _ _ (f137 i hi).1) ((f137 i hi).2.gr g149)
          clear f137
          have f155 := f138.gr g149
          clear f138
          have f156 := g149.2.2 _ _ _ f139
          clear f139
          have f157 := g149.2.1 _ _ _ f140
          clear f140
          have f158 := g149.2.2 _ _ _ f141
          clear f141
          have f159 := fun i (hi : i < 4) => And.intro (g149.2.2 _ _ _ (f142 i hi).1) ((f142 i hi).2.gr g149)
          clear f142
          have f160 := g149.2.1 _ _ _ f143
          clear f143
          have f161 := g149.2.2 _ _ _ f145
          clear f145
          have o162 := g149.1 _ _ o144
          have f163 : isO _ (a + 1 + 1967) 6 := t147.2.2
          refine r_dup hw.sy dX7_init_109 rfl ?_
          refine r_callCN hw.t (kX6_init l G b0 (a := (a + 1 + 1967)) f163 z146 s148.1.2.2.1 s148.1.2.2.2.2.2) lB_X6_init rfl iM_X6_init nw_X7_42 rfl ⟨(Nat.le_of_ble_eq_true rfl), (Nat.le_of_ble_eq_true rfl)⟩ ⟨(Nat.le_of_ble_eq_true rfl), (Nat.le_of_ble_eq_true rfl)⟩ s148.last rfl (Nat.le_of_ble_eq_true rfl) dX7_init_110 (fun K164 R165 M166 h167 => ?_)
          have t168 := s148.call (b := (a + 1 + 1967)) (d := 3) (by omega) h167.1 (by omega)
          have s169 := t168.1
          have g170 := t168.2
          have f171 := f150.gr g170
          clear f150
          have f172 := g170.2.2 _ _ _ f151
          clear f151
          have f173 := g170.2.1 _ _ _ f152
          clear f152
          have f174 := g170.2.2 _ _ _ f153
          clear f153
          have f175 := fun i (hi : i < 5) => And.intro (g170.2.2 _ _ _ (f154 i hi).1) ((f154 i hi).2.gr g170)
          clear f154
          have f176 := f155.gr g170
          clear f155
          have f177 := g170.2.2 _ _ _ f156
          clear f156
          have f178 := g170.2.1 _ _ _ f157
          clear f157
          have f179 := g170.2.2 _ _ _ f158
          clear f158
          have f180 := fun i (hi : i < 4) => And.intro (g170.2.2 _ _ _ (f159 i hi).1) ((f159 i hi).2.gr g170)
          clear f159
          have f181 := g170.2.1 _ _ _ f160
          clear f160
          have f182 := g170.2.2 _ _ _ f161
          clear f161
          have o183 := g170.1 _ _ o162
          have f184 := h167.2
          refine r_putFR hw fF_X7_43 rfl ⟨rfl, rfl⟩ o183 dX7_init_113 ?_
          have t185 := s169.put 5 (a + 1 + 1967) (by decide)
          have s186 := t185.1
          have g187 := t185.2.1
          have f188 := f171.gr g187
          clear f171
          have f189 := g187.2.2 _ _ _ f172
          clear f172
          have f190 := g187.2.1 _ _ _ f173
          clear f173
          have f191 := g187.2.2 _ _ _ f174
          clear f174
          have f192 := fun i (hi : i < 5) => And.intro (g187.2.2 _ _ _ (f175 i hi).1) ((f175 i hi).2.gr g187)
          clear f175
          have f193 := f176.gr g187
          clear f176
          have f194 := g187.2.2 _ _ _ f177
          clear f177
          have f195 := g187.2.1 _ _ _ f178
          clear f178
          have f196 := g187.2.2 _ _ _ f179
          clear f179
          have f197 := fun i (hi : i < 4) => And.intro (g187.2.2 _ _ _ (f180 i hi).1) ((f180 i hi).2.gr g187)
          clear f180
          have f198 := g187.2.1 _ _ _ f181
          clear f181
          have f199 := g187.2.2 _ _ _ f182
          clear f182
          have f200 := f184.gr g187
          clear f184
          have o201 := g187.1 _ _ o183
          have f202 := t185.2.2
          refine r_aload_n hw.sy dX7_init_116 0 rfl ?_
          refine r_new hw.t cO_2 dZ_2 cL_X7_47 iN_X2 iZ_X2 s186.last s186.z (Nat.le_of_ble_eq_true rfl) (Nat.le_of_ble_eq_true rfl) dX7_init_117 ?_
          have z203 := s186.z.2.2
          have t204 := s186.new (.inl 2)
          have s205 := t204.1
          have g206 := t204.2.1
          have f207 := f188.gr g206
          clear f188
          have f208 := g206.2.2 _ _ _ f189
          clear f189
          have f209 := g206.2.1 _ _ _ f190
          clear f190
          have f210 := g206.2.2 _ _ _ f191
          clear f191
          have f211 := fun i (hi : i < 5) => And.intro (g206.2.2 _ _ _ (f192 i hi).1) ((f192 i hi).2.gr g206)
          clear f192
          have f212 := f193.gr g206
          clear f193
          have f213 := g206.2.2 _ _ _ f194
          clear f194
          have f214 := g206.2.1 _ _ _ f195
          clear f195
          have f215 := g206.2.2 _ _ _ f196
          clear f196
          have f216 := fun i (hi : i < 4) => And.intro (g206.2.2 _ _ _ (f197 i hi).1) ((f197 i hi).2.gr g206)
          clear f197
          have f217 := g206.2.1 _ _ _ f198
          clear f198
          have f218 := g206.2.2 _ _ _ f199
          clear f199
          have f219 := f200.gr g206
          clear f200
          have f220 := g206.2.2 _ _ _ f202
          clear f202
          have o221 := g206.1 _ _ o201
          have f222 : isO _ (a + 1 + 1971) 2 := t204.2.2
          refine r_dup hw.sy dX7_init_120 rfl ?_
          refine r_callCN hw.t (kX2_init l G b0 (a := (a + 1 + 1971)) f222 z203 s205.1.2.2.1 s205.1.2.2.2.2.2) lB_X2_init rfl iM_X2_init nw_X7_49 rfl ⟨(Nat.le_of_ble_eq_true rfl), (Nat.le_of_ble_eq_true rfl)⟩ ⟨(Nat.le_of_ble_eq_true rfl), (Nat.le_of_ble_eq_true rfl)⟩ s205.last rfl (Nat.le_of_ble_eq_true rfl) dX7_init_121 (fun K223 R224 M225 h226 => ?_)
          have t227 := s205.call (b := (a + 1 + 1971)) (d := 0) (by omega) h226.1 (by omega)
          have s228 := t227.1
          have g229 := t227.2
          have f230 := f207.gr g229
          clear f207
          have f231 := g229.2.2 _ _ _ f208
          clear f208
          have f232 := g229.2.1 _ _ _ f209
          clear f209
          have f233 := g229.2.2 _ _ _ f210
          clear f210
          have f234 := fun i (hi : i < 5) => And.intro (g229.2.2 _ _ _ (f211 i hi).1) ((f211 i hi).2.gr g229)
          clear f211
          have f235 := f212.gr g229
          clear f212
          have f236 := g229.2.2 _ _ _ f213
          clear f213
          have f237 := g229.2.1 _ _ _ f214
          clear f214
          have f238 := g229.2.2 _ _ _ f215
          clear f215
          have f239 := fun i (hi : i < 4) => And.intro (g229.2.2 _ _ _ (f216 i hi).1) ((f216 i hi).2.gr g229)
          clear f216
          have f240 := g229.2.1 _ _ _ f217
          clear f217
          have f241 := g229.2.2 _ _ _ f218
          clear f218
          have f242 := f219.gr g229
          clear f219
          have f243 := g229.2.2 _ _ _ f220
          clear f220
          have o244 := g229.1 _ _ o221
          have f245 := h226.2
          refine r_putFR hw fF_X7_50 rfl ⟨rfl, rfl⟩ o244 dX7_init_124 ?_
          have t246 := s228.put 6 (a + 1 + 1971) (by decide)
          have s247 := t246.1
          have g248 := t246.2.1
          have f249 := f230.gr g248
          clear f230
          have f250 := g248.2.2 _ _ _ f231
          clear f231
          have f251 := g248.2.1 _ _ _ f232
          clear f232
          have f252 := g248.2.2 _ _ _ f233
          clear f233
          have f253 := fun i (hi : i < 5) => And.intro (g248.2.2 _ _ _ (f234 i hi).1) ((f234 i hi).2.gr g248)
          clear f234
          have f254 := f235.gr g248
          clear f235
          have f255 := g248.2.2 _ _ _ f236
          clear f236
          have f256 := g248.2.1 _ _ _ f237
          clear f237
          have f257 := g248.2.2 _ _ _ f238
          clear f238
          have f258 := fun i (hi : i < 4) => And.intro (g248.2.2 _ _ _ (f239 i hi).1) ((f239 i hi).2.gr g248)
          clear f239
          have f259 := g248.2.1 _ _ _ f240
          clear f240
          have f260 := g248.2.2 _ _ _ f241
          clear f241
          have f261 := f242.gr g248
          clear f242
          have f262 := g248.2.2 _ _ _ f243
          clear f243
          have f263 := g248.1 _ _ f245
          clear f245
          have o264 := g248.1 _ _ o244
          have f265 := t246.2.2
          refine r_aload_n hw.sy dX7_init_127 0 rfl ?_
          refine r_new hw.t cO_0 dZ_0 cL_X7_54 iN_X0 iZ_X0 s247.last s247.z (Nat.le_of_ble_eq_true rfl) (Nat.le_of_ble_eq_true rfl) dX7_init_128 ?_
          have z266 := s247.z.2.2
          have t267 := s247.new (.inl 0)
          have s268 := t267.1
          have g269 := t267.2.1
          have f270 := f249.gr g269
          clear f249
          have f271 := g269.2.2 _ _ _ f250
          clear f250
          have f272 := g269.2.1 _ _ _ f251
          clear f251
          have f273 := g269.2.2 _ _ _ f252
          clear f252
          have f274 := fun i (hi : i < 5) => And.intro (g269.2.2 _ _ _ (f253 i hi).1) ((f253 i hi).2.gr g269)
          clear f253
          have f275 := f254.gr g269
          clear f254
          have f276 := g269.2.2 _ _ _ f255
          clear f255
          have f277 := g269.2.1 _ _ _ f256
          clear f256
          have f278 := g269.2.2 _ _ _ f257
          clear f257
          have f279 := fun i (hi : i < 4) => And.intro (g269.2.2 _ _ _ (f258 i hi).1) ((f258 i hi).2.gr g269)
          clear f258
          have f280 := g269.2.1 _ _ _ f259
          clear f259
          have f281 := g269.2.2 _ _ _ f260
          clear f260
          have f282 := f261.gr g269
          clear f261
          have f283 := g269.2.2 _ _ _ f262
          clear f262
          have f284 := g269.1 _ _ f263
          clear f263
          have f285 := g269.2.2 _ _ _ f265
          clear f265
          have o286 := g269.1 _ _ o264
          have f287 : isO _ (a + 1 + 1972) 0 := t267.2.2
          refine r_dup hw.sy dX7_init_131 rfl ?_
          refine r_callCN hw.t (kX0_init l G b0 (a := (a + 1 + 1972)) f287 z266 s268.1.2.2.1 s268.1.2.2.2.2.2) lB_X0_init rfl iM_X0_init nw_X7_56 rfl ⟨(Nat.le_of_ble_eq_true rfl), (Nat.le_of_ble_eq_true rfl)⟩ ⟨(Nat.le_of_ble_eq_true rfl), (Nat.le_of_ble_eq_true rfl)⟩ s268.last rfl (Nat.le_of_ble_eq_true rfl) dX7_init_132 (fun K288 R289 M290 h291 => ?_)
          have t292 := s268.call (b := (a + 1 + 1972)) (d := 7) (by omega) h291.1 (by omega)
          have s293 := t292.1
          have g294 := t292.2
          have f295 := f270.gr g294
          clear f270
          have f296 := g294.2.2 _ _ _ f271
          clear f271
          have f297 := g294.2.1 _ _ _ f272
          clear f272
          have f298 := g294.2.2 _ _ _ f273
          clear f273
          have f299 := fun i (hi : i < 5) => And.intro (g294.2.2 _ _ _ (f274 i hi).1) ((f274 i hi).2.gr g294)
          clear f274
          have f300 := f275.gr g294
          clear f275
          have f301 := g294.2.2 _ _ _ f276
          clear f276
          have f302 := g294.2.1 _ _ _ f277
          clear f277
          have f303 := g294.2.2 _ _ _ f278
          clear f278
          have f304 := fun i (hi : i < 4) => And.intro (g294.2.2 _ _ _ (f279 i hi).1) ((f279 i hi).2.gr g294)
          clear f279
          have f305 := g294.2.1 _ _ _ f280
          clear f280
          have f306 := g294.2.2 _ _ _ f281
          clear f281
          have f307 := f282.gr g294
          clear f282
          have f308 := g294.2.2 _ _ _ f283
          clear f283
          have f309 := g294.1 _ _ f284
          clear f284
          have f310 := g294.2.2 _ _ _ f285
          clear f285
          have o311 := g294.1 _ _ o286
          have f312 := h291.2
          refine r_putFR hw fF_X7_57 rfl ⟨rfl, rfl⟩ o311 dX7_init_135 ?_
          have t313 := s293.put 7 (a + 1 + 1972) (by decide)
          have s314 := t313.1
          have g315 := t313.2.1
          have f316 := f295.gr g315
          clear f295
          have f317 := g315.2.2 _ _ _ f296
          clear f296
          have f318 := g315.2.1 _ _ _ f297
          clear f297
          have f319 := g315.2.2 _ _ _ f298
          clear f298
          have f320 := fun i (hi : i < 5) => And.intro (g315.2.2 _ _ _ (f299 i hi).1) ((f299 i hi).2.gr g315)
          clear f299
          have f321 := f300.gr g315
          clear f300
          have f322 := g315.2.2 _ _ _ f301
          clear f301
          have f323 := g315.2.1 _ _ _ f302
          clear f302
          have f324 := g315.2.2 _ _ _ f303
          clear f303
          have f325 := fun i (hi : i < 4) => And.intro (g315.2.2 _ _ _ (f304 i hi).1) ((f304 i hi).2.gr g315)
          clear f304
          have f326 := g315.2.1 _ _ _ f305
          clear f305
          have f327 := g315.2.2 _ _ _ f306
          clear f306
          have f328 := f307.gr g315
          clear f307
          have f329 := g315.2.2 _ _ _ f308
          clear f308
          have f330 := g315.1 _ _ f309
          clear f309
          have f331 := g315.2.2 _ _ _ f310
          clear f310
          have f332 := f312.gr g315
          clear f312
          have o333 := g315.1 _ _ o311
          have f334 := t313.2.2
          refine r_aload_n hw.sy dX7_init_138 0 rfl ?_
          refine r_new hw.t cO_3 dZ_3 cL_X7_61 iN_X3 iZ_X3 s314.last s314.z (Nat.le_of_ble_eq_true rfl) (Nat.le_of_ble_eq_true rfl) dX7_init_139 ?_
          have z335 := s314.z.2.2
          have t336 := s314.new (.inl 3)
          have s337 := t336.1
          have g338 := t336.2.1
          have f339 := f316.gr g338
          clear f316
          have f340 := g338.2.2 _ _ _ f317
          clear f317
          have f341 := g338.2.1 _ _ _ f318
          clear f318
          have f342 := g338.2.2 _ _ _ f319
          clear f319
          have f343 := fun i (hi : i < 5) => And.intro (g338.2.2 _ _ _ (f320 i hi).1) ((f320 i hi).2.gr g338)
          clear f320
          have f344 := f321.gr g338
          clear f321
          have f345 := g338.2.2 _ _ _ f322
          clear f322
          have f346 := g338.2.1 _ _ _ f323
          clear f323
          have f347 := g338.2.2 _ _ _ f324
          clear f324
          have f348 := fun i (hi : i < 4) => And.intro (g338.2.2 _ _ _ (f325 i hi).1) ((f325 i hi).2.gr g338)
          clear f325
          have f349 := g338.2.1 _ _ _ f326
          clear f326
          have f350 := g338.2.2 _ _ _ f327
          clear f327
          have f351 := f328.gr g338
          clear f328
          have f352 := g338.2.2 _ _ _ f329
          clear f329
          have f353 := g338.1 _ _ f330
          clear f330
          have f354 := g338.2.2 _ _ _ f331
          clear f331
          have f355 := f332.gr g338
          clear f332
          have f356 := g338.2.2 _ _ _ f334
          clear f334
          have o357 := g338.1 _ _ o333
          have f358 : isO _ (a + 1 + 1980) 3 := t336.2.2
          refine r_dup hw.sy dX7_init_142 rfl ?_
          refine r_callCN hw.t (kX3_init l G b0 (a := (a + 1 + 1980)) f358 z335 s337.1.2.2.1 s337.1.2.2.2.2.2) lB_X3_init rfl iM_X3_init nw_X7_63 rfl ⟨(Nat.le_of_ble_eq_true rfl), (Nat.le_of_ble_eq_true rfl)⟩ ⟨(Nat.le_of_ble_eq_true rfl), (Nat.le_of_ble_eq_true rfl)⟩ s337.last rfl (Nat.le_of_ble_eq_true rfl) dX7_init_143 (fun K359 R360 M361 h362 => ?_)
          have t363 := s337.call (b := (a + 1 + 1980)) (d := 3) (by omega) h362.1 (by omega)
          have s364 := t363.1
          have g365 := t363.2
          have f366 := f339.gr g365
          clear f339
          have f367 := g365.2.2 _ _ _ f340
          clear f340
          have f368 := g365.2.1 _ _ _ f341
          clear f341
          have f369 := g365.2.2 _ _ _ f342
          clear f342
          have f370 := fun i (hi : i < 5) => And.intro (g365.2.2 _ _ _ (f343 i hi).1) ((f343 i hi).2.gr g365)
          clear f343
          have f371 := f344.gr g365
          clear f344
          have f372 := g365.2.2 _ _ _ f345
          clear f345
          have f373 := g365.2.1 _ _ _ f346
          clear f346
          have f374 := g365.2.2 _ _ _ f347
          clear f347
          have f375 := fun i (hi : i < 4) => And.intro (g365.2.2 _ _ _ (f348 i hi).1) ((f348 i hi).2.gr g365)
          clear f348
          have f376 := g365.2.1 _ _ _ f349
          clear f349
          have f377 := g365.2.2 _ _ _ f350
          clear f350
          have f378 := f351.gr g365
          clear f351
          have f379 := g365.2.2 _ _ _ f352
          clear f352
          have f380 := g365.1 _ _ f353
          clear f353
          have f381 := g365.2.2 _ _ _ f354
          clear f354
          have f382 := f355.gr g365
          clear f355
          have f383 := g365.2.2 _ _ _ f356
          clear f356
          have o384 := g365.1 _ _ o357
          have f385 := h362.2
          refine r_putFR hw fF_X7_64 rfl ⟨rfl, rfl⟩ o384 dX7_init_146 ?_
          have t386 := s364.put 8 (a + 1 + 1980) (by decide)
          have s387 := t386.1
          have g388 := t386.2.1
          have f389 := f366.gr g388
          clear f366
          have f390 := g388.2.2 _ _ _ f367
          clear f367
          have f391 := g388.2.1 _ _ _ f368
          clear f368
          have f392 := g388.2.2 _ _ _ f369
          clear f369
          have f393 := fun i (hi : i < 5) => And.intro (g388.2.2 _ _ _ (f370 i hi).1) ((f370 i hi).2.gr g388)
          clear f370
          have f394 := f371.gr g388
          clear f371
          have f395 := g388.2.2 _ _ _ f372
          clear f372
          have f396 := g388.2.1 _ _ _ f373
          clear f373
          have f397 := g388.2.2 _ _ _ f374
          clear f374
          have f398 := fun i (hi : i < 4) => And.intro (g388.2.2 _ _ _ (f375 i hi).1) ((f375 i hi).2.gr g388)
          clear f375
          have f399 := g388.2.1 _ _ _ f376
          clear f376
          have f400 := g388.2.2 _ _ _ f377
          clear f377
          have f401 := f378.gr g388
          clear f378
          have f402 := g388.2.2 _ _ _ f379
          clear f379
          have f403 := g388.1 _ _ f380
          clear f380
          have f404 := g388.2.2 _ _ _ f381
          clear f381
          have f405 := f382.gr g388
          clear f382
          have f406 := g388.2.2 _ _ _ f383
          clear f383
          have f407 := f385.gr g388
          clear f385
          have o408 := g388.1 _ _ o384
          have f409 := t386.2.2
          refine r_aload_n hw.sy dX7_init_149 0 rfl ?_
          refine r_new hw.t cO_5 dZ_5 cL_X7_9 iN_X5 iZ_X5 s387.last s387.z (Nat.le_of_ble_eq_true rfl) (Nat.le_of_ble_eq_true rfl) dX7_init_150 ?_
          have z410 := s387.z.2.2
          have t411 := s387.new (.inl 5)
          have s412 := t411.1
          have g413 := t411.2.1
          have f414 := f389.gr g413
          clear f389
          have f415 := g413.2.2 _ _ _ f390
          clear f390
          have f416 := g413.2.1 _ _ _ f391
          clear f391
          have f417 := g413.2.2 _ _ _ f392
          clear f392
          have f418 := fun i (hi : i < 5) => And.intro (g413.2.2 _ _ _ (f393 i hi).1) ((f393 i hi).2.gr g413)
          clear f393
          have f419 := f394.gr g413
          clear f394
          have f420 := g413.2.2 _ _ _ f395
          clear f395
          have f421 := g413.2.1 _ _ _ f396
          clear f396
          have f422 := g413.2.2 _ _ _ f397
          clear f397
          have f423 := fun i (hi : i < 4) => And.intro (g413.2.2 _ _ _ (f398 i hi).1) ((f398 i hi).2.gr g413)
          clear f398
          have f424 := g413.2.1 _ _ _ f399
          clear f399
          have f425 := g413.2.2 _ _ _ f400
          clear f400
          have f426 := f401.gr g413
          clear f401
          have f427 := g413.2.2 _ _ _ f402
          clear f402
          have f428 := g413.1 _ _ f403
          clear f403
          have f429 := g413.2.2 _ _ _ f404
          clear f404
          have f430 := f405.gr g413
          clear f405
          have f431 := g413.2.2 _ _ _ f406
          clear f406
          have f432 := f407.gr g413
          clear f407
          have f433 := g413.2.2 _ _ _ f409
          clear f409
          have o434 := g413.1 _ _ o408
          have f435 : isO _ (a + 1 + 1984) 5 := t411.2.2
          refine r_dup hw.sy dX7_init_153 rfl ?_
          refine r_bipush (v := nI 66) hw.sy dX7_init_154 rfl ?_
          refine r_callC hw.t (kX5_init l G b0 (a := (a + 1 + 1984)) (n := 66) (by decide) f435 z410 s412.1.2.2.1 s412.1.2.2.2.2.2) lB_X5_init rfl iM_X5_init mL_X7_11 rfl ⟨(Nat.le_of_ble_eq_true rfl), (Nat.le_of_ble_eq_true rfl)⟩ ⟨(Nat.le_of_ble_eq_true rfl), (Nat.le_of_ble_eq_true rfl)⟩ s412.last rfl (Nat.le_of_ble_eq_true rfl) dX7_init_156 (fun K436 R437 M438 h439 => ?_)
          have t440 := s412.call (b := (a + 1 + 1984)) (d := 2) (by omega) h439.1 (by omega)
          have s441 := t440.1
          have g442 := t440.2
          have f443 := f414.gr g442
          clear f414
          have f444 := g442.2.2 _ _ _ f415
          clear f415
          have f445 := g442.2.1 _ _ _ f416
          clear f416
          have f446 := g442.2.2 _ _ _ f417
          clear f417
          have f447 := fun i (hi : i < 5) => And.intro (g442.2.2 _ _ _ (f418 i hi).1) ((f418 i hi).2.gr g442)
          clear f418
          have f448 := f419.gr g442
          clear f419
          have f449 := g442.2.2 _ _ _ f420
          clear f420
          have f450 := g442.2.1 _ _ _ f421
          clear f421
          have f451 := g442.2.2 _ _ _ f422
          clear f422
          have f452 := fun i (hi : i < 4) => And.intro (g442.2.2 _ _ _ (f423 i hi).1) ((f423 i hi).2.gr g442)
          clear f423
          have f453 := g442.2.1 _ _ _ f424
          clear f424
          have f454 := g442.2.2 _ _ _ f425
          clear f425
          have f455 := f426.gr g442
          clear f426
          have f456 := g442.2.2 _ _ _ f427
          clear f427
          have f457 := g442.1 _ _ f428
          clear f428
          have f458 := g442.2.2 _ _ _ f429
          clear f429
          have f459 := f430.gr g442
          clear f430
          have f460 := g442.2.2 _ _ _ f431
          clear f431
          have f461 := f432.gr g442
          clear f432
          have f462 := g442.2.2 _ _ _ f433
          clear f433
          have o463 := g442.1 _ _ o434
          have f464 := h439.2
          refine r_putFR hw fF_X7_68 rfl ⟨rfl, rfl⟩ o463 dX7_init_159 ?_
          have t465 := s441.put 9 (a + 1 + 1984) (by decide)
          have s466 := t465.1
          have g467 := t465.2.1
          have f468 := f443.gr g467
          clear f443
          have f469 := g467.2.2 _ _ _ f444
          clear f444
          have f470 := g467.2.1 _ _ _ f445
          clear f445
          have f471 := g467.2.2 _ _ _ f446
          clear f446
          have f472 := fun i (hi : i < 5) => And.intro (g467.2.2 _ _ _ (f447 i hi).1) ((f447 i hi).2.gr g467)
          clear f447
          have f473 := f448.gr g467
          clear f448
          have f474 := g467.2.2 _ _ _ f449
          clear f449
          have f475 := g467.2.1 _ _ _ f450
          clear f450
          have f476 := g467.2.2 _ _ _ f451
          clear f451
          have f477 := fun i (hi : i < 4) => And.intro (g467.2.2 _ _ _ (f452 i hi).1) ((f452 i hi).2.gr g467)
          clear f452
          have f478 := g467.2.1 _ _ _ f453
          clear f453
          have f479 := g467.2.2 _ _ _ f454
          clear f454
          have f480 := f455.gr g467
          clear f455
          have f481 := g467.2.2 _ _ _ f456
          clear f456
          have f482 := g467.1 _ _ f457
          clear f457
          have f483 := g467.2.2 _ _ _ f458
          clear f458
          have f484 := f459.gr g467
          clear f459
          have f485 := g467.2.2 _ _ _ f460
          clear f460
          have f486 := f461.gr g467
          clear f461
          have f487 := g467.2.2 _ _ _ f462
          clear f462
          have f488 := f464.gr g467
          clear f464
          have o489 := g467.1 _ _ o463
          have f490 := t465.2.2
          refine r_aload_n hw.sy dX7_init_162 0 rfl ?_
          refine r_new hw.t cO_5 dZ_5 cL_X7_9 iN_X5 iZ_X5 s466.last s466.z (Nat.le_of_ble_eq_true rfl) (Nat.le_of_ble_eq_true rfl) dX7_init_163 ?_
          have z491 := s466.z.2.2
          have t492 := s466.new (.inl 5)
          have s493 := t492.1
          have g494 := t492.2.1
          have f495 := f468.gr g494
          clear f468
          have f496 := g494.2.2 _ _ _ f469
          clear f469
          have f497 := g494.2.1 _ _ _ f470
          clear f470
          have f498 := g494.2.2 _ _ _ f471
          clear f471
          have f499 := fun i (hi : i < 5) => And.intro (g494.2.2 _ _ _ (f472 i hi).1) ((f472 i hi).2.gr g494)
          clear f472
          have f500 := f473.gr g494
          clear f473
          have f501 := g494.2.2 _ _ _ f474
          clear f474
          have f502 := g494.2.1 _ _ _ f475
          clear f475
          have f503 := g494.2.2 _ _ _ f476
          clear f476
          have f504 := fun i (hi : i < 4) => And.intro (g494.2.2 _ _ _ (f477 i hi).1) ((f477 i hi).2.gr g494)
          clear f477
          have f505 := g494.2.1 _ _ _ f478
          clear f478
          have f506 := g494.2.2 _ _ _ f479
          clear f479
          have f507 := f480.gr g494
          clear f480
          have f508 := g494.2.2 _ _ _ f481
          clear f481
          have f509 := g494.1 _ _ f482
          clear f482
          have f510 := g494.2.2 _ _ _ f483
          clear f483
          have f511 := f484.gr g494
          clear f484
          have f512 := g494.2.2 _ _ _ f485
          clear f485
          have f513 := f486.gr g494
          clear f486
          have f514 := g494.2.2 _ _ _ f487
          clear f487
          have f515 := f488.gr g494
          clear f488
          have f516 := g494.2.2 _ _ _ f490
          clear f490
          have o517 := g494.1 _ _ o489
          have f518 : isO _ (a + 1 + 1987) 5 := t492.2.2
          refine r_dup hw.sy dX7_init_166 rfl ?_
          refine r_bipush (v := nI 66) hw.sy dX7_init_167 rfl ?_
          refine r_callC hw.t (kX5_init l G b0 (a := (a + 1 + 1987)) (n := 66) (by decide) f518 z491 s493.1.2.2.1 s493.1.2.2.2.2.2) lB_X5_init rfl iM_X5_init mL_X7_11 rfl ⟨(Nat.le_of_ble_eq_true rfl), (Nat.le_of_ble_eq_true rfl)⟩ ⟨(Nat.le_of_ble_eq_true rfl), (Nat.le_of_ble_eq_true rfl)⟩ s493.last rfl (Nat.le_of_ble_eq_true rfl) dX7_init_169 (fun K519 R520 M521 h522 => ?_)
          have t523 := s493.call (b := (a + 1 + 1987)) (d := 2) (by omega) h522.1 (by omega)
          have s524 := t523.1
          have g525 := t523.2
          have f526 := f495.gr g525
          clear f495
          have f527 := g525.2.2 _ _ _ f496
          clear f496
          have f528 := g525.2.1 _ _ _ f497
          clear f497
          have f529 := g525.2.2 _ _ _ f498
          clear f498
          have f530 := fun i (hi : i < 5) => And.intro (g525.2.2 _ _ _ (f499 i hi).1) ((f499 i hi).2.gr g525)
          clear f499
          have f531 := f500.gr g525
          clear f500
          have f532 := g525.2.2 _ _ _ f501
          clear f501
          have f533 := g525.2.1 _ _ _ f502
          clear f502
          have f534 := g525.2.2 _ _ _ f503
          clear f503
          have f535 := fun i (hi : i < 4) => And.intro (g525.2.2 _ _ _ (f504 i hi).1) ((f504 i hi).2.gr g525)
          clear f504
          have f536 := g525.2.1 _ _ _ f505
          clear f505
          have f537 := g525.2.2 _ _ _ f506
          clear f506
          have f538 := f507.gr g525
          clear f507
          have f539 := g525.2.2 _ _ _ f508
          clear f508
          have f540 := g525.1 _ _ f509
          clear f509
          have f541 := g525.2.2 _ _ _ f510
          clear f510
          have f542 := f511.gr g525
          clear f511
          have f543 := g525.2.2 _ _ _ f512
          clear f512
          have f544 := f513.gr g525
          clear f513
          have f545 := g525.2.2 _ _ _ f514
          clear f514
          have f546 := f515.gr g525
          clear f515
          have f547 := g525.2.2 _ _ _ f516
          clear f516
          have o548 := g525.1 _ _ o517
          have f549 := h522.2
          refine r_putFR hw fF_X7_71 rfl ⟨rfl, rfl⟩ o548 dX7_init_172 ?_
          have t550 := s524.put 10 (a + 1 + 1987) (by decide)
          have s551 := t550.1
          have g552 := t550.2.1
          have f553 := f526.gr g552
          clear f526
          have f554 := g552.2.2 _ _ _ f527
          clear f527
          have f555 := g552.2.1 _ _ _ f528
          clear f528
          have f556 := g552.2.2 _ _ _ f529
          clear f529
          have f557 := fun i (hi : i < 5) => And.intro (g552.2.2 _ _ _ (f530 i hi).1) ((f530 i hi).2.gr g552)
          clear f530
          have f558 := f531.gr g552
          clear f531
          have f559 := g552.2.2 _ _ _ f532
          clear f532
          have f560 := g552.2.1 _ _ _ f533
          clear f533
          have f561 := g552.2.2 _ _ _ f534
          clear f534
          have f562 := fun i (hi : i < 4) => And.intro (g552.2.2 _ _ _ (f535 i hi).1) ((f535 i hi).2.gr g552)
          clear f535
          have f563 := g552.2.1 _ _ _ f536
          clear f536
          have f564 := g552.2.2 _ _ _ f537
          clear f537
          have f565 := f538.gr g552
          clear f538
          have f566 := g552.2.2 _ _ _ f539
          clear f539
          have f567 := g552.1 _ _ f540
          clear f540
          have f568 := g552.2.2 _ _ _ f541
          clear f541
          have f569 := f542.gr g552
          clear f542
          have f570 := g552.2.2 _ _ _ f543
          clear f543
          have f571 := f544.gr g552
          clear f544
          have f572 := g552.2.2 _ _ _ f545
          clear f545
          have f573 := f546.gr g552
          clear f546
          have f574 := g552.2.2 _ _ _ f547
          clear f547
          have f575 := f549.gr g552
          clear f549
          have o576 := g552.1 _ _ o548
          have f577 := t550.2.2
          refine r_aload_n hw.sy dX7_init_175 0 rfl ?_
          refine r_new hw.t cO_5 dZ_5 cL_X7_9 iN_X5 iZ_X5 s551.last s551.z (Nat.le_of_ble_eq_true rfl) (Nat.le_of_ble_eq_true rfl) dX7_init_176 ?_
          have z578 := s551.z.2.2
          have t579 := s551.new (.inl 5)
          have s580 := t579.1
          have g581 := t579.2.1
          have f582 := f553.gr g581
          clear f553
          have f583 := g581.2.2 _ _ _ f554
          clear f554
          have f584 := g581.2.1 _ _ _ f555
          clear f555
          have f585 := g581.2.2 _ _ _ f556
          clear f556
          have f586 := fun i (hi : i < 5) => And.intro (g581.2.2 _ _ _ (f557 i hi).1) ((f557 i hi).2.gr g581)
          clear f557
          have f587 := f558.gr g581
          clear f558
          have f588 := g581.2.2 _ _ _ f559
          clear f559
          have f589 := g581.2.1 _ _ _ f560
          clear f560
          have f590 := g581.2.2 _ _ _ f561
          clear f561
          have f591 := fun i (hi : i < 4) => And.intro (g581.2.2 _ _ _ (f562 i hi).1) ((f562 i hi).2.gr g581)
          clear f562
          have f592 := g581.2.1 _ _ _ f563
          clear f563
          have f593 := g581.2.2 _ _ _ f564
          clear f564
          have f594 := f565.gr g581
          clear f565
          have f595 := g581.2.2 _ _ _ f566
          clear f566
          have f596 := g581.1 _ _ f567
          clear f567
          have f597 := g581.2.2 _ _ _ f568
          clear f568
          have f598 := f569.gr g581
          clear f569
          have f599 := g581.2.2 _ _ _ f570
          clear f570
          have f600 := f571.gr g581
          clear f571
          have f601 := g581.2.2 _ _ _ f572
          clear f572
          have f602 := f573.gr g581
          clear f573
          have f603 := g581.2.2 _ _ _ f574
          clear f574
          have f604 := f575.gr g581
          clear f575
          have f605 := g581.2.2 _ _ _ f577
          clear f577
          have o606 := g581.1 _ _ o576
          have f607 : isO _ (a + 1 + 1990) 5 := t579.2.2
          refine r_dup hw.sy dX7_init_179 rfl ?_
          refine r_bipush (v := nI 16) hw.sy dX7_init_180 rfl ?_
          refine r_callC hw.t (kX5_init l G b0 (a := (a + 1 + 1990)) (n := 16) (by decide) f607 z578 s580.1.2.2.1 s580.1.2.2.2.2.2) lB_X5_init rfl iM_X5_init mL_X7_11 rfl ⟨(Nat.le_of_ble_eq_true rfl), (Nat.le_of_ble_eq_true rfl)⟩ ⟨(Nat.le_of_ble_eq_true rfl), (Nat.le_of_ble_eq_true rfl)⟩ s580.last rfl (Nat.le_of_ble_eq_true rfl) dX7_init_182 (fun K608 R609 M610 h611 => ?_)
          have t612 := s580.call (b := (a + 1 + 1990)) (d := 2) (by omega) h611.1 (by omega)
          have s613 := t612.1
          have g614 := t612.2
          have f615 := f582.gr g614
          clear f582
          have f616 := g614.2.2 _ _ _ f583
          clear f583
          have f617 := g614.2.1 _ _ _ f584
          clear f584
          have f618 := g614.2.2 _ _ _ f585
          clear f585
          have f619 := fun i (hi : i < 5) => And.intro (g614.2.2 _ _ _ (f586 i hi).1) ((f586 i hi).2.gr g614)
          clear f586
          have f620 := f587.gr g614
          clear f587
          have f621 := g614.2.2 _ _ _ f588
          clear f588
          have f622 := g614.2.1 _ _ _ f589
          clear f589
          have f623 := g614.2.2 _ _ _ f590
          clear f590
          have f624 := fun i (hi : i < 4) => And.intro (g614.2.2 _ _ _ (f591 i hi).1) ((f591 i hi).2.gr g614)
          clear f591
          have f625 := g614.2.1 _ _ _ f592
          clear f592
          have f626 := g614.2.2 _ _ _ f593
          clear f593
          have f627 := f594.gr g614
          clear f594
          have f628 := g614.2.2 _ _ _ f595
          clear f595
          have f629 := g614.1 _ _ f596
          clear f596
          have f630 := g614.2.2 _ _ _ f597
          clear f597
          have f631 := f598.gr g614
          clear f598
          have f632 := g614.2.2 _ _ _ f599
          clear f599
          have f633 := f600.gr g614
          clear f600
          have f634 := g614.2.2 _ _ _ f601
          clear f601
          have f635 := f602.gr g614
          clear f602
          have f636 := g614.2.2 _ _ _ f603
          clear f603
          have f637 := f604.gr g614
          clear f604
          have f638 := g614.2.2 _ _ _ f605
          clear f605
          have o639 := g614.1 _ _ o606
          have f640 := h611.2
          refine r_putFR hw fF_X7_74 rfl ⟨rfl, rfl⟩ o639 dX7_init_185 ?_
          have t641 := s613.put 11 (a + 1 + 1990) (by decide)
          have s642 := t641.1
          have g643 := t641.2.1
          have f644 := f615.gr g643
          clear f615
          have f645 := g643.2.2 _ _ _ f616
          clear f616
          have f646 := g643.2.1 _ _ _ f617
          clear f617
          have f647 := g643.2.2 _ _ _ f618
          clear f618
          have f648 := fun i (hi : i < 5) => And.intro (g643.2.2 _ _ _ (f619 i hi).1) ((f619 i hi).2.gr g643)
          clear f619
          have f649 := f620.gr g643
          clear f620
          have f650 := g643.2.2 _ _ _ f621
          clear f621
          have f651 := g643.2.1 _ _ _ f622
          clear f622
          have f652 := g643.2.2 _ _ _ f623
          clear f623
          have f653 := fun i (hi : i < 4) => And.intro (g643.2.2 _ _ _ (f624 i hi).1) ((f624 i hi).2.gr g643)
          clear f624
          have f654 := g643.2.1 _ _ _ f625
          clear f625
          have f655 := g643.2.2 _ _ _ f626
          clear f626
          have f656 := f627.gr g643
          clear f627
          have f657 := g643.2.2 _ _ _ f628
          clear f628
          have f658 := g643.1 _ _ f629
          clear f629
          have f659 := g643.2.2 _ _ _ f630
          clear f630
          have f660 := f631.gr g643
          clear f631
          have f661 := g643.2.2 _ _ _ f632
          clear f632
          have f662 := f633.gr g643
          clear f633
          have f663 := g643.2.2 _ _ _ f634
          clear f634
          have f664 := f635.gr g643
          clear f635
          have f665 := g643.2.2 _ _ _ f636
          clear f636
          have f666 := f637.gr g643
          clear f637
          have f667 := g643.2.2 _ _ _ f638
          clear f638
          have f668 := f640.gr g643
          clear f640
          have o669 := g643.1 _ _ o639
          have f670 := t641.2.2
          refine r_aload_n hw.sy dX7_init_188 0 rfl ?_
          refine r_new hw.t cO_5 dZ_5 cL_X7_9 iN_X5 iZ_X5 s642.last s642.z (Nat.le_of_ble_eq_true rfl) (Nat.le_of_ble_eq_true rfl) dX7_init_189 ?_
          have z671 := s642.z.2.2
          have t672 := s642.new (.inl 5)
          have s673 := t672.1
          have g674 := t672.2.1
          have f675 := f644.gr g674
          clear f644
          have f676 := g674.2.2 _ _ _ f645
          clear f645
          have f677 := g674.2.1 _ _ _ f646
          clear f646
          have f678 := g674.2.2 _ _ _ f647
          clear f647
          have f679 := fun i (hi : i < 5) => And.intro (g674.2.2 _ _ _ (f648 i hi).1) ((f648 i hi).2.gr g674)
          clear f648
          have f680 := f649.gr g674
          clear f649
          have f681 := g674.2.2 _ _ _ f650
          clear f650
          have f682 := g674.2.1 _ _ _ f651
          clear f651
          have f683 := g674.2.2 _ _ _ f652
          clear f652
          have f684 := fun i (hi : i < 4) => And.intro (g674.2.2 _ _ _ (f653 i hi).1) ((f653 i hi).2.gr g674)
          clear f653
          have f685 := g674.2.1 _ _ _ f654
          clear f654
          have f686 := g674.2.2 _ _ _ f655
          clear f655
          have f687 := f656.gr g674
          clear f656
          have f688 := g674.2.2 _ _ _ f657
          clear f657
          have f689 := g674.1 _ _ f658
          clear f658
          have f690 := g674.2.2 _ _ _ f659
          clear f659
          have f691 := f660.gr g674
          clear f660
          have f692 := g674.2.2 _ _ _ f661
          clear f661
          have f693 := f662.gr g674
          clear f662
          have f694 := g674.2.2 _ _ _ f663
          clear f663
          have f695 := f664.gr g674
          clear f664
          have f696 := g674.2.2 _ _ _ f665
          clear f665
          have f697 := f666.gr g674
          clear f666
          have f698 := g674.2.2 _ _ _ f667
          clear f667
          have f699 := f668.gr g674
          clear f668
          have f700 := g674.2.2 _ _ _ f670
          clear f670
          have o701 := g674.1 _ _ o669
          have f702 : isO _ (a + 1 + 1993) 5 := t672.2.2
          refine r_dup hw.sy dX7_init_192 rfl ?_
          refine r_bipush (v := nI 16) hw.sy dX7_init_193 rfl ?_
          refine r_callC hw.t (kX5_init l G b0 (a := (a + 1 + 1993)) (n := 16) (by decide) f702 z671 s673.1.2.2.1 s673.1.2.2.2.2.2) lB_X5_init rfl iM_X5_init mL_X7_11 rfl ⟨(Nat.le_of_ble_eq_true rfl), (Nat.le_of_ble_eq_true rfl)⟩ ⟨(Nat.le_of_ble_eq_true rfl), (Nat.le_of_ble_eq_true rfl)⟩ s673.last rfl (Nat.le_of_ble_eq_true rfl) dX7_init_195 (fun K703 R704 M705 h706 => ?_)
          have t707 := s673.call (b := (a + 1 + 1993)) (d := 2) (by omega) h706.1 (by omega)
          have s708 := t707.1
          have g709 := t707.2
          have f710 := f675.gr g709
          clear f675
          have f711 := g709.2.2 _ _ _ f676
          clear f676
          have f712 := g709.2.1 _ _ _ f677
          clear f677
          have f713 := g709.2.2 _ _ _ f678
          clear f678
          have f714 := fun i (hi : i < 5) => And.intro (g709.2.2 _ _ _ (f679 i hi).1) ((f679 i hi).2.gr g709)
          clear f679
          have f715 := f680.gr g709
          clear f680
          have f716 := g709.2.2 _ _ _ f681
          clear f681
          have f717 := g709.2.1 _ _ _ f682
          clear f682
          have f718 := g709.2.2 _ _ _ f683
          clear f683
          have f719 := fun i (hi : i < 4) => And.intro (g709.2.2 _ _ _ (f684 i hi).1) ((f684 i hi).2.gr g709)
          clear f684
          have f720 := g709.2.1 _ _ _ f685
          clear f685
          have f721 := g709.2.2 _ _ _ f686
          clear f686
          have f722 := f687.gr g709
          clear f687
          have f723 := g709.2.2 _ _ _ f688
          clear f688
          have f724 := g709.1 _ _ f689
          clear f689
          have f725 := g709.2.2 _ _ _ f690
          clear f690
          have f726 := f691.gr g709
          clear f691
          have f727 := g709.2.2 _ _ _ f692
          clear f692
          have f728 := f693.gr g709
          clear f693
          have f729 := g709.2.2 _ _ _ f694
          clear f694
          have f730 := f695.gr g709
          clear f695
          have f731 := g709.2.2 _ _ _ f696
          clear f696
          have f732 := f697.gr g709
          clear f697
          have f733 := g709.2.2 _ _ _ f698
          clear f698
          have f734 := f699.gr g709
          clear f699
          have f735 := g709.2.2 _ _ _ f700
          clear f700
          have o736 := g709.1 _ _ o701
          have f737 := h706.2
          refine r_putFR hw fF_X7_77 rfl ⟨rfl, rfl⟩ o736 dX7_init_198 ?_
          have t738 := s708.put 12 (a + 1 + 1993) (by decide)
          have s739 := t738.1
          have g740 := t738.2.1
          have f741 := f710.gr g740
          clear f710
          have f742 := g740.2.2 _ _ _ f711
          clear f711
          have f743 := g740.2.1 _ _ _ f712
          clear f712
          have f744 := g740.2.2 _ _ _ f713
          clear f713
          have f745 := fun i (hi : i < 5) => And.intro (g740.2.2 _ _ _ (f714 i hi).1) ((f714 i hi).2.gr g740)
          clear f714
          have f746 := f715.gr g740
          clear f715
          have f747 := g740.2.2 _ _ _ f716
          clear f716
          have f748 := g740.2.1 _ _ _ f717
          clear f717
          have f749 := g740.2.2 _ _ _ f718
          clear f718
          have f750 := fun i (hi : i < 4) => And.intro (g740.2.2 _ _ _ (f719 i hi).1) ((f719 i hi).2.gr g740)
          clear f719
          have f751 := g740.2.1 _ _ _ f720
          clear f720
          have f752 := g740.2.2 _ _ _ f721
          clear f721
          have f753 := f722.gr g740
          clear f722
          have f754 := g740.2.2 _ _ _ f723
          clear f723
          have f755 := g740.1 _ _ f724
          clear f724
          have f756 := g740.2.2 _ _ _ f725
          clear f725
          have f757 := f726.gr g740
          clear f726
          have f758 := g740.2.2 _ _ _ f727
          clear f727
          have f759 := f728.gr g740
          clear f728
          have f760 := g740.2.2 _ _ _ f729
          clear f729
          have f761 := f730.gr g740
          clear f730
          have f762 := g740.2.2 _ _ _ f731
          clear f731
          have f763 := f732.gr g740
          clear f732
          have f764 := g740.2.2 _ _ _ f733
          clear f733
          have f765 := f734.gr g740
          clear f734
          have f766 := g740.2.2 _ _ _ f735
          clear f735
          have f767 := f737.gr g740
          clear f737
          have o768 := g740.1 _ _ o736
          have f769 := t738.2.2
          refine r_aload_n hw.sy dX7_init_201 0 rfl ?_
          refine r_bipush (v := 40) hw.sy dX7_init_202 rfl ?_
          refine r_newA hw.t 40 0 (C := RX5) rfl cL_X7_9 (fun U h => h.2.2.1) rfl (by decide) s739.last s739.z (Nat.le_of_ble_eq_true rfl) (Nat.le_of_ble_eq_true rfl) dX7_init_204 ?_
          have z770 := s739.z.2.2
          have t771 := s739.new (.inr (3, 40))
          have s772 := t771.1
          have g773 := t771.2.1
          have f774 := f741.gr g773
          clear f741
          have f775 := g773.2.2 _ _ _ f742
          clear f742
          have f776 := g773.2.1 _ _ _ f743
          clear f743
          have f777 := g773.2.2 _ _ _ f744
          clear f744
          have f778 := fun i (hi : i < 5) => And.intro (g773.2.2 _ _ _ (f745 i hi).1) ((f745 i hi).2.gr g773)
          clear f745
          have f779 := f746.gr g773
          clear f746
          have f780 := g773.2.2 _ _ _ f747
          clear f747
          have f781 := g773.2.1 _ _ _ f748
          clear f748
          have f782 := g773.2.2 _ _ _ f749
          clear f749
          have f783 := fun i (hi : i < 4) => And.intro (g773.2.2 _ _ _ (f750 i hi).1) ((f750 i hi).2.gr g773)
          clear f750
          have f784 := g773.2.1 _ _ _ f751
          clear f751
          have f785 := g773.2.2 _ _ _ f752
          clear f752
          have f786 := f753.gr g773
          clear f753
          have f787 := g773.2.2 _ _ _ f754
          clear f754
          have f788 := g773.1 _ _ f755
          clear f755
          have f789 := g773.2.2 _ _ _ f756
          clear f756
          have f790 := f757.gr g773
          clear f757
          have f791 := g773.2.2 _ _ _ f758
          clear f758
          have f792 := f759.gr g773
          clear f759
          have f793 := g773.2.2 _ _ _ f760
          clear f760
          have f794 := f761.gr g773
          clear f761
          have f795 := g773.2.2 _ _ _ f762
          clear f762
          have f796 := f763.gr g773
          clear f763
          have f797 := g773.2.2 _ _ _ f764
          clear f764
          have f798 := f765.gr g773
          clear f765
          have f799 := g773.2.2 _ _ _ f766
          clear f766
          have f800 := f767.gr g773
          clear f767
          have f801 := g773.2.2 _ _ _ f769
          clear f769
          have o802 := g773.1 _ _ o768
          have f803 : isA _ (a + 1 + 1996) 3 40 := t771.2.2
          refine r_putFR hw fF_X7_80 rfl ⟨rfl, rfl⟩ o802 dX7_init_207 ?_
          have t804 := s772.put 13 (a + 1 + 1996) (by decide)
          have s805 := t804.1
          have g806 := t804.2.1
          have f807 := f774.gr g806
          clear f774
          have f808 := g806.2.2 _ _ _ f775
          clear f775
          have f809 := g806.2.1 _ _ _ f776
          clear f776
          have f810 := g806.2.2 _ _ _ f777
          clear f777
          have f811 := fun i (hi : i < 5) => And.intro (g806.2.2 _ _ _ (f778 i hi).1) ((f778 i hi).2.gr g806)
          clear f778
          have f812 := f779.gr g806
          clear f779
          have f813 := g806.2.2 _ _ _ f780
          clear f780
          have f814 := g806.2.1 _ _ _ f781
          clear f781
          have f815 := g806.2.2 _ _ _ f782
          clear f782
          have f816 := fun i (hi : i < 4) => And.intro (g806.2.2 _ _ _ (f783 i hi).1) ((f783 i hi).2.gr g806)
          clear f783
          have f817 := g806.2.1 _ _ _ f784
          clear f784
          have f818 := g806.2.2 _ _ _ f785
          clear f785
          have f819 := f786.gr g806
          clear f786
          have f820 := g806.2.2 _ _ _ f787
          clear f787
          have f821 := g806.1 _ _ f788
          clear f788
          have f822 := g806.2.2 _ _ _ f789
          clear f789
          have f823 := f790.gr g806
          clear f790
          have f824 := g806.2.2 _ _ _ f791
          clear f791
          have f825 := f792.gr g806
          clear f792
          have f826 := g806.2.2 _ _ _ f793
          clear f793
          have f827 := f794.gr g806
          clear f794
          have f828 := g806.2.2 _ _ _ f795
          clear f795
          have f829 := f796.gr g806
          clear f796
          have f830 := g806.2.2 _ _ _ f797
          clear f797
          have f831 := f798.gr g806
          clear f798
          have f832 := g806.2.2 _ _ _ f799
          clear f799
          have f833 := f800.gr g806
          clear f800
          have f834 := g806.2.2 _ _ _ f801
          clear f801
          have f835 := g806.2.1 _ _ _ f803
          clear f803
          have o836 := g806.1 _ _ o802
          have f837 := t804.2.2
          have z838 : pR _ a 13 (some (a + 1 + 1996)) (a + 1 + 1996) = fun _ => none := (u2_ne (by omega)).trans z770
          refine r_iconst (v := 0) hw.sy dX7_init_210 rfl ?_
          refine r_istore_n hw.sy dX7_init_211 rfl (by decide) rfl ?_
          have LP839 : ∀ (d k : Nat), d + k = 40 → ∀ (K' : Kk) (R' : Rr) (M' : Mm), ST K R M a (a + 1) K' R' M' (1997 + 3 * k) 14 → isO K' a 7 → isA K' (a + 1 + 1996) 3 40 → R' a 13 = some (a + 1 + 1996) → (∀ i, k ≤ i → R' (a + 1 + 1996) i = none) → (∀ i, i < k → R' (a + 1 + 1996) i = some (a + 1 + (1997 + 3 * i)) ∧ rgA K' R' (a + 1 + (1997 + 3 * i)) 16) → (rgA K' R' (a + 1 + 0) 16) → (R' a 0 = some (a + 1 + 0)) → (isA K' (a + 1 + 3) 3 5) → (R' a 1 = some (a + 1 + 3)) → (∀ i, i < 5 → R' (a + 1 + 3) i = some (a + 1 + (4 + 3 * i)) ∧ rgA K' R' (a + 1 + (4 + 3 * i)) 16) → (hiA K' R' (a + 1 + 19)) → (R' a 2 = some (a + 1 + 19)) → (isA K' (a + 1 + 1317) 4 4) → (R' a 3 = some (a + 1 + 1317)) → (∀ i, i < 4 → R' (a + 1 + 1317) i = some (a + 1 + (1318 + 162 * i)) ∧ psA K' R' (a + 1 + (1318 + 162 * i))) → (isA K' (a + 1 + 1966) 2 4) → (R' a 4 = some (a + 1 + 1966)) → (tlA K' R' (a + 1 + 1967)) → (R' a 5 = some (a + 1 + 1967)) → (isO K' (a + 1 + 1971) 2) → (R' a 6 = some (a + 1 + 1971)) → (cmA K' R' (a + 1 + 1972)) → (R' a 7 = some (a + 1 + 1972)) → (pcA K' R' (a + 1 + 1980)) → (R' a 8 = some (a + 1 + 1980)) → (rgA K' R' (a + 1 + 1984) 66) → (R' a 9 = some (a + 1 + 1984)) → (rgA K' R' (a + 1 + 1987) 66) → (R' a 10 = some (a + 1 + 1987)) → (rgA K' R' (a + 1 + 1990) 16) → (R' a 11 = some (a + 1 + 1990)) → (rgA K' R' (a + 1 + 1993) 16) → (R' a 12 = some (a + 1 + 1993)) → w (1997 + 3 * k) (22571 + 35 * k) 212 [(0, .ref a), (1, .int (nI k))] [] K' R' M' := by
            intro d
            induction d with
            | zero =>
              intro k hk840 K' R' M' ss oo ia ra zz ff f841 f842 f843 f844 f845 f846 f847 f848 f849 f850 f851 f852 f853 f854 f855 f856 f857 f858 f859 f860 f861 f862 f863 f864 f865 f866 f867 f868
              obtain rfl : k = 40 := by omega
              refine r_iload_n hw.sy dX7_init_212 1 rfl ?_
              refine r_bipush (v := 40) hw.sy dX7_init_213 rfl ?_
              refine r_icmp_ge (tgt := 239) hw.sy dX7_init_215 (by decide) (fun cc => ?_) (fun cc => ?_)
              rotate_left
              · exact absurd cc (by decide)
              exact r_returnP hw ⟨ss.cr, ⟨oo, f842, f844, f847, f849, f852, f854, f856, f858, f860, f862, f864, f866, f868, ra, f841, f843, fun p hp => by rw [show a + 5 + 3 * p = a + 1 + (4 + 3 * p) by omega]; exact f845 p hp, f846, f848, fun p hp => by rw [show a + 1319 + 162 * p = a + 1 + (1318 + 162 * p) by omega]; exact f850 p hp, f851, f853, f855, f857, f859, f861, f863, f865, f867, ia, fun p hp => by rw [show a + 1998 + 3 * p = a + 1 + (1997 + 3 * p) by omega]; exact ff p hp⟩⟩ rfl rfl dX7_init_239
            | succ d ih =>
              intro k hk840 K' R' M' ss oo ia ra zz ff f841 f842 f843 f844 f845 f846 f847 f848 f849 f850 f851 f852 f853 f854 f855 f856 f857 f858 f859 f860 f861 f862 f863 f864 f865 f866 f867 f868
              have hkN : k < 40 := by omega
              refine r_iload_n hw.sy dX7_init_212 1 rfl ?_
              refine r_bipush (v := 40) hw.sy dX7_init_213 rfl ?_
              refine r_icmp_ge (tgt := 239) hw.sy dX7_init_215 (by decide) (fun cc => ?_) (fun cc => ?_)
              · exact absurd ((nI_ltI (b := 40) (by omega) (by decide)).mpr hkN) cc
              refine r_aload_n hw.sy dX7_init_218 0 rfl ?_
              refine r_getR hw.sy fO_X7_80 oo ra dX7_init_219 ?_
              refine r_iload_n hw.sy dX7_init_222 1 rfl ?_
              refine r_new hw.t cO_5 dZ_5 cL_X7_9 iN_X5 iZ_X5 ss.last ss.z (by show 1997 + 3 * k + 1 ≤ 2117; omega) (by show 22571 + 35 * k + 3 ≤ 23971; omega) dX7_init_223 ?_
              have z869 := ss.z.2.2
              have t870 := ss.new (.inl 5)
              have s871 := t870.1
              have g872 := t870.2.1
              have f873 := f841.gr g872
              clear f841
              have f874 := g872.2.2 _ _ _ f842
              clear f842
              have f875 := g872.2.1 _ _ _ f843
              clear f843
              have f876 := g872.2.2 _ _ _ f844
              clear f844
              have f877 := fun i (hi : i < 5) => And.intro (g872.2.2 _ _ _ (f845 i hi).1) ((f845 i hi).2.gr g872)
              clear f845
              have f878 := f846.gr g872
              clear f846
              have f879 := g872.2.2 _ _ _ f847
              clear f847
              have f880 := g872.2.1 _ _ _ f848
              clear f848
              have f881 := g872.2.2 _ _ _ f849
              clear f849
              have f882 := fun i (hi : i < 4) => And.intro (g872.2.2 _ _ _ (f850 i hi).1) ((f850 i hi).2.gr g872)
              clear f850
              have f883 := g872.2.1 _ _ _ f851
              clear f851
              have f884 := g872.2.2 _ _ _ f852
              clear f852
              have f885 := f853.gr g872
              clear f853
              have f886 := g872.2.2 _ _ _ f854
              clear f854
              have f887 := g872.1 _ _ f855
              clear f855
              have f888 := g872.2.2 _ _ _ f856
              clear f856
              have f889 := f857.gr g872
              clear f857
              have f890 := g872.2.2 _ _ _ f858
              clear f858
              have f891 := f859.gr g872
              clear f859
              have f892 := g872.2.2 _ _ _ f860
              clear f860
              have f893 := f861.gr g872
              clear f861
              have f894 := g872.2.2 _ _ _ f862
              clear f862
              have f895 := f863.gr g872
              clear f863
              have f896 := g872.2.2 _ _ _ f864
              clear f864
              have f897 := f865.gr g872
              clear f865
              have f898 := g872.2.2 _ _ _ f866
              clear f866
              have f899 := f867.gr g872
              clear f867
              have f900 := g872.2.2 _ _ _ f868
              clear f868
              have f901 := g872.2.1 _ _ _ ia
              clear ia
              have f902 := g872.2.2 _ _ _ ra
              clear ra
              have o903 := g872.1 _ _ oo
              have f904 := fun i (hi : i < k) => And.intro (g872.2.2 _ _ _ (ff i hi).1) ((ff i hi).2.gr g872)
              have f905 : isO _ (a + 1 + (1997 + 3 * k)) 5 := t870.2.2
              refine r_dup hw.sy dX7_init_226 rfl ?_
              refine r_bipush (v := nI 16) hw.sy dX7_init_227 rfl ?_
              refine r_callC hw.t (kX5_init l G b0 (a := (a + 1 + (1997 + 3 * k))) (n := 16) (by decide) f905 z869 s871.1.2.2.1 s871.1.2.2.2.2.2) lB_X5_init rfl iM_X5_init mL_X7_11 rfl ⟨(Nat.le_of_ble_eq_true rfl), (Nat.le_of_ble_eq_true rfl)⟩ ⟨by show 1997 + 3 * k + 1 + 2 ≤ 2117; omega, by show 22571 + 35 * k + 3 + 32 ≤ 23971; omega⟩ s871.last rfl (Nat.le_of_ble_eq_true rfl) dX7_init_229 (fun K2 R2 M2 h906 => ?_)
              have t907 := s871.call (b := (a + 1 + (1997 + 3 * k))) (d := 2) (by omega) h906.1 (by omega)
              have s908 := t907.1
              have g909 := t907.2
              have f910 := f873.gr g909
              clear f873
              have f911 := g909.2.2 _ _ _ f874
              clear f874
              have f912 := g909.2.1 _ _ _ f875
              clear f875
              have f913 := g909.2.2 _ _ _ f876
              clear f876
              have f914 := fun i (hi : i < 5) => And.intro (g909.2.2 _ _ _ (f877 i hi).1) ((f877 i hi).2.gr g909)
              clear f877
              have f915 := f878.gr g909
              clear f878
              have f916 := g909.2.2 _ _ _ f879
              clear f879
              have f917 := g909.2.1 _ _ _ f880
              clear f880
              have f918 := g909.2.2 _ _ _ f881
              clear f881
              have f919 := fun i (hi : i < 4) => And.intro (g909.2.2 _ _ _ (f882 i hi).1) ((f882 i hi).2.gr g909)
              clear f882
              have f920 := g909.2.1 _ _ _ f883
              clear f883
              have f921 := g909.2.2 _ _ _ f884
              clear f884
              have f922 := f885.gr g909
              clear f885
              have f923 := g909.2.2 _ _ _ f886
              clear f886
              have f924 := g909.1 _ _ f887
              clear f887
              have f925 := g909.2.2 _ _ _ f888
              clear f888
              have f926 := f889.gr g909
              clear f889
              have f927 := g909.2.2 _ _ _ f890
              clear f890
              have f928 := f891.gr g909
              clear f891
              have f929 := g909.2.2 _ _ _ f892
              clear f892
              have f930 := f893.gr g909
              clear f893
              have f931 := g909.2.2 _ _ _ f894
              clear f894
              have f932 := f895.gr g909
              clear f895
              have f933 := g909.2.2 _ _ _ f896
              clear f896
              have f934 := f897.gr g909
              clear f897
              have f935 := g909.2.2 _ _ _ f898
              clear f898
              have f936 := f899.gr g909
              clear f899
              have f937 := g909.2.2 _ _ _ f900
              clear f900
              have f938 := g909.2.1 _ _ _ f901
              clear f901
              have f939 := g909.2.2 _ _ _ f902
              clear f902
              have o940 := g909.1 _ _ o903
              have f941 := fun i (hi : i < k) => And.intro (g909.2.2 _ _ _ (f904 i hi).1) ((f904 i hi).2.gr g909)
              have z942 : ∀ i, k ≤ i → R2 (a + 1 + 1996) i = none := fun i hi => by rw [h906.1.2.1 (a + 1 + 1996) (by omega) (by omega)]; exact zz i hi
              refine r_aastore hw.sy 0 (by decide) (c := 5) rfl rfl ⟨40, f938, vp_in_nI hkN (by decide)⟩ h906.2.1 dX7_init_232 ?_
              rw [nI_clamp (show k < 2 ^ 31 by omega)]
              have t943 := s908.arr (a + 1 + 1996) k (a + 1 + (1997 + 3 * k)) (by omega) (by omega) (z942 k (Nat.le_refl _))
              have s944 := t943.1
              have g945 := t943.2.1
              have f946 := f910.gr g945
              clear f910
              have f947 := g945.2.2 _ _ _ f911
              clear f911
              have f948 := g945.2.1 _ _ _ f912
              clear f912
              have f949 := g945.2.2 _ _ _ f913
              clear f913
              have f950 := fun i (hi : i < 5) => And.intro (g945.2.2 _ _ _ (f914 i hi).1) ((f914 i hi).2.gr g945)
              clear f914
              have f951 := f915.gr g945
              clear f915
              have f952 := g945.2.2 _ _ _ f916
              clear f916
              have f953 := g945.2.1 _ _ _ f917
              clear f917
              have f954 := g945.2.2 _ _ _ f918
              clear f918
              have f955 := fun i (hi : i < 4) => And.intro (g945.2.2 _ _ _ (f919 i hi).1) ((f919 i hi).2.gr g945)
              clear f919
              have f956 := g945.2.1 _ _ _ f920
              clear f920
              have f957 := g945.2.2 _ _ _ f921
              clear f921
              have f958 := f922.gr g945
              clear f922
              have f959 := g945.2.2 _ _ _ f923
              clear f923
              have f960 := g945.1 _ _ f924
              clear f924
              have f961 := g945.2.2 _ _ _ f925
              clear f925
              have f962 := f926.gr g945
              clear f926
              have f963 := g945.2.2 _ _ _ f927
              clear f927
              have f964 := f928.gr g945
              clear f928
              have f965 := g945.2.2 _ _ _ f929
              clear f929
              have f966 := f930.gr g945
              clear f930
              have f967 := g945.2.2 _ _ _ f931
              clear f931
              have f968 := f932.gr g945
              clear f932
              have f969 := g945.2.2 _ _ _ f933
              clear f933
              have f970 := f934.gr g945
              clear f934
              have f971 := g945.2.2 _ _ _ f935
              clear f935
              have f972 := f936.gr g945
              clear f936
              have f973 := g945.2.2 _ _ _ f937
              clear f937
              have f974 := g945.2.1 _ _ _ f938
              clear f938
              have f975 := g945.2.2 _ _ _ f939
              clear f939
              have o976 := g945.1 _ _ o940
              have f977 := fun i (hi : i < k) => And.intro (g945.2.2 _ _ _ (f941 i hi).1) ((f941 i hi).2.gr g945)
              have f978 := h906.2.gr g945
              refine r_iinc (j := 1) (v := nI (k + 1)) hw.sy dX7_init_233 rfl (by rw [show Int32.ofInt 1 = 1 from rfl]; exact nI_1 k) (by decide) rfl ?_
              refine r_goto (tgt := 212) hw.sy dX7_init_236 (by decide) ?_
              refine r_sub hw.sy [1, 0] (lv' := [(0, .ref a), (1, .int (nI (k + 1)))]) rfl ?_
              have e1 : 1997 + 3 * k + 1 + 2 = 1997 + 3 * (k + 1) := by omega
              have e2 : 22571 + 35 * k + 3 + 32 = 22571 + 35 * (k + 1) := by omega
              change w (1997 + 3 * k + 1 + 2) (22571 + 35 * k + 3 + 32) _ _ _ _ _ _
              rw [e1, e2]
              rw [e1] at s944
              exact ih (k + 1) (by omega) _ _ _ s944 o976 f974 f975 (fun i hi => by rw [show pR R2 (a + 1 + 1996) k _ (a + 1 + 1996) i = R2 (a + 1 + 1996) i by simp [pR, u2, show i ≠ k by omega]]; exact z942 i (by omega)) (fun i hi => by
                by_cases hik : i = k
                · subst hik; exact ⟨t943.2.2, f978⟩
                · exact f977 i (by omega)) f946 f947 f948 f949 f950 f951 f952 f953 f954 f955 f956 f957 f958 f959 f960 f961 f962 f963 f964 f965 f966 f967 f968 f969 f970 f971 f972 f973
          refine r_sub hw.sy [1, 0] (lv' := [(0, .ref a), (1, .int (nI 0))]) rfl ?_
          exact LP839 40 0 rfl _ _ _ s805 o836 f835 f837 (fun i _ => congrFun z838 i) (fun i hi => absurd hi (by omega)) f807 f808 f809 f810 f811 f812 f813 f814 f815 f816 f817 f818 f819 f820 f821 f822 f823 f824 f825 f826 f827 f828 f829 f830 f831 f832 f833 f834
        | succ d ih =>
          intro k hk107 K' R' M' ss oo ia ra zz ff f108 f109 f110 f111 f112 f113 f114
          have hkN : k < 4 := by omega
          refine r_iload_n hw.sy dX7_init_74 1 rfl ?_
          refine r_iconst (v := 4) hw.sy dX7_init_75 rfl ?_
          refine r_icmp_ge (tgt := 98) hw.sy dX7_init_76 (by decide) (fun cc => ?_) (fun cc => ?_)
          · exact absurd ((nI_ltI (b := 4) (by omega) (by decide)).mpr hkN) cc
          refine r_aload_n hw.sy dX7_init_79 0 rfl ?_
          refine r_getR hw.sy fO_X7_31 oo ra dX7_init_80 ?_
          refine r_iload_n hw.sy dX7_init_83 1 rfl ?_
          refine r_new hw.t cO_4 dZ_4 cL_X7_29 iN_X4 iZ_X4 ss.last ss.z (by show 1318 + 162 * k + 1 ≤ 2117; omega) (by show 13366 + 1642 * k + 2 ≤ 23971; omega) dX7_init_84 ?_
          have z979 := ss.z.2.2
          have t980 := ss.new (.inl 4)
          have s981 := t980.1
          have g982 := t980.2.1
          have f983 := f108.gr g982
          clear f108
          have f984 := g982.2.2 _ _ _ f109
          clear f109
          have f985 := g982.2.1 _ _ _ f110
          clear f110
          have f986 := g982.2.2 _ _ _ f111
          clear f111
          have f987 := fun i (hi : i < 5) => And.intro (g982.2.2 _ _ _ (f112 i hi).1) ((f112 i hi).2.gr g982)
          clear f112
          have f988 := f113.gr g982
          clear f113
          have f989 := g982.2.2 _ _ _ f114
          clear f114
          have f990 := g982.2.1 _ _ _ ia
          clear ia
          have f991 := g982.2.2 _ _ _ ra
          clear ra
          have o992 := g982.1 _ _ oo
          have f993 := fun i (hi : i < k) => And.intro (g982.2.2 _ _ _ (ff i hi).1) ((ff i hi).2.gr g982)
          have f994 : isO _ (a + 1 + (1318 + 162 * k)) 4 := t980.2.2
          refine r_dup hw.sy dX7_init_87 rfl ?_
          refine r_callC hw.t (kX4_init l G b0 (a := (a + 1 + (1318 + 162 * k))) f994 z979 s981.1.2.2.1 s981.1.2.2.2.2.2) lB_X4_init rfl iM_X4_init mL_X7_35 rfl ⟨(Nat.le_of_ble_eq_true rfl), (Nat.le_of_ble_eq_true rfl)⟩ ⟨by show 1318 + 162 * k + 1 + 161 ≤ 2117; omega, by show 13366 + 1642 * k + 2 + 1640 ≤ 23971; omega⟩ s981.last rfl (Nat.le_of_ble_eq_true rfl) dX7_init_88 (fun K2 R2 M2 h995 => ?_)
          have t996 := s981.call (b := (a + 1 + (1318 + 162 * k))) (d := 161) (by omega) h995.1 (by omega)
          have s997 := t996.1
          have g998 := t996.2
          have f999 := f983.gr g998
          clear f983
          have f1000 := g998.2.2 _ _ _ f984
          clear f984
          have f1001 := g998.2.1 _ _ _ f985
          clear f985
          have f1002 := g998.2.2 _ _ _ f986
          clear f986
          have f1003 := fun i (hi : i < 5) => And.intro (g998.2.2 _ _ _ (f987 i hi).1) ((f987 i hi).2.gr g998)
          clear f987
          have f1004 := f988.gr g998
          clear f988
          have f1005 := g998.2.2 _ _ _ f989
          clear f989
          have f1006 := g998.2.1 _ _ _ f990
          clear f990
          have f1007 := g998.2.2 _ _ _ f991
          clear f991
          have o1008 := g998.1 _ _ o992
          have f1009 := fun i (hi : i < k) => And.intro (g998.2.2 _ _ _ (f993 i hi).1) ((f993 i hi).2.gr g998)
          have z1010 : ∀ i, k ≤ i → R2 (a + 1 + 1317) i = none := fun i hi => by rw [h995.1.2.1 (a + 1 + 1317) (by omega) (by omega)]; exact zz i hi
          refine r_aastore hw.sy 1 (by decide) (c := 4) rfl rfl ⟨4, f1006, vp_in_nI hkN (by decide)⟩ h995.2.1 dX7_init_91 ?_
          rw [nI_clamp (show k < 2 ^ 31 by omega)]
          have t1011 := s997.arr (a + 1 + 1317) k (a + 1 + (1318 + 162 * k)) (by omega) (by omega) (z1010 k (Nat.le_refl _))
          have s1012 := t1011.1
          have g1013 := t1011.2.1
          have f1014 := f999.gr g1013
          clear f999
          have f1015 := g1013.2.2 _ _ _ f1000
          clear f1000
          have f1016 := g1013.2.1 _ _ _ f1001
          clear f1001
          have f1017 := g1013.2.2 _ _ _ f1002
          clear f1002
          have f1018 := fun i (hi : i < 5) => And.intro (g1013.2.2 _ _ _ (f1003 i hi).1) ((f1003 i hi).2.gr g1013)
          clear f1003
          have f1019 := f1004.gr g1013
          clear f1004
          have f1020 := g1013.2.2 _ _ _ f1005
          clear f1005
          have f1021 := g1013.2.1 _ _ _ f1006
          clear f1006
          have f1022 := g1013.2.2 _ _ _ f1007
          clear f1007
          have o1023 := g1013.1 _ _ o1008
          have f1024 := fun i (hi : i < k) => And.intro (g1013.2.2 _ _ _ (f1009 i hi).1) ((f1009 i hi).2.gr g1013)
          have f1025 := h995.2.gr g1013
          refine r_iinc (j := 1) (v := nI (k + 1)) hw.sy dX7_init_92 rfl (by rw [show Int32.ofInt 1 = 1 from rfl]; exact nI_1 k) (by decide) rfl ?_
          refine r_goto (tgt := 74) hw.sy dX7_init_95 (by decide) ?_
          refine r_sub hw.sy [1, 0] (lv' := [(0, .ref a), (1, .int (nI (k + 1)))]) rfl ?_
          have e1 : 1318 + 162 * k + 1 + 161 = 1318 + 162 * (k + 1) := by omega
          have e2 : 13366 + 1642 * k + 2 + 1640 = 13366 + 1642 * (k + 1) := by omega
          change w (1318 + 162 * k + 1 + 161) (13366 + 1642 * k + 2 + 1640) _ _ _ _ _ _
          rw [e1, e2]
          rw [e1] at s1012
          exact ih (k + 1) (by omega) _ _ _ s1012 o1023 f1021 f1022 (fun i hi => by rw [show pR R2 (a + 1 + 1317) k _ (a + 1 + 1317) i = R2 (a + 1 + 1317) i by simp [pR, u2, show i ≠ k by omega]]; exact z1010 i (by omega)) (fun i hi => by
            by_cases hik : i = k
            · subst hik; exact ⟨t1011.2.2, f1025⟩
            · exact f1024 i (by omega)) f1014 f1015 f1016 f1017 f1018 f1019 f1020
      refine r_sub hw.sy [1, 0] (lv' := [(0, .ref a), (1, .int (nI 0))]) rfl ?_
      exact LP106 4 0 rfl _ _ _ s93 o103 f102 f104 (fun i _ => congrFun z105 i) (fun i hi => absurd hi (by omega)) f95 f96 f97 f98 f99 f100 f101
    | succ d ih =>
      intro k hk40 K' R' M' ss oo ia ra zz ff f41 f42
      have hkN : k < 5 := by omega
      refine r_iload_n hw.sy dX7_init_27 1 rfl ?_
      refine r_iconst (v := 5) hw.sy dX7_init_28 rfl ?_
      refine r_icmp_ge (tgt := 53) hw.sy dX7_init_29 (by decide) (fun cc => ?_) (fun cc => ?_)
      · exact absurd ((nI_ltI (b := 5) (by omega) (by decide)).mpr hkN) cc
      refine r_aload_n hw.sy dX7_init_32 0 rfl ?_
      refine r_getR hw.sy fO_X7_18 oo ra dX7_init_33 ?_
      refine r_iload_n hw.sy dX7_init_36 1 rfl ?_
      refine r_new hw.t cO_5 dZ_5 cL_X7_9 iN_X5 iZ_X5 ss.last ss.z (by show 4 + 3 * k + 1 ≤ 2117; omega) (by show 40 + 35 * k + 3 ≤ 23971; omega) dX7_init_37 ?_
      have z1026 := ss.z.2.2
      have t1027 := ss.new (.inl 5)
      have s1028 := t1027.1
      have g1029 := t1027.2.1
      have f1030 := f41.gr g1029
      clear f41
      have f1031 := g1029.2.2 _ _ _ f42
      clear f42
      have f1032 := g1029.2.1 _ _ _ ia
      clear ia
      have f1033 := g1029.2.2 _ _ _ ra
      clear ra
      have o1034 := g1029.1 _ _ oo
      have f1035 := fun i (hi : i < k) => And.intro (g1029.2.2 _ _ _ (ff i hi).1) ((ff i hi).2.gr g1029)
      have f1036 : isO _ (a + 1 + (4 + 3 * k)) 5 := t1027.2.2
      refine r_dup hw.sy dX7_init_40 rfl ?_
      refine r_bipush (v := nI 16) hw.sy dX7_init_41 rfl ?_
      refine r_callC hw.t (kX5_init l G b0 (a := (a + 1 + (4 + 3 * k))) (n := 16) (by decide) f1036 z1026 s1028.1.2.2.1 s1028.1.2.2.2.2.2) lB_X5_init rfl iM_X5_init mL_X7_11 rfl ⟨(Nat.le_of_ble_eq_true rfl), (Nat.le_of_ble_eq_true rfl)⟩ ⟨by show 4 + 3 * k + 1 + 2 ≤ 2117; omega, by show 40 + 35 * k + 3 + 32 ≤ 23971; omega⟩ s1028.last rfl (Nat.le_of_ble_eq_true rfl) dX7_init_43 (fun K2 R2 M2 h1037 => ?_)
      have t1038 := s1028.call (b := (a + 1 + (4 + 3 * k))) (d := 2) (by omega) h1037.1 (by omega)
      have s1039 := t1038.1
      have g1040 := t1038.2
      have f1041 := f1030.gr g1040
      clear f1030
      have f1042 := g1040.2.2 _ _ _ f1031
      clear f1031
      have f1043 := g1040.2.1 _ _ _ f1032
      clear f1032
      have f1044 := g1040.2.2 _ _ _ f1033
      clear f1033
      have o1045 := g1040.1 _ _ o1034
      have f1046 := fun i (hi : i < k) => And.intro (g1040.2.2 _ _ _ (f1035 i hi).1) ((f1035 i hi).2.gr g1040)
      have z1047 : ∀ i, k ≤ i → R2 (a + 1 + 3) i = none := fun i hi => by rw [h1037.1.2.1 (a + 1 + 3) (by omega) (by omega)]; exact zz i hi
      refine r_aastore hw.sy 0 (by decide) (c := 5) rfl rfl ⟨5, f1043, vp_in_nI hkN (by decide)⟩ h1037.2.1 dX7_init_46 ?_
      rw [nI_clamp (show k < 2 ^ 31 by omega)]
      have t1048 := s1039.arr (a + 1 + 3) k (a + 1 + (4 + 3 * k)) (by omega) (by omega) (z1047 k (Nat.le_refl _))
      have s1049 := t1048.1
      have g1050 := t1048.2.1
      have f1051 := f1041.gr g1050
      clear f1041
      have f1052 := g1050.2.2 _ _ _ f1042
      clear f1042
      have f1053 := g1050.2.1 _ _ _ f1043
      clear f1043
      have f1054 := g1050.2.2 _ _ _ f1044
      clear f1044
      have o1055 := g1050.1 _ _ o1045
      have f1056 := fun i (hi : i < k) => And.intro (g1050.2.2 _ _ _ (f1046 i hi).1) ((f1046 i hi).2.gr g1050)
      have f1057 := h1037.2.gr g1050
      refine r_iinc (j := 1) (v := nI (k + 1)) hw.sy dX7_init_47 rfl (by rw [show Int32.ofInt 1 = 1 from rfl]; exact nI_1 k) (by decide) rfl ?_
      refine r_goto (tgt := 27) hw.sy dX7_init_50 (by decide) ?_
      refine r_sub hw.sy [1, 0] (lv' := [(0, .ref a), (1, .int (nI (k + 1)))]) rfl ?_
      have e1 : 4 + 3 * k + 1 + 2 = 4 + 3 * (k + 1) := by omega
      have e2 : 40 + 35 * k + 3 + 32 = 40 + 35 * (k + 1) := by omega
      change w (4 + 3 * k + 1 + 2) (40 + 35 * k + 3 + 32) _ _ _ _ _ _
      rw [e1, e2]
      rw [e1] at s1049
      exact ih (k + 1) (by omega) _ _ _ s1049 o1055 f1053 f1054 (fun i hi => by rw [show pR R2 (a + 1 + 3) k _ (a + 1 + 3) i = R2 (a + 1 + 3) i by simp [pR, u2, show i ≠ k by omega]]; exact z1047 i (by omega)) (fun i hi => by
        by_cases hik : i = k
        · subst hik; exact ⟨t1048.2.2, f1057⟩
        · exact f1056 i (by omega)) f1051 f1052
  refine r_sub hw.sy [1, 0] (lv' := [(0, .ref a), (1, .int (nI 0))]) rfl ?_
  exact LP39 5 0 rfl _ _ _ s31 o36 f35 f37 (fun i _ => congrFun z38 i) (fun i hi => absurd hi (by omega)) f33 f34
theorem dX8_init_0 : decode cX8_init 0 = .ok (.aload_n 0, 1) := by decide +kernel
theorem dX8_init_1 : decode cX8_init 1 = .ok (.invokespecial 1, 3) := by decide +kernel
theorem dX8_init_4 : decode cX8_init 4 = .ok (.aload_n 0, 1) := by decide +kernel
theorem dX8_init_5 : decode cX8_init 5 = .ok (.sipush 1481, 3) := by decide +kernel
theorem dX8_init_8 : decode cX8_init 8 = .ok (.newarray .long, 2) := by decide +kernel
theorem dX8_init_10 : decode cX8_init 10 = .ok (.putfield 7, 3) := by decide +kernel
theorem dX8_init_13 : decode cX8_init 13 = .ok (.aload_n 0, 1) := by decide +kernel
theorem dX8_init_14 : decode cX8_init 14 = .ok (.sipush 8886, 3) := by decide +kernel
theorem dX8_init_17 : decode cX8_init 17 = .ok (.newarray .long, 2) := by decide +kernel
theorem dX8_init_19 : decode cX8_init 19 = .ok (.putfield 13, 3) := by decide +kernel
theorem dX8_init_22 : decode cX8_init 22 = .ok (.aload_n 0, 1) := by decide +kernel
theorem dX8_init_23 : decode cX8_init 23 = .ok (.sipush 8886, 3) := by decide +kernel
theorem dX8_init_26 : decode cX8_init 26 = .ok (.newarray .long, 2) := by decide +kernel
theorem dX8_init_28 : decode cX8_init 28 = .ok (.putfield 16, 3) := by decide +kernel
theorem dX8_init_31 : decode cX8_init 31 = .ok (.aload_n 0, 1) := by decide +kernel
theorem dX8_init_32 : decode cX8_init 32 = .ok (.sipush 5924, 3) := by decide +kernel
theorem dX8_init_35 : decode cX8_init 35 = .ok (.newarray .long, 2) := by decide +kernel
theorem dX8_init_37 : decode cX8_init 37 = .ok (.putfield 19, 3) := by decide +kernel
theorem dX8_init_40 : decode cX8_init 40 = .ok (.aload_n 0, 1) := by decide +kernel
theorem dX8_init_41 : decode cX8_init 41 = .ok (.iconst 4, 1) := by decide +kernel
theorem dX8_init_42 : decode cX8_init 42 = .ok (.newarray .boolean, 2) := by decide +kernel
theorem dX8_init_44 : decode cX8_init 44 = .ok (.putfield 22, 3) := by decide +kernel
theorem dX8_init_47 : decode cX8_init 47 = .ok (.aload_n 0, 1) := by decide +kernel
theorem dX8_init_48 : decode cX8_init 48 = .ok (.bipush 80, 2) := by decide +kernel
theorem dX8_init_50 : decode cX8_init 50 = .ok (.newarray .long, 2) := by decide +kernel
theorem dX8_init_52 : decode cX8_init 52 = .ok (.putfield 26, 3) := by decide +kernel
theorem dX8_init_55 : decode cX8_init 55 = .ok (.aload_n 0, 1) := by decide +kernel
theorem dX8_init_56 : decode cX8_init 56 = .ok (.bipush 80, 2) := by decide +kernel
theorem dX8_init_58 : decode cX8_init 58 = .ok (.newarray .long, 2) := by decide +kernel
theorem dX8_init_60 : decode cX8_init 60 = .ok (.putfield 29, 3) := by decide +kernel
theorem dX8_init_63 : decode cX8_init 63 = .ok (.aload_n 0, 1) := by decide +kernel
theorem dX8_init_64 : decode cX8_init 64 = .ok (.iconst 5, 1) := by decide +kernel
theorem dX8_init_65 : decode cX8_init 65 = .ok (.newarray .int, 2) := by decide +kernel
theorem dX8_init_67 : decode cX8_init 67 = .ok (.putfield 32, 3) := by decide +kernel
theorem dX8_init_70 : decode cX8_init 70 = .ok (.aload_n 0, 1) := by decide +kernel
theorem dX8_init_71 : decode cX8_init 71 = .ok (.bipush 16, 2) := by decide +kernel
theorem dX8_init_73 : decode cX8_init 73 = .ok (.newarray .long, 2) := by decide +kernel
theorem dX8_init_75 : decode cX8_init 75 = .ok (.putfield 36, 3) := by decide +kernel
theorem dX8_init_78 : decode cX8_init 78 = .ok (.aload_n 0, 1) := by decide +kernel
theorem dX8_init_79 : decode cX8_init 79 = .ok (.bipush 16, 2) := by decide +kernel
theorem dX8_init_81 : decode cX8_init 81 = .ok (.newarray .long, 2) := by decide +kernel
theorem dX8_init_83 : decode cX8_init 83 = .ok (.putfield 39, 3) := by decide +kernel
theorem dX8_init_86 : decode cX8_init 86 = .ok (.aload_n 0, 1) := by decide +kernel
theorem dX8_init_87 : decode cX8_init 87 = .ok (.bipush 20, 2) := by decide +kernel
theorem dX8_init_89 : decode cX8_init 89 = .ok (.newarray .long, 2) := by decide +kernel
theorem dX8_init_91 : decode cX8_init 91 = .ok (.putfield 42, 3) := by decide +kernel
theorem dX8_init_94 : decode cX8_init 94 = .ok (.aload_n 0, 1) := by decide +kernel
theorem dX8_init_95 : decode cX8_init 95 = .ok (.bipush 20, 2) := by decide +kernel
theorem dX8_init_97 : decode cX8_init 97 = .ok (.newarray .long, 2) := by decide +kernel
theorem dX8_init_99 : decode cX8_init 99 = .ok (.putfield 45, 3) := by decide +kernel
theorem dX8_init_102 : decode cX8_init 102 = .ok (.aload_n 0, 1) := by decide +kernel
theorem dX8_init_103 : decode cX8_init 103 = .ok (.bipush 20, 2) := by decide +kernel
theorem dX8_init_105 : decode cX8_init 105 = .ok (.newarray .long, 2) := by decide +kernel
theorem dX8_init_107 : decode cX8_init 107 = .ok (.putfield 48, 3) := by decide +kernel
theorem dX8_init_110 : decode cX8_init 110 = .ok (.aload_n 0, 1) := by decide +kernel
theorem dX8_init_111 : decode cX8_init 111 = .ok (.bipush 20, 2) := by decide +kernel
theorem dX8_init_113 : decode cX8_init 113 = .ok (.newarray .long, 2) := by decide +kernel
theorem dX8_init_115 : decode cX8_init 115 = .ok (.putfield 51, 3) := by decide +kernel
theorem dX8_init_118 : decode cX8_init 118 = .ok (.aload_n 0, 1) := by decide +kernel
theorem dX8_init_119 : decode cX8_init 119 = .ok (.sipush 600, 3) := by decide +kernel
theorem dX8_init_122 : decode cX8_init 122 = .ok (.newarray .long, 2) := by decide +kernel
theorem dX8_init_124 : decode cX8_init 124 = .ok (.putfield 54, 3) := by decide +kernel
theorem dX8_init_127 : decode cX8_init 127 = .ok (.aload_n 0, 1) := by decide +kernel
theorem dX8_init_128 : decode cX8_init 128 = .ok (.sipush 600, 3) := by decide +kernel
theorem dX8_init_131 : decode cX8_init 131 = .ok (.newarray .long, 2) := by decide +kernel
theorem dX8_init_133 : decode cX8_init 133 = .ok (.putfield 57, 3) := by decide +kernel
theorem dX8_init_136 : decode cX8_init 136 = .ok (.aload_n 0, 1) := by decide +kernel
theorem dX8_init_137 : decode cX8_init 137 = .ok (.sipush 600, 3) := by decide +kernel
theorem dX8_init_140 : decode cX8_init 140 = .ok (.newarray .long, 2) := by decide +kernel
theorem dX8_init_142 : decode cX8_init 142 = .ok (.putfield 60, 3) := by decide +kernel
theorem dX8_init_145 : decode cX8_init 145 = .ok (.aload_n 0, 1) := by decide +kernel
theorem dX8_init_146 : decode cX8_init 146 = .ok (.sipush 600, 3) := by decide +kernel
theorem dX8_init_149 : decode cX8_init 149 = .ok (.newarray .long, 2) := by decide +kernel
theorem dX8_init_151 : decode cX8_init 151 = .ok (.putfield 63, 3) := by decide +kernel
theorem dX8_init_154 : decode cX8_init 154 = .ok (.aload_n 0, 1) := by decide +kernel
theorem dX8_init_155 : decode cX8_init 155 = .ok (.bipush 40, 2) := by decide +kernel
theorem dX8_init_157 : decode cX8_init 157 = .ok (.newarray .long, 2) := by decide +kernel
theorem dX8_init_159 : decode cX8_init 159 = .ok (.putfield 66, 3) := by decide +kernel
theorem dX8_init_162 : decode cX8_init 162 = .ok (.aload_n 0, 1) := by decide +kernel
theorem dX8_init_163 : decode cX8_init 163 = .ok (.bipush 40, 2) := by decide +kernel
theorem dX8_init_165 : decode cX8_init 165 = .ok (.newarray .long, 2) := by decide +kernel
theorem dX8_init_167 : decode cX8_init 167 = .ok (.putfield 69, 3) := by decide +kernel
theorem dX8_init_170 : decode cX8_init 170 = .ok (.aload_n 0, 1) := by decide +kernel
theorem dX8_init_171 : decode cX8_init 171 = .ok (.sipush 640, 3) := by decide +kernel
theorem dX8_init_174 : decode cX8_init 174 = .ok (.newarray .long, 2) := by decide +kernel
theorem dX8_init_176 : decode cX8_init 176 = .ok (.putfield 72, 3) := by decide +kernel
theorem dX8_init_179 : decode cX8_init 179 = .ok (.aload_n 0, 1) := by decide +kernel
theorem dX8_init_180 : decode cX8_init 180 = .ok (.sipush 640, 3) := by decide +kernel
theorem dX8_init_183 : decode cX8_init 183 = .ok (.newarray .long, 2) := by decide +kernel
theorem dX8_init_185 : decode cX8_init 185 = .ok (.putfield 75, 3) := by decide +kernel
theorem dX8_init_188 : decode cX8_init 188 = .ok (.aload_n 0, 1) := by decide +kernel
theorem dX8_init_189 : decode cX8_init 189 = .ok (.sipush 640, 3) := by decide +kernel
theorem dX8_init_192 : decode cX8_init 192 = .ok (.newarray .long, 2) := by decide +kernel
theorem dX8_init_194 : decode cX8_init 194 = .ok (.putfield 78, 3) := by decide +kernel
theorem dX8_init_197 : decode cX8_init 197 = .ok (.aload_n 0, 1) := by decide +kernel
theorem dX8_init_198 : decode cX8_init 198 = .ok (.sipush 1481, 3) := by decide +kernel
theorem dX8_init_201 : decode cX8_init 201 = .ok (.newarray .long, 2) := by decide +kernel
theorem dX8_init_203 : decode cX8_init 203 = .ok (.putfield 81, 3) := by decide +kernel
theorem dX8_init_206 : decode cX8_init 206 = .ok (.aload_n 0, 1) := by decide +kernel
theorem dX8_init_207 : decode cX8_init 207 = .ok (.bipush 37, 2) := by decide +kernel
theorem dX8_init_209 : decode cX8_init 209 = .ok (.newarray .long, 2) := by decide +kernel
theorem dX8_init_211 : decode cX8_init 211 = .ok (.putfield 84, 3) := by decide +kernel
theorem dX8_init_214 : decode cX8_init 214 = .ok (.aload_n 0, 1) := by decide +kernel
theorem dX8_init_215 : decode cX8_init 215 = .ok (.iconst 0, 1) := by decide +kernel
theorem dX8_init_216 : decode cX8_init 216 = .ok (.putfield 87, 3) := by decide +kernel
theorem dX8_init_219 : decode cX8_init 219 = .ok (.return_, 1) := by decide +kernel
set_option maxHeartbeats 4000000 in
set_option maxRecDepth 100000 in
theorem kX8_init (l : Launch) (G : Gg) (b0 : Nat) {K : Kk} {R : Rr} {M : Mm} {a : Nat} (hm : ∀ k, M.1 a k = 0) (ho : isO K a 8) (hr : R a = fun _ => none) (hz : FZ R M (a + 1)) (hl : Lo K (a + 1)) : CP l G b0 (a + 1) yX8_init cX8_init 1 { frames := 2, cells := 25, slots := 31376, locals := 21 } [.ref a] K R M (fun K' R' M' => CR K R M a (a + 1) K' R' M' (a + 26) ∧ moA K' R' a) := by
  refine cn_of (by decide +kernel) (Nat.le_of_ble_eq_true rfl) (fun w hw => ?_)
  change w 0 0 0 [(0, .ref a)] [] K R M
  have s0 := ST.start (Nat.lt_succ_self a) hr hz hl
  refine r_aload_n hw.sy dX8_init_0 0 rfl ?_
  refine r_objInit hw.t mL_X8_1 zO_in zO_c (Nat.le_of_ble_eq_true rfl) (Nat.le_of_ble_eq_true rfl) dX8_init_1 ?_
  refine r_aload_n hw.sy dX8_init_4 0 rfl ?_
  refine r_sipush (v := 1481) hw.sy dX8_init_5 rfl ?_
  refine r_newL hw.t 1481 aC_long rfl (by decide) s0.last s0.z (Nat.le_of_ble_eq_true rfl) (Nat.le_of_ble_eq_true rfl) dX8_init_8 ?_
  have t1 := s0.new (.inr (1, 1481))
  have s2 := t1.1
  have g3 := t1.2.1
  have o4 := g3.1 _ _ ho
  have f5 : isA _ (a + 1 + 0) 1 1481 := t1.2.2
  refine r_putFR hw fF_X8_7 rfl ⟨rfl, rfl⟩ o4 dX8_init_10 ?_
  have t6 := s2.put 0 (a + 1 + 0) (by decide)
  have s7 := t6.1
  have g8 := t6.2.1
  have f9 := g8.2.1 _ _ _ f5
  clear f5
  have o10 := g8.1 _ _ o4
  have f11 := t6.2.2
  refine r_aload_n hw.sy dX8_init_13 0 rfl ?_
  refine r_sipush (v := 8886) hw.sy dX8_init_14 rfl ?_
  refine r_newL hw.t 8886 aC_long rfl (by decide) s7.last s7.z (Nat.le_of_ble_eq_true rfl) (Nat.le_of_ble_eq_true rfl) dX8_init_17 ?_
  have t12 := s7.new (.inr (1, 8886))
  have s13 := t12.1
  have g14 := t12.2.1
  have f15 := g14.2.1 _ _ _ f9
  clear f9
  have f16 := g14.2.2 _ _ _ f11
  clear f11
  have o17 := g14.1 _ _ o10
  have f18 : isA _ (a + 1 + 1) 1 8886 := t12.2.2
  refine r_putFR hw fF_X8_13 rfl ⟨rfl, rfl⟩ o17 dX8_init_19 ?_
  have t19 := s13.put 1 (a + 1 + 1) (by decide)
  have s20 := t19.1
  have g21 := t19.2.1
  have f22 := g21.2.1 _ _ _ f15
  clear f15
  have f23 := g21.2.2 _ _ _ f16
  clear f16
  have f24 := g21.2.1 _ _ _ f18
  clear f18
  have o25 := g21.1 _ _ o17
  have f26 := t19.2.2
  refine r_aload_n hw.sy dX8_init_22 0 rfl ?_
  refine r_sipush (v := 8886) hw.sy dX8_init_23 rfl ?_
  refine r_newL hw.t 8886 aC_long rfl (by decide) s20.last s20.z (Nat.le_of_ble_eq_true rfl) (Nat.le_of_ble_eq_true rfl) dX8_init_26 ?_
  have t27 := s20.new (.inr (1, 8886))
  have s28 := t27.1
  have g29 := t27.2.1
  have f30 := g29.2.1 _ _ _ f22
  clear f22
  have f31 := g29.2.2 _ _ _ f23
  clear f23
  have f32 := g29.2.1 _ _ _ f24
  clear f24
  have f33 := g29.2.2 _ _ _ f26
  clear f26
  have o34 := g29.1 _ _ o25
  have f35 : isA _ (a + 1 + 2) 1 8886 := t27.2.2
  refine r_putFR hw fF_X8_16 rfl ⟨rfl, rfl⟩ o34 dX8_init_28 ?_
  have t36 := s28.put 2 (a + 1 + 2) (by decide)
  have s37 := t36.1
  have g38 := t36.2.1
  have f39 := g38.2.1 _ _ _ f30
  clear f30
  have f40 := g38.2.2 _ _ _ f31
  clear f31
  have f41 := g38.2.1 _ _ _ f32
  clear f32
  have f42 := g38.2.2 _ _ _ f33
  clear f33
  have f43 := g38.2.1 _ _ _ f35
  clear f35
  have o44 := g38.1 _ _ o34
  have f45 := t36.2.2
  refine r_aload_n hw.sy dX8_init_31 0 rfl ?_
  refine r_sipush (v := 5924) hw.sy dX8_init_32 rfl ?_
  refine r_newL hw.t 5924 aC_long rfl (by decide) s37.last s37.z (Nat.le_of_ble_eq_true rfl) (Nat.le_of_ble_eq_true rfl) dX8_init_35 ?_
  have t46 := s37.new (.inr (1, 5924))
  have s47 := t46.1
  have g48 := t46.2.1
  have f49 := g48.2.1 _ _ _ f39
  clear f39
  have f50 := g48.2.2 _ _ _ f40
  clear f40
  have f51 := g48.2.1 _ _ _ f41
  clear f41
  have f52 := g48.2.2 _ _ _ f42
  clear f42
  have f53 := g48.2.1 _ _ _ f43
  clear f43
  have f54 := g48.2.2 _ _ _ f45
  clear f45
  have o55 := g48.1 _ _ o44
  have f56 : isA _ (a + 1 + 3) 1 5924 := t46.2.2
  refine r_putFR hw fF_X8_19 rfl ⟨rfl, rfl⟩ o55 dX8_init_37 ?_
  have t57 := s47.put 5 (a + 1 + 3) (by decide)
  have s58 := t57.1
  have g59 := t57.2.1
  have f60 := g59.2.1 _ _ _ f49
  clear f49
  have f61 := g59.2.2 _ _ _ f50
  clear f50
  have f62 := g59.2.1 _ _ _ f51
  clear f51
  have f63 := g59.2.2 _ _ _ f52
  clear f52
  have f64 := g59.2.1 _ _ _ f53
  clear f53
  have f65 := g59.2.2 _ _ _ f54
  clear f54
  have f66 := g59.2.1 _ _ _ f56
  clear f56
  have o67 := g59.1 _ _ o55
  have f68 := t57.2.2
  refine r_aload_n hw.sy dX8_init_40 0 rfl ?_
  refine r_iconst (v := 4) hw.sy dX8_init_41 rfl ?_
  refine r_newZ hw.t 4 aC_boolean rfl (by decide) s58.last s58.z (Nat.le_of_ble_eq_true rfl) (Nat.le_of_ble_eq_true rfl) dX8_init_42 ?_
  have t69 := s58.new (.inr (2, 4))
  have s70 := t69.1
  have g71 := t69.2.1
  have f72 := g71.2.1 _ _ _ f60
  clear f60
  have f73 := g71.2.2 _ _ _ f61
  clear f61
  have f74 := g71.2.1 _ _ _ f62
  clear f62
  have f75 := g71.2.2 _ _ _ f63
  clear f63
  have f76 := g71.2.1 _ _ _ f64
  clear f64
  have f77 := g71.2.2 _ _ _ f65
  clear f65
  have f78 := g71.2.1 _ _ _ f66
  clear f66
  have f79 := g71.2.2 _ _ _ f68
  clear f68
  have o80 := g71.1 _ _ o67
  have f81 : isA _ (a + 1 + 4) 2 4 := t69.2.2
  refine r_putFR hw fF_X8_22 rfl ⟨rfl, rfl⟩ o80 dX8_init_44 ?_
  have t82 := s70.put 6 (a + 1 + 4) (by decide)
  have s83 := t82.1
  have g84 := t82.2.1
  have f85 := g84.2.1 _ _ _ f72
  clear f72
  have f86 := g84.2.2 _ _ _ f73
  clear f73
  have f87 := g84.2.1 _ _ _ f74
  clear f74
  have f88 := g84.2.2 _ _ _ f75
  clear f75
  have f89 := g84.2.1 _ _ _ f76
  clear f76
  have f90 := g84.2.2 _ _ _ f77
  clear f77
  have f91 := g84.2.1 _ _ _ f78
  clear f78
  have f92 := g84.2.2 _ _ _ f79
  clear f79
  have f93 := g84.2.1 _ _ _ f81
  clear f81
  have o94 := g84.1 _ _ o80
  have f95 := t82.2.2
  refine r_aload_n hw.sy dX8_init_47 0 rfl ?_
  refine r_bipush (v := 80) hw.sy dX8_init_48 rfl ?_
  refine r_newL hw.t 80 aC_long rfl (by decide) s83.last s83.z (Nat.le_of_ble_eq_true rfl) (Nat.le_of_ble_eq_true rfl) dX8_init_50 ?_
  have t96 := s83.new (.inr (1, 80))
  have s97 := t96.1
  have g98 := t96.2.1
  have f99 := g98.2.1 _ _ _ f85
  clear f85
  have f100 := g98.2.2 _ _ _ f86
  clear f86
  have f101 := g98.2.1 _ _ _ f87
  clear f87
  have f102 := g98.2.2 _ _ _ f88
  clear f88
  have f103 := g98.2.1 _ _ _ f89
  clear f89
  have f104 := g98.2.2 _ _ _ f90
  clear f90
  have f105 := g98.2.1 _ _ _ f91
  clear f91
  have f106 := g98.2.2 _ _ _ f92
  clear f92
  have f107 := g98.2.1 _ _ _ f93
  clear f93
  have f108 := g98.2.2 _ _ _ f95
  clear f95
  have o109 := g98.1 _ _ o94
  have f110 : isA _ (a + 1 + 5) 1 80 := t96.2.2
  refine r_putFR hw fF_X8_26 rfl ⟨rfl, rfl⟩ o109 dX8_init_52 ?_
  have t111 := s97.put 7 (a + 1 + 5) (by decide)
  have s112 := t111.1
  have g113 := t111.2.1
  have f114 := g113.2.1 _ _ _ f99
  clear f99
  have f115 := g113.2.2 _ _ _ f100
  clear f100
  have f116 := g113.2.1 _ _ _ f101
  clear f101
  have f117 := g113.2.2 _ _ _ f102
  clear f102
  have f118 := g113.2.1 _ _ _ f103
  clear f103
  have f119 := g113.2.2 _ _ _ f104
  clear f104
  have f120 := g113.2.1 _ _ _ f105
  clear f105
  have f121 := g113.2.2 _ _ _ f106
  clear f106
  have f122 := g113.2.1 _ _ _ f107
  clear f107
  have f123 := g113.2.2 _ _ _ f108
  clear f108
  have f124 := g113.2.1 _ _ _ f110
  clear f110
  have o125 := g113.1 _ _ o109
  have f126 := t111.2.2
  refine r_aload_n hw.sy dX8_init_55 0 rfl ?_
  refine r_bipush (v := 80) hw.sy dX8_init_56 rfl ?_
  refine r_newL hw.t 80 aC_long rfl (by decide) s112.last s112.z (Nat.le_of_ble_eq_true rfl) (Nat.le_of_ble_eq_true rfl) dX8_init_58 ?_
  have t127 := s112.new (.inr (1, 80))
  have s128 := t127.1
  have g129 := t127.2.1
  have f130 := g129.2.1 _ _ _ f114
  clear f114
  have f131 := g129.2.2 _ _ _ f115
  clear f115
  have f132 := g129.2.1 _ _ _ f116
  clear f116
  have f133 := g129.2.2 _ _ _ f117
  clear f117
  have f134 := g129.2.1 _ _ _ f118
  clear f118
  have f135 := g129.2.2 _ _ _ f119
  clear f119
  have f136 := g129.2.1 _ _ _ f120
  clear f120
  have f137 := g129.2.2 _ _ _ f121
  clear f121
  have f138 := g129.2.1 _ _ _ f122
  clear f122
  have f139 := g129.2.2 _ _ _ f123
  clear f123
  have f140 := g129.2.1 _ _ _ f124
  clear f124
  have f141 := g129.2.2 _ _ _ f126
  clear f126
  have o142 := g129.1 _ _ o125
  have f143 : isA _ (a + 1 + 6) 1 80 := t127.2.2
  refine r_putFR hw fF_X8_29 rfl ⟨rfl, rfl⟩ o142 dX8_init_60 ?_
  have t144 := s128.put 8 (a + 1 + 6) (by decide)
  have s145 := t144.1
  have g146 := t144.2.1
  have f147 := g146.2.1 _ _ _ f130
  clear f130
  have f148 := g146.2.2 _ _ _ f131
  clear f131
  have f149 := g146.2.1 _ _ _ f132
  clear f132
  have f150 := g146.2.2 _ _ _ f133
  clear f133
  have f151 := g146.2.1 _ _ _ f134
  clear f134
  have f152 := g146.2.2 _ _ _ f135
  clear f135
  have f153 := g146.2.1 _ _ _ f136
  clear f136
  have f154 := g146.2.2 _ _ _ f137
  clear f137
  have f155 := g146.2.1 _ _ _ f138
  clear f138
  have f156 := g146.2.2 _ _ _ f139
  clear f139
  have f157 := g146.2.1 _ _ _ f140
  clear f140
  have f158 := g146.2.2 _ _ _ f141
  clear f141
  have f159 := g146.2.1 _ _ _ f143
  clear f143
  have o160 := g146.1 _ _ o142
  have f161 := t144.2.2
  refine r_aload_n hw.sy dX8_init_63 0 rfl ?_
  refine r_iconst (v := 5) hw.sy dX8_init_64 rfl ?_
  refine r_newI hw.t 5 aC_int rfl (by decide) s145.last s145.z (Nat.le_of_ble_eq_true rfl) (Nat.le_of_ble_eq_true rfl) dX8_init_65 ?_
  have t162 := s145.new (.inr (0, 5))
  have s163 := t162.1
  have g164 := t162.2.1
  have f165 := g164.2.1 _ _ _ f147
  clear f147
  have f166 := g164.2.2 _ _ _ f148
  clear f148
  have f167 := g164.2.1 _ _ _ f149
  clear f149
  have f168 := g164.2.2 _ _ _ f150
  clear f150
  have f169 := g164.2.1 _ _ _ f151
  clear f151
  have f170 := g164.2.2 _ _ _ f152
  clear f152
  have f171 := g164.2.1 _ _ _ f153
  clear f153
  have f172 := g164.2.2 _ _ _ f154
  clear f154
  have f173 := g164.2.1 _ _ _ f155
  clear f155
  have f174 := g164.2.2 _ _ _ f156
  clear f156
  have f175 := g164.2.1 _ _ _ f157
  clear f157
  have f176 := g164.2.2 _ _ _ f158
  clear f158
  have f177 := g164.2.1 _ _ _ f159
  clear f159
  have f178 := g164.2.2 _ _ _ f161
  clear f161
  have o179 := g164.1 _ _ o160
  have f180 : isA _ (a + 1 + 7) 0 5 := t162.2.2
  refine r_putFR hw fF_X8_32 rfl ⟨rfl, rfl⟩ o179 dX8_init_67 ?_
  have t181 := s163.put 9 (a + 1 + 7) (by decide)
  have s182 := t181.1
  have g183 := t181.2.1
  have f184 := g183.2.1 _ _ _ f165
  clear f165
  have f185 := g183.2.2 _ _ _ f166
  clear f166
  have f186 := g183.2.1 _ _ _ f167
  clear f167
  have f187 := g183.2.2 _ _ _ f168
  clear f168
  have f188 := g183.2.1 _ _ _ f169
  clear f169
  have f189 := g183.2.2 _ _ _ f170
  clear f170
  have f190 := g183.2.1 _ _ _ f171
  clear f171
  have f191 := g183.2.2 _ _ _ f172
  clear f172
  have f192 := g183.2.1 _ _ _ f173
  clear f173
  have f193 := g183.2.2 _ _ _ f174
  clear f174
  have f194 := g183.2.1 _ _ _ f175
  clear f175
  have f195 := g183.2.2 _ _ _ f176
  clear f176
  have f196 := g183.2.1 _ _ _ f177
  clear f177
  have f197 := g183.2.2 _ _ _ f178
  clear f178
  have f198 := g183.2.1 _ _ _ f180
  clear f180
  have o199 := g183.1 _ _ o179
  have f200 := t181.2.2
  refine r_aload_n hw.sy dX8_init_70 0 rfl ?_
  refine r_bipush (v := 16) hw.sy dX8_init_71 rfl ?_
  refine r_newL hw.t 16 aC_long rfl (by decide) s182.last s182.z (Nat.le_of_ble_eq_true rfl) (Nat.le_of_ble_eq_true rfl) dX8_init_73 ?_
  have t201 := s182.new (.inr (1, 16))
  have s202 := t201.1
  have g203 := t201.2.1
  have f204 := g203.2.1 _ _ _ f184
  clear f184
  have f205 := g203.2.2 _ _ _ f185
  clear f185
  have f206 := g203.2.1 _ _ _ f186
  clear f186
  have f207 := g203.2.2 _ _ _ f187
  clear f187
  have f208 := g203.2.1 _ _ _ f188
  clear f188
  have f209 := g203.2.2 _ _ _ f189
  clear f189
  have f210 := g203.2.1 _ _ _ f190
  clear f190
  have f211 := g203.2.2 _ _ _ f191
  clear f191
  have f212 := g203.2.1 _ _ _ f192
  clear f192
  have f213 := g203.2.2 _ _ _ f193
  clear f193
  have f214 := g203.2.1 _ _ _ f194
  clear f194
  have f215 := g203.2.2 _ _ _ f195
  clear f195
  have f216 := g203.2.1 _ _ _ f196
  clear f196
  have f217 := g203.2.2 _ _ _ f197
  clear f197
  have f218 := g203.2.1 _ _ _ f198
  clear f198
  have f219 := g203.2.2 _ _ _ f200
  clear f200
  have o220 := g203.1 _ _ o199
  have f221 : isA _ (a + 1 + 8) 1 16 := t201.2.2
  refine r_putFR hw fF_X8_36 rfl ⟨rfl, rfl⟩ o220 dX8_init_75 ?_
  have t222 := s202.put 10 (a + 1 + 8) (by decide)
  have s223 := t222.1
  have g224 := t222.2.1
  have f225 := g224.2.1 _ _ _ f204
  clear f204
  have f226 := g224.2.2 _ _ _ f205
  clear f205
  have f227 := g224.2.1 _ _ _ f206
  clear f206
  have f228 := g224.2.2 _ _ _ f207
  clear f207
  have f229 := g224.2.1 _ _ _ f208
  clear f208
  have f230 := g224.2.2 _ _ _ f209
  clear f209
  have f231 := g224.2.1 _ _ _ f210
  clear f210
  have f232 := g224.2.2 _ _ _ f211
  clear f211
  have f233 := g224.2.1 _ _ _ f212
  clear f212
  have f234 := g224.2.2 _ _ _ f213
  clear f213
  have f235 := g224.2.1 _ _ _ f214
  clear f214
  have f236 := g224.2.2 _ _ _ f215
  clear f215
  have f237 := g224.2.1 _ _ _ f216
  clear f216
  have f238 := g224.2.2 _ _ _ f217
  clear f217
  have f239 := g224.2.1 _ _ _ f218
  clear f218
  have f240 := g224.2.2 _ _ _ f219
  clear f219
  have f241 := g224.2.1 _ _ _ f221
  clear f221
  have o242 := g224.1 _ _ o220
  have f243 := t222.2.2
  refine r_aload_n hw.sy dX8_init_78 0 rfl ?_
  refine r_bipush (v := 16) hw.sy dX8_init_79 rfl ?_
  refine r_newL hw.t 16 aC_long rfl (by decide) s223.last s223.z (Nat.le_of_ble_eq_true rfl) (Nat.le_of_ble_eq_true rfl) dX8_init_81 ?_
  have t244 := s223.new (.inr (1, 16))
  have s245 := t244.1
  have g246 := t244.2.1
  have f247 := g246.2.1 _ _ _ f225
  clear f225
  have f248 := g246.2.2 _ _ _ f226
  clear f226
  have f249 := g246.2.1 _ _ _ f227
  clear f227
  have f250 := g246.2.2 _ _ _ f228
  clear f228
  have f251 := g246.2.1 _ _ _ f229
  clear f229
  have f252 := g246.2.2 _ _ _ f230
  clear f230
  have f253 := g246.2.1 _ _ _ f231
  clear f231
  have f254 := g246.2.2 _ _ _ f232
  clear f232
  have f255 := g246.2.1 _ _ _ f233
  clear f233
  have f256 := g246.2.2 _ _ _ f234
  clear f234
  have f257 := g246.2.1 _ _ _ f235
  clear f235
  have f258 := g246.2.2 _ _ _ f236
  clear f236
  have f259 := g246.2.1 _ _ _ f237
  clear f237
  have f260 := g246.2.2 _ _ _ f238
  clear f238
  have f261 := g246.2.1 _ _ _ f239
  clear f239
  have f262 := g246.2.2 _ _ _ f240
  clear f240
  have f263 := g246.2.1 _ _ _ f241
  clear f241
  have f264 := g246.2.2 _ _ _ f243
  clear f243
  have o265 := g246.1 _ _ o242
  have f266 : isA _ (a + 1 + 9) 1 16 := t244.2.2
  refine r_putFR hw fF_X8_39 rfl ⟨rfl, rfl⟩ o265 dX8_init_83 ?_
  have t267 := s245.put 11 (a + 1 + 9) (by decide)
  have s268 := t267.1
  have g269 := t267.2.1
  have f270 := g269.2.1 _ _ _ f247
  clear f247
  have f271 := g269.2.2 _ _ _ f248
  clear f248
  have f272 := g269.2.1 _ _ _ f249
  clear f249
  have f273 := g269.2.2 _ _ _ f250
  clear f250
  have f274 := g269.2.1 _ _ _ f251
  clear f251
  have f275 := g269.2.2 _ _ _ f252
  clear f252
  have f276 := g269.2.1 _ _ _ f253
  clear f253
  have f277 := g269.2.2 _ _ _ f254
  clear f254
  have f278 := g269.2.1 _ _ _ f255
  clear f255
  have f279 := g269.2.2 _ _ _ f256
  clear f256
  have f280 := g269.2.1 _ _ _ f257
  clear f257
  have f281 := g269.2.2 _ _ _ f258
  clear f258
  have f282 := g269.2.1 _ _ _ f259
  clear f259
  have f283 := g269.2.2 _ _ _ f260
  clear f260
  have f284 := g269.2.1 _ _ _ f261
  clear f261
  have f285 := g269.2.2 _ _ _ f262
  clear f262
  have f286 := g269.2.1 _ _ _ f263
  clear f263
  have f287 := g269.2.2 _ _ _ f264
  clear f264
  have f288 := g269.2.1 _ _ _ f266
  clear f266
  have o289 := g269.1 _ _ o265
  have f290 := t267.2.2
  refine r_aload_n hw.sy dX8_init_86 0 rfl ?_
  refine r_bipush (v := 20) hw.sy dX8_init_87 rfl ?_
  refine r_newL hw.t 20 aC_long rfl (by decide) s268.last s268.z (Nat.le_of_ble_eq_true rfl) (Nat.le_of_ble_eq_true rfl) dX8_init_89 ?_
  have t291 := s268.new (.inr (1, 20))
  have s292 := t291.1
  have g293 := t291.2.1
  have f294 := g293.2.1 _ _ _ f270
  clear f270
  have f295 := g293.2.2 _ _ _ f271
  clear f271
  have f296 := g293.2.1 _ _ _ f272
  clear f272
  have f297 := g293.2.2 _ _ _ f273
  clear f273
  have f298 := g293.2.1 _ _ _ f274
  clear f274
  have f299 := g293.2.2 _ _ _ f275
  clear f275
  have f300 := g293.2.1 _ _ _ f276
  clear f276
  have f301 := g293.2.2 _ _ _ f277
  clear f277
  have f302 := g293.2.1 _ _ _ f278
  clear f278
  have f303 := g293.2.2 _ _ _ f279
  clear f279
  have f304 := g293.2.1 _ _ _ f280
  clear f280
  have f305 := g293.2.2 _ _ _ f281
  clear f281
  have f306 := g293.2.1 _ _ _ f282
  clear f282
  have f307 := g293.2.2 _ _ _ f283
  clear f283
  have f308 := g293.2.1 _ _ _ f284
  clear f284
  have f309 := g293.2.2 _ _ _ f285
  clear f285
  have f310 := g293.2.1 _ _ _ f286
  clear f286
  have f311 := g293.2.2 _ _ _ f287
  clear f287
  have f312 := g293.2.1 _ _ _ f288
  clear f288
  have f313 := g293.2.2 _ _ _ f290
  clear f290
  have o314 := g293.1 _ _ o289
  have f315 : isA _ (a + 1 + 10) 1 20 := t291.2.2
  refine r_putFR hw fF_X8_42 rfl ⟨rfl, rfl⟩ o314 dX8_init_91 ?_
  have t316 := s292.put 13 (a + 1 + 10) (by decide)
  have s317 := t316.1
  have g318 := t316.2.1
  have f319 := g318.2.1 _ _ _ f294
  clear f294
  have f320 := g318.2.2 _ _ _ f295
  clear f295
  have f321 := g318.2.1 _ _ _ f296
  clear f296
  have f322 := g318.2.2 _ _ _ f297
  clear f297
  have f323 := g318.2.1 _ _ _ f298
  clear f298
  have f324 := g318.2.2 _ _ _ f299
  clear f299
  have f325 := g318.2.1 _ _ _ f300
  clear f300
  have f326 := g318.2.2 _ _ _ f301
  clear f301
  have f327 := g318.2.1 _ _ _ f302
  clear f302
  have f328 := g318.2.2 _ _ _ f303
  clear f303
  have f329 := g318.2.1 _ _ _ f304
  clear f304
  have f330 := g318.2.2 _ _ _ f305
  clear f305
  have f331 := g318.2.1 _ _ _ f306
  clear f306
  have f332 := g318.2.2 _ _ _ f307
  clear f307
  have f333 := g318.2.1 _ _ _ f308
  clear f308
  have f334 := g318.2.2 _ _ _ f309
  clear f309
  have f335 := g318.2.1 _ _ _ f310
  clear f310
  have f336 := g318.2.2 _ _ _ f311
  clear f311
  have f337 := g318.2.1 _ _ _ f312
  clear f312
  have f338 := g318.2.2 _ _ _ f313
  clear f313
  have f339 := g318.2.1 _ _ _ f315
  clear f315
  have o340 := g318.1 _ _ o314
  have f341 := t316.2.2
  refine r_aload_n hw.sy dX8_init_94 0 rfl ?_
  refine r_bipush (v := 20) hw.sy dX8_init_95 rfl ?_
  refine r_newL hw.t 20 aC_long rfl (by decide) s317.last s317.z (Nat.le_of_ble_eq_true rfl) (Nat.le_of_ble_eq_true rfl) dX8_init_97 ?_
  have t342 := s317.new (.inr (1, 20))
  have s343 := t342.1
  have g344 := t342.2.1
  have f345 := g344.2.1 _ _ _ f319
  clear f319
  have f346 := g344.2.2 _ _ _ f320
  clear f320
  have f347 := g344.2.1 _ _ _ f321
  clear f321
  have f348 := g344.2.2 _ _ _ f322
  clear f322
  have f349 := g344.2.1 _ _ _ f323
  clear f323
  have f350 := g344.2.2 _ _ _ f324
  clear f324
  have f351 := g344.2.1 _ _ _ f325
  clear f325
  have f352 := g344.2.2 _ _ _ f326
  clear f326
  have f353 := g344.2.1 _ _ _ f327
  clear f327
  have f354 := g344.2.2 _ _ _ f328
  clear f328
  have f355 := g344.2.1 _ _ _ f329
  clear f329
  have f356 := g344.2.2 _ _ _ f330
  clear f330
  have f357 := g344.2.1 _ _ _ f331
  clear f331
  have f358 := g344.2.2 _ _ _ f332
  clear f332
  have f359 := g344.2.1 _ _ _ f333
  clear f333
  have f360 := g344.2.2 _ _ _ f334
  clear f334
  have f361 := g344.2.1 _ _ _ f335
  clear f335
  have f362 := g344.2.2 _ _ _ f336
  clear f336
  have f363 := g344.2.1 _ _ _ f337
  clear f337
  have f364 := g344.2.2 _ _ _ f338
  clear f338
  have f365 := g344.2.1 _ _ _ f339
  clear f339
  have f366 := g344.2.2 _ _ _ f341
  clear f341
  have o367 := g344.1 _ _ o340
  have f368 : isA _ (a + 1 + 11) 1 20 := t342.2.2
  refine r_putFR hw fF_X8_45 rfl ⟨rfl, rfl⟩ o367 dX8_init_99 ?_
  have t369 := s343.put 14 (a + 1 + 11) (by decide)
  have s370 := t369.1
  have g371 := t369.2.1
  have f372 := g371.2.1 _ _ _ f345
  clear f345
  have f373 := g371.2.2 _ _ _ f346
  clear f346
  have f374 := g371.2.1 _ _ _ f347
  clear f347
  have f375 := g371.2.2 _ _ _ f348
  clear f348
  have f376 := g371.2.1 _ _ _ f349
  clear f349
  have f377 := g371.2.2 _ _ _ f350
  clear f350
  have f378 := g371.2.1 _ _ _ f351
  clear f351
  have f379 := g371.2.2 _ _ _ f352
  clear f352
  have f380 := g371.2.1 _ _ _ f353
  clear f353
  have f381 := g371.2.2 _ _ _ f354
  clear f354
  have f382 := g371.2.1 _ _ _ f355
  clear f355
  have f383 := g371.2.2 _ _ _ f356
  clear f356
  have f384 := g371.2.1 _ _ _ f357
  clear f357
  have f385 := g371.2.2 _ _ _ f358
  clear f358
  have f386 := g371.2.1 _ _ _ f359
  clear f359
  have f387 := g371.2.2 _ _ _ f360
  clear f360
  have f388 := g371.2.1 _ _ _ f361
  clear f361
  have f389 := g371.2.2 _ _ _ f362
  clear f362
  have f390 := g371.2.1 _ _ _ f363
  clear f363
  have f391 := g371.2.2 _ _ _ f364
  clear f364
  have f392 := g371.2.1 _ _ _ f365
  clear f365
  have f393 := g371.2.2 _ _ _ f366
  clear f366
  have f394 := g371.2.1 _ _ _ f368
  clear f368
  have o395 := g371.1 _ _ o367
  have f396 := t369.2.2
  refine r_aload_n hw.sy dX8_init_102 0 rfl ?_
  refine r_bipush (v := 20) hw.sy dX8_init_103 rfl ?_
  refine r_newL hw.t 20 aC_long rfl (by decide) s370.last s370.z (Nat.le_of_ble_eq_true rfl) (Nat.le_of_ble_eq_true rfl) dX8_init_105 ?_
  have t397 := s370.new (.inr (1, 20))
  have s398 := t397.1
  have g399 := t397.2.1
  have f400 := g399.2.1 _ _ _ f372
  clear f372
  have f401 := g399.2.2 _ _ _ f373
  clear f373
  have f402 := g399.2.1 _ _ _ f374
  clear f374
  have f403 := g399.2.2 _ _ _ f375
  clear f375
  have f404 := g399.2.1 _ _ _ f376
  clear f376
  have f405 := g399.2.2 _ _ _ f377
  clear f377
  have f406 := g399.2.1 _ _ _ f378
  clear f378
  have f407 := g399.2.2 _ _ _ f379
  clear f379
  have f408 := g399.2.1 _ _ _ f380
  clear f380
  have f409 := g399.2.2 _ _ _ f381
  clear f381
  have f410 := g399.2.1 _ _ _ f382
  clear f382
  have f411 := g399.2.2 _ _ _ f383
  clear f383
  have f412 := g399.2.1 _ _ _ f384
  clear f384
  have f413 := g399.2.2 _ _ _ f385
  clear f385
  have f414 := g399.2.1 _ _ _ f386
  clear f386
  have f415 := g399.2.2 _ _ _ f387
  clear f387
  have f416 := g399.2.1 _ _ _ f388
  clear f388
  have f417 := g399.2.2 _ _ _ f389
  clear f389
  have f418 := g399.2.1 _ _ _ f390
  clear f390
  have f419 := g399.2.2 _ _ _ f391
  clear f391
  have f420 := g399.2.1 _ _ _ f392
  clear f392
  have f421 := g399.2.2 _ _ _ f393
  clear f393
  have f422 := g399.2.1 _ _ _ f394
  clear f394
  have f423 := g399.2.2 _ _ _ f396
  clear f396
  have o424 := g399.1 _ _ o395
  have f425 : isA _ (a + 1 + 12) 1 20 := t397.2.2
  refine r_putFR hw fF_X8_48 rfl ⟨rfl, rfl⟩ o424 dX8_init_107 ?_
  have t426 := s398.put 16 (a + 1 + 12) (by decide)
  have s427 := t426.1
  have g428 := t426.2.1
  have f429 := g428.2.1 _ _ _ f400
  clear f400
  have f430 := g428.2.2 _ _ _ f401
  clear f401
  have f431 := g428.2.1 _ _ _ f402
  clear f402
  have f432 := g428.2.2 _ _ _ f403
  clear f403
  have f433 := g428.2.1 _ _ _ f404
  clear f404
  have f434 := g428.2.2 _ _ _ f405
  clear f405
  have f435 := g428.2.1 _ _ _ f406
  clear f406
  have f436 := g428.2.2 _ _ _ f407
  clear f407
  have f437 := g428.2.1 _ _ _ f408
  clear f408
  have f438 := g428.2.2 _ _ _ f409
  clear f409
  have f439 := g428.2.1 _ _ _ f410
  clear f410
  have f440 := g428.2.2 _ _ _ f411
  clear f411
  have f441 := g428.2.1 _ _ _ f412
  clear f412
  have f442 := g428.2.2 _ _ _ f413
  clear f413
  have f443 := g428.2.1 _ _ _ f414
  clear f414
  have f444 := g428.2.2 _ _ _ f415
  clear f415
  have f445 := g428.2.1 _ _ _ f416
  clear f416
  have f446 := g428.2.2 _ _ _ f417
  clear f417
  have f447 := g428.2.1 _ _ _ f418
  clear f418
  have f448 := g428.2.2 _ _ _ f419
  clear f419
  have f449 := g428.2.1 _ _ _ f420
  clear f420
  have f450 := g428.2.2 _ _ _ f421
  clear f421
  have f451 := g428.2.1 _ _ _ f422
  clear f422
  have f452 := g428.2.2 _ _ _ f423
  clear f423
  have f453 := g428.2.1 _ _ _ f425
  clear f425
  have o454 := g428.1 _ _ o424
  have f455 := t426.2.2
  refine r_aload_n hw.sy dX8_init_110 0 rfl ?_
  refine r_bipush (v := 20) hw.sy dX8_init_111 rfl ?_
  refine r_newL hw.t 20 aC_long rfl (by decide) s427.last s427.z (Nat.le_of_ble_eq_true rfl) (Nat.le_of_ble_eq_true rfl) dX8_init_113 ?_
  have t456 := s427.new (.inr (1, 20))
  have s457 := t456.1
  have g458 := t456.2.1
  have f459 := g458.2.1 _ _ _ f429
  clear f429
  have f460 := g458.2.2 _ _ _ f430
  clear f430
  have f461 := g458.2.1 _ _ _ f431
  clear f431
  have f462 := g458.2.2 _ _ _ f432
  clear f432
  have f463 := g458.2.1 _ _ _ f433
  clear f433
  have f464 := g458.2.2 _ _ _ f434
  clear f434
  have f465 := g458.2.1 _ _ _ f435
  clear f435
  have f466 := g458.2.2 _ _ _ f436
  clear f436
  have f467 := g458.2.1 _ _ _ f437
  clear f437
  have f468 := g458.2.2 _ _ _ f438
  clear f438
  have f469 := g458.2.1 _ _ _ f439
  clear f439
  have f470 := g458.2.2 _ _ _ f440
  clear f440
  have f471 := g458.2.1 _ _ _ f441
  clear f441
  have f472 := g458.2.2 _ _ _ f442
  clear f442
  have f473 := g458.2.1 _ _ _ f443
  clear f443
  have f474 := g458.2.2 _ _ _ f444
  clear f444
  have f475 := g458.2.1 _ _ _ f445
  clear f445
  have f476 := g458.2.2 _ _ _ f446
  clear f446
  have f477 := g458.2.1 _ _ _ f447
  clear f447
  have f478 := g458.2.2 _ _ _ f448
  clear f448
  have f479 := g458.2.1 _ _ _ f449
  clear f449
  have f480 := g458.2.2 _ _ _ f450
  clear f450
  have f481 := g458.2.1 _ _ _ f451
  clear f451
  have f482 := g458.2.2 _ _ _ f452
  clear f452
  have f483 := g458.2.1 _ _ _ f453
  clear f453
  have f484 := g458.2.2 _ _ _ f455
  clear f455
  have o485 := g458.1 _ _ o454
  have f486 : isA _ (a + 1 + 13) 1 20 := t456.2.2
  refine r_putFR hw fF_X8_51 rfl ⟨rfl, rfl⟩ o485 dX8_init_115 ?_
  have t487 := s457.put 17 (a + 1 + 13) (by decide)
  have s488 := t487.1
  have g489 := t487.2.1
  have f490 := g489.2.1 _ _ _ f459
  clear f459
  have f491 := g489.2.2 _ _ _ f460
  clear f460
  have f492 := g489.2.1 _ _ _ f461
  clear f461
  have f493 := g489.2.2 _ _ _ f462
  clear f462
  have f494 := g489.2.1 _ _ _ f463
  clear f463
  have f495 := g489.2.2 _ _ _ f464
  clear f464
  have f496 := g489.2.1 _ _ _ f465
  clear f465
  have f497 := g489.2.2 _ _ _ f466
  clear f466
  have f498 := g489.2.1 _ _ _ f467
  clear f467
  have f499 := g489.2.2 _ _ _ f468
  clear f468
  have f500 := g489.2.1 _ _ _ f469
  clear f469
  have f501 := g489.2.2 _ _ _ f470
  clear f470
  have f502 := g489.2.1 _ _ _ f471
  clear f471
  have f503 := g489.2.2 _ _ _ f472
  clear f472
  have f504 := g489.2.1 _ _ _ f473
  clear f473
  have f505 := g489.2.2 _ _ _ f474
  clear f474
  have f506 := g489.2.1 _ _ _ f475
  clear f475
  have f507 := g489.2.2 _ _ _ f476
  clear f476
  have f508 := g489.2.1 _ _ _ f477
  clear f477
  have f509 := g489.2.2 _ _ _ f478
  clear f478
  have f510 := g489.2.1 _ _ _ f479
  clear f479
  have f511 := g489.2.2 _ _ _ f480
  clear f480
  have f512 := g489.2.1 _ _ _ f481
  clear f481
  have f513 := g489.2.2 _ _ _ f482
  clear f482
  have f514 := g489.2.1 _ _ _ f483
  clear f483
  have f515 := g489.2.2 _ _ _ f484
  clear f484
  have f516 := g489.2.1 _ _ _ f486
  clear f486
  have o517 := g489.1 _ _ o485
  have f518 := t487.2.2
  refine r_aload_n hw.sy dX8_init_118 0 rfl ?_
  refine r_sipush (v := 600) hw.sy dX8_init_119 rfl ?_
  refine r_newL hw.t 600 aC_long rfl (by decide) s488.last s488.z (Nat.le_of_ble_eq_true rfl) (Nat.le_of_ble_eq_true rfl) dX8_init_122 ?_
  have t519 := s488.new (.inr (1, 600))
  have s520 := t519.1
  have g521 := t519.2.1
  have f522 := g521.2.1 _ _ _ f490
  clear f490
  have f523 := g521.2.2 _ _ _ f491
  clear f491
  have f524 := g521.2.1 _ _ _ f492
  clear f492
  have f525 := g521.2.2 _ _ _ f493
  clear f493
  have f526 := g521.2.1 _ _ _ f494
  clear f494
  have f527 := g521.2.2 _ _ _ f495
  clear f495
  have f528 := g521.2.1 _ _ _ f496
  clear f496
  have f529 := g521.2.2 _ _ _ f497
  clear f497
  have f530 := g521.2.1 _ _ _ f498
  clear f498
  have f531 := g521.2.2 _ _ _ f499
  clear f499
  have f532 := g521.2.1 _ _ _ f500
  clear f500
  have f533 := g521.2.2 _ _ _ f501
  clear f501
  have f534 := g521.2.1 _ _ _ f502
  clear f502
  have f535 := g521.2.2 _ _ _ f503
  clear f503
  have f536 := g521.2.1 _ _ _ f504
  clear f504
  have f537 := g521.2.2 _ _ _ f505
  clear f505
  have f538 := g521.2.1 _ _ _ f506
  clear f506
  have f539 := g521.2.2 _ _ _ f507
  clear f507
  have f540 := g521.2.1 _ _ _ f508
  clear f508
  have f541 := g521.2.2 _ _ _ f509
  clear f509
  have f542 := g521.2.1 _ _ _ f510
  clear f510
  have f543 := g521.2.2 _ _ _ f511
  clear f511
  have f544 := g521.2.1 _ _ _ f512
  clear f512
  have f545 := g521.2.2 _ _ _ f513
  clear f513
  have f546 := g521.2.1 _ _ _ f514
  clear f514
  have f547 := g521.2.2 _ _ _ f515
  clear f515
  have f548 := g521.2.1 _ _ _ f516
  clear f516
  have f549 := g521.2.2 _ _ _ f518
  clear f518
  have o550 := g521.1 _ _ o517
  have f551 : isA _ (a + 1 + 14) 1 600 := t519.2.2
  refine r_putFR hw fF_X8_54 rfl ⟨rfl, rfl⟩ o550 dX8_init_124 ?_
  have t552 := s520.put 19 (a + 1 + 14) (by decide)
  have s553 := t552.1
  have g554 := t552.2.1
  have f555 := g554.2.1 _ _ _ f522
  clear f522
  have f556 := g554.2.2 _ _ _ f523
  clear f523
  have f557 := g554.2.1 _ _ _ f524
  clear f524
  have f558 := g554.2.2 _ _ _ f525
  clear f525
  have f559 := g554.2.1 _ _ _ f526
  clear f526
  have f560 := g554.2.2 _ _ _ f527
  clear f527
  have f561 := g554.2.1 _ _ _ f528
  clear f528
  have f562 := g554.2.2 _ _ _ f529
  clear f529
  have f563 := g554.2.1 _ _ _ f530
  clear f530
  have f564 := g554.2.2 _ _ _ f531
  clear f531
  have f565 := g554.2.1 _ _ _ f532
  clear f532
  have f566 := g554.2.2 _ _ _ f533
  clear f533
  have f567 := g554.2.1 _ _ _ f534
  clear f534
  have f568 := g554.2.2 _ _ _ f535
  clear f535
  have f569 := g554.2.1 _ _ _ f536
  clear f536
  have f570 := g554.2.2 _ _ _ f537
  clear f537
  have f571 := g554.2.1 _ _ _ f538
  clear f538
  have f572 := g554.2.2 _ _ _ f539
  clear f539
  have f573 := g554.2.1 _ _ _ f540
  clear f540
  have f574 := g554.2.2 _ _ _ f541
  clear f541
  have f575 := g554.2.1 _ _ _ f542
  clear f542
  have f576 := g554.2.2 _ _ _ f543
  clear f543
  have f577 := g554.2.1 _ _ _ f544
  clear f544
  have f578 := g554.2.2 _ _ _ f545
  clear f545
  have f579 := g554.2.1 _ _ _ f546
  clear f546
  have f580 := g554.2.2 _ _ _ f547
  clear f547
  have f581 := g554.2.1 _ _ _ f548
  clear f548
  have f582 := g554.2.2 _ _ _ f549
  clear f549
  have f583 := g554.2.1 _ _ _ f551
  clear f551
  have o584 := g554.1 _ _ o550
  have f585 := t552.2.2
  refine r_aload_n hw.sy dX8_init_127 0 rfl ?_
  refine r_sipush (v := 600) hw.sy dX8_init_128 rfl ?_
  refine r_newL hw.t 600 aC_long rfl (by decide) s553.last s553.z (Nat.le_of_ble_eq_true rfl) (Nat.le_of_ble_eq_true rfl) dX8_init_131 ?_
  have t586 := s553.new (.inr (1, 600))
  have s587 := t586.1
  have g588 := t586.2.1
  have f589 := g588.2.1 _ _ _ f555
  clear f555
  have f590 := g588.2.2 _ _ _ f556
  clear f556
  have f591 := g588.2.1 _ _ _ f557
  clear f557
  have f592 := g588.2.2 _ _ _ f558
  clear f558
  have f593 := g588.2.1 _ _ _ f559
  clear f559
  have f594 := g588.2.2 _ _ _ f560
  clear f560
  have f595 := g588.2.1 _ _ _ f561
  clear f561
  have f596 := g588.2.2 _ _ _ f562
  clear f562
  have f597 := g588.2.1 _ _ _ f563
  clear f563
  have f598 := g588.2.2 _ _ _ f564
  clear f564
  have f599 := g588.2.1 _ _ _ f565
  clear f565
  have f600 := g588.2.2 _ _ _ f566
  clear f566
  have f601 := g588.2.1 _ _ _ f567
  clear f567
  have f602 := g588.2.2 _ _ _ f568
  clear f568
  have f603 := g588.2.1 _ _ _ f569
  clear f569
  have f604 := g588.2.2 _ _ _ f570
  clear f570
  have f605 := g588.2.1 _ _ _ f571
  clear f571
  have f606 := g588.2.2 _ _ _ f572
  clear f572
  have f607 := g588.2.1 _ _ _ f573
  clear f573
  have f608 := g588.2.2 _ _ _ f574
  clear f574
  have f609 := g588.2.1 _ _ _ f575
  clear f575
  have f610 := g588.2.2 _ _ _ f576
  clear f576
  have f611 := g588.2.1 _ _ _ f577
  clear f577
  have f612 := g588.2.2 _ _ _ f578
  clear f578
  have f613 := g588.2.1 _ _ _ f579
  clear f579
  have f614 := g588.2.2 _ _ _ f580
  clear f580
  have f615 := g588.2.1 _ _ _ f581
  clear f581
  have f616 := g588.2.2 _ _ _ f582
  clear f582
  have f617 := g588.2.1 _ _ _ f583
  clear f583
  have f618 := g588.2.2 _ _ _ f585
  clear f585
  have o619 := g588.1 _ _ o584
  have f620 : isA _ (a + 1 + 15) 1 600 := t586.2.2
  refine r_putFR hw fF_X8_57 rfl ⟨rfl, rfl⟩ o619 dX8_init_133 ?_
  have t621 := s587.put 20 (a + 1 + 15) (by decide)
  have s622 := t621.1
  have g623 := t621.2.1
  have f624 := g623.2.1 _ _ _ f589
  clear f589
  have f625 := g623.2.2 _ _ _ f590
  clear f590
  have f626 := g623.2.1 _ _ _ f591
  clear f591
  have f627 := g623.2.2 _ _ _ f592
  clear f592
  have f628 := g623.2.1 _ _ _ f593
  clear f593
  have f629 := g623.2.2 _ _ _ f594
  clear f594
  have f630 := g623.2.1 _ _ _ f595
  clear f595
  have f631 := g623.2.2 _ _ _ f596
  clear f596
  have f632 := g623.2.1 _ _ _ f597
  clear f597
  have f633 := g623.2.2 _ _ _ f598
  clear f598
  have f634 := g623.2.1 _ _ _ f599
  clear f599
  have f635 := g623.2.2 _ _ _ f600
  clear f600
  have f636 := g623.2.1 _ _ _ f601
  clear f601
  have f637 := g623.2.2 _ _ _ f602
  clear f602
  have f638 := g623.2.1 _ _ _ f603
  clear f603
  have f639 := g623.2.2 _ _ _ f604
  clear f604
  have f640 := g623.2.1 _ _ _ f605
  clear f605
  have f641 := g623.2.2 _ _ _ f606
  clear f606
  have f642 := g623.2.1 _ _ _ f607
  clear f607
  have f643 := g623.2.2 _ _ _ f608
  clear f608
  have f644 := g623.2.1 _ _ _ f609
  clear f609
  have f645 := g623.2.2 _ _ _ f610
  clear f610
  have f646 := g623.2.1 _ _ _ f611
  clear f611
  have f647 := g623.2.2 _ _ _ f612
  clear f612
  have f648 := g623.2.1 _ _ _ f613
  clear f613
  have f649 := g623.2.2 _ _ _ f614
  clear f614
  have f650 := g623.2.1 _ _ _ f615
  clear f615
  have f651 := g623.2.2 _ _ _ f616
  clear f616
  have f652 := g623.2.1 _ _ _ f617
  clear f617
  have f653 := g623.2.2 _ _ _ f618
  clear f618
  have f654 := g623.2.1 _ _ _ f620
  clear f620
  have o655 := g623.1 _ _ o619
  have f656 := t621.2.2
  refine r_aload_n hw.sy dX8_init_136 0 rfl ?_
  refine r_sipush (v := 600) hw.sy dX8_init_137 rfl ?_
  refine r_newL hw.t 600 aC_long rfl (by decide) s622.last s622.z (Nat.le_of_ble_eq_true rfl) (Nat.le_of_ble_eq_true rfl) dX8_init_140 ?_
  have t657 := s622.new (.inr (1, 600))
  have s658 := t657.1
  have g659 := t657.2.1
  have f660 := g659.2.1 _ _ _ f624
  clear f624
  have f661 := g659.2.2 _ _ _ f625
  clear f625
  have f662 := g659.2.1 _ _ _ f626
  clear f626
  have f663 := g659.2.2 _ _ _ f627
  clear f627
  have f664 := g659.2.1 _ _ _ f628
  clear f628
  have f665 := g659.2.2 _ _ _ f629
  clear f629
  have f666 := g659.2.1 _ _ _ f630
  clear f630
  have f667 := g659.2.2 _ _ _ f631
  clear f631
  have f668 := g659.2.1 _ _ _ f632
  clear f632
  have f669 := g659.2.2 _ _ _ f633
  clear f633
  have f670 := g659.2.1 _ _ _ f634
  clear f634
  have f671 := g659.2.2 _ _ _ f635
  clear f635
  have f672 := g659.2.1 _ _ _ f636
  clear f636
  have f673 := g659.2.2 _ _ _ f637
  clear f637
  have f674 := g659.2.1 _ _ _ f638
  clear f638
  have f675 := g659.2.2 _ _ _ f639
  clear f639
  have f676 := g659.2.1 _ _ _ f640
  clear f640
  have f677 := g659.2.2 _ _ _ f641
  clear f641
  have f678 := g659.2.1 _ _ _ f642
  clear f642
  have f679 := g659.2.2 _ _ _ f643
  clear f643
  have f680 := g659.2.1 _ _ _ f644
  clear f644
  have f681 := g659.2.2 _ _ _ f645
  clear f645
  have f682 := g659.2.1 _ _ _ f646
  clear f646
  have f683 := g659.2.2 _ _ _ f647
  clear f647
  have f684 := g659.2.1 _ _ _ f648
  clear f648
  have f685 := g659.2.2 _ _ _ f649
  clear f649
  have f686 := g659.2.1 _ _ _ f650
  clear f650
  have f687 := g659.2.2 _ _ _ f651
  clear f651
  have f688 := g659.2.1 _ _ _ f652
  clear f652
  have f689 := g659.2.2 _ _ _ f653
  clear f653
  have f690 := g659.2.1 _ _ _ f654
  clear f654
  have f691 := g659.2.2 _ _ _ f656
  clear f656
  have o692 := g659.1 _ _ o655
  have f693 : isA _ (a + 1 + 16) 1 600 := t657.2.2
  refine r_putFR hw fF_X8_60 rfl ⟨rfl, rfl⟩ o692 dX8_init_142 ?_
  have t694 := s658.put 22 (a + 1 + 16) (by decide)
  have s695 := t694.1
  have g696 := t694.2.1
  have f697 := g696.2.1 _ _ _ f660
  clear f660
  have f698 := g696.2.2 _ _ _ f661
  clear f661
  have f699 := g696.2.1 _ _ _ f662
  clear f662
  have f700 := g696.2.2 _ _ _ f663
  clear f663
  have f701 := g696.2.1 _ _ _ f664
  clear f664
  have f702 := g696.2.2 _ _ _ f665
  clear f665
  have f703 := g696.2.1 _ _ _ f666
  clear f666
  have f704 := g696.2.2 _ _ _ f667
  clear f667
  have f705 := g696.2.1 _ _ _ f668
  clear f668
  have f706 := g696.2.2 _ _ _ f669
  clear f669
  have f707 := g696.2.1 _ _ _ f670
  clear f670
  have f708 := g696.2.2 _ _ _ f671
  clear f671
  have f709 := g696.2.1 _ _ _ f672
  clear f672
  have f710 := g696.2.2 _ _ _ f673
  clear f673
  have f711 := g696.2.1 _ _ _ f674
  clear f674
  have f712 := g696.2.2 _ _ _ f675
  clear f675
  have f713 := g696.2.1 _ _ _ f676
  clear f676
  have f714 := g696.2.2 _ _ _ f677
  clear f677
  have f715 := g696.2.1 _ _ _ f678
  clear f678
  have f716 := g696.2.2 _ _ _ f679
  clear f679
  have f717 := g696.2.1 _ _ _ f680
  clear f680
  have f718 := g696.2.2 _ _ _ f681
  clear f681
  have f719 := g696.2.1 _ _ _ f682
  clear f682
  have f720 := g696.2.2 _ _ _ f683
  clear f683
  have f721 := g696.2.1 _ _ _ f684
  clear f684
  have f722 := g696.2.2 _ _ _ f685
  clear f685
  have f723 := g696.2.1 _ _ _ f686
  clear f686
  have f724 := g696.2.2 _ _ _ f687
  clear f687
  have f725 := g696.2.1 _ _ _ f688
  clear f688
  have f726 := g696.2.2 _ _ _ f689
  clear f689
  have f727 := g696.2.1 _ _ _ f690
  clear f690
  have f728 := g696.2.2 _ _ _ f691
  clear f691
  have f729 := g696.2.1 _ _ _ f693
  clear f693
  have o730 := g696.1 _ _ o692
  have f731 := t694.2.2
  refine r_aload_n hw.sy dX8_init_145 0 rfl ?_
  refine r_sipush (v := 600) hw.sy dX8_init_146 rfl ?_
  refine r_newL hw.t 600 aC_long rfl (by decide) s695.last s695.z (Nat.le_of_ble_eq_true rfl) (Nat.le_of_ble_eq_true rfl) dX8_init_149 ?_
  have t732 := s695.new (.inr (1, 600))
  have s733 := t732.1
  have g734 := t732.2.1
  have f735 := g734.2.1 _ _ _ f697
  clear f697
  have f736 := g734.2.2 _ _ _ f698
  clear f698
  have f737 := g734.2.1 _ _ _ f699
  clear f699
  have f738 := g734.2.2 _ _ _ f700
  clear f700
  have f739 := g734.2.1 _ _ _ f701
  clear f701
  have f740 := g734.2.2 _ _ _ f702
  clear f702
  have f741 := g734.2.1 _ _ _ f703
  clear f703
  have f742 := g734.2.2 _ _ _ f704
  clear f704
  have f743 := g734.2.1 _ _ _ f705
  clear f705
  have f744 := g734.2.2 _ _ _ f706
  clear f706
  have f745 := g734.2.1 _ _ _ f707
  clear f707
  have f746 := g734.2.2 _ _ _ f708
  clear f708
  have f747 := g734.2.1 _ _ _ f709
  clear f709
  have f748 := g734.2.2 _ _ _ f710
  clear f710
  have f749 := g734.2.1 _ _ _ f711
  clear f711
  have f750 := g734.2.2 _ _ _ f712
  clear f712
  have f751 := g734.2.1 _ _ _ f713
  clear f713
  have f752 := g734.2.2 _ _ _ f714
  clear f714
  have f753 := g734.2.1 _ _ _ f715
  clear f715
  have f754 := g734.2.2 _ _ _ f716
  clear f716
  have f755 := g734.2.1 _ _ _ f717
  clear f717
  have f756 := g734.2.2 _ _ _ f718
  clear f718
  have f757 := g734.2.1 _ _ _ f719
  clear f719
  have f758 := g734.2.2 _ _ _ f720
  clear f720
  have f759 := g734.2.1 _ _ _ f721
  clear f721
  have f760 := g734.2.2 _ _ _ f722
  clear f722
  have f761 := g734.2.1 _ _ _ f723
  clear f723
  have f762 := g734.2.2 _ _ _ f724
  clear f724
  have f763 := g734.2.1 _ _ _ f725
  clear f725
  have f764 := g734.2.2 _ _ _ f726
  clear f726
  have f765 := g734.2.1 _ _ _ f727
  clear f727
  have f766 := g734.2.2 _ _ _ f728
  clear f728
  have f767 := g734.2.1 _ _ _ f729
  clear f729
  have f768 := g734.2.2 _ _ _ f731
  clear f731
  have o769 := g734.1 _ _ o730
  have f770 : isA _ (a + 1 + 17) 1 600 := t732.2.2
  refine r_putFR hw fF_X8_63 rfl ⟨rfl, rfl⟩ o769 dX8_init_151 ?_
  have t771 := s733.put 23 (a + 1 + 17) (by decide)
  have s772 := t771.1
  have g773 := t771.2.1
  have f774 := g773.2.1 _ _ _ f735
  clear f735
  have f775 := g773.2.2 _ _ _ f736
  clear f736
  have f776 := g773.2.1 _ _ _ f737
  clear f737
  have f777 := g773.2.2 _ _ _ f738
  clear f738
  have f778 := g773.2.1 _ _ _ f739
  clear f739
  have f779 := g773.2.2 _ _ _ f740
  clear f740
  have f780 := g773.2.1 _ _ _ f741
  clear f741
  have f781 := g773.2.2 _ _ _ f742
  clear f742
  have f782 := g773.2.1 _ _ _ f743
  clear f743
  have f783 := g773.2.2 _ _ _ f744
  clear f744
  have f784 := g773.2.1 _ _ _ f745
  clear f745
  have f785 := g773.2.2 _ _ _ f746
  clear f746
  have f786 := g773.2.1 _ _ _ f747
  clear f747
  have f787 := g773.2.2 _ _ _ f748
  clear f748
  have f788 := g773.2.1 _ _ _ f749
  clear f749
  have f789 := g773.2.2 _ _ _ f750
  clear f750
  have f790 := g773.2.1 _ _ _ f751
  clear f751
  have f791 := g773.2.2 _ _ _ f752
  clear f752
  have f792 := g773.2.1 _ _ _ f753
  clear f753
  have f793 := g773.2.2 _ _ _ f754
  clear f754
  have f794 := g773.2.1 _ _ _ f755
  clear f755
  have f795 := g773.2.2 _ _ _ f756
  clear f756
  have f796 := g773.2.1 _ _ _ f757
  clear f757
  have f797 := g773.2.2 _ _ _ f758
  clear f758
  have f798 := g773.2.1 _ _ _ f759
  clear f759
  have f799 := g773.2.2 _ _ _ f760
  clear f760
  have f800 := g773.2.1 _ _ _ f761
  clear f761
  have f801 := g773.2.2 _ _ _ f762
  clear f762
  have f802 := g773.2.1 _ _ _ f763
  clear f763
  have f803 := g773.2.2 _ _ _ f764
  clear f764
  have f804 := g773.2.1 _ _ _ f765
  clear f765
  have f805 := g773.2.2 _ _ _ f766
  clear f766
  have f806 := g773.2.1 _ _ _ f767
  clear f767
  have f807 := g773.2.2 _ _ _ f768
  clear f768
  have f808 := g773.2.1 _ _ _ f770
  clear f770
  have o809 := g773.1 _ _ o769
  have f810 := t771.2.2
  refine r_aload_n hw.sy dX8_init_154 0 rfl ?_
  refine r_bipush (v := 40) hw.sy dX8_init_155 rfl ?_
  refine r_newL hw.t 40 aC_long rfl (by decide) s772.last s772.z (Nat.le_of_ble_eq_true rfl) (Nat.le_of_ble_eq_true rfl) dX8_init_157 ?_
  have t811 := s772.new (.inr (1, 40))
  have s812 := t811.1
  have g813 := t811.2.1
  have f814 := g813.2.1 _ _ _ f774
  clear f774
  have f815 := g813.2.2 _ _ _ f775
  clear f775
  have f816 := g813.2.1 _ _ _ f776
  clear f776
  have f817 := g813.2.2 _ _ _ f777
  clear f777
  have f818 := g813.2.1 _ _ _ f778
  clear f778
  have f819 := g813.2.2 _ _ _ f779
  clear f779
  have f820 := g813.2.1 _ _ _ f780
  clear f780
  have f821 := g813.2.2 _ _ _ f781
  clear f781
  have f822 := g813.2.1 _ _ _ f782
  clear f782
  have f823 := g813.2.2 _ _ _ f783
  clear f783
  have f824 := g813.2.1 _ _ _ f784
  clear f784
  have f825 := g813.2.2 _ _ _ f785
  clear f785
  have f826 := g813.2.1 _ _ _ f786
  clear f786
  have f827 := g813.2.2 _ _ _ f787
  clear f787
  have f828 := g813.2.1 _ _ _ f788
  clear f788
  have f829 := g813.2.2 _ _ _ f789
  clear f789
  have f830 := g813.2.1 _ _ _ f790
  clear f790
  have f831 := g813.2.2 _ _ _ f791
  clear f791
  have f832 := g813.2.1 _ _ _ f792
  clear f792
  have f833 := g813.2.2 _ _ _ f793
  clear f793
  have f834 := g813.2.1 _ _ _ f794
  clear f794
  have f835 := g813.2.2 _ _ _ f795
  clear f795
  have f836 := g813.2.1 _ _ _ f796
  clear f796
  have f837 := g813.2.2 _ _ _ f797
  clear f797
  have f838 := g813.2.1 _ _ _ f798
  clear f798
  have f839 := g813.2.2 _ _ _ f799
  clear f799
  have f840 := g813.2.1 _ _ _ f800
  clear f800
  have f841 := g813.2.2 _ _ _ f801
  clear f801
  have f842 := g813.2.1 _ _ _ f802
  clear f802
  have f843 := g813.2.2 _ _ _ f803
  clear f803
  have f844 := g813.2.1 _ _ _ f804
  clear f804
  have f845 := g813.2.2 _ _ _ f805
  clear f805
  have f846 := g813.2.1 _ _ _ f806
  clear f806
  have f847 := g813.2.2 _ _ _ f807
  clear f807
  have f848 := g813.2.1 _ _ _ f808
  clear f808
  have f849 := g813.2.2 _ _ _ f810
  clear f810
  have o850 := g813.1 _ _ o809
  have f851 : isA _ (a + 1 + 18) 1 40 := t811.2.2
  refine r_putFR hw fF_X8_66 rfl ⟨rfl, rfl⟩ o850 dX8_init_159 ?_
  have t852 := s812.put 29 (a + 1 + 18) (by decide)
  have s853 := t852.1
  have g854 := t852.2.1
  have f855 := g854.2.1 _ _ _ f814
  clear f814
  have f856 := g854.2.2 _ _ _ f815
  clear f815
  have f857 := g854.2.1 _ _ _ f816
  clear f816
  have f858 := g854.2.2 _ _ _ f817
  clear f817
  have f859 := g854.2.1 _ _ _ f818
  clear f818
  have f860 := g854.2.2 _ _ _ f819
  clear f819
  have f861 := g854.2.1 _ _ _ f820
  clear f820
  have f862 := g854.2.2 _ _ _ f821
  clear f821
  have f863 := g854.2.1 _ _ _ f822
  clear f822
  have f864 := g854.2.2 _ _ _ f823
  clear f823
  have f865 := g854.2.1 _ _ _ f824
  clear f824
  have f866 := g854.2.2 _ _ _ f825
  clear f825
  have f867 := g854.2.1 _ _ _ f826
  clear f826
  have f868 := g854.2.2 _ _ _ f827
  clear f827
  have f869 := g854.2.1 _ _ _ f828
  clear f828
  have f870 := g854.2.2 _ _ _ f829
  clear f829
  have f871 := g854.2.1 _ _ _ f830
  clear f830
  have f872 := g854.2.2 _ _ _ f831
  clear f831
  have f873 := g854.2.1 _ _ _ f832
  clear f832
  have f874 := g854.2.2 _ _ _ f833
  clear f833
  have f875 := g854.2.1 _ _ _ f834
  clear f834
  have f876 := g854.2.2 _ _ _ f835
  clear f835
  have f877 := g854.2.1 _ _ _ f836
  clear f836
  have f878 := g854.2.2 _ _ _ f837
  clear f837
  have f879 := g854.2.1 _ _ _ f838
  clear f838
  have f880 := g854.2.2 _ _ _ f839
  clear f839
  have f881 := g854.2.1 _ _ _ f840
  clear f840
  have f882 := g854.2.2 _ _ _ f841
  clear f841
  have f883 := g854.2.1 _ _ _ f842
  clear f842
  have f884 := g854.2.2 _ _ _ f843
  clear f843
  have f885 := g854.2.1 _ _ _ f844
  clear f844
  have f886 := g854.2.2 _ _ _ f845
  clear f845
  have f887 := g854.2.1 _ _ _ f846
  clear f846
  have f888 := g854.2.2 _ _ _ f847
  clear f847
  have f889 := g854.2.1 _ _ _ f848
  clear f848
  have f890 := g854.2.2 _ _ _ f849
  clear f849
  have f891 := g854.2.1 _ _ _ f851
  clear f851
  have o892 := g854.1 _ _ o850
  have f893 := t852.2.2
  refine r_aload_n hw.sy dX8_init_162 0 rfl ?_
  refine r_bipush (v := 40) hw.sy dX8_init_163 rfl ?_
  refine r_newL hw.t 40 aC_long rfl (by decide) s853.last s853.z (Nat.le_of_ble_eq_true rfl) (Nat.le_of_ble_eq_true rfl) dX8_init_165 ?_
  have t894 := s853.new (.inr (1, 40))
  have s895 := t894.1
  have g896 := t894.2.1
  have f897 := g896.2.1 _ _ _ f855
  clear f855
  have f898 := g896.2.2 _ _ _ f856
  clear f856
  have f899 := g896.2.1 _ _ _ f857
  clear f857
  have f900 := g896.2.2 _ _ _ f858
  clear f858
  have f901 := g896.2.1 _ _ _ f859
  clear f859
  have f902 := g896.2.2 _ _ _ f860
  clear f860
  have f903 := g896.2.1 _ _ _ f861
  clear f861
  have f904 := g896.2.2 _ _ _ f862
  clear f862
  have f905 := g896.2.1 _ _ _ f863
  clear f863
  have f906 := g896.2.2 _ _ _ f864
  clear f864
  have f907 := g896.2.1 _ _ _ f865
  clear f865
  have f908 := g896.2.2 _ _ _ f866
  clear f866
  have f909 := g896.2.1 _ _ _ f867
  clear f867
  have f910 := g896.2.2 _ _ _ f868
  clear f868
  have f911 := g896.2.1 _ _ _ f869
  clear f869
  have f912 := g896.2.2 _ _ _ f870
  clear f870
  have f913 := g896.2.1 _ _ _ f871
  clear f871
  have f914 := g896.2.2 _ _ _ f872
  clear f872
  have f915 := g896.2.1 _ _ _ f873
  clear f873
  have f916 := g896.2.2 _ _ _ f874
  clear f874
  have f917 := g896.2.1 _ _ _ f875
  clear f875
  have f918 := g896.2.2 _ _ _ f876
  clear f876
  have f919 := g896.2.1 _ _ _ f877
  clear f877
  have f920 := g896.2.2 _ _ _ f878
  clear f878
  have f921 := g896.2.1 _ _ _ f879
  clear f879
  have f922 := g896.2.2 _ _ _ f880
  clear f880
  have f923 := g896.2.1 _ _ _ f881
  clear f881
  have f924 := g896.2.2 _ _ _ f882
  clear f882
  have f925 := g896.2.1 _ _ _ f883
  clear f883
  have f926 := g896.2.2 _ _ _ f884
  clear f884
  have f927 := g896.2.1 _ _ _ f885
  clear f885
  have f928 := g896.2.2 _ _ _ f886
  clear f886
  have f929 := g896.2.1 _ _ _ f887
  clear f887
  have f930 := g896.2.2 _ _ _ f888
  clear f888
  have f931 := g896.2.1 _ _ _ f889
  clear f889
  have f932 := g896.2.2 _ _ _ f890
  clear f890
  have f933 := g896.2.1 _ _ _ f891
  clear f891
  have f934 := g896.2.2 _ _ _ f893
  clear f893
  have o935 := g896.1 _ _ o892
  have f936 : isA _ (a + 1 + 19) 1 40 := t894.2.2
  refine r_putFR hw fF_X8_69 rfl ⟨rfl, rfl⟩ o935 dX8_init_167 ?_
  have t937 := s895.put 30 (a + 1 + 19) (by decide)
  have s938 := t937.1
  have g939 := t937.2.1
  have f940 := g939.2.1 _ _ _ f897
  clear f897
  have f941 := g939.2.2 _ _ _ f898
  clear f898
  have f942 := g939.2.1 _ _ _ f899
  clear f899
  have f943 := g939.2.2 _ _ _ f900
  clear f900
  have f944 := g939.2.1 _ _ _ f901
  clear f901
  have f945 := g939.2.2 _ _ _ f902
  clear f902
  have f946 := g939.2.1 _ _ _ f903
  clear f903
  have f947 := g939.2.2 _ _ _ f904
  clear f904
  have f948 := g939.2.1 _ _ _ f905
  clear f905
  have f949 := g939.2.2 _ _ _ f906
  clear f906
  have f950 := g939.2.1 _ _ _ f907
  clear f907
  have f951 := g939.2.2 _ _ _ f908
  clear f908
  have f952 := g939.2.1 _ _ _ f909
  clear f909
  have f953 := g939.2.2 _ _ _ f910
  clear f910
  have f954 := g939.2.1 _ _ _ f911
  clear f911
  have f955 := g939.2.2 _ _ _ f912
  clear f912
  have f956 := g939.2.1 _ _ _ f913
  clear f913
  have f957 := g939.2.2 _ _ _ f914
  clear f914
  have f958 := g939.2.1 _ _ _ f915
  clear f915
  have f959 := g939.2.2 _ _ _ f916
  clear f916
  have f960 := g939.2.1 _ _ _ f917
  clear f917
  have f961 := g939.2.2 _ _ _ f918
  clear f918
  have f962 := g939.2.1 _ _ _ f919
  clear f919
  have f963 := g939.2.2 _ _ _ f920
  clear f920
  have f964 := g939.2.1 _ _ _ f921
  clear f921
  have f965 := g939.2.2 _ _ _ f922
  clear f922
  have f966 := g939.2.1 _ _ _ f923
  clear f923
  have f967 := g939.2.2 _ _ _ f924
  clear f924
  have f968 := g939.2.1 _ _ _ f925
  clear f925
  have f969 := g939.2.2 _ _ _ f926
  clear f926
  have f970 := g939.2.1 _ _ _ f927
  clear f927
  have f971 := g939.2.2 _ _ _ f928
  clear f928
  have f972 := g939.2.1 _ _ _ f929
  clear f929
  have f973 := g939.2.2 _ _ _ f930
  clear f930
  have f974 := g939.2.1 _ _ _ f931
  clear f931
  have f975 := g939.2.2 _ _ _ f932
  clear f932
  have f976 := g939.2.1 _ _ _ f933
  clear f933
  have f977 := g939.2.2 _ _ _ f934
  clear f934
  have f978 := g939.2.1 _ _ _ f936
  clear f936
  have o979 := g939.1 _ _ o935
  have f980 := t937.2.2
  refine r_aload_n hw.sy dX8_init_170 0 rfl ?_
  refine r_sipush (v := 640) hw.sy dX8_init_171 rfl ?_
  refine r_newL hw.t 640 aC_long rfl (by decide) s938.last s938.z (Nat.le_of_ble_eq_true rfl) (Nat.le_of_ble_eq_true rfl) dX8_init_174 ?_
  have t981 := s938.new (.inr (1, 640))
  have s982 := t981.1
  have g983 := t981.2.1
  have f984 := g983.2.1 _ _ _ f940
  clear f940
  have f985 := g983.2.2 _ _ _ f941
  clear f941
  have f986 := g983.2.1 _ _ _ f942
  clear f942
  have f987 := g983.2.2 _ _ _ f943
  clear f943
  have f988 := g983.2.1 _ _ _ f944
  clear f944
  have f989 := g983.2.2 _ _ _ f945
  clear f945
  have f990 := g983.2.1 _ _ _ f946
  clear f946
  have f991 := g983.2.2 _ _ _ f947
  clear f947
  have f992 := g983.2.1 _ _ _ f948
  clear f948
  have f993 := g983.2.2 _ _ _ f949
  clear f949
  have f994 := g983.2.1 _ _ _ f950
  clear f950
  have f995 := g983.2.2 _ _ _ f951
  clear f951
  have f996 := g983.2.1 _ _ _ f952
  clear f952
  have f997 := g983.2.2 _ _ _ f953
  clear f953
  have f998 := g983.2.1 _ _ _ f954
  clear f954
  have f999 := g983.2.2 _ _ _ f955
  clear f955
  have f1000 := g983.2.1 _ _ _ f956
  clear f956
  have f1001 := g983.2.2 _ _ _ f957
  clear f957
  have f1002 := g983.2.1 _ _ _ f958
  clear f958
  have f1003 := g983.2.2 _ _ _ f959
  clear f959
  have f1004 := g983.2.1 _ _ _ f960
  clear f960
  have f1005 := g983.2.2 _ _ _ f961
  clear f961
  have f1006 := g983.2.1 _ _ _ f962
  clear f962
  have f1007 := g983.2.2 _ _ _ f963
  clear f963
  have f1008 := g983.2.1 _ _ _ f964
  clear f964
  have f1009 := g983.2.2 _ _ _ f965
  clear f965
  have f1010 := g983.2.1 _ _ _ f966
  clear f966
  have f1011 := g983.2.2 _ _ _ f967
  clear f967
  have f1012 := g983.2.1 _ _ _ f968
  clear f968
  have f1013 := g983.2.2 _ _ _ f969
  clear f969
  have f1014 := g983.2.1 _ _ _ f970
  clear f970
  have f1015 := g983.2.2 _ _ _ f971
  clear f971
  have f1016 := g983.2.1 _ _ _ f972
  clear f972
  have f1017 := g983.2.2 _ _ _ f973
  clear f973
  have f1018 := g983.2.1 _ _ _ f974
  clear f974
  have f1019 := g983.2.2 _ _ _ f975
  clear f975
  have f1020 := g983.2.1 _ _ _ f976
  clear f976
  have f1021 := g983.2.2 _ _ _ f977
  clear f977
  have f1022 := g983.2.1 _ _ _ f978
  clear f978
  have f1023 := g983.2.2 _ _ _ f980
  clear f980
  have o1024 := g983.1 _ _ o979
  have f1025 : isA _ (a + 1 + 20) 1 640 := t981.2.2
  refine r_putFR hw fF_X8_72 rfl ⟨rfl, rfl⟩ o1024 dX8_init_176 ?_
  have t1026 := s982.put 32 (a + 1 + 20) (by decide)
  have s1027 := t1026.1
  have g1028 := t1026.2.1
  have f1029 := g1028.2.1 _ _ _ f984
  clear f984
  have f1030 := g1028.2.2 _ _ _ f985
  clear f985
  have f1031 := g1028.2.1 _ _ _ f986
  clear f986
  have f1032 := g1028.2.2 _ _ _ f987
  clear f987
  have f1033 := g1028.2.1 _ _ _ f988
  clear f988
  have f1034 := g1028.2.2 _ _ _ f989
  clear f989
  have f1035 := g1028.2.1 _ _ _ f990
  clear f990
  have f1036 := g1028.2.2 _ _ _ f991
  clear f991
  have f1037 := g1028.2.1 _ _ _ f992
  clear f992
  have f1038 := g1028.2.2 _ _ _ f993
  clear f993
  have f1039 := g1028.2.1 _ _ _ f994
  clear f994
  have f1040 := g1028.2.2 _ _ _ f995
  clear f995
  have f1041 := g1028.2.1 _ _ _ f996
  clear f996
  have f1042 := g1028.2.2 _ _ _ f997
  clear f997
  have f1043 := g1028.2.1 _ _ _ f998
  clear f998
  have f1044 := g1028.2.2 _ _ _ f999
  clear f999
  have f1045 := g1028.2.1 _ _ _ f1000
  clear f1000
  have f1046 := g1028.2.2 _ _ _ f1001
  clear f1001
  have f1047 := g1028.2.1 _ _ _ f1002
  clear f1002
  have f1048 := g1028.2.2 _ _ _ f1003
  clear f1003
  have f1049 := g1028.2.1 _ _ _ f1004
  clear f1004
  have f1050 := g1028.2.2 _ _ _ f1005
  clear f1005
  have f1051 := g1028.2.1 _ _ _ f1006
  clear f1006
  have f1052 := g1028.2.2 _ _ _ f1007
  clear f1007
  have f1053 := g1028.2.1 _ _ _ f1008
  clear f1008
  have f1054 := g1028.2.2 _ _ _ f1009
  clear f1009
  have f1055 := g1028.2.1 _ _ _ f1010
  clear f1010
  have f1056 := g1028.2.2 _ _ _ f1011
  clear f1011
  have f1057 := g1028.2.1 _ _ _ f1012
  clear f1012
  have f1058 := g1028.2.2 _ _ _ f1013
  clear f1013
  have f1059 := g1028.2.1 _ _ _ f1014
  clear f1014
  have f1060 := g1028.2.2 _ _ _ f1015
  clear f1015
  have f1061 := g1028.2.1 _ _ _ f1016
  clear f1016
  have f1062 := g1028.2.2 _ _ _ f1017
  clear f1017
  have f1063 := g1028.2.1 _ _ _ f1018
  clear f1018
  have f1064 := g1028.2.2 _ _ _ f1019
  clear f1019
  have f1065 := g1028.2.1 _ _ _ f1020
  clear f1020
  have f1066 := g1028.2.2 _ _ _ f1021
  clear f1021
  have f1067 := g1028.2.1 _ _ _ f1022
  clear f1022
  have f1068 := g1028.2.2 _ _ _ f1023
  clear f1023
  have f1069 := g1028.2.1 _ _ _ f1025
  clear f1025
  have o1070 := g1028.1 _ _ o1024
  have f1071 := t1026.2.2
  refine r_aload_n hw.sy dX8_init_179 0 rfl ?_
  refine r_sipush (v := 640) hw.sy dX8_init_180 rfl ?_
  refine r_newL hw.t 640 aC_long rfl (by decide) s1027.last s1027.z (Nat.le_of_ble_eq_true rfl) (Nat.le_of_ble_eq_true rfl) dX8_init_183 ?_
  have t1072 := s1027.new (.inr (1, 640))
  have s1073 := t1072.1
  have g1074 := t1072.2.1
  have f1075 := g1074.2.1 _ _ _ f1029
  clear f1029
  have f1076 := g1074.2.2 _ _ _ f1030
  clear f1030
  have f1077 := g1074.2.1 _ _ _ f1031
  clear f1031
  have f1078 := g1074.2.2 _ _ _ f1032
  clear f1032
  have f1079 := g1074.2.1 _ _ _ f1033
  clear f1033
  have f1080 := g1074.2.2 _ _ _ f1034
  clear f1034
  have f1081 := g1074.2.1 _ _ _ f1035
  clear f1035
  have f1082 := g1074.2.2 _ _ _ f1036
  clear f1036
  have f1083 := g1074.2.1 _ _ _ f1037
  clear f1037
  have f1084 := g1074.2.2 _ _ _ f1038
  clear f1038
  have f1085 := g1074.2.1 _ _ _ f1039
  clear f1039
  have f1086 := g1074.2.2 _ _ _ f1040
  clear f1040
  have f1087 := g1074.2.1 _ _ _ f1041
  clear f1041
  have f1088 := g1074.2.2 _ _ _ f1042
  clear f1042
  have f1089 := g1074.2.1 _ _ _ f1043
  clear f1043
  have f1090 := g1074.2.2 _ _ _ f1044
  clear f1044
  have f1091 := g1074.2.1 _ _ _ f1045
  clear f1045
  have f1092 := g1074.2.2 _ _ _ f1046
  clear f1046
  have f1093 := g1074.2.1 _ _ _ f1047
  clear f1047
  have f1094 := g1074.2.2 _ _ _ f1048
  clear f1048
  have f1095 := g1074.2.1 _ _ _ f1049
  clear f1049
  have f1096 := g1074.2.2 _ _ _ f1050
  clear f1050
  have f1097 := g1074.2.1 _ _ _ f1051
  clear f1051
  have f1098 := g1074.2.2 _ _ _ f1052
  clear f1052
  have f1099 := g1074.2.1 _ _ _ f1053
  clear f1053
  have f1100 := g1074.2.2 _ _ _ f1054
  clear f1054
  have f1101 := g1074.2.1 _ _ _ f1055
  clear f1055
  have f1102 := g1074.2.2 _ _ _ f1056
  clear f1056
  have f1103 := g1074.2.1 _ _ _ f1057
  clear f1057
  have f1104 := g1074.2.2 _ _ _ f1058
  clear f1058
  have f1105 := g1074.2.1 _ _ _ f1059
  clear f1059
  have f1106 := g1074.2.2 _ _ _ f1060
  clear f1060
  have f1107 := g1074.2.1 _ _ _ f1061
  clear f1061
  have f1108 := g1074.2.2 _ _ _ f1062
  clear f1062
  have f1109 := g1074.2.1 _ _ _ f1063
  clear f1063
  have f1110 := g1074.2.2 _ _ _ f1064
  clear f1064
  have f1111 := g1074.2.1 _ _ _ f1065
  clear f1065
  have f1112 := g1074.2.2 _ _ _ f1066
  clear f1066
  have f1113 := g1074.2.1 _ _ _ f1067
  clear f1067
  have f1114 := g1074.2.2 _ _ _ f1068
  clear f1068
  have f1115 := g1074.2.1 _ _ _ f1069
  clear f1069
  have f1116 := g1074.2.2 _ _ _ f1071
  clear f1071
  have o1117 := g1074.1 _ _ o1070
  have f1118 : isA _ (a + 1 + 21) 1 640 := t1072.2.2
  refine r_putFR hw fF_X8_75 rfl ⟨rfl, rfl⟩ o1117 dX8_init_185 ?_
  have t1119 := s1073.put 33 (a + 1 + 21) (by decide)
  have s1120 := t1119.1
  have g1121 := t1119.2.1
  have f1122 := g1121.2.1 _ _ _ f1075
  clear f1075
  have f1123 := g1121.2.2 _ _ _ f1076
  clear f1076
  have f1124 := g1121.2.1 _ _ _ f1077
  clear f1077
  have f1125 := g1121.2.2 _ _ _ f1078
  clear f1078
  have f1126 := g1121.2.1 _ _ _ f1079
  clear f1079
  have f1127 := g1121.2.2 _ _ _ f1080
  clear f1080
  have f1128 := g1121.2.1 _ _ _ f1081
  clear f1081
  have f1129 := g1121.2.2 _ _ _ f1082
  clear f1082
  have f1130 := g1121.2.1 _ _ _ f1083
  clear f1083
  have f1131 := g1121.2.2 _ _ _ f1084
  clear f1084
  have f1132 := g1121.2.1 _ _ _ f1085
  clear f1085
  have f1133 := g1121.2.2 _ _ _ f1086
  clear f1086
  have f1134 := g1121.2.1 _ _ _ f1087
  clear f1087
  have f1135 := g1121.2.2 _ _ _ f1088
  clear f1088
  have f1136 := g1121.2.1 _ _ _ f1089
  clear f1089
  have f1137 := g1121.2.2 _ _ _ f1090
  clear f1090
  have f1138 := g1121.2.1 _ _ _ f1091
  clear f1091
  have f1139 := g1121.2.2 _ _ _ f1092
  clear f1092
  have f1140 := g1121.2.1 _ _ _ f1093
  clear f1093
  have f1141 := g1121.2.2 _ _ _ f1094
  clear f1094
  have f1142 := g1121.2.1 _ _ _ f1095
  clear f1095
  have f1143 := g1121.2.2 _ _ _ f1096
  clear f1096
  have f1144 := g1121.2.1 _ _ _ f1097
  clear f1097
  have f1145 := g1121.2.2 _ _ _ f1098
  clear f1098
  have f1146 := g1121.2.1 _ _ _ f1099
  clear f1099
  have f1147 := g1121.2.2 _ _ _ f1100
  clear f1100
  have f1148 := g1121.2.1 _ _ _ f1101
  clear f1101
  have f1149 := g1121.2.2 _ _ _ f1102
  clear f1102
  have f1150 := g1121.2.1 _ _ _ f1103
  clear f1103
  have f1151 := g1121.2.2 _ _ _ f1104
  clear f1104
  have f1152 := g1121.2.1 _ _ _ f1105
  clear f1105
  have f1153 := g1121.2.2 _ _ _ f1106
  clear f1106
  have f1154 := g1121.2.1 _ _ _ f1107
  clear f1107
  have f1155 := g1121.2.2 _ _ _ f1108
  clear f1108
  have f1156 := g1121.2.1 _ _ _ f1109
  clear f1109
  have f1157 := g1121.2.2 _ _ _ f1110
  clear f1110
  have f1158 := g1121.2.1 _ _ _ f1111
  clear f1111
  have f1159 := g1121.2.2 _ _ _ f1112
  clear f1112
  have f1160 := g1121.2.1 _ _ _ f1113
  clear f1113
  have f1161 := g1121.2.2 _ _ _ f1114
  clear f1114
  have f1162 := g1121.2.1 _ _ _ f1115
  clear f1115
  have f1163 := g1121.2.2 _ _ _ f1116
  clear f1116
  have f1164 := g1121.2.1 _ _ _ f1118
  clear f1118
  have o1165 := g1121.1 _ _ o1117
  have f1166 := t1119.2.2
  refine r_aload_n hw.sy dX8_init_188 0 rfl ?_
  refine r_sipush (v := 640) hw.sy dX8_init_189 rfl ?_
  refine r_newL hw.t 640 aC_long rfl (by decide) s1120.last s1120.z (Nat.le_of_ble_eq_true rfl) (Nat.le_of_ble_eq_true rfl) dX8_init_192 ?_
  have t1167 := s1120.new (.inr (1, 640))
  have s1168 := t1167.1
  have g1169 := t1167.2.1
  have f1170 := g1169.2.1 _ _ _ f1122
  clear f1122
  have f1171 := g1169.2.2 _ _ _ f1123
  clear f1123
  have f1172 := g1169.2.1 _ _ _ f1124
  clear f1124
  have f1173 := g1169.2.2 _ _ _ f1125
  clear f1125
  have f1174 := g1169.2.1 _ _ _ f1126
  clear f1126
  have f1175 := g1169.2.2 _ _ _ f1127
  clear f1127
  have f1176 := g1169.2.1 _ _ _ f1128
  clear f1128
  have f1177 := g1169.2.2 _ _ _ f1129
  clear f1129
  have f1178 := g1169.2.1 _ _ _ f1130
  clear f1130
  have f1179 := g1169.2.2 _ _ _ f1131
  clear f1131
  have f1180 := g1169.2.1 _ _ _ f1132
  clear f1132
  have f1181 := g1169.2.2 _ _ _ f1133
  clear f1133
  have f1182 := g1169.2.1 _ _ _ f1134
  clear f1134
  have f1183 := g1169.2.2 _ _ _ f1135
  clear f1135
  have f1184 := g1169.2.1 _ _ _ f1136
  clear f1136
  have f1185 := g1169.2.2 _ _ _ f1137
  clear f1137
  have f1186 := g1169.2.1 _ _ _ f1138
  clear f1138
  have f1187 := g1169.2.2 _ _ _ f1139
  clear f1139
  have f1188 := g1169.2.1 _ _ _ f1140
  clear f1140
  have f1189 := g1169.2.2 _ _ _ f1141
  clear f1141
  have f1190 := g1169.2.1 _ _ _ f1142
  clear f1142
  have f1191 := g1169.2.2 _ _ _ f1143
  clear f1143
  have f1192 := g1169.2.1 _ _ _ f1144
  clear f1144
  have f1193 := g1169.2.2 _ _ _ f1145
  clear f1145
  have f1194 := g1169.2.1 _ _ _ f1146
  clear f1146
  have f1195 := g1169.2.2 _ _ _ f1147
  clear f1147
  have f1196 := g1169.2.1 _ _ _ f1148
  clear f1148
  have f1197 := g1169.2.2 _ _ _ f1149
  clear f1149
  have f1198 := g1169.2.1 _ _ _ f1150
  clear f1150
  have f1199 := g1169.2.2 _ _ _ f1151
  clear f1151
  have f1200 := g1169.2.1 _ _ _ f1152
  clear f1152
  have f1201 := g1169.2.2 _ _ _ f1153
  clear f1153
  have f1202 := g1169.2.1 _ _ _ f1154
  clear f1154
  have f1203 := g1169.2.2 _ _ _ f1155
  clear f1155
  have f1204 := g1169.2.1 _ _ _ f1156
  clear f1156
  have f1205 := g1169.2.2 _ _ _ f1157
  clear f1157
  have f1206 := g1169.2.1 _ _ _ f1158
  clear f1158
  have f1207 := g1169.2.2 _ _ _ f1159
  clear f1159
  have f1208 := g1169.2.1 _ _ _ f1160
  clear f1160
  have f1209 := g1169.2.2 _ _ _ f1161
  clear f1161
  have f1210 := g1169.2.1 _ _ _ f1162
  clear f1162
  have f1211 := g1169.2.2 _ _ _ f1163
  clear f1163
  have f1212 := g1169.2.1 _ _ _ f1164
  clear f1164
  have f1213 := g1169.2.2 _ _ _ f1166
  clear f1166
  have o1214 := g1169.1 _ _ o1165
  have f1215 : isA _ (a + 1 + 22) 1 640 := t1167.2.2
  refine r_putFR hw fF_X8_78 rfl ⟨rfl, rfl⟩ o1214 dX8_init_194 ?_
  have t1216 := s1168.put 34 (a + 1 + 22) (by decide)
  have s1217 := t1216.1
  have g1218 := t1216.2.1
  have f1219 := g1218.2.1 _ _ _ f1170
  clear f1170
  have f1220 := g1218.2.2 _ _ _ f1171
  clear f1171
  have f1221 := g1218.2.1 _ _ _ f1172
  clear f1172
  have f1222 := g1218.2.2 _ _ _ f1173
  clear f1173
  have f1223 := g1218.2.1 _ _ _ f1174
  clear f1174
  have f1224 := g1218.2.2 _ _ _ f1175
  clear f1175
  have f1225 := g1218.2.1 _ _ _ f1176
  clear f1176
  have f1226 := g1218.2.2 _ _ _ f1177
  clear f1177
  have f1227 := g1218.2.1 _ _ _ f1178
  clear f1178
  have f1228 := g1218.2.2 _ _ _ f1179
  clear f1179
  have f1229 := g1218.2.1 _ _ _ f1180
  clear f1180
  have f1230 := g1218.2.2 _ _ _ f1181
  clear f1181
  have f1231 := g1218.2.1 _ _ _ f1182
  clear f1182
  have f1232 := g1218.2.2 _ _ _ f1183
  clear f1183
  have f1233 := g1218.2.1 _ _ _ f1184
  clear f1184
  have f1234 := g1218.2.2 _ _ _ f1185
  clear f1185
  have f1235 := g1218.2.1 _ _ _ f1186
  clear f1186
  have f1236 := g1218.2.2 _ _ _ f1187
  clear f1187
  have f1237 := g1218.2.1 _ _ _ f1188
  clear f1188
  have f1238 := g1218.2.2 _ _ _ f1189
  clear f1189
  have f1239 := g1218.2.1 _ _ _ f1190
  clear f1190
  have f1240 := g1218.2.2 _ _ _ f1191
  clear f1191
  have f1241 := g1218.2.1 _ _ _ f1192
  clear f1192
  have f1242 := g1218.2.2 _ _ _ f1193
  clear f1193
  have f1243 := g1218.2.1 _ _ _ f1194
  clear f1194
  have f1244 := g1218.2.2 _ _ _ f1195
  clear f1195
  have f1245 := g1218.2.1 _ _ _ f1196
  clear f1196
  have f1246 := g1218.2.2 _ _ _ f1197
  clear f1197
  have f1247 := g1218.2.1 _ _ _ f1198
  clear f1198
  have f1248 := g1218.2.2 _ _ _ f1199
  clear f1199
  have f1249 := g1218.2.1 _ _ _ f1200
  clear f1200
  have f1250 := g1218.2.2 _ _ _ f1201
  clear f1201
  have f1251 := g1218.2.1 _ _ _ f1202
  clear f1202
  have f1252 := g1218.2.2 _ _ _ f1203
  clear f1203
  have f1253 := g1218.2.1 _ _ _ f1204
  clear f1204
  have f1254 := g1218.2.2 _ _ _ f1205
  clear f1205
  have f1255 := g1218.2.1 _ _ _ f1206
  clear f1206
  have f1256 := g1218.2.2 _ _ _ f1207
  clear f1207
  have f1257 := g1218.2.1 _ _ _ f1208
  clear f1208
  have f1258 := g1218.2.2 _ _ _ f1209
  clear f1209
  have f1259 := g1218.2.1 _ _ _ f1210
  clear f1210
  have f1260 := g1218.2.2 _ _ _ f1211
  clear f1211
  have f1261 := g1218.2.1 _ _ _ f1212
  clear f1212
  have f1262 := g1218.2.2 _ _ _ f1213
  clear f1213
  have f1263 := g1218.2.1 _ _ _ f1215
  clear f1215
  have o1264 := g1218.1 _ _ o1214
  have f1265 := t1216.2.2
  refine r_aload_n hw.sy dX8_init_197 0 rfl ?_
  refine r_sipush (v := 1481) hw.sy dX8_init_198 rfl ?_
  refine r_newL hw.t 1481 aC_long rfl (by decide) s1217.last s1217.z (Nat.le_of_ble_eq_true rfl) (Nat.le_of_ble_eq_true rfl) dX8_init_201 ?_
  have t1266 := s1217.new (.inr (1, 1481))
  have s1267 := t1266.1
  have g1268 := t1266.2.1
  have f1269 := g1268.2.1 _ _ _ f1219
  clear f1219
  have f1270 := g1268.2.2 _ _ _ f1220
  clear f1220
  have f1271 := g1268.2.1 _ _ _ f1221
  clear f1221
  have f1272 := g1268.2.2 _ _ _ f1222
  clear f1222
  have f1273 := g1268.2.1 _ _ _ f1223
  clear f1223
  have f1274 := g1268.2.2 _ _ _ f1224
  clear f1224
  have f1275 := g1268.2.1 _ _ _ f1225
  clear f1225
  have f1276 := g1268.2.2 _ _ _ f1226
  clear f1226
  have f1277 := g1268.2.1 _ _ _ f1227
  clear f1227
  have f1278 := g1268.2.2 _ _ _ f1228
  clear f1228
  have f1279 := g1268.2.1 _ _ _ f1229
  clear f1229
  have f1280 := g1268.2.2 _ _ _ f1230
  clear f1230
  have f1281 := g1268.2.1 _ _ _ f1231
  clear f1231
  have f1282 := g1268.2.2 _ _ _ f1232
  clear f1232
  have f1283 := g1268.2.1 _ _ _ f1233
  clear f1233
  have f1284 := g1268.2.2 _ _ _ f1234
  clear f1234
  have f1285 := g1268.2.1 _ _ _ f1235
  clear f1235
  have f1286 := g1268.2.2 _ _ _ f1236
  clear f1236
  have f1287 := g1268.2.1 _ _ _ f1237
  clear f1237
  have f1288 := g1268.2.2 _ _ _ f1238
  clear f1238
  have f1289 := g1268.2.1 _ _ _ f1239
  clear f1239
  have f1290 := g1268.2.2 _ _ _ f1240
  clear f1240
  have f1291 := g1268.2.1 _ _ _ f1241
  clear f1241
  have f1292 := g1268.2.2 _ _ _ f1242
  clear f1242
  have f1293 := g1268.2.1 _ _ _ f1243
  clear f1243
  have f1294 := g1268.2.2 _ _ _ f1244
  clear f1244
  have f1295 := g1268.2.1 _ _ _ f1245
  clear f1245
  have f1296 := g1268.2.2 _ _ _ f1246
  clear f1246
  have f1297 := g1268.2.1 _ _ _ f1247
  clear f1247
  have f1298 := g1268.2.2 _ _ _ f1248
  clear f1248
  have f1299 := g1268.2.1 _ _ _ f1249
  clear f1249
  have f1300 := g1268.2.2 _ _ _ f1250
  clear f1250
  have f1301 := g1268.2.1 _ _ _ f1251
  clear f1251
  have f1302 := g1268.2.2 _ _ _ f1252
  clear f1252
  have f1303 := g1268.2.1 _ _ _ f1253
  clear f1253
  have f1304 := g1268.2.2 _ _ _ f1254
  clear f1254
  have f1305 := g1268.2.1 _ _ _ f1255
  clear f1255
  have f1306 := g1268.2.2 _ _ _ f1256
  clear f1256
  have f1307 := g1268.2.1 _ _ _ f1257
  clear f1257
  have f1308 := g1268.2.2 _ _ _ f1258
  clear f1258
  have f1309 := g1268.2.1 _ _ _ f1259
  clear f1259
  have f1310 := g1268.2.2 _ _ _ f1260
  clear f1260
  have f1311 := g1268.2.1 _ _ _ f1261
  clear f1261
  have f1312 := g1268.2.2 _ _ _ f1262
  clear f1262
  have f1313 := g1268.2.1 _ _ _ f1263
  clear f1263
  have f1314 := g1268.2.2 _ _ _ f1265
  clear f1265
  have o1315 := g1268.1 _ _ o1264
  have f1316 : isA _ (a + 1 + 23) 1 1481 := t1266.2.2
  refine r_putFR hw fF_X8_81 rfl ⟨rfl, rfl⟩ o1315 dX8_init_203 ?_
  have t1317 := s1267.put 37 (a + 1 + 23) (by decide)
  have s1318 := t1317.1
  have g1319 := t1317.2.1
  have f1320 := g1319.2.1 _ _ _ f1269
  clear f1269
  have f1321 := g1319.2.2 _ _ _ f1270
  clear f1270
  have f1322 := g1319.2.1 _ _ _ f1271
  clear f1271
  have f1323 := g1319.2.2 _ _ _ f1272
  clear f1272
  have f1324 := g1319.2.1 _ _ _ f1273
  clear f1273
  have f1325 := g1319.2.2 _ _ _ f1274
  clear f1274
  have f1326 := g1319.2.1 _ _ _ f1275
  clear f1275
  have f1327 := g1319.2.2 _ _ _ f1276
  clear f1276
  have f1328 := g1319.2.1 _ _ _ f1277
  clear f1277
  have f1329 := g1319.2.2 _ _ _ f1278
  clear f1278
  have f1330 := g1319.2.1 _ _ _ f1279
  clear f1279
  have f1331 := g1319.2.2 _ _ _ f1280
  clear f1280
  have f1332 := g1319.2.1 _ _ _ f1281
  clear f1281
  have f1333 := g1319.2.2 _ _ _ f1282
  clear f1282
  have f1334 := g1319.2.1 _ _ _ f1283
  clear f1283
  have f1335 := g1319.2.2 _ _ _ f1284
  clear f1284
  have f1336 := g1319.2.1 _ _ _ f1285
  clear f1285
  have f1337 := g1319.2.2 _ _ _ f1286
  clear f1286
  have f1338 := g1319.2.1 _ _ _ f1287
  clear f1287
  have f1339 := g1319.2.2 _ _ _ f1288
  clear f1288
  have f1340 := g1319.2.1 _ _ _ f1289
  clear f1289
  have f1341 := g1319.2.2 _ _ _ f1290
  clear f1290
  have f1342 := g1319.2.1 _ _ _ f1291
  clear f1291
  have f1343 := g1319.2.2 _ _ _ f1292
  clear f1292
  have f1344 := g1319.2.1 _ _ _ f1293
  clear f1293
  have f1345 := g1319.2.2 _ _ _ f1294
  clear f1294
  have f1346 := g1319.2.1 _ _ _ f1295
  clear f1295
  have f1347 := g1319.2.2 _ _ _ f1296
  clear f1296
  have f1348 := g1319.2.1 _ _ _ f1297
  clear f1297
  have f1349 := g1319.2.2 _ _ _ f1298
  clear f1298
  have f1350 := g1319.2.1 _ _ _ f1299
  clear f1299
  have f1351 := g1319.2.2 _ _ _ f1300
  clear f1300
  have f1352 := g1319.2.1 _ _ _ f1301
  clear f1301
  have f1353 := g1319.2.2 _ _ _ f1302
  clear f1302
  have f1354 := g1319.2.1 _ _ _ f1303
  clear f1303
  have f1355 := g1319.2.2 _ _ _ f1304
  clear f1304
  have f1356 := g1319.2.1 _ _ _ f1305
  clear f1305
  have f1357 := g1319.2.2 _ _ _ f1306
  clear f1306
  have f1358 := g1319.2.1 _ _ _ f1307
  clear f1307
  have f1359 := g1319.2.2 _ _ _ f1308
  clear f1308
  have f1360 := g1319.2.1 _ _ _ f1309
  clear f1309
  have f1361 := g1319.2.2 _ _ _ f1310
  clear f1310
  have f1362 := g1319.2.1 _ _ _ f1311
  clear f1311
  have f1363 := g1319.2.2 _ _ _ f1312
  clear f1312
  have f1364 := g1319.2.1 _ _ _ f1313
  clear f1313
  have f1365 := g1319.2.2 _ _ _ f1314
  clear f1314
  have f1366 := g1319.2.1 _ _ _ f1316
  clear f1316
  have o1367 := g1319.1 _ _ o1315
  have f1368 := t1317.2.2
  refine r_aload_n hw.sy dX8_init_206 0 rfl ?_
  refine r_bipush (v := 37) hw.sy dX8_init_207 rfl ?_
  refine r_newL hw.t 37 aC_long rfl (by decide) s1318.last s1318.z (Nat.le_of_ble_eq_true rfl) (Nat.le_of_ble_eq_true rfl) dX8_init_209 ?_
  have t1369 := s1318.new (.inr (1, 37))
  have s1370 := t1369.1
  have g1371 := t1369.2.1
  have f1372 := g1371.2.1 _ _ _ f1320
  clear f1320
  have f1373 := g1371.2.2 _ _ _ f1321
  clear f1321
  have f1374 := g1371.2.1 _ _ _ f1322
  clear f1322
  have f1375 := g1371.2.2 _ _ _ f1323
  clear f1323
  have f1376 := g1371.2.1 _ _ _ f1324
  clear f1324
  have f1377 := g1371.2.2 _ _ _ f1325
  clear f1325
  have f1378 := g1371.2.1 _ _ _ f1326
  clear f1326
  have f1379 := g1371.2.2 _ _ _ f1327
  clear f1327
  have f1380 := g1371.2.1 _ _ _ f1328
  clear f1328
  have f1381 := g1371.2.2 _ _ _ f1329
  clear f1329
  have f1382 := g1371.2.1 _ _ _ f1330
  clear f1330
  have f1383 := g1371.2.2 _ _ _ f1331
  clear f1331
  have f1384 := g1371.2.1 _ _ _ f1332
  clear f1332
  have f1385 := g1371.2.2 _ _ _ f1333
  clear f1333
  have f1386 := g1371.2.1 _ _ _ f1334
  clear f1334
  have f1387 := g1371.2.2 _ _ _ f1335
  clear f1335
  have f1388 := g1371.2.1 _ _ _ f1336
  clear f1336
  have f1389 := g1371.2.2 _ _ _ f1337
  clear f1337
  have f1390 := g1371.2.1 _ _ _ f1338
  clear f1338
  have f1391 := g1371.2.2 _ _ _ f1339
  clear f1339
  have f1392 := g1371.2.1 _ _ _ f1340
  clear f1340
  have f1393 := g1371.2.2 _ _ _ f1341
  clear f1341
  have f1394 := g1371.2.1 _ _ _ f1342
  clear f1342
  have f1395 := g1371.2.2 _ _ _ f1343
  clear f1343
  have f1396 := g1371.2.1 _ _ _ f1344
  clear f1344
  have f1397 := g1371.2.2 _ _ _ f1345
  clear f1345
  have f1398 := g1371.2.1 _ _ _ f1346
  clear f1346
  have f1399 := g1371.2.2 _ _ _ f1347
  clear f1347
  have f1400 := g1371.2.1 _ _ _ f1348
  clear f1348
  have f1401 := g1371.2.2 _ _ _ f1349
  clear f1349
  have f1402 := g1371.2.1 _ _ _ f1350
  clear f1350
  have f1403 := g1371.2.2 _ _ _ f1351
  clear f1351
  have f1404 := g1371.2.1 _ _ _ f1352
  clear f1352
  have f1405 := g1371.2.2 _ _ _ f1353
  clear f1353
  have f1406 := g1371.2.1 _ _ _ f1354
  clear f1354
  have f1407 := g1371.2.2 _ _ _ f1355
  clear f1355
  have f1408 := g1371.2.1 _ _ _ f1356
  clear f1356
  have f1409 := g1371.2.2 _ _ _ f1357
  clear f1357
  have f1410 := g1371.2.1 _ _ _ f1358
  clear f1358
  have f1411 := g1371.2.2 _ _ _ f1359
  clear f1359
  have f1412 := g1371.2.1 _ _ _ f1360
  clear f1360
  have f1413 := g1371.2.2 _ _ _ f1361
  clear f1361
  have f1414 := g1371.2.1 _ _ _ f1362
  clear f1362
  have f1415 := g1371.2.2 _ _ _ f1363
  clear f1363
  have f1416 := g1371.2.1 _ _ _ f1364
  clear f1364
  have f1417 := g1371.2.2 _ _ _ f1365
  clear f1365
  have f1418 := g1371.2.1 _ _ _ f1366
  clear f1366
  have f1419 := g1371.2.2 _ _ _ f1368
  clear f1368
  have o1420 := g1371.1 _ _ o1367
  have f1421 : isA _ (a + 1 + 24) 1 37 := t1369.2.2
  refine r_putFR hw fF_X8_84 rfl ⟨rfl, rfl⟩ o1420 dX8_init_211 ?_
  have t1422 := s1370.put 38 (a + 1 + 24) (by decide)
  have s1423 := t1422.1
  have g1424 := t1422.2.1
  have f1425 := g1424.2.1 _ _ _ f1372
  clear f1372
  have f1426 := g1424.2.2 _ _ _ f1373
  clear f1373
  have f1427 := g1424.2.1 _ _ _ f1374
  clear f1374
  have f1428 := g1424.2.2 _ _ _ f1375
  clear f1375
  have f1429 := g1424.2.1 _ _ _ f1376
  clear f1376
  have f1430 := g1424.2.2 _ _ _ f1377
  clear f1377
  have f1431 := g1424.2.1 _ _ _ f1378
  clear f1378
  have f1432 := g1424.2.2 _ _ _ f1379
  clear f1379
  have f1433 := g1424.2.1 _ _ _ f1380
  clear f1380
  have f1434 := g1424.2.2 _ _ _ f1381
  clear f1381
  have f1435 := g1424.2.1 _ _ _ f1382
  clear f1382
  have f1436 := g1424.2.2 _ _ _ f1383
  clear f1383
  have f1437 := g1424.2.1 _ _ _ f1384
  clear f1384
  have f1438 := g1424.2.2 _ _ _ f1385
  clear f1385
  have f1439 := g1424.2.1 _ _ _ f1386
  clear f1386
  have f1440 := g1424.2.2 _ _ _ f1387
  clear f1387
  have f1441 := g1424.2.1 _ _ _ f1388
  clear f1388
  have f1442 := g1424.2.2 _ _ _ f1389
  clear f1389
  have f1443 := g1424.2.1 _ _ _ f1390
  clear f1390
  have f1444 := g1424.2.2 _ _ _ f1391
  clear f1391
  have f1445 := g1424.2.1 _ _ _ f1392
  clear f1392
  have f1446 := g1424.2.2 _ _ _ f1393
  clear f1393
  have f1447 := g1424.2.1 _ _ _ f1394
  clear f1394
  have f1448 := g1424.2.2 _ _ _ f1395
  clear f1395
  have f1449 := g1424.2.1 _ _ _ f1396
  clear f1396
  have f1450 := g1424.2.2 _ _ _ f1397
  clear f1397
  have f1451 := g1424.2.1 _ _ _ f1398
  clear f1398
  have f1452 := g1424.2.2 _ _ _ f1399
  clear f1399
  have f1453 := g1424.2.1 _ _ _ f1400
  clear f1400
  have f1454 := g1424.2.2 _ _ _ f1401
  clear f1401
  have f1455 := g1424.2.1 _ _ _ f1402
  clear f1402
  have f1456 := g1424.2.2 _ _ _ f1403
  clear f1403
  have f1457 := g1424.2.1 _ _ _ f1404
  clear f1404
  have f1458 := g1424.2.2 _ _ _ f1405
  clear f1405
  have f1459 := g1424.2.1 _ _ _ f1406
  clear f1406
  have f1460 := g1424.2.2 _ _ _ f1407
  clear f1407
  have f1461 := g1424.2.1 _ _ _ f1408
  clear f1408
  have f1462 := g1424.2.2 _ _ _ f1409
  clear f1409
  have f1463 := g1424.2.1 _ _ _ f1410
  clear f1410
  have f1464 := g1424.2.2 _ _ _ f1411
  clear f1411
  have f1465 := g1424.2.1 _ _ _ f1412
  clear f1412
  have f1466 := g1424.2.2 _ _ _ f1413
  clear f1413
  have f1467 := g1424.2.1 _ _ _ f1414
  clear f1414
  have f1468 := g1424.2.2 _ _ _ f1415
  clear f1415
  have f1469 := g1424.2.1 _ _ _ f1416
  clear f1416
  have f1470 := g1424.2.2 _ _ _ f1417
  clear f1417
  have f1471 := g1424.2.1 _ _ _ f1418
  clear f1418
  have f1472 := g1424.2.2 _ _ _ f1419
  clear f1419
  have f1473 := g1424.2.1 _ _ _ f1421
  clear f1421
  have o1474 := g1424.1 _ _ o1420
  have f1475 := t1422.2.2
  refine r_aload_n hw.sy dX8_init_214 0 rfl ?_
  refine r_iconst (v := 0) hw.sy dX8_init_215 rfl ?_
  refine r_putI hw.sy fP_X8_87 o1474 dX8_init_216 ?_
  have s1476 := s1423.int0 12 (hm 12)
  exact r_returnP hw ⟨s1476.cr, ⟨o1474, f1426, f1425, f1428, f1427, f1430, f1429, f1432, f1431, f1434, f1433, f1436, f1435, f1438, f1437, f1440, f1439, f1442, f1441, f1444, f1443, f1446, f1445, f1448, f1447, f1450, f1449, f1452, f1451, f1454, f1453, f1456, f1455, f1458, f1457, f1460, f1459, f1462, f1461, f1464, f1463, f1466, f1465, f1468, f1467, f1470, f1469, f1472, f1471, f1475, f1473⟩⟩ rfl rfl dX8_init_219
