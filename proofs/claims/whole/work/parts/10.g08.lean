theorem dX8_redo_0 : decode cX8_redo 0 = .ok (.aload_n 0, 1) := by decide +kernel
theorem dX8_redo_1 : decode cX8_redo 1 = .ok (.getfield 110, 3) := by decide +kernel
theorem dX8_redo_4 : decode cX8_redo 4 = .ok (.ifCond .ne 7, 3) := by decide +kernel
theorem dX8_redo_7 : decode cX8_redo 7 = .ok (.ldc2_w 113, 3) := by decide +kernel
theorem dX8_redo_10 : decode cX8_redo 10 = .ok (.lreturn, 1) := by decide +kernel
theorem dX8_redo_11 : decode cX8_redo 11 = .ok (.aload_n 0, 1) := by decide +kernel
theorem dX8_redo_12 : decode cX8_redo 12 = .ok (.dup, 1) := by decide +kernel
theorem dX8_redo_13 : decode cX8_redo 13 = .ok (.getfield 110, 3) := by decide +kernel
theorem dX8_redo_16 : decode cX8_redo 16 = .ok (.iconst 1, 1) := by decide +kernel
theorem dX8_redo_17 : decode cX8_redo 17 = .ok (.isub, 1) := by decide +kernel
theorem dX8_redo_18 : decode cX8_redo 18 = .ok (.putfield 110, 3) := by decide +kernel
theorem dX8_redo_21 : decode cX8_redo 21 = .ok (.iconst 0, 1) := by decide +kernel
theorem dX8_redo_22 : decode cX8_redo 22 = .ok (.istore_n 1, 1) := by decide +kernel
theorem dX8_redo_23 : decode cX8_redo 23 = .ok (.iload_n 1, 1) := by decide +kernel
theorem dX8_redo_24 : decode cX8_redo 24 = .ok (.sipush 1481, 3) := by decide +kernel
theorem dX8_redo_27 : decode cX8_redo 27 = .ok (.if_icmp .ge 51, 3) := by decide +kernel
theorem dX8_redo_30 : decode cX8_redo 30 = .ok (.aload_n 0, 1) := by decide +kernel
theorem dX8_redo_31 : decode cX8_redo 31 = .ok (.getfield 13, 3) := by decide +kernel
theorem dX8_redo_34 : decode cX8_redo 34 = .ok (.sipush 1481, 3) := by decide +kernel
theorem dX8_redo_37 : decode cX8_redo 37 = .ok (.aload_n 0, 1) := by decide +kernel
theorem dX8_redo_38 : decode cX8_redo 38 = .ok (.getfield 107, 3) := by decide +kernel
theorem dX8_redo_41 : decode cX8_redo 41 = .ok (.imul, 1) := by decide +kernel
theorem dX8_redo_42 : decode cX8_redo 42 = .ok (.iload_n 1, 1) := by decide +kernel
theorem dX8_redo_43 : decode cX8_redo 43 = .ok (.iadd, 1) := by decide +kernel
theorem dX8_redo_44 : decode cX8_redo 44 = .ok (.aload_n 0, 1) := by decide +kernel
theorem dX8_redo_45 : decode cX8_redo 45 = .ok (.getfield 7, 3) := by decide +kernel
theorem dX8_redo_48 : decode cX8_redo 48 = .ok (.iload_n 1, 1) := by decide +kernel
theorem dX8_redo_49 : decode cX8_redo 49 = .ok (.laload, 1) := by decide +kernel
theorem dX8_redo_50 : decode cX8_redo 50 = .ok (.lastore, 1) := by decide +kernel
theorem dX8_redo_51 : decode cX8_redo 51 = .ok (.aload_n 0, 1) := by decide +kernel
theorem dX8_redo_52 : decode cX8_redo 52 = .ok (.getfield 7, 3) := by decide +kernel
theorem dX8_redo_55 : decode cX8_redo 55 = .ok (.iload_n 1, 1) := by decide +kernel
theorem dX8_redo_56 : decode cX8_redo 56 = .ok (.aload_n 0, 1) := by decide +kernel
theorem dX8_redo_57 : decode cX8_redo 57 = .ok (.getfield 16, 3) := by decide +kernel
theorem dX8_redo_60 : decode cX8_redo 60 = .ok (.sipush 1481, 3) := by decide +kernel
theorem dX8_redo_63 : decode cX8_redo 63 = .ok (.aload_n 0, 1) := by decide +kernel
theorem dX8_redo_64 : decode cX8_redo 64 = .ok (.getfield 110, 3) := by decide +kernel
theorem dX8_redo_67 : decode cX8_redo 67 = .ok (.imul, 1) := by decide +kernel
theorem dX8_redo_68 : decode cX8_redo 68 = .ok (.iload_n 1, 1) := by decide +kernel
theorem dX8_redo_69 : decode cX8_redo 69 = .ok (.iadd, 1) := by decide +kernel
theorem dX8_redo_70 : decode cX8_redo 70 = .ok (.laload, 1) := by decide +kernel
theorem dX8_redo_71 : decode cX8_redo 71 = .ok (.lastore, 1) := by decide +kernel
theorem dX8_redo_72 : decode cX8_redo 72 = .ok (.iinc 1 1, 3) := by decide +kernel
theorem dX8_redo_75 : decode cX8_redo 75 = .ok (.goto (-52), 3) := by decide +kernel
theorem dX8_redo_78 : decode cX8_redo 78 = .ok (.aload_n 0, 1) := by decide +kernel
theorem dX8_redo_79 : decode cX8_redo 79 = .ok (.dup, 1) := by decide +kernel
theorem dX8_redo_80 : decode cX8_redo 80 = .ok (.getfield 107, 3) := by decide +kernel
theorem dX8_redo_83 : decode cX8_redo 83 = .ok (.iconst 1, 1) := by decide +kernel
theorem dX8_redo_84 : decode cX8_redo 84 = .ok (.iadd, 1) := by decide +kernel
theorem dX8_redo_85 : decode cX8_redo 85 = .ok (.putfield 107, 3) := by decide +kernel
theorem dX8_redo_88 : decode cX8_redo 88 = .ok (.aload_n 0, 1) := by decide +kernel
theorem dX8_redo_89 : decode cX8_redo 89 = .ok (.getfield 110, 3) := by decide +kernel
theorem dX8_redo_92 : decode cX8_redo 92 = .ok (.i2l, 1) := by decide +kernel
theorem dX8_redo_93 : decode cX8_redo 93 = .ok (.lreturn, 1) := by decide +kernel
set_option maxHeartbeats 4000000 in
set_option maxRecDepth 100000 in
theorem tX8_redo (l : Launch) (G : Gg) (b0 : Nat) {K : Kk} {R : Rr} {M : Mm} {r : Nat} {res : Int64} {M' : Mm} (hm : mX8_redo K R M r = some (res, M')) : CT l G b0 yX8_redo cX8_redo 2 (some .long) (rmz 1 0) [.ref r] K R M (some (.long res)) K R M' := by
  refine ct_of (by decide +kernel) (Nat.le_of_ble_eq_true rfl) (fun w hq => ?_)
  have hw := hq.b
  change w 0 0 0 [(0, .ref r)] [] K R M
  replace hm := h_start hm
  unfold mX8_redo at hm
  obtain ⟨h1, m18⟩ := h_ck hm
  clear hm
  refine r_aload_n hw dX8_redo_0 0 rfl ?_
  refine r_getI hw fO_X8_110 h1 dX8_redo_1 ?_
  refine r_if_ne (tgt := 11) hw dX8_redo_4 (by decide) (fun c2 => ?_) (fun c2 => ?_)
  · have m19 := h_if_f c2 m18
    clear m18
    refine r_aload_n hw dX8_redo_11 0 rfl ?_
    refine r_dup hw dX8_redo_12 rfl ?_
    refine r_getI hw fO_X8_110 h1 dX8_redo_13 ?_
    refine r_iconst (v := 1) hw dX8_redo_16 rfl ?_
    refine r_isub hw dX8_redo_17 ?_
    obtain ⟨M3, eM3, m20⟩ := h_nm m19
    clear m19
    refine r_putI hw fP_X8_110 h1 dX8_redo_18 (r_mem ?_ rfl eM3)
    refine r_iconst (v := 0) hw dX8_redo_21 rfl ?_
    obtain ⟨i4, ei4, m21⟩ := h_nm m20
    clear m20
    refine r_topI (w := w) ei4 ?_
    refine r_istore_n hw dX8_redo_22 rfl (by decide) rfl ?_
    refine r_sub hw [1, 0] rfl ?_
    obtain ⟨v23, n023, hn23, hv23⟩ := h_lp m21
    clear m21
    have L23 : ∀ n : Nat, ∀ (i5 : Int32) (M6 : Mm), it (mX8_redo_L23 K R r) n (i5, M6) = some v23 → w 0 0 23 [(0, .ref r), (1, .int i5)] [] K R M6 := by
      intro n23
      induction n23 with
      | zero => intro i5 M6 hz; exact absurd hz h_it0
      | succ n23 ih23 =>
        intro i5 M6 m22
        replace m22 : (mX8_redo_B23 K R r i5 M6).bind (Sum.elim (it (mX8_redo_L23 K R r) n23) some) = some v23 := m22
        unfold mX8_redo_B23 at m22
        refine r_iload_n hw dX8_redo_23 1 rfl ?_
        refine r_sipush (v := 1481) hw dX8_redo_24 rfl ?_
        refine r_icmp_ge (tgt := 78) hw dX8_redo_27 (by decide) (fun c7 => ?_) (fun c7 => ?_)
        · have m23 := h_if_f c7 m22
          clear m22
          have m24 := h_ex m23 hv23
          clear m23
          refine r_aload_n hw dX8_redo_78 0 rfl ?_
          refine r_dup hw dX8_redo_79 rfl ?_
          refine r_getI hw fO_X8_107 h1 dX8_redo_80 ?_
          refine r_iconst (v := 1) hw dX8_redo_83 rfl ?_
          refine r_iadd hw dX8_redo_84 ?_
          obtain ⟨M8, eM8, m25⟩ := h_nm m24
          clear m24
          refine r_putI hw fP_X8_107 h1 dX8_redo_85 (r_mem ?_ rfl eM8)
          refine r_aload_n hw dX8_redo_88 0 rfl ?_
          refine r_getI hw fO_X8_110 h1 dX8_redo_89 ?_
          refine r_i2l hw dX8_redo_92 ?_
          cases h_ret m25
          exact r_lreturn hq rfl rfl dX8_redo_93
        · have m26 := h_if_t c7 m22
          clear m22
          refine r_aload_n hw dX8_redo_30 0 rfl ?_
          obtain ⟨q9, bq9, m27⟩ := h_bd m26
          clear m26
          refine r_getR hw fO_X8_13 h1 bq9 dX8_redo_31 ?_
          refine r_sipush (v := 1481) hw dX8_redo_34 rfl ?_
          refine r_aload_n hw dX8_redo_37 0 rfl ?_
          refine r_getI hw fO_X8_107 h1 dX8_redo_38 ?_
          refine r_imul hw dX8_redo_41 ?_
          refine r_iload_n hw dX8_redo_42 1 rfl ?_
          refine r_iadd hw dX8_redo_43 ?_
          refine r_aload_n hw dX8_redo_44 0 rfl ?_
          obtain ⟨q10, bq10, m28⟩ := h_bd m27
          clear m27
          refine r_getR hw fO_X8_7 h1 bq10 dX8_redo_45 ?_
          refine r_iload_n hw dX8_redo_48 1 rfl ?_
          obtain ⟨h11, m29⟩ := h_ck m28
          clear m28
          refine r_laload hw h11 dX8_redo_49 ?_
          obtain ⟨h12, m30⟩ := h_ck m29
          clear m29
          obtain ⟨M13, eM13, m31⟩ := h_nm m30
          clear m30
          refine r_lastore hw h12 dX8_redo_50 (r_mem ?_ rfl eM13)
          refine r_aload_n hw dX8_redo_51 0 rfl ?_
          refine r_getR hw fO_X8_7 h1 bq10 dX8_redo_52 ?_
          refine r_iload_n hw dX8_redo_55 1 rfl ?_
          refine r_aload_n hw dX8_redo_56 0 rfl ?_
          obtain ⟨q14, bq14, m32⟩ := h_bd m31
          clear m31
          refine r_getR hw fO_X8_16 h1 bq14 dX8_redo_57 ?_
          refine r_sipush (v := 1481) hw dX8_redo_60 rfl ?_
          refine r_aload_n hw dX8_redo_63 0 rfl ?_
          refine r_getI hw fO_X8_110 h1 dX8_redo_64 ?_
          refine r_imul hw dX8_redo_67 ?_
          refine r_iload_n hw dX8_redo_68 1 rfl ?_
          refine r_iadd hw dX8_redo_69 ?_
          obtain ⟨h15, m33⟩ := h_ck m32
          clear m32
          refine r_laload hw h15 dX8_redo_70 ?_
          obtain ⟨M16, eM16, m34⟩ := h_nm m33
          clear m33
          refine r_lastore hw h11 dX8_redo_71 (r_mem ?_ rfl eM16)
          obtain ⟨i17, ei17, m35⟩ := h_nm m34
          clear m34
          refine r_iinc (j := 1) (v := i17) hw dX8_redo_72 rfl (by rw [ei17]; rfl) (by decide) rfl ?_
          refine r_goto (tgt := 23) hw dX8_redo_75 (by decide) ?_
          refine r_sub hw [1, 0] rfl ?_
          exact ih23 _ _ m35
    exact L23 n023 _ _ hn23
  · have m36 := h_if_t c2 m18
    clear m18
    refine r_ldc2 (v := (-9000000000000000002)) hw dX8_redo_7 kW_X8_113 ?_
    cases h_ret m36
    exact r_lreturn hq rfl rfl dX8_redo_10
theorem dX8_side_0 : decode cX8_side 0 = .ok (.lload 4, 2) := by decide +kernel
theorem dX8_side_2 : decode cX8_side 2 = .ok (.lload_n 0, 1) := by decide +kernel
theorem dX8_side_3 : decode cX8_side 3 = .ok (.lsub, 1) := by decide +kernel
theorem dX8_side_4 : decode cX8_side 4 = .ok (.lload 10, 2) := by decide +kernel
theorem dX8_side_6 : decode cX8_side 6 = .ok (.lload_n 2, 1) := by decide +kernel
theorem dX8_side_7 : decode cX8_side 7 = .ok (.lsub, 1) := by decide +kernel
theorem dX8_side_8 : decode cX8_side 8 = .ok (.lmul, 1) := by decide +kernel
theorem dX8_side_9 : decode cX8_side 9 = .ok (.lload 6, 2) := by decide +kernel
theorem dX8_side_11 : decode cX8_side 11 = .ok (.lload_n 2, 1) := by decide +kernel
theorem dX8_side_12 : decode cX8_side 12 = .ok (.lsub, 1) := by decide +kernel
theorem dX8_side_13 : decode cX8_side 13 = .ok (.lload 8, 2) := by decide +kernel
theorem dX8_side_15 : decode cX8_side 15 = .ok (.lload_n 0, 1) := by decide +kernel
theorem dX8_side_16 : decode cX8_side 16 = .ok (.lsub, 1) := by decide +kernel
theorem dX8_side_17 : decode cX8_side 17 = .ok (.lmul, 1) := by decide +kernel
theorem dX8_side_18 : decode cX8_side 18 = .ok (.lsub, 1) := by decide +kernel
theorem dX8_side_19 : decode cX8_side 19 = .ok (.lreturn, 1) := by decide +kernel
set_option maxHeartbeats 4000000 in
set_option maxRecDepth 100000 in
theorem tX8_side (l : Launch) (G : Gg) (b0 : Nat) {K : Kk} {R : Rr} {M : Mm} {a0 : Int64} {a1 : Int64} {a2 : Int64} {a3 : Int64} {a4 : Int64} {a5 : Int64} {res : Int64} (hm : mX8_side K R M a0 a1 a2 a3 a4 a5 = some (res)) : CT l G b0 yX8_side cX8_side 12 (some .long) (rmz 1 0) [.long a0, .long a1, .long a2, .long a3, .long a4, .long a5] K R M (some (.long res)) K R M := by
  refine ct_of (by decide +kernel) (Nat.le_of_ble_eq_true rfl) (fun w hq => ?_)
  have hw := hq.b
  change w 0 0 0 [(0, .long a0), (2, .long a1), (4, .long a2), (6, .long a3), (8, .long a4), (10, .long a5)] [] K R M
  replace hm := h_start hm
  unfold mX8_side at hm
  refine r_lload hw dX8_side_0 2 rfl ?_
  refine r_lload_n hw dX8_side_2 0 rfl ?_
  refine r_lsub hw dX8_side_3 ?_
  refine r_lload hw dX8_side_4 5 rfl ?_
  refine r_lload_n hw dX8_side_6 1 rfl ?_
  refine r_lsub hw dX8_side_7 ?_
  refine r_lmul hw dX8_side_8 ?_
  refine r_lload hw dX8_side_9 3 rfl ?_
  refine r_lload_n hw dX8_side_11 1 rfl ?_
  refine r_lsub hw dX8_side_12 ?_
  refine r_lload hw dX8_side_13 4 rfl ?_
  refine r_lload_n hw dX8_side_15 0 rfl ?_
  refine r_lsub hw dX8_side_16 ?_
  refine r_lmul hw dX8_side_17 ?_
  refine r_lsub hw dX8_side_18 ?_
  cases h_ret hm
  exact r_lreturn hq rfl rfl dX8_side_19
theorem dX8_point_0 : decode cX8_point 0 = .ok (.aload_n 0, 1) := by decide +kernel
theorem dX8_point_1 : decode cX8_point 1 = .ok (.getfield 54, 3) := by decide +kernel
theorem dX8_point_4 : decode cX8_point 4 = .ok (.aload_n 0, 1) := by decide +kernel
theorem dX8_point_5 : decode cX8_point 5 = .ok (.getfield 115, 3) := by decide +kernel
theorem dX8_point_8 : decode cX8_point 8 = .ok (.lload_n 1, 1) := by decide +kernel
theorem dX8_point_9 : decode cX8_point 9 = .ok (.lastore, 1) := by decide +kernel
theorem dX8_point_10 : decode cX8_point 10 = .ok (.aload_n 0, 1) := by decide +kernel
theorem dX8_point_11 : decode cX8_point 11 = .ok (.getfield 57, 3) := by decide +kernel
theorem dX8_point_14 : decode cX8_point 14 = .ok (.aload_n 0, 1) := by decide +kernel
theorem dX8_point_15 : decode cX8_point 15 = .ok (.getfield 115, 3) := by decide +kernel
theorem dX8_point_18 : decode cX8_point 18 = .ok (.lload_n 3, 1) := by decide +kernel
theorem dX8_point_19 : decode cX8_point 19 = .ok (.lastore, 1) := by decide +kernel
theorem dX8_point_20 : decode cX8_point 20 = .ok (.aload_n 0, 1) := by decide +kernel
theorem dX8_point_21 : decode cX8_point 21 = .ok (.dup, 1) := by decide +kernel
theorem dX8_point_22 : decode cX8_point 22 = .ok (.getfield 115, 3) := by decide +kernel
theorem dX8_point_25 : decode cX8_point 25 = .ok (.iconst 1, 1) := by decide +kernel
theorem dX8_point_26 : decode cX8_point 26 = .ok (.iadd, 1) := by decide +kernel
theorem dX8_point_27 : decode cX8_point 27 = .ok (.putfield 115, 3) := by decide +kernel
theorem dX8_point_30 : decode cX8_point 30 = .ok (.return_, 1) := by decide +kernel
set_option maxHeartbeats 4000000 in
set_option maxRecDepth 100000 in
theorem tX8_point (l : Launch) (G : Gg) (b0 : Nat) {K : Kk} {R : Rr} {M : Mm} {r : Nat} {a0 : Int64} {a1 : Int64} {M' : Mm} (hm : mX8_point K R M r a0 a1 = some (M')) : CT l G b0 yX8_point cX8_point 5 none (rmz 1 0) [.ref r, .long a0, .long a1] K R M none K R M' := by
  refine ct_of (by decide +kernel) (Nat.le_of_ble_eq_true rfl) (fun w hq => ?_)
  have hw := hq.b
  change w 0 0 0 [(0, .ref r), (1, .long a0), (3, .long a1)] [] K R M
  replace hm := h_start hm
  unfold mX8_point at hm
  obtain ⟨h1, m9⟩ := h_ck hm
  clear hm
  refine r_aload_n hw dX8_point_0 0 rfl ?_
  obtain ⟨q2, bq2, m10⟩ := h_bd m9
  clear m9
  refine r_getR hw fO_X8_54 h1 bq2 dX8_point_1 ?_
  refine r_aload_n hw dX8_point_4 0 rfl ?_
  refine r_getI hw fO_X8_115 h1 dX8_point_5 ?_
  refine r_lload_n hw dX8_point_8 1 rfl ?_
  obtain ⟨h3, m11⟩ := h_ck m10
  clear m10
  obtain ⟨M4, eM4, m12⟩ := h_nm m11
  clear m11
  refine r_lastore hw h3 dX8_point_9 (r_mem ?_ rfl eM4)
  refine r_aload_n hw dX8_point_10 0 rfl ?_
  obtain ⟨q5, bq5, m13⟩ := h_bd m12
  clear m12
  refine r_getR hw fO_X8_57 h1 bq5 dX8_point_11 ?_
  refine r_aload_n hw dX8_point_14 0 rfl ?_
  refine r_getI hw fO_X8_115 h1 dX8_point_15 ?_
  refine r_lload_n hw dX8_point_18 2 rfl ?_
  obtain ⟨h6, m14⟩ := h_ck m13
  clear m13
  obtain ⟨M7, eM7, m15⟩ := h_nm m14
  clear m14
  refine r_lastore hw h6 dX8_point_19 (r_mem ?_ rfl eM7)
  refine r_aload_n hw dX8_point_20 0 rfl ?_
  refine r_dup hw dX8_point_21 rfl ?_
  refine r_getI hw fO_X8_115 h1 dX8_point_22 ?_
  refine r_iconst (v := 1) hw dX8_point_25 rfl ?_
  refine r_iadd hw dX8_point_26 ?_
  obtain ⟨M8, eM8, m16⟩ := h_nm m15
  clear m15
  refine r_putI hw fP_X8_115 h1 dX8_point_27 (r_mem ?_ rfl eM8)
  cases h_ret m16
  exact r_return hq rfl rfl dX8_point_30
theorem dX8_leastPoint_0 : decode cX8_leastPoint 0 = .ok (.iconst 0, 1) := by decide +kernel
theorem dX8_leastPoint_1 : decode cX8_leastPoint 1 = .ok (.istore_n 1, 1) := by decide +kernel
theorem dX8_leastPoint_2 : decode cX8_leastPoint 2 = .ok (.iconst 1, 1) := by decide +kernel
theorem dX8_leastPoint_3 : decode cX8_leastPoint 3 = .ok (.istore_n 2, 1) := by decide +kernel
theorem dX8_leastPoint_4 : decode cX8_leastPoint 4 = .ok (.iload_n 2, 1) := by decide +kernel
theorem dX8_leastPoint_5 : decode cX8_leastPoint 5 = .ok (.aload_n 0, 1) := by decide +kernel
theorem dX8_leastPoint_6 : decode cX8_leastPoint 6 = .ok (.getfield 115, 3) := by decide +kernel
theorem dX8_leastPoint_9 : decode cX8_leastPoint 9 = .ok (.if_icmp .ge 59, 3) := by decide +kernel
theorem dX8_leastPoint_12 : decode cX8_leastPoint 12 = .ok (.aload_n 0, 1) := by decide +kernel
theorem dX8_leastPoint_13 : decode cX8_leastPoint 13 = .ok (.getfield 54, 3) := by decide +kernel
theorem dX8_leastPoint_16 : decode cX8_leastPoint 16 = .ok (.iload_n 2, 1) := by decide +kernel
theorem dX8_leastPoint_17 : decode cX8_leastPoint 17 = .ok (.laload, 1) := by decide +kernel
theorem dX8_leastPoint_18 : decode cX8_leastPoint 18 = .ok (.aload_n 0, 1) := by decide +kernel
theorem dX8_leastPoint_19 : decode cX8_leastPoint 19 = .ok (.getfield 54, 3) := by decide +kernel
theorem dX8_leastPoint_22 : decode cX8_leastPoint 22 = .ok (.iload_n 1, 1) := by decide +kernel
theorem dX8_leastPoint_23 : decode cX8_leastPoint 23 = .ok (.laload, 1) := by decide +kernel
theorem dX8_leastPoint_24 : decode cX8_leastPoint 24 = .ok (.lcmp, 1) := by decide +kernel
theorem dX8_leastPoint_25 : decode cX8_leastPoint 25 = .ok (.ifCond .lt 35, 3) := by decide +kernel
theorem dX8_leastPoint_28 : decode cX8_leastPoint 28 = .ok (.aload_n 0, 1) := by decide +kernel
theorem dX8_leastPoint_29 : decode cX8_leastPoint 29 = .ok (.getfield 54, 3) := by decide +kernel
theorem dX8_leastPoint_32 : decode cX8_leastPoint 32 = .ok (.iload_n 2, 1) := by decide +kernel
theorem dX8_leastPoint_33 : decode cX8_leastPoint 33 = .ok (.laload, 1) := by decide +kernel
theorem dX8_leastPoint_34 : decode cX8_leastPoint 34 = .ok (.aload_n 0, 1) := by decide +kernel
theorem dX8_leastPoint_35 : decode cX8_leastPoint 35 = .ok (.getfield 54, 3) := by decide +kernel
theorem dX8_leastPoint_38 : decode cX8_leastPoint 38 = .ok (.iload_n 1, 1) := by decide +kernel
theorem dX8_leastPoint_39 : decode cX8_leastPoint 39 = .ok (.laload, 1) := by decide +kernel
theorem dX8_leastPoint_40 : decode cX8_leastPoint 40 = .ok (.lcmp, 1) := by decide +kernel
theorem dX8_leastPoint_41 : decode cX8_leastPoint 41 = .ok (.ifCond .ne 21, 3) := by decide +kernel
theorem dX8_leastPoint_44 : decode cX8_leastPoint 44 = .ok (.aload_n 0, 1) := by decide +kernel
theorem dX8_leastPoint_45 : decode cX8_leastPoint 45 = .ok (.getfield 57, 3) := by decide +kernel
theorem dX8_leastPoint_48 : decode cX8_leastPoint 48 = .ok (.iload_n 2, 1) := by decide +kernel
theorem dX8_leastPoint_49 : decode cX8_leastPoint 49 = .ok (.laload, 1) := by decide +kernel
theorem dX8_leastPoint_50 : decode cX8_leastPoint 50 = .ok (.aload_n 0, 1) := by decide +kernel
theorem dX8_leastPoint_51 : decode cX8_leastPoint 51 = .ok (.getfield 57, 3) := by decide +kernel
theorem dX8_leastPoint_54 : decode cX8_leastPoint 54 = .ok (.iload_n 1, 1) := by decide +kernel
theorem dX8_leastPoint_55 : decode cX8_leastPoint 55 = .ok (.laload, 1) := by decide +kernel
theorem dX8_leastPoint_56 : decode cX8_leastPoint 56 = .ok (.lcmp, 1) := by decide +kernel
theorem dX8_leastPoint_57 : decode cX8_leastPoint 57 = .ok (.ifCond .ge 5, 3) := by decide +kernel
theorem dX8_leastPoint_60 : decode cX8_leastPoint 60 = .ok (.iload_n 2, 1) := by decide +kernel
theorem dX8_leastPoint_61 : decode cX8_leastPoint 61 = .ok (.istore_n 1, 1) := by decide +kernel
theorem dX8_leastPoint_62 : decode cX8_leastPoint 62 = .ok (.iinc 2 1, 3) := by decide +kernel
theorem dX8_leastPoint_65 : decode cX8_leastPoint 65 = .ok (.goto (-61), 3) := by decide +kernel
theorem dX8_leastPoint_68 : decode cX8_leastPoint 68 = .ok (.iload_n 1, 1) := by decide +kernel
theorem dX8_leastPoint_69 : decode cX8_leastPoint 69 = .ok (.ireturn, 1) := by decide +kernel
set_option maxHeartbeats 4000000 in
set_option maxRecDepth 100000 in
theorem tX8_leastPoint (l : Launch) (G : Gg) (b0 : Nat) {K : Kk} {R : Rr} {M : Mm} {r : Nat} {res : Int32} (hm : mX8_leastPoint K R M r = some (res)) : CT l G b0 yX8_leastPoint cX8_leastPoint 3 (some .int) (rmz 1 0) [.ref r] K R M (some (.int res)) K R M := by
  refine ct_of (by decide +kernel) (Nat.le_of_ble_eq_true rfl) (fun w hq => ?_)
  have hw := hq.b
  change w 0 0 0 [(0, .ref r)] [] K R M
  replace hm := h_start hm
  unfold mX8_leastPoint at hm
  obtain ⟨h1, m20⟩ := h_ck hm
  clear hm
  refine r_iconst (v := 0) hw dX8_leastPoint_0 rfl ?_
  obtain ⟨i2, ei2, m21⟩ := h_nm m20
  clear m20
  refine r_topI (w := w) ei2 ?_
  refine r_istore_n hw dX8_leastPoint_1 rfl (by decide) rfl ?_
  refine r_iconst (v := 1) hw dX8_leastPoint_2 rfl ?_
  obtain ⟨i3, ei3, m22⟩ := h_nm m21
  clear m21
  refine r_topI (w := w) ei3 ?_
  refine r_istore_n hw dX8_leastPoint_3 rfl (by decide) rfl ?_
  refine r_sub hw [2, 1, 0] rfl ?_
  obtain ⟨v4, n04, hn4, hv4⟩ := h_lp m22
  clear m22
  have L4 : ∀ n : Nat, ∀ (i4 : Int32) (i5 : Int32), it (mX8_leastPoint_L4 K R M r) n (i4, i5) = some v4 → w 0 0 4 [(0, .ref r), (1, .int i4), (2, .int i5)] [] K R M := by
    intro n4
    induction n4 with
    | zero => intro i4 i5 hz; exact absurd hz h_it0
    | succ n4 ih4 =>
      intro i4 i5 m23
      replace m23 : (mX8_leastPoint_B4 K R M r i4 i5).bind (Sum.elim (it (mX8_leastPoint_L4 K R M r) n4) some) = some v4 := m23
      unfold mX8_leastPoint_B4 at m23
      have J62 : ∀ (i6 : Int32) (i7 : Int32), (mX8_leastPoint_J62 K R M r i6 i7).bind (Sum.elim (it (mX8_leastPoint_L4 K R M r) n4) some) = some v4 → w 0 0 62 [(0, .ref r), (1, .int i6), (2, .int i7)] [] K R M := by
        intro i6 i7 m24
        unfold mX8_leastPoint_J62 at m24
        obtain ⟨i8, ei8, m25⟩ := h_nm m24
        clear m24
        refine r_iinc (j := 2) (v := i8) hw dX8_leastPoint_62 rfl (by rw [ei8]; rfl) (by decide) rfl ?_
        refine r_goto (tgt := 4) hw dX8_leastPoint_65 (by decide) ?_
        refine r_sub hw [1, 2, 0] rfl ?_
        exact ih4 _ _ m25
      have J60 : ∀ (i9 : Int32), (mX8_leastPoint_J60 K R M r i9).bind (Sum.elim (it (mX8_leastPoint_L4 K R M r) n4) some) = some v4 → w 0 0 60 [(0, .ref r), (2, .int i9)] [] K R M := by
        intro i9 m26
        unfold mX8_leastPoint_J60 at m26
        refine r_iload_n hw dX8_leastPoint_60 1 rfl ?_
        refine r_istore_n hw dX8_leastPoint_61 rfl (by decide) rfl ?_
        refine r_sub hw [1, 0, 2] rfl ?_
        exact J62 _ _ m26
      refine r_iload_n hw dX8_leastPoint_4 2 rfl ?_
      refine r_aload_n hw dX8_leastPoint_5 0 rfl ?_
      refine r_getI hw fO_X8_115 h1 dX8_leastPoint_6 ?_
      refine r_icmp_ge (tgt := 68) hw dX8_leastPoint_9 (by decide) (fun c10 => ?_) (fun c10 => ?_)
      · have m27 := h_if_f c10 m23
        clear m23
        have m28 := h_ex m27 hv4
        clear m27
        refine r_iload_n hw dX8_leastPoint_68 1 rfl ?_
        cases h_ret m28
        exact r_ireturn hq rfl rfl dX8_leastPoint_69
      · have m29 := h_if_t c10 m23
        clear m23
        refine r_aload_n hw dX8_leastPoint_12 0 rfl ?_
        obtain ⟨q11, bq11, m30⟩ := h_bd m29
        clear m29
        refine r_getR hw fO_X8_54 h1 bq11 dX8_leastPoint_13 ?_
        refine r_iload_n hw dX8_leastPoint_16 2 rfl ?_
        obtain ⟨h12, m31⟩ := h_ck m30
        clear m30
        refine r_laload hw h12 dX8_leastPoint_17 ?_
        refine r_aload_n hw dX8_leastPoint_18 0 rfl ?_
        refine r_getR hw fO_X8_54 h1 bq11 dX8_leastPoint_19 ?_
        refine r_iload_n hw dX8_leastPoint_22 1 rfl ?_
        obtain ⟨h13, m32⟩ := h_ck m31
        clear m31
        refine r_laload hw h13 dX8_leastPoint_23 ?_
        refine r_lcmp_lt (tgt := 60) hw dX8_leastPoint_24 dX8_leastPoint_25 (by decide) (fun c14 => ?_) (fun c14 => ?_)
        · have m33 := h_if_t c14 m32
          clear m32
          refine r_sub hw [0, 2] rfl ?_
          exact J60 _ m33
        · have m34 := h_if_f c14 m32
          clear m32
          refine r_aload_n hw dX8_leastPoint_28 0 rfl ?_
          refine r_getR hw fO_X8_54 h1 bq11 dX8_leastPoint_29 ?_
          refine r_iload_n hw dX8_leastPoint_32 2 rfl ?_
          refine r_laload hw h12 dX8_leastPoint_33 ?_
          refine r_aload_n hw dX8_leastPoint_34 0 rfl ?_
          refine r_getR hw fO_X8_54 h1 bq11 dX8_leastPoint_35 ?_
          refine r_iload_n hw dX8_leastPoint_38 1 rfl ?_
          refine r_laload hw h13 dX8_leastPoint_39 ?_
          refine r_lcmp_ne (tgt := 62) hw dX8_leastPoint_40 dX8_leastPoint_41 (by decide) (fun c15 => ?_) (fun c15 => ?_)
          · have m35 := h_if_f c15 m34
            clear m34
            exact J62 _ _ m35
          · have m36 := h_if_t c15 m34
            clear m34
            refine r_aload_n hw dX8_leastPoint_44 0 rfl ?_
            obtain ⟨q16, bq16, m37⟩ := h_bd m36
            clear m36
            refine r_getR hw fO_X8_57 h1 bq16 dX8_leastPoint_45 ?_
            refine r_iload_n hw dX8_leastPoint_48 2 rfl ?_
            obtain ⟨h17, m38⟩ := h_ck m37
            clear m37
            refine r_laload hw h17 dX8_leastPoint_49 ?_
            refine r_aload_n hw dX8_leastPoint_50 0 rfl ?_
            refine r_getR hw fO_X8_57 h1 bq16 dX8_leastPoint_51 ?_
            refine r_iload_n hw dX8_leastPoint_54 1 rfl ?_
            obtain ⟨h18, m39⟩ := h_ck m38
            clear m38
            refine r_laload hw h18 dX8_leastPoint_55 ?_
            refine r_lcmp_ge (tgt := 62) hw dX8_leastPoint_56 dX8_leastPoint_57 (by decide) (fun c19 => ?_) (fun c19 => ?_)
            · have m40 := h_if_f c19 m39
              clear m39
              exact J62 _ _ m40
            · have m41 := h_if_t c19 m39
              clear m39
              refine r_sub hw [0, 2] rfl ?_
              exact J60 _ m41
  exact L4 n04 _ _ hn4
theorem dX8_isOuter_0 : decode cX8_isOuter 0 = .ok (.aload_n 0, 1) := by decide +kernel
theorem dX8_isOuter_1 : decode cX8_isOuter 1 = .ok (.getfield 54, 3) := by decide +kernel
theorem dX8_isOuter_4 : decode cX8_isOuter 4 = .ok (.iload_n 1, 1) := by decide +kernel
theorem dX8_isOuter_5 : decode cX8_isOuter 5 = .ok (.laload, 1) := by decide +kernel
theorem dX8_isOuter_6 : decode cX8_isOuter 6 = .ok (.aload_n 0, 1) := by decide +kernel
theorem dX8_isOuter_7 : decode cX8_isOuter 7 = .ok (.getfield 57, 3) := by decide +kernel
theorem dX8_isOuter_10 : decode cX8_isOuter 10 = .ok (.iload_n 1, 1) := by decide +kernel
theorem dX8_isOuter_11 : decode cX8_isOuter 11 = .ok (.laload, 1) := by decide +kernel
theorem dX8_isOuter_12 : decode cX8_isOuter 12 = .ok (.aload_n 0, 1) := by decide +kernel
theorem dX8_isOuter_13 : decode cX8_isOuter 13 = .ok (.getfield 54, 3) := by decide +kernel
theorem dX8_isOuter_16 : decode cX8_isOuter 16 = .ok (.iload_n 2, 1) := by decide +kernel
theorem dX8_isOuter_17 : decode cX8_isOuter 17 = .ok (.laload, 1) := by decide +kernel
theorem dX8_isOuter_18 : decode cX8_isOuter 18 = .ok (.aload_n 0, 1) := by decide +kernel
theorem dX8_isOuter_19 : decode cX8_isOuter 19 = .ok (.getfield 57, 3) := by decide +kernel
theorem dX8_isOuter_22 : decode cX8_isOuter 22 = .ok (.iload_n 2, 1) := by decide +kernel
theorem dX8_isOuter_23 : decode cX8_isOuter 23 = .ok (.laload, 1) := by decide +kernel
theorem dX8_isOuter_24 : decode cX8_isOuter 24 = .ok (.aload_n 0, 1) := by decide +kernel
theorem dX8_isOuter_25 : decode cX8_isOuter 25 = .ok (.getfield 54, 3) := by decide +kernel
theorem dX8_isOuter_28 : decode cX8_isOuter 28 = .ok (.iload_n 3, 1) := by decide +kernel
theorem dX8_isOuter_29 : decode cX8_isOuter 29 = .ok (.laload, 1) := by decide +kernel
theorem dX8_isOuter_30 : decode cX8_isOuter 30 = .ok (.aload_n 0, 1) := by decide +kernel
theorem dX8_isOuter_31 : decode cX8_isOuter 31 = .ok (.getfield 57, 3) := by decide +kernel
theorem dX8_isOuter_34 : decode cX8_isOuter 34 = .ok (.iload_n 3, 1) := by decide +kernel
theorem dX8_isOuter_35 : decode cX8_isOuter 35 = .ok (.laload, 1) := by decide +kernel
theorem dX8_isOuter_36 : decode cX8_isOuter 36 = .ok (.invokestatic 128, 3) := by decide +kernel
theorem dX8_isOuter_39 : decode cX8_isOuter 39 = .ok (.lstore 4, 2) := by decide +kernel
theorem dX8_isOuter_41 : decode cX8_isOuter 41 = .ok (.lload 4, 2) := by decide +kernel
theorem dX8_isOuter_43 : decode cX8_isOuter 43 = .ok (.lconst 0, 1) := by decide +kernel
theorem dX8_isOuter_44 : decode cX8_isOuter 44 = .ok (.lcmp, 1) := by decide +kernel
theorem dX8_isOuter_45 : decode cX8_isOuter 45 = .ok (.ifCond .eq 16, 3) := by decide +kernel
theorem dX8_isOuter_48 : decode cX8_isOuter 48 = .ok (.lload 4, 2) := by decide +kernel
theorem dX8_isOuter_50 : decode cX8_isOuter 50 = .ok (.lconst 0, 1) := by decide +kernel
theorem dX8_isOuter_51 : decode cX8_isOuter 51 = .ok (.lcmp, 1) := by decide +kernel
theorem dX8_isOuter_52 : decode cX8_isOuter 52 = .ok (.ifCond .ge 7, 3) := by decide +kernel
theorem dX8_isOuter_55 : decode cX8_isOuter 55 = .ok (.iconst 1, 1) := by decide +kernel
theorem dX8_isOuter_56 : decode cX8_isOuter 56 = .ok (.goto 4, 3) := by decide +kernel
theorem dX8_isOuter_59 : decode cX8_isOuter 59 = .ok (.iconst 0, 1) := by decide +kernel
theorem dX8_isOuter_60 : decode cX8_isOuter 60 = .ok (.ireturn, 1) := by decide +kernel
theorem dX8_isOuter_61 : decode cX8_isOuter 61 = .ok (.aload_n 0, 1) := by decide +kernel
theorem dX8_isOuter_62 : decode cX8_isOuter 62 = .ok (.getfield 54, 3) := by decide +kernel
theorem dX8_isOuter_65 : decode cX8_isOuter 65 = .ok (.iload_n 2, 1) := by decide +kernel
theorem dX8_isOuter_66 : decode cX8_isOuter 66 = .ok (.laload, 1) := by decide +kernel
theorem dX8_isOuter_67 : decode cX8_isOuter 67 = .ok (.aload_n 0, 1) := by decide +kernel
theorem dX8_isOuter_68 : decode cX8_isOuter 68 = .ok (.getfield 54, 3) := by decide +kernel
theorem dX8_isOuter_71 : decode cX8_isOuter 71 = .ok (.iload_n 1, 1) := by decide +kernel
theorem dX8_isOuter_72 : decode cX8_isOuter 72 = .ok (.laload, 1) := by decide +kernel
theorem dX8_isOuter_73 : decode cX8_isOuter 73 = .ok (.lsub, 1) := by decide +kernel
theorem dX8_isOuter_74 : decode cX8_isOuter 74 = .ok (.aload_n 0, 1) := by decide +kernel
theorem dX8_isOuter_75 : decode cX8_isOuter 75 = .ok (.getfield 54, 3) := by decide +kernel
theorem dX8_isOuter_78 : decode cX8_isOuter 78 = .ok (.iload_n 2, 1) := by decide +kernel
theorem dX8_isOuter_79 : decode cX8_isOuter 79 = .ok (.laload, 1) := by decide +kernel
theorem dX8_isOuter_80 : decode cX8_isOuter 80 = .ok (.aload_n 0, 1) := by decide +kernel
theorem dX8_isOuter_81 : decode cX8_isOuter 81 = .ok (.getfield 54, 3) := by decide +kernel
theorem dX8_isOuter_84 : decode cX8_isOuter 84 = .ok (.iload_n 1, 1) := by decide +kernel
theorem dX8_isOuter_85 : decode cX8_isOuter 85 = .ok (.laload, 1) := by decide +kernel
theorem dX8_isOuter_86 : decode cX8_isOuter 86 = .ok (.lsub, 1) := by decide +kernel
theorem dX8_isOuter_87 : decode cX8_isOuter 87 = .ok (.lmul, 1) := by decide +kernel
theorem dX8_isOuter_88 : decode cX8_isOuter 88 = .ok (.aload_n 0, 1) := by decide +kernel
theorem dX8_isOuter_89 : decode cX8_isOuter 89 = .ok (.getfield 57, 3) := by decide +kernel
theorem dX8_isOuter_92 : decode cX8_isOuter 92 = .ok (.iload_n 2, 1) := by decide +kernel
theorem dX8_isOuter_93 : decode cX8_isOuter 93 = .ok (.laload, 1) := by decide +kernel
theorem dX8_isOuter_94 : decode cX8_isOuter 94 = .ok (.aload_n 0, 1) := by decide +kernel
theorem dX8_isOuter_95 : decode cX8_isOuter 95 = .ok (.getfield 57, 3) := by decide +kernel
theorem dX8_isOuter_98 : decode cX8_isOuter 98 = .ok (.iload_n 1, 1) := by decide +kernel
theorem dX8_isOuter_99 : decode cX8_isOuter 99 = .ok (.laload, 1) := by decide +kernel
theorem dX8_isOuter_100 : decode cX8_isOuter 100 = .ok (.lsub, 1) := by decide +kernel
theorem dX8_isOuter_101 : decode cX8_isOuter 101 = .ok (.aload_n 0, 1) := by decide +kernel
theorem dX8_isOuter_102 : decode cX8_isOuter 102 = .ok (.getfield 57, 3) := by decide +kernel
theorem dX8_isOuter_105 : decode cX8_isOuter 105 = .ok (.iload_n 2, 1) := by decide +kernel
theorem dX8_isOuter_106 : decode cX8_isOuter 106 = .ok (.laload, 1) := by decide +kernel
theorem dX8_isOuter_107 : decode cX8_isOuter 107 = .ok (.aload_n 0, 1) := by decide +kernel
theorem dX8_isOuter_108 : decode cX8_isOuter 108 = .ok (.getfield 57, 3) := by decide +kernel
theorem dX8_isOuter_111 : decode cX8_isOuter 111 = .ok (.iload_n 1, 1) := by decide +kernel
theorem dX8_isOuter_112 : decode cX8_isOuter 112 = .ok (.laload, 1) := by decide +kernel
theorem dX8_isOuter_113 : decode cX8_isOuter 113 = .ok (.lsub, 1) := by decide +kernel
theorem dX8_isOuter_114 : decode cX8_isOuter 114 = .ok (.lmul, 1) := by decide +kernel
theorem dX8_isOuter_115 : decode cX8_isOuter 115 = .ok (.ladd, 1) := by decide +kernel
theorem dX8_isOuter_116 : decode cX8_isOuter 116 = .ok (.lstore 6, 2) := by decide +kernel
theorem dX8_isOuter_118 : decode cX8_isOuter 118 = .ok (.aload_n 0, 1) := by decide +kernel
theorem dX8_isOuter_119 : decode cX8_isOuter 119 = .ok (.getfield 54, 3) := by decide +kernel
theorem dX8_isOuter_122 : decode cX8_isOuter 122 = .ok (.iload_n 3, 1) := by decide +kernel
theorem dX8_isOuter_123 : decode cX8_isOuter 123 = .ok (.laload, 1) := by decide +kernel
theorem dX8_isOuter_124 : decode cX8_isOuter 124 = .ok (.aload_n 0, 1) := by decide +kernel
theorem dX8_isOuter_125 : decode cX8_isOuter 125 = .ok (.getfield 54, 3) := by decide +kernel
theorem dX8_isOuter_128 : decode cX8_isOuter 128 = .ok (.iload_n 1, 1) := by decide +kernel
theorem dX8_isOuter_129 : decode cX8_isOuter 129 = .ok (.laload, 1) := by decide +kernel
theorem dX8_isOuter_130 : decode cX8_isOuter 130 = .ok (.lsub, 1) := by decide +kernel
theorem dX8_isOuter_131 : decode cX8_isOuter 131 = .ok (.aload_n 0, 1) := by decide +kernel
theorem dX8_isOuter_132 : decode cX8_isOuter 132 = .ok (.getfield 54, 3) := by decide +kernel
theorem dX8_isOuter_135 : decode cX8_isOuter 135 = .ok (.iload_n 3, 1) := by decide +kernel
theorem dX8_isOuter_136 : decode cX8_isOuter 136 = .ok (.laload, 1) := by decide +kernel
theorem dX8_isOuter_137 : decode cX8_isOuter 137 = .ok (.aload_n 0, 1) := by decide +kernel
theorem dX8_isOuter_138 : decode cX8_isOuter 138 = .ok (.getfield 54, 3) := by decide +kernel
theorem dX8_isOuter_141 : decode cX8_isOuter 141 = .ok (.iload_n 1, 1) := by decide +kernel
theorem dX8_isOuter_142 : decode cX8_isOuter 142 = .ok (.laload, 1) := by decide +kernel
theorem dX8_isOuter_143 : decode cX8_isOuter 143 = .ok (.lsub, 1) := by decide +kernel
theorem dX8_isOuter_144 : decode cX8_isOuter 144 = .ok (.lmul, 1) := by decide +kernel
theorem dX8_isOuter_145 : decode cX8_isOuter 145 = .ok (.aload_n 0, 1) := by decide +kernel
theorem dX8_isOuter_146 : decode cX8_isOuter 146 = .ok (.getfield 57, 3) := by decide +kernel
theorem dX8_isOuter_149 : decode cX8_isOuter 149 = .ok (.iload_n 3, 1) := by decide +kernel
theorem dX8_isOuter_150 : decode cX8_isOuter 150 = .ok (.laload, 1) := by decide +kernel
theorem dX8_isOuter_151 : decode cX8_isOuter 151 = .ok (.aload_n 0, 1) := by decide +kernel
theorem dX8_isOuter_152 : decode cX8_isOuter 152 = .ok (.getfield 57, 3) := by decide +kernel
theorem dX8_isOuter_155 : decode cX8_isOuter 155 = .ok (.iload_n 1, 1) := by decide +kernel
theorem dX8_isOuter_156 : decode cX8_isOuter 156 = .ok (.laload, 1) := by decide +kernel
theorem dX8_isOuter_157 : decode cX8_isOuter 157 = .ok (.lsub, 1) := by decide +kernel
theorem dX8_isOuter_158 : decode cX8_isOuter 158 = .ok (.aload_n 0, 1) := by decide +kernel
theorem dX8_isOuter_159 : decode cX8_isOuter 159 = .ok (.getfield 57, 3) := by decide +kernel
theorem dX8_isOuter_162 : decode cX8_isOuter 162 = .ok (.iload_n 3, 1) := by decide +kernel
theorem dX8_isOuter_163 : decode cX8_isOuter 163 = .ok (.laload, 1) := by decide +kernel
theorem dX8_isOuter_164 : decode cX8_isOuter 164 = .ok (.aload_n 0, 1) := by decide +kernel
theorem dX8_isOuter_165 : decode cX8_isOuter 165 = .ok (.getfield 57, 3) := by decide +kernel
theorem dX8_isOuter_168 : decode cX8_isOuter 168 = .ok (.iload_n 1, 1) := by decide +kernel
theorem dX8_isOuter_169 : decode cX8_isOuter 169 = .ok (.laload, 1) := by decide +kernel
theorem dX8_isOuter_170 : decode cX8_isOuter 170 = .ok (.lsub, 1) := by decide +kernel
theorem dX8_isOuter_171 : decode cX8_isOuter 171 = .ok (.lmul, 1) := by decide +kernel
theorem dX8_isOuter_172 : decode cX8_isOuter 172 = .ok (.ladd, 1) := by decide +kernel
theorem dX8_isOuter_173 : decode cX8_isOuter 173 = .ok (.lstore 8, 2) := by decide +kernel
theorem dX8_isOuter_175 : decode cX8_isOuter 175 = .ok (.aload_n 0, 1) := by decide +kernel
theorem dX8_isOuter_176 : decode cX8_isOuter 176 = .ok (.getfield 54, 3) := by decide +kernel
theorem dX8_isOuter_179 : decode cX8_isOuter 179 = .ok (.iload_n 2, 1) := by decide +kernel
theorem dX8_isOuter_180 : decode cX8_isOuter 180 = .ok (.laload, 1) := by decide +kernel
theorem dX8_isOuter_181 : decode cX8_isOuter 181 = .ok (.aload_n 0, 1) := by decide +kernel
theorem dX8_isOuter_182 : decode cX8_isOuter 182 = .ok (.getfield 54, 3) := by decide +kernel
theorem dX8_isOuter_185 : decode cX8_isOuter 185 = .ok (.iload_n 1, 1) := by decide +kernel
theorem dX8_isOuter_186 : decode cX8_isOuter 186 = .ok (.laload, 1) := by decide +kernel
theorem dX8_isOuter_187 : decode cX8_isOuter 187 = .ok (.lsub, 1) := by decide +kernel
theorem dX8_isOuter_188 : decode cX8_isOuter 188 = .ok (.aload_n 0, 1) := by decide +kernel
theorem dX8_isOuter_189 : decode cX8_isOuter 189 = .ok (.getfield 54, 3) := by decide +kernel
theorem dX8_isOuter_192 : decode cX8_isOuter 192 = .ok (.iload_n 3, 1) := by decide +kernel
theorem dX8_isOuter_193 : decode cX8_isOuter 193 = .ok (.laload, 1) := by decide +kernel
theorem dX8_isOuter_194 : decode cX8_isOuter 194 = .ok (.aload_n 0, 1) := by decide +kernel
theorem dX8_isOuter_195 : decode cX8_isOuter 195 = .ok (.getfield 54, 3) := by decide +kernel
theorem dX8_isOuter_198 : decode cX8_isOuter 198 = .ok (.iload_n 1, 1) := by decide +kernel
theorem dX8_isOuter_199 : decode cX8_isOuter 199 = .ok (.laload, 1) := by decide +kernel
theorem dX8_isOuter_200 : decode cX8_isOuter 200 = .ok (.lsub, 1) := by decide +kernel
theorem dX8_isOuter_201 : decode cX8_isOuter 201 = .ok (.lmul, 1) := by decide +kernel
theorem dX8_isOuter_202 : decode cX8_isOuter 202 = .ok (.aload_n 0, 1) := by decide +kernel
theorem dX8_isOuter_203 : decode cX8_isOuter 203 = .ok (.getfield 57, 3) := by decide +kernel
theorem dX8_isOuter_206 : decode cX8_isOuter 206 = .ok (.iload_n 2, 1) := by decide +kernel
theorem dX8_isOuter_207 : decode cX8_isOuter 207 = .ok (.laload, 1) := by decide +kernel
theorem dX8_isOuter_208 : decode cX8_isOuter 208 = .ok (.aload_n 0, 1) := by decide +kernel
theorem dX8_isOuter_209 : decode cX8_isOuter 209 = .ok (.getfield 57, 3) := by decide +kernel
theorem dX8_isOuter_212 : decode cX8_isOuter 212 = .ok (.iload_n 1, 1) := by decide +kernel
theorem dX8_isOuter_213 : decode cX8_isOuter 213 = .ok (.laload, 1) := by decide +kernel
theorem dX8_isOuter_214 : decode cX8_isOuter 214 = .ok (.lsub, 1) := by decide +kernel
theorem dX8_isOuter_215 : decode cX8_isOuter 215 = .ok (.aload_n 0, 1) := by decide +kernel
theorem dX8_isOuter_216 : decode cX8_isOuter 216 = .ok (.getfield 57, 3) := by decide +kernel
theorem dX8_isOuter_219 : decode cX8_isOuter 219 = .ok (.iload_n 3, 1) := by decide +kernel
theorem dX8_isOuter_220 : decode cX8_isOuter 220 = .ok (.laload, 1) := by decide +kernel
theorem dX8_isOuter_221 : decode cX8_isOuter 221 = .ok (.aload_n 0, 1) := by decide +kernel
theorem dX8_isOuter_222 : decode cX8_isOuter 222 = .ok (.getfield 57, 3) := by decide +kernel
theorem dX8_isOuter_225 : decode cX8_isOuter 225 = .ok (.iload_n 1, 1) := by decide +kernel
theorem dX8_isOuter_226 : decode cX8_isOuter 226 = .ok (.laload, 1) := by decide +kernel
theorem dX8_isOuter_227 : decode cX8_isOuter 227 = .ok (.lsub, 1) := by decide +kernel
theorem dX8_isOuter_228 : decode cX8_isOuter 228 = .ok (.lmul, 1) := by decide +kernel
theorem dX8_isOuter_229 : decode cX8_isOuter 229 = .ok (.ladd, 1) := by decide +kernel
theorem dX8_isOuter_230 : decode cX8_isOuter 230 = .ok (.lconst 0, 1) := by decide +kernel
theorem dX8_isOuter_231 : decode cX8_isOuter 231 = .ok (.lcmp, 1) := by decide +kernel
theorem dX8_isOuter_232 : decode cX8_isOuter 232 = .ok (.ifCond .le 7, 3) := by decide +kernel
theorem dX8_isOuter_235 : decode cX8_isOuter 235 = .ok (.iconst 1, 1) := by decide +kernel
theorem dX8_isOuter_236 : decode cX8_isOuter 236 = .ok (.goto 4, 3) := by decide +kernel
theorem dX8_isOuter_239 : decode cX8_isOuter 239 = .ok (.iconst 0, 1) := by decide +kernel
theorem dX8_isOuter_240 : decode cX8_isOuter 240 = .ok (.istore 10, 2) := by decide +kernel
theorem dX8_isOuter_242 : decode cX8_isOuter 242 = .ok (.iload 10, 2) := by decide +kernel
theorem dX8_isOuter_244 : decode cX8_isOuter 244 = .ok (.ifCond .eq 15, 3) := by decide +kernel
theorem dX8_isOuter_247 : decode cX8_isOuter 247 = .ok (.lload 8, 2) := by decide +kernel
theorem dX8_isOuter_249 : decode cX8_isOuter 249 = .ok (.lload 6, 2) := by decide +kernel
theorem dX8_isOuter_251 : decode cX8_isOuter 251 = .ok (.lcmp, 1) := by decide +kernel
theorem dX8_isOuter_252 : decode cX8_isOuter 252 = .ok (.ifCond .le 7, 3) := by decide +kernel
theorem dX8_isOuter_255 : decode cX8_isOuter 255 = .ok (.iconst 1, 1) := by decide +kernel
theorem dX8_isOuter_256 : decode cX8_isOuter 256 = .ok (.goto 4, 3) := by decide +kernel
theorem dX8_isOuter_259 : decode cX8_isOuter 259 = .ok (.iconst 0, 1) := by decide +kernel
theorem dX8_isOuter_260 : decode cX8_isOuter 260 = .ok (.ireturn, 1) := by decide +kernel
set_option maxHeartbeats 4000000 in
set_option maxRecDepth 100000 in
theorem tX8_isOuter (l : Launch) (G : Gg) (b0 : Nat) {K : Kk} {R : Rr} {M : Mm} {r : Nat} {a0 : Int32} {a1 : Int32} {a2 : Int32} {res : Int32} (hm : mX8_isOuter K R M r a0 a1 a2 = some (res)) : CT l G b0 yX8_isOuter cX8_isOuter 11 (some .boolean) (rmz 2 31) [.ref r, .int a0, .int a1, .int a2] K R M (some (.int res)) K R M := by
  refine ct_of (by decide +kernel) (Nat.le_of_ble_eq_true rfl) (fun w hq => ?_)
  have hw := hq.b
  change w 0 0 0 [(0, .ref r), (1, .int a0), (2, .int a1), (3, .int a2)] [] K R M
  replace hm := h_start hm
  unfold mX8_isOuter at hm
  obtain ⟨h1, m21⟩ := h_ck hm
  clear hm
  have J240 : ∀ (l2 : Int64) (l3 : Int64) (s4 : Int32), (mX8_isOuter_J240 K R M l2 l3 s4).bind some = some (res) → w 0 0 240 [(6, .long l2), (8, .long l3)] [.int s4] K R M := by
    intro l2 l3 s4 m22
    unfold mX8_isOuter_J240 at m22
    refine r_istore hw dX8_isOuter_240 (by decide) rfl ?_
    refine r_iload hw dX8_isOuter_242 0 rfl ?_
    refine r_if_eq (tgt := 259) hw dX8_isOuter_244 (by decide) (fun c5 => ?_) (fun c5 => ?_)
    · have m23 := h_if_t c5 m22
      clear m22
      refine r_iconst (v := 0) hw dX8_isOuter_259 rfl ?_
      cases h_ret m23
      exact r_zreturn hq isB_0 rfl rfl dX8_isOuter_260
    · have m24 := h_if_f c5 m22
      clear m22
      refine r_lload hw dX8_isOuter_247 2 rfl ?_
      refine r_lload hw dX8_isOuter_249 1 rfl ?_
      refine r_lcmp_le (tgt := 259) hw dX8_isOuter_251 dX8_isOuter_252 (by decide) (fun c6 => ?_) (fun c6 => ?_)
      · have m25 := h_if_t c6 m24
        clear m24
        refine r_iconst (v := 0) hw dX8_isOuter_259 rfl ?_
        cases h_ret m25
        exact r_zreturn hq isB_0 rfl rfl dX8_isOuter_260
      · have m26 := h_if_f c6 m24
        clear m24
        refine r_iconst (v := 1) hw dX8_isOuter_255 rfl ?_
        refine r_goto (tgt := 260) hw dX8_isOuter_256 (by decide) ?_
        cases h_ret m26
        exact r_zreturn hq isB_1 rfl rfl dX8_isOuter_260
  refine r_aload_n hw dX8_isOuter_0 0 rfl ?_
  obtain ⟨q7, bq7, m27⟩ := h_bd m21
  clear m21
  refine r_getR hw fO_X8_54 h1 bq7 dX8_isOuter_1 ?_
  refine r_iload_n hw dX8_isOuter_4 1 rfl ?_
  obtain ⟨h8, m28⟩ := h_ck m27
  clear m27
  refine r_laload hw h8 dX8_isOuter_5 ?_
  refine r_aload_n hw dX8_isOuter_6 0 rfl ?_
  obtain ⟨q9, bq9, m29⟩ := h_bd m28
  clear m28
  refine r_getR hw fO_X8_57 h1 bq9 dX8_isOuter_7 ?_
  refine r_iload_n hw dX8_isOuter_10 1 rfl ?_
  obtain ⟨h10, m30⟩ := h_ck m29
  clear m29
  refine r_laload hw h10 dX8_isOuter_11 ?_
  refine r_aload_n hw dX8_isOuter_12 0 rfl ?_
  refine r_getR hw fO_X8_54 h1 bq7 dX8_isOuter_13 ?_
  refine r_iload_n hw dX8_isOuter_16 2 rfl ?_
  obtain ⟨h11, m31⟩ := h_ck m30
  clear m30
  refine r_laload hw h11 dX8_isOuter_17 ?_
  refine r_aload_n hw dX8_isOuter_18 0 rfl ?_
  refine r_getR hw fO_X8_57 h1 bq9 dX8_isOuter_19 ?_
  refine r_iload_n hw dX8_isOuter_22 2 rfl ?_
  obtain ⟨h12, m32⟩ := h_ck m31
  clear m31
  refine r_laload hw h12 dX8_isOuter_23 ?_
  refine r_aload_n hw dX8_isOuter_24 0 rfl ?_
  refine r_getR hw fO_X8_54 h1 bq7 dX8_isOuter_25 ?_
  refine r_iload_n hw dX8_isOuter_28 3 rfl ?_
  obtain ⟨h13, m33⟩ := h_ck m32
  clear m32
  refine r_laload hw h13 dX8_isOuter_29 ?_
  refine r_aload_n hw dX8_isOuter_30 0 rfl ?_
  refine r_getR hw fO_X8_57 h1 bq9 dX8_isOuter_31 ?_
  refine r_iload_n hw dX8_isOuter_34 3 rfl ?_
  obtain ⟨h14, m34⟩ := h_ck m33
  clear m33
  refine r_laload hw h14 dX8_isOuter_35 ?_
  obtain ⟨l15, g15, m35⟩ := h_bd m34
  clear m34
  refine r_callS1 hw (tX8_side l G b0 g15) lB_X8_side sT_X8_side mL_X8_128 rfl rfl (Nat.le_of_ble_eq_true rfl) (Nat.le_of_ble_eq_true rfl) rfl (Nat.le_of_ble_eq_true rfl) dX8_isOuter_36 ?_
  refine r_lstore hw dX8_isOuter_39 (by decide) rfl ?_
  refine r_lload hw dX8_isOuter_41 0 rfl ?_
  refine r_lconst (v := 0) hw dX8_isOuter_43 rfl ?_
  refine r_lcmp_eq (tgt := 61) hw dX8_isOuter_44 dX8_isOuter_45 (by decide) (fun c16 => ?_) (fun c16 => ?_)
  · have m36 := h_if_t c16 m35
    clear m35
    refine r_aload_n hw dX8_isOuter_61 1 rfl ?_
    refine r_getR hw fO_X8_54 h1 bq7 dX8_isOuter_62 ?_
    refine r_iload_n hw dX8_isOuter_65 3 rfl ?_
    refine r_laload hw h11 dX8_isOuter_66 ?_
    refine r_aload_n hw dX8_isOuter_67 1 rfl ?_
    refine r_getR hw fO_X8_54 h1 bq7 dX8_isOuter_68 ?_
    refine r_iload_n hw dX8_isOuter_71 2 rfl ?_
    refine r_laload hw h8 dX8_isOuter_72 ?_
    refine r_lsub hw dX8_isOuter_73 ?_
    refine r_aload_n hw dX8_isOuter_74 1 rfl ?_
    refine r_getR hw fO_X8_54 h1 bq7 dX8_isOuter_75 ?_
    refine r_iload_n hw dX8_isOuter_78 3 rfl ?_
    refine r_laload hw h11 dX8_isOuter_79 ?_
    refine r_aload_n hw dX8_isOuter_80 1 rfl ?_
    refine r_getR hw fO_X8_54 h1 bq7 dX8_isOuter_81 ?_
    refine r_iload_n hw dX8_isOuter_84 2 rfl ?_
    refine r_laload hw h8 dX8_isOuter_85 ?_
    refine r_lsub hw dX8_isOuter_86 ?_
    refine r_lmul hw dX8_isOuter_87 ?_
    refine r_aload_n hw dX8_isOuter_88 1 rfl ?_
    refine r_getR hw fO_X8_57 h1 bq9 dX8_isOuter_89 ?_
    refine r_iload_n hw dX8_isOuter_92 3 rfl ?_
    refine r_laload hw h12 dX8_isOuter_93 ?_
    refine r_aload_n hw dX8_isOuter_94 1 rfl ?_
    refine r_getR hw fO_X8_57 h1 bq9 dX8_isOuter_95 ?_
    refine r_iload_n hw dX8_isOuter_98 2 rfl ?_
    refine r_laload hw h10 dX8_isOuter_99 ?_
    refine r_lsub hw dX8_isOuter_100 ?_
    refine r_aload_n hw dX8_isOuter_101 1 rfl ?_
    refine r_getR hw fO_X8_57 h1 bq9 dX8_isOuter_102 ?_
    refine r_iload_n hw dX8_isOuter_105 3 rfl ?_
    refine r_laload hw h12 dX8_isOuter_106 ?_
    refine r_aload_n hw dX8_isOuter_107 1 rfl ?_
    refine r_getR hw fO_X8_57 h1 bq9 dX8_isOuter_108 ?_
    refine r_iload_n hw dX8_isOuter_111 2 rfl ?_
    refine r_laload hw h10 dX8_isOuter_112 ?_
    refine r_lsub hw dX8_isOuter_113 ?_
    refine r_lmul hw dX8_isOuter_114 ?_
    refine r_ladd hw dX8_isOuter_115 ?_
    obtain ⟨l17, el17, m37⟩ := h_nm m36
    clear m36
    refine r_topL (w := w) el17 ?_
    refine r_lstore hw dX8_isOuter_116 (by decide) rfl ?_
    refine r_aload_n hw dX8_isOuter_118 2 rfl ?_
    refine r_getR hw fO_X8_54 h1 bq7 dX8_isOuter_119 ?_
    refine r_iload_n hw dX8_isOuter_122 5 rfl ?_
    refine r_laload hw h13 dX8_isOuter_123 ?_
    refine r_aload_n hw dX8_isOuter_124 2 rfl ?_
    refine r_getR hw fO_X8_54 h1 bq7 dX8_isOuter_125 ?_
    refine r_iload_n hw dX8_isOuter_128 3 rfl ?_
    refine r_laload hw h8 dX8_isOuter_129 ?_
    refine r_lsub hw dX8_isOuter_130 ?_
    refine r_aload_n hw dX8_isOuter_131 2 rfl ?_
    refine r_getR hw fO_X8_54 h1 bq7 dX8_isOuter_132 ?_
    refine r_iload_n hw dX8_isOuter_135 5 rfl ?_
    refine r_laload hw h13 dX8_isOuter_136 ?_
    refine r_aload_n hw dX8_isOuter_137 2 rfl ?_
    refine r_getR hw fO_X8_54 h1 bq7 dX8_isOuter_138 ?_
    refine r_iload_n hw dX8_isOuter_141 3 rfl ?_
    refine r_laload hw h8 dX8_isOuter_142 ?_
    refine r_lsub hw dX8_isOuter_143 ?_
    refine r_lmul hw dX8_isOuter_144 ?_
    refine r_aload_n hw dX8_isOuter_145 2 rfl ?_
    refine r_getR hw fO_X8_57 h1 bq9 dX8_isOuter_146 ?_
    refine r_iload_n hw dX8_isOuter_149 5 rfl ?_
    refine r_laload hw h14 dX8_isOuter_150 ?_
    refine r_aload_n hw dX8_isOuter_151 2 rfl ?_
    refine r_getR hw fO_X8_57 h1 bq9 dX8_isOuter_152 ?_
    refine r_iload_n hw dX8_isOuter_155 3 rfl ?_
    refine r_laload hw h10 dX8_isOuter_156 ?_
    refine r_lsub hw dX8_isOuter_157 ?_
    refine r_aload_n hw dX8_isOuter_158 2 rfl ?_
    refine r_getR hw fO_X8_57 h1 bq9 dX8_isOuter_159 ?_
    refine r_iload_n hw dX8_isOuter_162 5 rfl ?_
    refine r_laload hw h14 dX8_isOuter_163 ?_
    refine r_aload_n hw dX8_isOuter_164 2 rfl ?_
    refine r_getR hw fO_X8_57 h1 bq9 dX8_isOuter_165 ?_
    refine r_iload_n hw dX8_isOuter_168 3 rfl ?_
    refine r_laload hw h10 dX8_isOuter_169 ?_
    refine r_lsub hw dX8_isOuter_170 ?_
    refine r_lmul hw dX8_isOuter_171 ?_
    refine r_ladd hw dX8_isOuter_172 ?_
    obtain ⟨l18, el18, m38⟩ := h_nm m37
    clear m37
    refine r_topL (w := w) el18 ?_
    refine r_lstore hw dX8_isOuter_173 (by decide) rfl ?_
    refine r_aload_n hw dX8_isOuter_175 3 rfl ?_
    refine r_getR hw fO_X8_54 h1 bq7 dX8_isOuter_176 ?_
    refine r_iload_n hw dX8_isOuter_179 5 rfl ?_
    refine r_laload hw h11 dX8_isOuter_180 ?_
    refine r_aload_n hw dX8_isOuter_181 3 rfl ?_
    refine r_getR hw fO_X8_54 h1 bq7 dX8_isOuter_182 ?_
    refine r_iload_n hw dX8_isOuter_185 4 rfl ?_
    refine r_laload hw h8 dX8_isOuter_186 ?_
    refine r_lsub hw dX8_isOuter_187 ?_
    refine r_aload_n hw dX8_isOuter_188 3 rfl ?_
    refine r_getR hw fO_X8_54 h1 bq7 dX8_isOuter_189 ?_
    refine r_iload_n hw dX8_isOuter_192 6 rfl ?_
    refine r_laload hw h13 dX8_isOuter_193 ?_
    refine r_aload_n hw dX8_isOuter_194 3 rfl ?_
    refine r_getR hw fO_X8_54 h1 bq7 dX8_isOuter_195 ?_
    refine r_iload_n hw dX8_isOuter_198 4 rfl ?_
    refine r_laload hw h8 dX8_isOuter_199 ?_
    refine r_lsub hw dX8_isOuter_200 ?_
    refine r_lmul hw dX8_isOuter_201 ?_
    refine r_aload_n hw dX8_isOuter_202 3 rfl ?_
    refine r_getR hw fO_X8_57 h1 bq9 dX8_isOuter_203 ?_
    refine r_iload_n hw dX8_isOuter_206 5 rfl ?_
    refine r_laload hw h12 dX8_isOuter_207 ?_
    refine r_aload_n hw dX8_isOuter_208 3 rfl ?_
    refine r_getR hw fO_X8_57 h1 bq9 dX8_isOuter_209 ?_
    refine r_iload_n hw dX8_isOuter_212 4 rfl ?_
    refine r_laload hw h10 dX8_isOuter_213 ?_
    refine r_lsub hw dX8_isOuter_214 ?_
    refine r_aload_n hw dX8_isOuter_215 3 rfl ?_
    refine r_getR hw fO_X8_57 h1 bq9 dX8_isOuter_216 ?_
    refine r_iload_n hw dX8_isOuter_219 6 rfl ?_
    refine r_laload hw h14 dX8_isOuter_220 ?_
    refine r_aload_n hw dX8_isOuter_221 3 rfl ?_
    refine r_getR hw fO_X8_57 h1 bq9 dX8_isOuter_222 ?_
    refine r_iload_n hw dX8_isOuter_225 4 rfl ?_
    refine r_laload hw h10 dX8_isOuter_226 ?_
    refine r_lsub hw dX8_isOuter_227 ?_
    refine r_lmul hw dX8_isOuter_228 ?_
    refine r_ladd hw dX8_isOuter_229 ?_
    refine r_lconst (v := 0) hw dX8_isOuter_230 rfl ?_
    refine r_lcmp_le (tgt := 239) hw dX8_isOuter_231 dX8_isOuter_232 (by decide) (fun c19 => ?_) (fun c19 => ?_)
    · have m39 := h_if_t c19 m38
      clear m38
      refine r_iconst (v := 0) hw dX8_isOuter_239 rfl ?_
      refine r_sub hw [1, 0] rfl ?_
      exact J240 _ _ _ m39
    · have m40 := h_if_f c19 m38
      clear m38
      refine r_iconst (v := 1) hw dX8_isOuter_235 rfl ?_
      refine r_goto (tgt := 240) hw dX8_isOuter_236 (by decide) ?_
      refine r_sub hw [1, 0] rfl ?_
      exact J240 _ _ _ m40
  · have m41 := h_if_f c16 m35
    clear m35
    refine r_lload hw dX8_isOuter_48 0 rfl ?_
    refine r_lconst (v := 0) hw dX8_isOuter_50 rfl ?_
    refine r_lcmp_ge (tgt := 59) hw dX8_isOuter_51 dX8_isOuter_52 (by decide) (fun c20 => ?_) (fun c20 => ?_)
    · have m42 := h_if_f c20 m41
      clear m41
      refine r_iconst (v := 0) hw dX8_isOuter_59 rfl ?_
      cases h_ret m42
      exact r_zreturn hq isB_0 rfl rfl dX8_isOuter_60
    · have m43 := h_if_t c20 m41
      clear m41
      refine r_iconst (v := 1) hw dX8_isOuter_55 rfl ?_
      refine r_goto (tgt := 60) hw dX8_isOuter_56 (by decide) ?_
      cases h_ret m43
      exact r_zreturn hq isB_1 rfl rfl dX8_isOuter_60
theorem dX8_outermost_0 : decode cX8_outermost 0 = .ok (.aload_n 0, 1) := by decide +kernel
theorem dX8_outermost_1 : decode cX8_outermost 1 = .ok (.iconst 0, 1) := by decide +kernel
theorem dX8_outermost_2 : decode cX8_outermost 2 = .ok (.putfield 118, 3) := by decide +kernel
theorem dX8_outermost_5 : decode cX8_outermost 5 = .ok (.aload_n 0, 1) := by decide +kernel
theorem dX8_outermost_6 : decode cX8_outermost 6 = .ok (.getfield 115, 3) := by decide +kernel
theorem dX8_outermost_9 : decode cX8_outermost 9 = .ok (.ifCond .ne 4, 3) := by decide +kernel
theorem dX8_outermost_12 : decode cX8_outermost 12 = .ok (.return_, 1) := by decide +kernel
theorem dX8_outermost_13 : decode cX8_outermost 13 = .ok (.aload_n 0, 1) := by decide +kernel
theorem dX8_outermost_14 : decode cX8_outermost 14 = .ok (.invokevirtual 121, 3) := by decide +kernel
theorem dX8_outermost_17 : decode cX8_outermost 17 = .ok (.istore_n 1, 1) := by decide +kernel
theorem dX8_outermost_18 : decode cX8_outermost 18 = .ok (.iload_n 1, 1) := by decide +kernel
theorem dX8_outermost_19 : decode cX8_outermost 19 = .ok (.istore_n 2, 1) := by decide +kernel
theorem dX8_outermost_20 : decode cX8_outermost 20 = .ok (.iconst 1, 1) := by decide +kernel
theorem dX8_outermost_21 : decode cX8_outermost 21 = .ok (.istore_n 3, 1) := by decide +kernel
theorem dX8_outermost_22 : decode cX8_outermost 22 = .ok (.iload_n 3, 1) := by decide +kernel
theorem dX8_outermost_23 : decode cX8_outermost 23 = .ok (.ifCond .eq 182, 3) := by decide +kernel
theorem dX8_outermost_26 : decode cX8_outermost 26 = .ok (.aload_n 0, 1) := by decide +kernel
theorem dX8_outermost_27 : decode cX8_outermost 27 = .ok (.getfield 60, 3) := by decide +kernel
theorem dX8_outermost_30 : decode cX8_outermost 30 = .ok (.aload_n 0, 1) := by decide +kernel
theorem dX8_outermost_31 : decode cX8_outermost 31 = .ok (.getfield 118, 3) := by decide +kernel
theorem dX8_outermost_34 : decode cX8_outermost 34 = .ok (.aload_n 0, 1) := by decide +kernel
theorem dX8_outermost_35 : decode cX8_outermost 35 = .ok (.getfield 54, 3) := by decide +kernel
theorem dX8_outermost_38 : decode cX8_outermost 38 = .ok (.iload_n 2, 1) := by decide +kernel
theorem dX8_outermost_39 : decode cX8_outermost 39 = .ok (.laload, 1) := by decide +kernel
theorem dX8_outermost_40 : decode cX8_outermost 40 = .ok (.lastore, 1) := by decide +kernel
theorem dX8_outermost_41 : decode cX8_outermost 41 = .ok (.aload_n 0, 1) := by decide +kernel
theorem dX8_outermost_42 : decode cX8_outermost 42 = .ok (.getfield 63, 3) := by decide +kernel
theorem dX8_outermost_45 : decode cX8_outermost 45 = .ok (.aload_n 0, 1) := by decide +kernel
theorem dX8_outermost_46 : decode cX8_outermost 46 = .ok (.getfield 118, 3) := by decide +kernel
theorem dX8_outermost_49 : decode cX8_outermost 49 = .ok (.aload_n 0, 1) := by decide +kernel
theorem dX8_outermost_50 : decode cX8_outermost 50 = .ok (.getfield 57, 3) := by decide +kernel
theorem dX8_outermost_53 : decode cX8_outermost 53 = .ok (.iload_n 2, 1) := by decide +kernel
theorem dX8_outermost_54 : decode cX8_outermost 54 = .ok (.laload, 1) := by decide +kernel
theorem dX8_outermost_55 : decode cX8_outermost 55 = .ok (.lastore, 1) := by decide +kernel
theorem dX8_outermost_56 : decode cX8_outermost 56 = .ok (.aload_n 0, 1) := by decide +kernel
theorem dX8_outermost_57 : decode cX8_outermost 57 = .ok (.dup, 1) := by decide +kernel
theorem dX8_outermost_58 : decode cX8_outermost 58 = .ok (.getfield 118, 3) := by decide +kernel
theorem dX8_outermost_61 : decode cX8_outermost 61 = .ok (.iconst 1, 1) := by decide +kernel
theorem dX8_outermost_62 : decode cX8_outermost 62 = .ok (.iadd, 1) := by decide +kernel
theorem dX8_outermost_63 : decode cX8_outermost 63 = .ok (.putfield 118, 3) := by decide +kernel
theorem dX8_outermost_66 : decode cX8_outermost 66 = .ok (.iconst (-1), 1) := by decide +kernel
theorem dX8_outermost_67 : decode cX8_outermost 67 = .ok (.istore 4, 2) := by decide +kernel
theorem dX8_outermost_69 : decode cX8_outermost 69 = .ok (.iconst 0, 1) := by decide +kernel
theorem dX8_outermost_70 : decode cX8_outermost 70 = .ok (.istore 5, 2) := by decide +kernel
theorem dX8_outermost_72 : decode cX8_outermost 72 = .ok (.iload 5, 2) := by decide +kernel
theorem dX8_outermost_74 : decode cX8_outermost 74 = .ok (.aload_n 0, 1) := by decide +kernel
theorem dX8_outermost_75 : decode cX8_outermost 75 = .ok (.getfield 115, 3) := by decide +kernel
theorem dX8_outermost_78 : decode cX8_outermost 78 = .ok (.if_icmp .ge 76, 3) := by decide +kernel
theorem dX8_outermost_81 : decode cX8_outermost 81 = .ok (.aload_n 0, 1) := by decide +kernel
theorem dX8_outermost_82 : decode cX8_outermost 82 = .ok (.getfield 54, 3) := by decide +kernel
theorem dX8_outermost_85 : decode cX8_outermost 85 = .ok (.iload 5, 2) := by decide +kernel
theorem dX8_outermost_87 : decode cX8_outermost 87 = .ok (.laload, 1) := by decide +kernel
theorem dX8_outermost_88 : decode cX8_outermost 88 = .ok (.aload_n 0, 1) := by decide +kernel
theorem dX8_outermost_89 : decode cX8_outermost 89 = .ok (.getfield 54, 3) := by decide +kernel
theorem dX8_outermost_92 : decode cX8_outermost 92 = .ok (.iload_n 2, 1) := by decide +kernel
theorem dX8_outermost_93 : decode cX8_outermost 93 = .ok (.laload, 1) := by decide +kernel
theorem dX8_outermost_94 : decode cX8_outermost 94 = .ok (.lcmp, 1) := by decide +kernel
theorem dX8_outermost_95 : decode cX8_outermost 95 = .ok (.ifCond .ne 20, 3) := by decide +kernel
theorem dX8_outermost_98 : decode cX8_outermost 98 = .ok (.aload_n 0, 1) := by decide +kernel
theorem dX8_outermost_99 : decode cX8_outermost 99 = .ok (.getfield 57, 3) := by decide +kernel
theorem dX8_outermost_102 : decode cX8_outermost 102 = .ok (.iload 5, 2) := by decide +kernel
theorem dX8_outermost_104 : decode cX8_outermost 104 = .ok (.laload, 1) := by decide +kernel
theorem dX8_outermost_105 : decode cX8_outermost 105 = .ok (.aload_n 0, 1) := by decide +kernel
theorem dX8_outermost_106 : decode cX8_outermost 106 = .ok (.getfield 57, 3) := by decide +kernel
theorem dX8_outermost_109 : decode cX8_outermost 109 = .ok (.iload_n 2, 1) := by decide +kernel
theorem dX8_outermost_110 : decode cX8_outermost 110 = .ok (.laload, 1) := by decide +kernel
theorem dX8_outermost_111 : decode cX8_outermost 111 = .ok (.lcmp, 1) := by decide +kernel
theorem dX8_outermost_112 : decode cX8_outermost 112 = .ok (.ifCond .eq 7, 3) := by decide +kernel
theorem dX8_outermost_115 : decode cX8_outermost 115 = .ok (.iconst 1, 1) := by decide +kernel
theorem dX8_outermost_116 : decode cX8_outermost 116 = .ok (.goto 4, 3) := by decide +kernel
theorem dX8_outermost_119 : decode cX8_outermost 119 = .ok (.iconst 0, 1) := by decide +kernel
theorem dX8_outermost_120 : decode cX8_outermost 120 = .ok (.istore 6, 2) := by decide +kernel
theorem dX8_outermost_122 : decode cX8_outermost 122 = .ok (.iload 6, 2) := by decide +kernel
theorem dX8_outermost_124 : decode cX8_outermost 124 = .ok (.ifCond .eq 24, 3) := by decide +kernel
theorem dX8_outermost_127 : decode cX8_outermost 127 = .ok (.iload 4, 2) := by decide +kernel
theorem dX8_outermost_129 : decode cX8_outermost 129 = .ok (.ifCond .lt 15, 3) := by decide +kernel
theorem dX8_outermost_132 : decode cX8_outermost 132 = .ok (.aload_n 0, 1) := by decide +kernel
theorem dX8_outermost_133 : decode cX8_outermost 133 = .ok (.iload_n 2, 1) := by decide +kernel
theorem dX8_outermost_134 : decode cX8_outermost 134 = .ok (.iload 4, 2) := by decide +kernel
theorem dX8_outermost_136 : decode cX8_outermost 136 = .ok (.iload 5, 2) := by decide +kernel
theorem dX8_outermost_138 : decode cX8_outermost 138 = .ok (.invokevirtual 124, 3) := by decide +kernel
theorem dX8_outermost_141 : decode cX8_outermost 141 = .ok (.ifCond .eq 7, 3) := by decide +kernel
theorem dX8_outermost_144 : decode cX8_outermost 144 = .ok (.iload 5, 2) := by decide +kernel
theorem dX8_outermost_146 : decode cX8_outermost 146 = .ok (.istore 4, 2) := by decide +kernel
theorem dX8_outermost_148 : decode cX8_outermost 148 = .ok (.iinc 5 1, 3) := by decide +kernel
theorem dX8_outermost_151 : decode cX8_outermost 151 = .ok (.goto (-79), 3) := by decide +kernel
theorem dX8_outermost_154 : decode cX8_outermost 154 = .ok (.iload 4, 2) := by decide +kernel
theorem dX8_outermost_156 : decode cX8_outermost 156 = .ok (.ifCond .lt 41, 3) := by decide +kernel
theorem dX8_outermost_159 : decode cX8_outermost 159 = .ok (.aload_n 0, 1) := by decide +kernel
theorem dX8_outermost_160 : decode cX8_outermost 160 = .ok (.getfield 54, 3) := by decide +kernel
theorem dX8_outermost_163 : decode cX8_outermost 163 = .ok (.iload 4, 2) := by decide +kernel
theorem dX8_outermost_165 : decode cX8_outermost 165 = .ok (.laload, 1) := by decide +kernel
theorem dX8_outermost_166 : decode cX8_outermost 166 = .ok (.aload_n 0, 1) := by decide +kernel
theorem dX8_outermost_167 : decode cX8_outermost 167 = .ok (.getfield 54, 3) := by decide +kernel
theorem dX8_outermost_170 : decode cX8_outermost 170 = .ok (.iload_n 1, 1) := by decide +kernel
theorem dX8_outermost_171 : decode cX8_outermost 171 = .ok (.laload, 1) := by decide +kernel
theorem dX8_outermost_172 : decode cX8_outermost 172 = .ok (.lcmp, 1) := by decide +kernel
theorem dX8_outermost_173 : decode cX8_outermost 173 = .ok (.ifCond .ne 20, 3) := by decide +kernel
theorem dX8_outermost_176 : decode cX8_outermost 176 = .ok (.aload_n 0, 1) := by decide +kernel
theorem dX8_outermost_177 : decode cX8_outermost 177 = .ok (.getfield 57, 3) := by decide +kernel
theorem dX8_outermost_180 : decode cX8_outermost 180 = .ok (.iload 4, 2) := by decide +kernel
theorem dX8_outermost_182 : decode cX8_outermost 182 = .ok (.laload, 1) := by decide +kernel
theorem dX8_outermost_183 : decode cX8_outermost 183 = .ok (.aload_n 0, 1) := by decide +kernel
theorem dX8_outermost_184 : decode cX8_outermost 184 = .ok (.getfield 57, 3) := by decide +kernel
theorem dX8_outermost_187 : decode cX8_outermost 187 = .ok (.iload_n 1, 1) := by decide +kernel
theorem dX8_outermost_188 : decode cX8_outermost 188 = .ok (.laload, 1) := by decide +kernel
theorem dX8_outermost_189 : decode cX8_outermost 189 = .ok (.lcmp, 1) := by decide +kernel
theorem dX8_outermost_190 : decode cX8_outermost 190 = .ok (.ifCond .eq 7, 3) := by decide +kernel
theorem dX8_outermost_193 : decode cX8_outermost 193 = .ok (.iconst 1, 1) := by decide +kernel
theorem dX8_outermost_194 : decode cX8_outermost 194 = .ok (.goto 4, 3) := by decide +kernel
theorem dX8_outermost_197 : decode cX8_outermost 197 = .ok (.iconst 0, 1) := by decide +kernel
theorem dX8_outermost_198 : decode cX8_outermost 198 = .ok (.istore_n 3, 1) := by decide +kernel
theorem dX8_outermost_199 : decode cX8_outermost 199 = .ok (.iload 4, 2) := by decide +kernel
theorem dX8_outermost_201 : decode cX8_outermost 201 = .ok (.istore_n 2, 1) := by decide +kernel
theorem dX8_outermost_202 : decode cX8_outermost 202 = .ok (.goto (-180), 3) := by decide +kernel
theorem dX8_outermost_205 : decode cX8_outermost 205 = .ok (.return_, 1) := by decide +kernel
set_option maxHeartbeats 4000000 in
set_option maxRecDepth 100000 in
theorem tX8_outermost (l : Launch) (G : Gg) (b0 : Nat) {K : Kk} {R : Rr} {M : Mm} {r : Nat} {M' : Mm} (hm : mX8_outermost K R M r = some (M')) : CT l G b0 yX8_outermost cX8_outermost 7 none (rmz 3 61) [.ref r] K R M none K R M' := by
  refine ct_of (by decide +kernel) (Nat.le_of_ble_eq_true rfl) (fun w hq => ?_)
  have hw := hq.b
  change w 0 0 0 [(0, .ref r)] [] K R M
  replace hm := h_start hm
  unfold mX8_outermost at hm
  obtain ⟨h1, m63⟩ := h_ck hm
  clear hm
  refine r_aload_n hw dX8_outermost_0 0 rfl ?_
  refine r_iconst (v := 0) hw dX8_outermost_1 rfl ?_
  obtain ⟨M2, eM2, m64⟩ := h_nm m63
  clear m63
  refine r_putI hw fP_X8_118 h1 dX8_outermost_2 (r_mem ?_ rfl eM2)
  refine r_aload_n hw dX8_outermost_5 0 rfl ?_
  refine r_getI hw fO_X8_115 h1 dX8_outermost_6 ?_
  refine r_if_ne (tgt := 13) hw dX8_outermost_9 (by decide) (fun c3 => ?_) (fun c3 => ?_)
  · have m65 := h_if_f c3 m64
    clear m64
    refine r_aload_n hw dX8_outermost_13 0 rfl ?_
    obtain ⟨i4, g4, m66⟩ := h_bd m65
    clear m65
    refine r_callV1 hw (tX8_leastPoint l G b0 g4) lB_X8_leastPoint lI_X8_leastPoint mL_X8_121 (c := 8) rfl h1 rfl (Nat.le_of_ble_eq_true rfl) (Nat.le_of_ble_eq_true rfl) rfl (Nat.le_of_ble_eq_true rfl) dX8_outermost_14 ?_
    refine r_istore_n hw dX8_outermost_17 rfl (by decide) rfl ?_
    refine r_iload_n hw dX8_outermost_18 0 rfl ?_
    refine r_istore_n hw dX8_outermost_19 rfl (by decide) rfl ?_
    refine r_iconst (v := 1) hw dX8_outermost_20 rfl ?_
    obtain ⟨i5, ei5, m67⟩ := h_nm m66
    clear m66
    refine r_topI (w := w) ei5 ?_
    refine r_istore_n hw dX8_outermost_21 rfl (by decide) rfl ?_
    refine r_sub hw [3, 2, 1, 0] rfl ?_
    obtain ⟨v22, n022, hn22, hv22⟩ := h_lp m67
    clear m67
    have L22 : ∀ n : Nat, ∀ (i6 : Int32) (i7 : Int32) (M8 : Mm), it (mX8_outermost_L22 K R r i4) n (i6, i7, M8) = some v22 → w 0 0 22 [(0, .ref r), (1, .int i4), (2, .int i6), (3, .int i7)] [] K R M8 := by
      intro n22
      induction n22 with
      | zero => intro i6 i7 M8 hz; exact absurd hz h_it0
      | succ n22 ih22 =>
        intro i6 i7 M8 m68
        replace m68 : (mX8_outermost_B22 K R r i4 i6 i7 M8).bind (Sum.elim (it (mX8_outermost_L22 K R r i4) n22) some) = some v22 := m68
        unfold mX8_outermost_B22 at m68
        have J198 : ∀ (M11 : Mm) (i9 : Int32) (s10 : Int32), (mX8_outermost_J198 K R M11 r i4 i9 s10).bind (Sum.elim (it (mX8_outermost_L22 K R r i4) n22) some) = some v22 → w 0 0 198 [(0, .ref r), (1, .int i4), (4, .int i9)] [.int s10] K R M11 := by
          intro M11 i9 s10 m69
          unfold mX8_outermost_J198 at m69
          refine r_istore_n hw dX8_outermost_198 rfl (by decide) rfl ?_
          refine r_iload hw dX8_outermost_199 3 rfl ?_
          refine r_istore_n hw dX8_outermost_201 rfl (by decide) rfl ?_
          refine r_goto (tgt := 22) hw dX8_outermost_202 (by decide) ?_
          refine r_sub hw [2, 3, 0, 1] rfl ?_
          exact ih22 _ _ _ m69
        have J197 : ∀ (M13 : Mm) (i12 : Int32), (mX8_outermost_J197 K R M13 r i4 i12).bind (Sum.elim (it (mX8_outermost_L22 K R r i4) n22) some) = some v22 → w 0 0 197 [(0, .ref r), (1, .int i4), (4, .int i12)] [] K R M13 := by
          intro M13 i12 m70
          unfold mX8_outermost_J197 at m70
          refine r_iconst (v := 0) hw dX8_outermost_197 rfl ?_
          exact J198 _ _ _ m70
        have J193 : ∀ (M15 : Mm) (i14 : Int32), (mX8_outermost_J193 K R M15 r i4 i14).bind (Sum.elim (it (mX8_outermost_L22 K R r i4) n22) some) = some v22 → w 0 0 193 [(0, .ref r), (1, .int i4), (4, .int i14)] [] K R M15 := by
          intro M15 i14 m71
          unfold mX8_outermost_J193 at m71
          refine r_iconst (v := 1) hw dX8_outermost_193 rfl ?_
          refine r_goto (tgt := 198) hw dX8_outermost_194 (by decide) ?_
          exact J198 _ _ _ m71
        refine r_iload_n hw dX8_outermost_22 3 rfl ?_
        refine r_if_eq (tgt := 205) hw dX8_outermost_23 (by decide) (fun c16 => ?_) (fun c16 => ?_)
        · have m72 := h_if_t c16 m68
          clear m68
          have m73 := h_ex m72 hv22
          clear m72
          cases h_ret m73
          exact r_return hq rfl rfl dX8_outermost_205
        · have m74 := h_if_f c16 m68
          clear m68
          refine r_aload_n hw dX8_outermost_26 0 rfl ?_
          obtain ⟨q17, bq17, m75⟩ := h_bd m74
          clear m74
          refine r_getR hw fO_X8_60 h1 bq17 dX8_outermost_27 ?_
          refine r_aload_n hw dX8_outermost_30 0 rfl ?_
          refine r_getI hw fO_X8_118 h1 dX8_outermost_31 ?_
          refine r_aload_n hw dX8_outermost_34 0 rfl ?_
          obtain ⟨q18, bq18, m76⟩ := h_bd m75
          clear m75
          refine r_getR hw fO_X8_54 h1 bq18 dX8_outermost_35 ?_
          refine r_iload_n hw dX8_outermost_38 2 rfl ?_
          obtain ⟨h19, m77⟩ := h_ck m76
          clear m76
          refine r_laload hw h19 dX8_outermost_39 ?_
          obtain ⟨h20, m78⟩ := h_ck m77
          clear m77
          obtain ⟨M21, eM21, m79⟩ := h_nm m78
          clear m78
          refine r_lastore hw h20 dX8_outermost_40 (r_mem ?_ rfl eM21)
          refine r_aload_n hw dX8_outermost_41 0 rfl ?_
          obtain ⟨q22, bq22, m80⟩ := h_bd m79
          clear m79
          refine r_getR hw fO_X8_63 h1 bq22 dX8_outermost_42 ?_
          refine r_aload_n hw dX8_outermost_45 0 rfl ?_
          refine r_getI hw fO_X8_118 h1 dX8_outermost_46 ?_
          refine r_aload_n hw dX8_outermost_49 0 rfl ?_
          obtain ⟨q23, bq23, m81⟩ := h_bd m80
          clear m80
          refine r_getR hw fO_X8_57 h1 bq23 dX8_outermost_50 ?_
          refine r_iload_n hw dX8_outermost_53 2 rfl ?_
          obtain ⟨h24, m82⟩ := h_ck m81
          clear m81
          refine r_laload hw h24 dX8_outermost_54 ?_
          obtain ⟨h25, m83⟩ := h_ck m82
          clear m82
          obtain ⟨M26, eM26, m84⟩ := h_nm m83
          clear m83
          refine r_lastore hw h25 dX8_outermost_55 (r_mem ?_ rfl eM26)
          refine r_aload_n hw dX8_outermost_56 0 rfl ?_
          refine r_dup hw dX8_outermost_57 rfl ?_
          refine r_getI hw fO_X8_118 h1 dX8_outermost_58 ?_
          refine r_iconst (v := 1) hw dX8_outermost_61 rfl ?_
          refine r_iadd hw dX8_outermost_62 ?_
          obtain ⟨M27, eM27, m85⟩ := h_nm m84
          clear m84
          refine r_putI hw fP_X8_118 h1 dX8_outermost_63 (r_mem ?_ rfl eM27)
          refine r_iconst (v := (-1)) hw dX8_outermost_66 rfl ?_
          obtain ⟨i28, ei28, m86⟩ := h_nm m85
          clear m85
          refine r_topI (w := w) ei28 ?_
          refine r_istore hw dX8_outermost_67 (by decide) rfl ?_
          refine r_iconst (v := 0) hw dX8_outermost_69 rfl ?_
          obtain ⟨i29, ei29, m87⟩ := h_nm m86
          clear m86
          refine r_topI (w := w) ei29 ?_
          refine r_istore hw dX8_outermost_70 (by decide) rfl ?_
          refine r_sub hw [2, 3, 4, 1, 0] rfl ?_
          obtain ⟨v72, n072, hn72, hv72⟩ := h_lp m87
          clear m87
          have L72 : ∀ n : Nat, ∀ (i30 : Int32) (i31 : Int32), it (mX8_outermost_L72 K R M27 r i4 i6) n (i30, i31) = some v72 → w 0 0 72 [(0, .ref r), (1, .int i4), (2, .int i6), (4, .int i30), (5, .int i31)] [] K R M27 := by
            intro n72
            induction n72 with
            | zero => intro i30 i31 hz; exact absurd hz h_it0
            | succ n72 ih72 =>
              intro i30 i31 m88
              replace m88 : (mX8_outermost_B72 K R M27 r i4 i6 i30 i31).bind (Sum.elim (it (mX8_outermost_L72 K R M27 r i4 i6) n72) some) = some v72 := m88
              unfold mX8_outermost_B72 at m88
              have J148 : ∀ (i32 : Int32) (i33 : Int32), (mX8_outermost_J148 K R M27 r i4 i6 i32 i33).bind (Sum.elim (it (mX8_outermost_L72 K R M27 r i4 i6) n72) some) = some v72 → w 0 0 148 [(0, .ref r), (1, .int i4), (2, .int i6), (4, .int i32), (5, .int i33)] [] K R M27 := by
                intro i32 i33 m89
                unfold mX8_outermost_J148 at m89
                obtain ⟨i34, ei34, m90⟩ := h_nm m89
                clear m89
                refine r_iinc (j := 4) (v := i34) hw dX8_outermost_148 rfl (by rw [ei34]; rfl) (by decide) rfl ?_
                refine r_goto (tgt := 72) hw dX8_outermost_151 (by decide) ?_
                refine r_sub hw [1, 2, 3, 4, 0] rfl ?_
                exact ih72 _ _ m90
              have J144 : ∀ (i35 : Int32), (mX8_outermost_J144 K R M27 r i4 i6 i35).bind (Sum.elim (it (mX8_outermost_L72 K R M27 r i4 i6) n72) some) = some v72 → w 0 0 144 [(0, .ref r), (1, .int i4), (2, .int i6), (5, .int i35)] [] K R M27 := by
                intro i35 m91
                unfold mX8_outermost_J144 at m91
                refine r_iload hw dX8_outermost_144 3 rfl ?_
                refine r_istore hw dX8_outermost_146 (by decide) rfl ?_
                refine r_sub hw [1, 2, 3, 0, 4] rfl ?_
                exact J148 _ _ m91
              have J120 : ∀ (i36 : Int32) (i37 : Int32) (s38 : Int32), (mX8_outermost_J120 K R M27 r i4 i6 i36 i37 s38).bind (Sum.elim (it (mX8_outermost_L72 K R M27 r i4 i6) n72) some) = some v72 → w 0 0 120 [(0, .ref r), (1, .int i4), (2, .int i6), (4, .int i36), (5, .int i37)] [.int s38] K R M27 := by
                intro i36 i37 s38 m92
                unfold mX8_outermost_J120 at m92
                refine r_istore hw dX8_outermost_120 (by decide) rfl ?_
                refine r_iload hw dX8_outermost_122 0 rfl ?_
                refine r_if_eq (tgt := 148) hw dX8_outermost_124 (by decide) (fun c39 => ?_) (fun c39 => ?_)
                · have m93 := h_if_t c39 m92
                  clear m92
                  refine r_sub hw [1, 2, 3, 4, 5] rfl ?_
                  exact J148 _ _ m93
                · have m94 := h_if_f c39 m92
                  clear m92
                  refine r_iload hw dX8_outermost_127 4 rfl ?_
                  refine r_if_lt (tgt := 144) hw dX8_outermost_129 (by decide) (fun c40 => ?_) (fun c40 => ?_)
                  · have m95 := h_if_t c40 m94
                    clear m94
                    refine r_sub hw [1, 2, 3, 5] rfl ?_
                    exact J144 _ m95
                  · have m96 := h_if_f c40 m94
                    clear m94
                    refine r_aload_n hw dX8_outermost_132 1 rfl ?_
                    refine r_iload_n hw dX8_outermost_133 3 rfl ?_
                    refine r_iload hw dX8_outermost_134 4 rfl ?_
                    refine r_iload hw dX8_outermost_136 5 rfl ?_
                    obtain ⟨i41, g41, m97⟩ := h_bd m96
                    clear m96
                    refine r_callV1 hw (tX8_isOuter l G b0 g41) lB_X8_isOuter lI_X8_isOuter mL_X8_124 (c := 8) rfl h1 rfl (Nat.le_of_ble_eq_true rfl) (Nat.le_of_ble_eq_true rfl) rfl (Nat.le_of_ble_eq_true rfl) dX8_outermost_138 ?_
                    refine r_if_eq (tgt := 148) hw dX8_outermost_141 (by decide) (fun c42 => ?_) (fun c42 => ?_)
                    · have m98 := h_if_t c42 m97
                      clear m97
                      refine r_sub hw [1, 2, 3, 4, 5] rfl ?_
                      exact J148 _ _ m98
                    · have m99 := h_if_f c42 m97
                      clear m97
                      refine r_sub hw [1, 2, 3, 5] rfl ?_
                      exact J144 _ m99
              have J115 : ∀ (i43 : Int32) (i44 : Int32), (mX8_outermost_J115 K R M27 r i4 i6 i43 i44).bind (Sum.elim (it (mX8_outermost_L72 K R M27 r i4 i6) n72) some) = some v72 → w 0 0 115 [(0, .ref r), (1, .int i4), (2, .int i6), (4, .int i43), (5, .int i44)] [] K R M27 := by
                intro i43 i44 m100
                unfold mX8_outermost_J115 at m100
                refine r_iconst (v := 1) hw dX8_outermost_115 rfl ?_
                refine r_goto (tgt := 120) hw dX8_outermost_116 (by decide) ?_
                exact J120 _ _ _ m100
              refine r_iload hw dX8_outermost_72 4 rfl ?_
              refine r_aload_n hw dX8_outermost_74 0 rfl ?_
              refine r_getI hw fO_X8_115 h1 dX8_outermost_75 ?_
              refine r_icmp_ge (tgt := 154) hw dX8_outermost_78 (by decide) (fun c45 => ?_) (fun c45 => ?_)
              · have m101 := h_if_f c45 m88
                clear m88
                have m102 := h_ex m101 hv72
                clear m101
                refine r_iload hw dX8_outermost_154 3 rfl ?_
                refine r_if_lt (tgt := 197) hw dX8_outermost_156 (by decide) (fun c46 => ?_) (fun c46 => ?_)
                · have m103 := h_if_t c46 m102
                  clear m102
                  refine r_sub hw [0, 1, 3] rfl ?_
                  exact J197 _ _ m103
                · have m104 := h_if_f c46 m102
                  clear m102
                  refine r_aload_n hw dX8_outermost_159 0 rfl ?_
                  obtain ⟨q47, bq47, m105⟩ := h_bd m104
                  clear m104
                  refine r_getR hw fO_X8_54 h1 bq47 dX8_outermost_160 ?_
                  refine r_iload hw dX8_outermost_163 3 rfl ?_
                  obtain ⟨h48, m106⟩ := h_ck m105
                  clear m105
                  refine r_laload hw h48 dX8_outermost_165 ?_
                  refine r_aload_n hw dX8_outermost_166 0 rfl ?_
                  refine r_getR hw fO_X8_54 h1 bq47 dX8_outermost_167 ?_
                  refine r_iload_n hw dX8_outermost_170 1 rfl ?_
                  obtain ⟨h49, m107⟩ := h_ck m106
                  clear m106
                  refine r_laload hw h49 dX8_outermost_171 ?_
                  refine r_lcmp_ne (tgt := 193) hw dX8_outermost_172 dX8_outermost_173 (by decide) (fun c50 => ?_) (fun c50 => ?_)
                  · have m108 := h_if_f c50 m107
                    clear m107
                    refine r_sub hw [0, 1, 3] rfl ?_
                    exact J193 _ _ m108
                  · have m109 := h_if_t c50 m107
                    clear m107
                    refine r_aload_n hw dX8_outermost_176 0 rfl ?_
                    obtain ⟨q51, bq51, m110⟩ := h_bd m109
                    clear m109
                    refine r_getR hw fO_X8_57 h1 bq51 dX8_outermost_177 ?_
                    refine r_iload hw dX8_outermost_180 3 rfl ?_
                    obtain ⟨h52, m111⟩ := h_ck m110
                    clear m110
                    refine r_laload hw h52 dX8_outermost_182 ?_
                    refine r_aload_n hw dX8_outermost_183 0 rfl ?_
                    refine r_getR hw fO_X8_57 h1 bq51 dX8_outermost_184 ?_
                    refine r_iload_n hw dX8_outermost_187 1 rfl ?_
                    obtain ⟨h53, m112⟩ := h_ck m111
                    clear m111
                    refine r_laload hw h53 dX8_outermost_188 ?_
                    refine r_lcmp_eq (tgt := 197) hw dX8_outermost_189 dX8_outermost_190 (by decide) (fun c54 => ?_) (fun c54 => ?_)
                    · have m113 := h_if_t c54 m112
                      clear m112
                      refine r_sub hw [0, 1, 3] rfl ?_
                      exact J197 _ _ m113
                    · have m114 := h_if_f c54 m112
                      clear m112
                      refine r_sub hw [0, 1, 3] rfl ?_
                      exact J193 _ _ m114
              · have m115 := h_if_t c45 m88
                clear m88
                refine r_aload_n hw dX8_outermost_81 0 rfl ?_
                obtain ⟨q55, bq55, m116⟩ := h_bd m115
                clear m115
                refine r_getR hw fO_X8_54 h1 bq55 dX8_outermost_82 ?_
                refine r_iload hw dX8_outermost_85 4 rfl ?_
                obtain ⟨h56, m117⟩ := h_ck m116
                clear m116
                refine r_laload hw h56 dX8_outermost_87 ?_
                refine r_aload_n hw dX8_outermost_88 0 rfl ?_
                refine r_getR hw fO_X8_54 h1 bq55 dX8_outermost_89 ?_
                refine r_iload_n hw dX8_outermost_92 2 rfl ?_
                obtain ⟨h57, m118⟩ := h_ck m117
                clear m117
                refine r_laload hw h57 dX8_outermost_93 ?_
                refine r_lcmp_ne (tgt := 115) hw dX8_outermost_94 dX8_outermost_95 (by decide) (fun c58 => ?_) (fun c58 => ?_)
                · have m119 := h_if_f c58 m118
                  clear m118
                  exact J115 _ _ m119
                · have m120 := h_if_t c58 m118
                  clear m118
                  refine r_aload_n hw dX8_outermost_98 0 rfl ?_
                  obtain ⟨q59, bq59, m121⟩ := h_bd m120
                  clear m120
                  refine r_getR hw fO_X8_57 h1 bq59 dX8_outermost_99 ?_
                  refine r_iload hw dX8_outermost_102 4 rfl ?_
                  obtain ⟨h60, m122⟩ := h_ck m121
                  clear m121
                  refine r_laload hw h60 dX8_outermost_104 ?_
                  refine r_aload_n hw dX8_outermost_105 0 rfl ?_
                  refine r_getR hw fO_X8_57 h1 bq59 dX8_outermost_106 ?_
                  refine r_iload_n hw dX8_outermost_109 2 rfl ?_
                  obtain ⟨h61, m123⟩ := h_ck m122
                  clear m122
                  refine r_laload hw h61 dX8_outermost_110 ?_
                  refine r_lcmp_eq (tgt := 119) hw dX8_outermost_111 dX8_outermost_112 (by decide) (fun c62 => ?_) (fun c62 => ?_)
                  · have m124 := h_if_t c62 m123
                    clear m123
                    refine r_iconst (v := 0) hw dX8_outermost_119 rfl ?_
                    exact J120 _ _ _ m124
                  · have m125 := h_if_f c62 m123
                    clear m123
                    exact J115 _ _ m125
          exact L72 n072 _ _ hn72
    exact L22 n022 _ _ _ hn22
  · have m126 := h_if_t c3 m64
    clear m64
    cases h_ret m126
    exact r_return hq rfl rfl dX8_outermost_12
theorem dX8_beginPoints_0 : decode cX8_beginPoints 0 = .ok (.aload_n 0, 1) := by decide +kernel
theorem dX8_beginPoints_1 : decode cX8_beginPoints 1 = .ok (.iconst 0, 1) := by decide +kernel
theorem dX8_beginPoints_2 : decode cX8_beginPoints 2 = .ok (.putfield 115, 3) := by decide +kernel
theorem dX8_beginPoints_5 : decode cX8_beginPoints 5 = .ok (.return_, 1) := by decide +kernel
set_option maxHeartbeats 4000000 in
set_option maxRecDepth 100000 in
theorem tX8_beginPoints (l : Launch) (G : Gg) (b0 : Nat) {K : Kk} {R : Rr} {M : Mm} {r : Nat} {M' : Mm} (hm : mX8_beginPoints K R M r = some (M')) : CT l G b0 yX8_beginPoints cX8_beginPoints 1 none (rmz 1 0) [.ref r] K R M none K R M' := by
  refine ct_of (by decide +kernel) (Nat.le_of_ble_eq_true rfl) (fun w hq => ?_)
  have hw := hq.b
  change w 0 0 0 [(0, .ref r)] [] K R M
  replace hm := h_start hm
  unfold mX8_beginPoints at hm
  obtain ⟨h1, m3⟩ := h_ck hm
  clear hm
  refine r_aload_n hw dX8_beginPoints_0 0 rfl ?_
  refine r_iconst (v := 0) hw dX8_beginPoints_1 rfl ?_
  obtain ⟨M2, eM2, m4⟩ := h_nm m3
  clear m3
  refine r_putI hw fP_X8_115 h1 dX8_beginPoints_2 (r_mem ?_ rfl eM2)
  cases h_ret m4
  exact r_return hq rfl rfl dX8_beginPoints_5
theorem dX8_lookA_0 : decode cX8_lookA 0 = .ok (.aload_n 0, 1) := by decide +kernel
theorem dX8_lookA_1 : decode cX8_lookA 1 = .ok (.invokevirtual 132, 3) := by decide +kernel
theorem dX8_lookA_4 : decode cX8_lookA 4 = .ok (.iconst 0, 1) := by decide +kernel
theorem dX8_lookA_5 : decode cX8_lookA 5 = .ok (.istore_n 2, 1) := by decide +kernel
theorem dX8_lookA_6 : decode cX8_lookA 6 = .ok (.iload_n 2, 1) := by decide +kernel
theorem dX8_lookA_7 : decode cX8_lookA 7 = .ok (.aload_n 0, 1) := by decide +kernel
theorem dX8_lookA_8 : decode cX8_lookA 8 = .ok (.iload_n 1, 1) := by decide +kernel
theorem dX8_lookA_9 : decode cX8_lookA 9 = .ok (.invokevirtual 135, 3) := by decide +kernel
theorem dX8_lookA_12 : decode cX8_lookA 12 = .ok (.if_icmp .ge 65, 3) := by decide +kernel
theorem dX8_lookA_15 : decode cX8_lookA 15 = .ok (.aload_n 0, 1) := by decide +kernel
theorem dX8_lookA_16 : decode cX8_lookA 16 = .ok (.aload_n 0, 1) := by decide +kernel
theorem dX8_lookA_17 : decode cX8_lookA 17 = .ok (.iload_n 1, 1) := by decide +kernel
theorem dX8_lookA_18 : decode cX8_lookA 18 = .ok (.bipush 33, 2) := by decide +kernel
theorem dX8_lookA_20 : decode cX8_lookA 20 = .ok (.invokevirtual 103, 3) := by decide +kernel
theorem dX8_lookA_23 : decode cX8_lookA 23 = .ok (.aload_n 0, 1) := by decide +kernel
theorem dX8_lookA_24 : decode cX8_lookA 24 = .ok (.iload_n 1, 1) := by decide +kernel
theorem dX8_lookA_25 : decode cX8_lookA 25 = .ok (.iconst 1, 1) := by decide +kernel
theorem dX8_lookA_26 : decode cX8_lookA 26 = .ok (.iconst 2, 1) := by decide +kernel
theorem dX8_lookA_27 : decode cX8_lookA 27 = .ok (.iload_n 2, 1) := by decide +kernel
theorem dX8_lookA_28 : decode cX8_lookA 28 = .ok (.imul, 1) := by decide +kernel
theorem dX8_lookA_29 : decode cX8_lookA 29 = .ok (.iadd, 1) := by decide +kernel
theorem dX8_lookA_30 : decode cX8_lookA 30 = .ok (.invokevirtual 103, 3) := by decide +kernel
theorem dX8_lookA_33 : decode cX8_lookA 33 = .ok (.lmul, 1) := by decide +kernel
theorem dX8_lookA_34 : decode cX8_lookA 34 = .ok (.aload_n 0, 1) := by decide +kernel
theorem dX8_lookA_35 : decode cX8_lookA 35 = .ok (.iload_n 1, 1) := by decide +kernel
theorem dX8_lookA_36 : decode cX8_lookA 36 = .ok (.bipush 34, 2) := by decide +kernel
theorem dX8_lookA_38 : decode cX8_lookA 38 = .ok (.invokevirtual 103, 3) := by decide +kernel
theorem dX8_lookA_41 : decode cX8_lookA 41 = .ok (.ladd, 1) := by decide +kernel
theorem dX8_lookA_42 : decode cX8_lookA 42 = .ok (.aload_n 0, 1) := by decide +kernel
theorem dX8_lookA_43 : decode cX8_lookA 43 = .ok (.iload_n 1, 1) := by decide +kernel
theorem dX8_lookA_44 : decode cX8_lookA 44 = .ok (.bipush 33, 2) := by decide +kernel
theorem dX8_lookA_46 : decode cX8_lookA 46 = .ok (.invokevirtual 103, 3) := by decide +kernel
theorem dX8_lookA_49 : decode cX8_lookA 49 = .ok (.aload_n 0, 1) := by decide +kernel
theorem dX8_lookA_50 : decode cX8_lookA 50 = .ok (.iload_n 1, 1) := by decide +kernel
theorem dX8_lookA_51 : decode cX8_lookA 51 = .ok (.iconst 2, 1) := by decide +kernel
theorem dX8_lookA_52 : decode cX8_lookA 52 = .ok (.iconst 2, 1) := by decide +kernel
theorem dX8_lookA_53 : decode cX8_lookA 53 = .ok (.iload_n 2, 1) := by decide +kernel
theorem dX8_lookA_54 : decode cX8_lookA 54 = .ok (.imul, 1) := by decide +kernel
theorem dX8_lookA_55 : decode cX8_lookA 55 = .ok (.iadd, 1) := by decide +kernel
theorem dX8_lookA_56 : decode cX8_lookA 56 = .ok (.invokevirtual 103, 3) := by decide +kernel
theorem dX8_lookA_59 : decode cX8_lookA 59 = .ok (.lmul, 1) := by decide +kernel
theorem dX8_lookA_60 : decode cX8_lookA 60 = .ok (.aload_n 0, 1) := by decide +kernel
theorem dX8_lookA_61 : decode cX8_lookA 61 = .ok (.iload_n 1, 1) := by decide +kernel
theorem dX8_lookA_62 : decode cX8_lookA 62 = .ok (.bipush 35, 2) := by decide +kernel
theorem dX8_lookA_64 : decode cX8_lookA 64 = .ok (.invokevirtual 103, 3) := by decide +kernel
theorem dX8_lookA_67 : decode cX8_lookA 67 = .ok (.ladd, 1) := by decide +kernel
theorem dX8_lookA_68 : decode cX8_lookA 68 = .ok (.invokevirtual 139, 3) := by decide +kernel
theorem dX8_lookA_71 : decode cX8_lookA 71 = .ok (.iinc 2 1, 3) := by decide +kernel
theorem dX8_lookA_74 : decode cX8_lookA 74 = .ok (.goto (-68), 3) := by decide +kernel
theorem dX8_lookA_77 : decode cX8_lookA 77 = .ok (.aload_n 0, 1) := by decide +kernel
theorem dX8_lookA_78 : decode cX8_lookA 78 = .ok (.invokevirtual 143, 3) := by decide +kernel
theorem dX8_lookA_81 : decode cX8_lookA 81 = .ok (.aload_n 0, 1) := by decide +kernel
theorem dX8_lookA_82 : decode cX8_lookA 82 = .ok (.aload_n 0, 1) := by decide +kernel
theorem dX8_lookA_83 : decode cX8_lookA 83 = .ok (.getfield 118, 3) := by decide +kernel
theorem dX8_lookA_86 : decode cX8_lookA 86 = .ok (.putfield 146, 3) := by decide +kernel
theorem dX8_lookA_89 : decode cX8_lookA 89 = .ok (.iconst 0, 1) := by decide +kernel
theorem dX8_lookA_90 : decode cX8_lookA 90 = .ok (.istore_n 2, 1) := by decide +kernel
theorem dX8_lookA_91 : decode cX8_lookA 91 = .ok (.iload_n 2, 1) := by decide +kernel
theorem dX8_lookA_92 : decode cX8_lookA 92 = .ok (.aload_n 0, 1) := by decide +kernel
theorem dX8_lookA_93 : decode cX8_lookA 93 = .ok (.getfield 146, 3) := by decide +kernel
theorem dX8_lookA_96 : decode cX8_lookA 96 = .ok (.if_icmp .ge 33, 3) := by decide +kernel
theorem dX8_lookA_99 : decode cX8_lookA 99 = .ok (.aload_n 0, 1) := by decide +kernel
theorem dX8_lookA_100 : decode cX8_lookA 100 = .ok (.getfield 42, 3) := by decide +kernel
theorem dX8_lookA_103 : decode cX8_lookA 103 = .ok (.iload_n 2, 1) := by decide +kernel
theorem dX8_lookA_104 : decode cX8_lookA 104 = .ok (.aload_n 0, 1) := by decide +kernel
theorem dX8_lookA_105 : decode cX8_lookA 105 = .ok (.getfield 60, 3) := by decide +kernel
theorem dX8_lookA_108 : decode cX8_lookA 108 = .ok (.iload_n 2, 1) := by decide +kernel
theorem dX8_lookA_109 : decode cX8_lookA 109 = .ok (.laload, 1) := by decide +kernel
theorem dX8_lookA_110 : decode cX8_lookA 110 = .ok (.lastore, 1) := by decide +kernel
theorem dX8_lookA_111 : decode cX8_lookA 111 = .ok (.aload_n 0, 1) := by decide +kernel
theorem dX8_lookA_112 : decode cX8_lookA 112 = .ok (.getfield 45, 3) := by decide +kernel
theorem dX8_lookA_115 : decode cX8_lookA 115 = .ok (.iload_n 2, 1) := by decide +kernel
theorem dX8_lookA_116 : decode cX8_lookA 116 = .ok (.aload_n 0, 1) := by decide +kernel
theorem dX8_lookA_117 : decode cX8_lookA 117 = .ok (.getfield 63, 3) := by decide +kernel
theorem dX8_lookA_120 : decode cX8_lookA 120 = .ok (.iload_n 2, 1) := by decide +kernel
theorem dX8_lookA_121 : decode cX8_lookA 121 = .ok (.laload, 1) := by decide +kernel
theorem dX8_lookA_122 : decode cX8_lookA 122 = .ok (.lastore, 1) := by decide +kernel
theorem dX8_lookA_123 : decode cX8_lookA 123 = .ok (.iinc 2 1, 3) := by decide +kernel
theorem dX8_lookA_126 : decode cX8_lookA 126 = .ok (.goto (-35), 3) := by decide +kernel
theorem dX8_lookA_129 : decode cX8_lookA 129 = .ok (.return_, 1) := by decide +kernel
set_option maxHeartbeats 4000000 in
set_option maxRecDepth 100000 in
theorem tX8_lookA (l : Launch) (G : Gg) (b0 : Nat) {K : Kk} {R : Rr} {M : Mm} {r : Nat} {a0 : Int32} {M' : Mm} (hm : mX8_lookA K R M r a0 = some (M')) : CT l G b0 yX8_lookA cX8_lookA 3 none (rmz 4 87) [.ref r, .int a0] K R M none K R M' := by
  refine ct_of (by decide +kernel) (Nat.le_of_ble_eq_true rfl) (fun w hq => ?_)
  have hw := hq.b
  change w 0 0 0 [(0, .ref r), (1, .int a0)] [] K R M
  replace hm := h_start hm
  unfold mX8_lookA at hm
  obtain ⟨h1, m33⟩ := h_ck hm
  clear hm
  refine r_aload_n hw dX8_lookA_0 0 rfl ?_
  obtain ⟨M2, g2, m34⟩ := h_bd m33
  clear m33
  refine r_callV0 hw (tX8_beginPoints l G b0 g2) lB_X8_beginPoints lI_X8_beginPoints mL_X8_132 (c := 8) rfl h1 rfl (Nat.le_of_ble_eq_true rfl) (Nat.le_of_ble_eq_true rfl) rfl (Nat.le_of_ble_eq_true rfl) dX8_lookA_1 ?_
  refine r_iconst (v := 0) hw dX8_lookA_4 rfl ?_
  obtain ⟨i3, ei3, m35⟩ := h_nm m34
  clear m34
  refine r_topI (w := w) ei3 ?_
  refine r_istore_n hw dX8_lookA_5 rfl (by decide) rfl ?_
  refine r_sub hw [1, 2, 0] rfl ?_
  obtain ⟨v6, n06, hn6, hv6⟩ := h_lp m35
  clear m35
  have L6 : ∀ n : Nat, ∀ (i4 : Int32) (M5 : Mm), it (mX8_lookA_L6 K R r a0) n (i4, M5) = some v6 → w 0 0 6 [(0, .ref r), (1, .int a0), (2, .int i4)] [] K R M5 := by
    intro n6
    induction n6 with
    | zero => intro i4 M5 hz; exact absurd hz h_it0
    | succ n6 ih6 =>
      intro i4 M5 m36
      replace m36 : (mX8_lookA_B6 K R r a0 i4 M5).bind (Sum.elim (it (mX8_lookA_L6 K R r a0) n6) some) = some v6 := m36
      unfold mX8_lookA_B6 at m36
      refine r_iload_n hw dX8_lookA_6 2 rfl ?_
      refine r_aload_n hw dX8_lookA_7 0 rfl ?_
      refine r_iload_n hw dX8_lookA_8 1 rfl ?_
      obtain ⟨i6, g6, m37⟩ := h_bd m36
      clear m36
      refine r_callV1 hw (tX8_size l G b0 g6) lB_X8_size lI_X8_size mL_X8_135 (c := 8) rfl h1 rfl (Nat.le_of_ble_eq_true rfl) (Nat.le_of_ble_eq_true rfl) rfl (Nat.le_of_ble_eq_true rfl) dX8_lookA_9 ?_
      refine r_icmp_ge (tgt := 77) hw dX8_lookA_12 (by decide) (fun c7 => ?_) (fun c7 => ?_)
      · have m38 := h_if_f c7 m37
        clear m37
        have m39 := h_ex m38 hv6
        clear m38
        refine r_aload_n hw dX8_lookA_77 0 rfl ?_
        obtain ⟨M8, g8, m40⟩ := h_bd m39
        clear m39
        refine r_callV0 hw (tX8_outermost l G b0 g8) lB_X8_outermost lI_X8_outermost mL_X8_143 (c := 8) rfl h1 rfl (Nat.le_of_ble_eq_true rfl) (Nat.le_of_ble_eq_true rfl) rfl (Nat.le_of_ble_eq_true rfl) dX8_lookA_78 ?_
        refine r_aload_n hw dX8_lookA_81 0 rfl ?_
        refine r_aload_n hw dX8_lookA_82 0 rfl ?_
        refine r_getI hw fO_X8_118 h1 dX8_lookA_83 ?_
        obtain ⟨M9, eM9, m41⟩ := h_nm m40
        clear m40
        refine r_putI hw fP_X8_146 h1 dX8_lookA_86 (r_mem ?_ rfl eM9)
        refine r_iconst (v := 0) hw dX8_lookA_89 rfl ?_
        obtain ⟨i10, ei10, m42⟩ := h_nm m41
        clear m41
        refine r_topI (w := w) ei10 ?_
        refine r_istore_n hw dX8_lookA_90 rfl (by decide) rfl ?_
        refine r_sub hw [1, 0] rfl ?_
        obtain ⟨v91, n091, hn91, hv91⟩ := h_lp m42
        clear m42
        have L91 : ∀ n : Nat, ∀ (i11 : Int32) (M12 : Mm), it (mX8_lookA_L91 K R r) n (i11, M12) = some v91 → w 0 0 91 [(0, .ref r), (2, .int i11)] [] K R M12 := by
          intro n91
          induction n91 with
          | zero => intro i11 M12 hz; exact absurd hz h_it0
          | succ n91 ih91 =>
            intro i11 M12 m43
            replace m43 : (mX8_lookA_B91 K R r i11 M12).bind (Sum.elim (it (mX8_lookA_L91 K R r) n91) some) = some v91 := m43
            unfold mX8_lookA_B91 at m43
            refine r_iload_n hw dX8_lookA_91 1 rfl ?_
            refine r_aload_n hw dX8_lookA_92 0 rfl ?_
            refine r_getI hw fO_X8_146 h1 dX8_lookA_93 ?_
            refine r_icmp_ge (tgt := 129) hw dX8_lookA_96 (by decide) (fun c13 => ?_) (fun c13 => ?_)
            · have m44 := h_if_f c13 m43
              clear m43
              have m45 := h_ex m44 hv91
              clear m44
              cases h_ret m45
              exact r_return hq rfl rfl dX8_lookA_129
            · have m46 := h_if_t c13 m43
              clear m43
              refine r_aload_n hw dX8_lookA_99 0 rfl ?_
              obtain ⟨q14, bq14, m47⟩ := h_bd m46
              clear m46
              refine r_getR hw fO_X8_42 h1 bq14 dX8_lookA_100 ?_
              refine r_iload_n hw dX8_lookA_103 1 rfl ?_
              refine r_aload_n hw dX8_lookA_104 0 rfl ?_
              obtain ⟨q15, bq15, m48⟩ := h_bd m47
              clear m47
              refine r_getR hw fO_X8_60 h1 bq15 dX8_lookA_105 ?_
              refine r_iload_n hw dX8_lookA_108 1 rfl ?_
              obtain ⟨h16, m49⟩ := h_ck m48
              clear m48
              refine r_laload hw h16 dX8_lookA_109 ?_
              obtain ⟨h17, m50⟩ := h_ck m49
              clear m49
              obtain ⟨M18, eM18, m51⟩ := h_nm m50
              clear m50
              refine r_lastore hw h17 dX8_lookA_110 (r_mem ?_ rfl eM18)
              refine r_aload_n hw dX8_lookA_111 0 rfl ?_
              obtain ⟨q19, bq19, m52⟩ := h_bd m51
              clear m51
              refine r_getR hw fO_X8_45 h1 bq19 dX8_lookA_112 ?_
              refine r_iload_n hw dX8_lookA_115 1 rfl ?_
              refine r_aload_n hw dX8_lookA_116 0 rfl ?_
              obtain ⟨q20, bq20, m53⟩ := h_bd m52
              clear m52
              refine r_getR hw fO_X8_63 h1 bq20 dX8_lookA_117 ?_
              refine r_iload_n hw dX8_lookA_120 1 rfl ?_
              obtain ⟨h21, m54⟩ := h_ck m53
              clear m53
              refine r_laload hw h21 dX8_lookA_121 ?_
              obtain ⟨h22, m55⟩ := h_ck m54
              clear m54
              obtain ⟨M23, eM23, m56⟩ := h_nm m55
              clear m55
              refine r_lastore hw h22 dX8_lookA_122 (r_mem ?_ rfl eM23)
              obtain ⟨i24, ei24, m57⟩ := h_nm m56
              clear m56
              refine r_iinc (j := 1) (v := i24) hw dX8_lookA_123 rfl (by rw [ei24]; rfl) (by decide) rfl ?_
              refine r_goto (tgt := 91) hw dX8_lookA_126 (by decide) ?_
              refine r_sub hw [1, 0] rfl ?_
              exact ih91 _ _ m57
        exact L91 n091 _ _ hn91
      · have m58 := h_if_t c7 m37
        clear m37
        refine r_aload_n hw dX8_lookA_15 0 rfl ?_
        refine r_aload_n hw dX8_lookA_16 0 rfl ?_
        refine r_iload_n hw dX8_lookA_17 1 rfl ?_
        refine r_bipush (v := 33) hw dX8_lookA_18 rfl ?_
        obtain ⟨l25, g25, m59⟩ := h_bd m58
        clear m58
        refine r_callV1 hw (tX8_get l G b0 g25) lB_X8_get lI_X8_get mL_X8_103 (c := 8) rfl h1 rfl (Nat.le_of_ble_eq_true rfl) (Nat.le_of_ble_eq_true rfl) rfl (Nat.le_of_ble_eq_true rfl) dX8_lookA_20 ?_
        refine r_aload_n hw dX8_lookA_23 0 rfl ?_
        refine r_iload_n hw dX8_lookA_24 1 rfl ?_
        refine r_iconst (v := 1) hw dX8_lookA_25 rfl ?_
        refine r_iconst (v := 2) hw dX8_lookA_26 rfl ?_
        refine r_iload_n hw dX8_lookA_27 2 rfl ?_
        refine r_imul hw dX8_lookA_28 ?_
        refine r_iadd hw dX8_lookA_29 ?_
        obtain ⟨l26, g26, m60⟩ := h_bd m59
        clear m59
        refine r_callV1 hw (tX8_get l G b0 g26) lB_X8_get lI_X8_get mL_X8_103 (c := 8) rfl h1 rfl (Nat.le_of_ble_eq_true rfl) (Nat.le_of_ble_eq_true rfl) rfl (Nat.le_of_ble_eq_true rfl) dX8_lookA_30 ?_
        refine r_lmul hw dX8_lookA_33 ?_
        refine r_aload_n hw dX8_lookA_34 0 rfl ?_
        refine r_iload_n hw dX8_lookA_35 1 rfl ?_
        refine r_bipush (v := 34) hw dX8_lookA_36 rfl ?_
        obtain ⟨l27, g27, m61⟩ := h_bd m60
        clear m60
        refine r_callV1 hw (tX8_get l G b0 g27) lB_X8_get lI_X8_get mL_X8_103 (c := 8) rfl h1 rfl (Nat.le_of_ble_eq_true rfl) (Nat.le_of_ble_eq_true rfl) rfl (Nat.le_of_ble_eq_true rfl) dX8_lookA_38 ?_
        refine r_ladd hw dX8_lookA_41 ?_
        refine r_aload_n hw dX8_lookA_42 0 rfl ?_
        refine r_iload_n hw dX8_lookA_43 1 rfl ?_
        refine r_bipush (v := 33) hw dX8_lookA_44 rfl ?_
        obtain ⟨l28, g28, m62⟩ := h_bd m61
        clear m61
        refine r_callV1 hw (tX8_get l G b0 g28) lB_X8_get lI_X8_get mL_X8_103 (c := 8) rfl h1 rfl (Nat.le_of_ble_eq_true rfl) (Nat.le_of_ble_eq_true rfl) rfl (Nat.le_of_ble_eq_true rfl) dX8_lookA_46 ?_
        refine r_aload_n hw dX8_lookA_49 0 rfl ?_
        refine r_iload_n hw dX8_lookA_50 1 rfl ?_
        refine r_iconst (v := 2) hw dX8_lookA_51 rfl ?_
        refine r_iconst (v := 2) hw dX8_lookA_52 rfl ?_
        refine r_iload_n hw dX8_lookA_53 2 rfl ?_
        refine r_imul hw dX8_lookA_54 ?_
        refine r_iadd hw dX8_lookA_55 ?_
        obtain ⟨l29, g29, m63⟩ := h_bd m62
        clear m62
        refine r_callV1 hw (tX8_get l G b0 g29) lB_X8_get lI_X8_get mL_X8_103 (c := 8) rfl h1 rfl (Nat.le_of_ble_eq_true rfl) (Nat.le_of_ble_eq_true rfl) rfl (Nat.le_of_ble_eq_true rfl) dX8_lookA_56 ?_
        refine r_lmul hw dX8_lookA_59 ?_
        refine r_aload_n hw dX8_lookA_60 0 rfl ?_
        refine r_iload_n hw dX8_lookA_61 1 rfl ?_
        refine r_bipush (v := 35) hw dX8_lookA_62 rfl ?_
        obtain ⟨l30, g30, m64⟩ := h_bd m63
        clear m63
        refine r_callV1 hw (tX8_get l G b0 g30) lB_X8_get lI_X8_get mL_X8_103 (c := 8) rfl h1 rfl (Nat.le_of_ble_eq_true rfl) (Nat.le_of_ble_eq_true rfl) rfl (Nat.le_of_ble_eq_true rfl) dX8_lookA_64 ?_
        refine r_ladd hw dX8_lookA_67 ?_
        obtain ⟨M31, g31, m65⟩ := h_bd m64
        clear m64
        refine r_callV0 hw (tX8_point l G b0 g31) lB_X8_point lI_X8_point mL_X8_139 (c := 8) rfl h1 rfl (Nat.le_of_ble_eq_true rfl) (Nat.le_of_ble_eq_true rfl) rfl (Nat.le_of_ble_eq_true rfl) dX8_lookA_68 ?_
        obtain ⟨i32, ei32, m66⟩ := h_nm m65
        clear m65
        refine r_iinc (j := 2) (v := i32) hw dX8_lookA_71 rfl (by rw [ei32]; rfl) (by decide) rfl ?_
        refine r_goto (tgt := 6) hw dX8_lookA_74 (by decide) ?_
        refine r_sub hw [1, 2, 0] rfl ?_
        exact ih6 _ _ m66
  exact L6 n06 _ _ hn6
theorem dX8_lookB_0 : decode cX8_lookB 0 = .ok (.aload_n 0, 1) := by decide +kernel
theorem dX8_lookB_1 : decode cX8_lookB 1 = .ok (.iload_n 1, 1) := by decide +kernel
theorem dX8_lookB_2 : decode cX8_lookB 2 = .ok (.invokevirtual 149, 3) := by decide +kernel
theorem dX8_lookB_5 : decode cX8_lookB 5 = .ok (.aload_n 0, 1) := by decide +kernel
theorem dX8_lookB_6 : decode cX8_lookB 6 = .ok (.aload_n 0, 1) := by decide +kernel
theorem dX8_lookB_7 : decode cX8_lookB 7 = .ok (.getfield 146, 3) := by decide +kernel
theorem dX8_lookB_10 : decode cX8_lookB 10 = .ok (.putfield 153, 3) := by decide +kernel
theorem dX8_lookB_13 : decode cX8_lookB 13 = .ok (.iconst 0, 1) := by decide +kernel
theorem dX8_lookB_14 : decode cX8_lookB 14 = .ok (.istore_n 2, 1) := by decide +kernel
theorem dX8_lookB_15 : decode cX8_lookB 15 = .ok (.iload_n 2, 1) := by decide +kernel
theorem dX8_lookB_16 : decode cX8_lookB 16 = .ok (.aload_n 0, 1) := by decide +kernel
theorem dX8_lookB_17 : decode cX8_lookB 17 = .ok (.getfield 153, 3) := by decide +kernel
theorem dX8_lookB_20 : decode cX8_lookB 20 = .ok (.if_icmp .ge 33, 3) := by decide +kernel
theorem dX8_lookB_23 : decode cX8_lookB 23 = .ok (.aload_n 0, 1) := by decide +kernel
theorem dX8_lookB_24 : decode cX8_lookB 24 = .ok (.getfield 48, 3) := by decide +kernel
theorem dX8_lookB_27 : decode cX8_lookB 27 = .ok (.iload_n 2, 1) := by decide +kernel
theorem dX8_lookB_28 : decode cX8_lookB 28 = .ok (.aload_n 0, 1) := by decide +kernel
theorem dX8_lookB_29 : decode cX8_lookB 29 = .ok (.getfield 42, 3) := by decide +kernel
theorem dX8_lookB_32 : decode cX8_lookB 32 = .ok (.iload_n 2, 1) := by decide +kernel
theorem dX8_lookB_33 : decode cX8_lookB 33 = .ok (.laload, 1) := by decide +kernel
theorem dX8_lookB_34 : decode cX8_lookB 34 = .ok (.lastore, 1) := by decide +kernel
theorem dX8_lookB_35 : decode cX8_lookB 35 = .ok (.aload_n 0, 1) := by decide +kernel
theorem dX8_lookB_36 : decode cX8_lookB 36 = .ok (.getfield 51, 3) := by decide +kernel
theorem dX8_lookB_39 : decode cX8_lookB 39 = .ok (.iload_n 2, 1) := by decide +kernel
theorem dX8_lookB_40 : decode cX8_lookB 40 = .ok (.aload_n 0, 1) := by decide +kernel
theorem dX8_lookB_41 : decode cX8_lookB 41 = .ok (.getfield 45, 3) := by decide +kernel
theorem dX8_lookB_44 : decode cX8_lookB 44 = .ok (.iload_n 2, 1) := by decide +kernel
theorem dX8_lookB_45 : decode cX8_lookB 45 = .ok (.laload, 1) := by decide +kernel
theorem dX8_lookB_46 : decode cX8_lookB 46 = .ok (.lastore, 1) := by decide +kernel
theorem dX8_lookB_47 : decode cX8_lookB 47 = .ok (.iinc 2 1, 3) := by decide +kernel
theorem dX8_lookB_50 : decode cX8_lookB 50 = .ok (.goto (-35), 3) := by decide +kernel
theorem dX8_lookB_53 : decode cX8_lookB 53 = .ok (.return_, 1) := by decide +kernel
set_option maxHeartbeats 4000000 in
set_option maxRecDepth 100000 in
theorem tX8_lookB (l : Launch) (G : Gg) (b0 : Nat) {K : Kk} {R : Rr} {M : Mm} {r : Nat} {a0 : Int32} {M' : Mm} (hm : mX8_lookB K R M r a0 = some (M')) : CT l G b0 yX8_lookB cX8_lookB 3 none (rmz 5 109) [.ref r, .int a0] K R M none K R M' := by
  refine ct_of (by decide +kernel) (Nat.le_of_ble_eq_true rfl) (fun w hq => ?_)
  have hw := hq.b
  change w 0 0 0 [(0, .ref r), (1, .int a0)] [] K R M
  replace hm := h_start hm
  unfold mX8_lookB at hm
  obtain ⟨h1, m19⟩ := h_ck hm
  clear hm
  refine r_aload_n hw dX8_lookB_0 0 rfl ?_
  refine r_iload_n hw dX8_lookB_1 1 rfl ?_
  obtain ⟨M2, g2, m20⟩ := h_bd m19
  clear m19
  refine r_callV0 hw (tX8_lookA l G b0 g2) lB_X8_lookA lI_X8_lookA mL_X8_149 (c := 8) rfl h1 rfl (Nat.le_of_ble_eq_true rfl) (Nat.le_of_ble_eq_true rfl) rfl (Nat.le_of_ble_eq_true rfl) dX8_lookB_2 ?_
  refine r_aload_n hw dX8_lookB_5 0 rfl ?_
  refine r_aload_n hw dX8_lookB_6 0 rfl ?_
  refine r_getI hw fO_X8_146 h1 dX8_lookB_7 ?_
  obtain ⟨M3, eM3, m21⟩ := h_nm m20
  clear m20
  refine r_putI hw fP_X8_153 h1 dX8_lookB_10 (r_mem ?_ rfl eM3)
  refine r_iconst (v := 0) hw dX8_lookB_13 rfl ?_
  obtain ⟨i4, ei4, m22⟩ := h_nm m21
  clear m21
  refine r_topI (w := w) ei4 ?_
  refine r_istore_n hw dX8_lookB_14 rfl (by decide) rfl ?_
  refine r_sub hw [1, 0] rfl ?_
  obtain ⟨v15, n015, hn15, hv15⟩ := h_lp m22
  clear m22
  have L15 : ∀ n : Nat, ∀ (i5 : Int32) (M6 : Mm), it (mX8_lookB_L15 K R r) n (i5, M6) = some v15 → w 0 0 15 [(0, .ref r), (2, .int i5)] [] K R M6 := by
    intro n15
    induction n15 with
    | zero => intro i5 M6 hz; exact absurd hz h_it0
    | succ n15 ih15 =>
      intro i5 M6 m23
      replace m23 : (mX8_lookB_B15 K R r i5 M6).bind (Sum.elim (it (mX8_lookB_L15 K R r) n15) some) = some v15 := m23
      unfold mX8_lookB_B15 at m23
      refine r_iload_n hw dX8_lookB_15 1 rfl ?_
      refine r_aload_n hw dX8_lookB_16 0 rfl ?_
      refine r_getI hw fO_X8_153 h1 dX8_lookB_17 ?_
      refine r_icmp_ge (tgt := 53) hw dX8_lookB_20 (by decide) (fun c7 => ?_) (fun c7 => ?_)
      · have m24 := h_if_f c7 m23
        clear m23
        have m25 := h_ex m24 hv15
        clear m24
        cases h_ret m25
        exact r_return hq rfl rfl dX8_lookB_53
      · have m26 := h_if_t c7 m23
        clear m23
        refine r_aload_n hw dX8_lookB_23 0 rfl ?_
        obtain ⟨q8, bq8, m27⟩ := h_bd m26
        clear m26
        refine r_getR hw fO_X8_48 h1 bq8 dX8_lookB_24 ?_
        refine r_iload_n hw dX8_lookB_27 1 rfl ?_
        refine r_aload_n hw dX8_lookB_28 0 rfl ?_
        obtain ⟨q9, bq9, m28⟩ := h_bd m27
        clear m27
        refine r_getR hw fO_X8_42 h1 bq9 dX8_lookB_29 ?_
        refine r_iload_n hw dX8_lookB_32 1 rfl ?_
        obtain ⟨h10, m29⟩ := h_ck m28
        clear m28
        refine r_laload hw h10 dX8_lookB_33 ?_
        obtain ⟨h11, m30⟩ := h_ck m29
        clear m29
        obtain ⟨M12, eM12, m31⟩ := h_nm m30
        clear m30
        refine r_lastore hw h11 dX8_lookB_34 (r_mem ?_ rfl eM12)
        refine r_aload_n hw dX8_lookB_35 0 rfl ?_
        obtain ⟨q13, bq13, m32⟩ := h_bd m31
        clear m31
        refine r_getR hw fO_X8_51 h1 bq13 dX8_lookB_36 ?_
        refine r_iload_n hw dX8_lookB_39 1 rfl ?_
        refine r_aload_n hw dX8_lookB_40 0 rfl ?_
        obtain ⟨q14, bq14, m33⟩ := h_bd m32
        clear m32
        refine r_getR hw fO_X8_45 h1 bq14 dX8_lookB_41 ?_
        refine r_iload_n hw dX8_lookB_44 1 rfl ?_
        obtain ⟨h15, m34⟩ := h_ck m33
        clear m33
        refine r_laload hw h15 dX8_lookB_45 ?_
        obtain ⟨h16, m35⟩ := h_ck m34
        clear m34
        obtain ⟨M17, eM17, m36⟩ := h_nm m35
        clear m35
        refine r_lastore hw h16 dX8_lookB_46 (r_mem ?_ rfl eM17)
        obtain ⟨i18, ei18, m37⟩ := h_nm m36
        clear m36
        refine r_iinc (j := 1) (v := i18) hw dX8_lookB_47 rfl (by rw [ei18]; rfl) (by decide) rfl ?_
        refine r_goto (tgt := 15) hw dX8_lookB_50 (by decide) ?_
        refine r_sub hw [1, 0] rfl ?_
        exact ih15 _ _ m37
  exact L15 n015 _ _ hn15
