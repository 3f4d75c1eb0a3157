theorem dX5_wrap_0 : decode cX5_wrap 0 = .ok (.iload_n 1, 1) := by decide +kernel
theorem dX5_wrap_1 : decode cX5_wrap 1 = .ok (.aload_n 0, 1) := by decide +kernel
theorem dX5_wrap_2 : decode cX5_wrap 2 = .ok (.getfield 16, 3) := by decide +kernel
theorem dX5_wrap_5 : decode cX5_wrap 5 = .ok (.if_icmp .ge 7, 3) := by decide +kernel
theorem dX5_wrap_8 : decode cX5_wrap 8 = .ok (.iload_n 1, 1) := by decide +kernel
theorem dX5_wrap_9 : decode cX5_wrap 9 = .ok (.goto 9, 3) := by decide +kernel
theorem dX5_wrap_12 : decode cX5_wrap 12 = .ok (.iload_n 1, 1) := by decide +kernel
theorem dX5_wrap_13 : decode cX5_wrap 13 = .ok (.aload_n 0, 1) := by decide +kernel
theorem dX5_wrap_14 : decode cX5_wrap 14 = .ok (.getfield 16, 3) := by decide +kernel
theorem dX5_wrap_17 : decode cX5_wrap 17 = .ok (.isub, 1) := by decide +kernel
theorem dX5_wrap_18 : decode cX5_wrap 18 = .ok (.ireturn, 1) := by decide +kernel
set_option maxHeartbeats 4000000 in
set_option maxRecDepth 100000 in
theorem tX5_wrap (l : Launch) (G : Gg) (b0 : Nat) {K : Kk} {R : Rr} {M : Mm} {r : Nat} {a0 : Int32} {res : Int32} (hm : mX5_wrap K R M r a0 = some (res)) : CT l G b0 yX5_wrap cX5_wrap 2 (some .int) (rmz 1 0) [.ref r, .int a0] K R M (some (.int res)) K R M := by
  refine ct_of (by decide +kernel) (Nat.le_of_ble_eq_true rfl) (fun w hq => ?_)
  have hw := hq.b
  change w 0 0 0 [(0, .ref r), (1, .int a0)] [] K R M
  replace hm := h_start hm
  unfold mX5_wrap at hm
  obtain ⟨h1, m3⟩ := h_ck hm
  clear hm
  refine r_iload_n hw dX5_wrap_0 1 rfl ?_
  refine r_aload_n hw dX5_wrap_1 0 rfl ?_
  refine r_getI hw fO_X5_16 h1 dX5_wrap_2 ?_
  refine r_icmp_ge (tgt := 12) hw dX5_wrap_5 (by decide) (fun c2 => ?_) (fun c2 => ?_)
  · have m4 := h_if_f c2 m3
    clear m3
    refine r_iload_n hw dX5_wrap_12 1 rfl ?_
    refine r_aload_n hw dX5_wrap_13 0 rfl ?_
    refine r_getI hw fO_X5_16 h1 dX5_wrap_14 ?_
    refine r_isub hw dX5_wrap_17 ?_
    cases h_ret m4
    exact r_ireturn hq rfl rfl dX5_wrap_18
  · have m5 := h_if_t c2 m3
    clear m3
    refine r_iload_n hw dX5_wrap_8 1 rfl ?_
    refine r_goto (tgt := 18) hw dX5_wrap_9 (by decide) ?_
    cases h_ret m5
    exact r_ireturn hq rfl rfl dX5_wrap_18
theorem dX7_sideOf_0 : decode cX7_sideOf 0 = .ok (.iload_n 2, 1) := by decide +kernel
theorem dX7_sideOf_1 : decode cX7_sideOf 1 = .ok (.i2l, 1) := by decide +kernel
theorem dX7_sideOf_2 : decode cX7_sideOf 2 = .ok (.iload_n 0, 1) := by decide +kernel
theorem dX7_sideOf_3 : decode cX7_sideOf 3 = .ok (.i2l, 1) := by decide +kernel
theorem dX7_sideOf_4 : decode cX7_sideOf 4 = .ok (.lsub, 1) := by decide +kernel
theorem dX7_sideOf_5 : decode cX7_sideOf 5 = .ok (.iload 5, 2) := by decide +kernel
theorem dX7_sideOf_7 : decode cX7_sideOf 7 = .ok (.i2l, 1) := by decide +kernel
theorem dX7_sideOf_8 : decode cX7_sideOf 8 = .ok (.iload_n 1, 1) := by decide +kernel
theorem dX7_sideOf_9 : decode cX7_sideOf 9 = .ok (.i2l, 1) := by decide +kernel
theorem dX7_sideOf_10 : decode cX7_sideOf 10 = .ok (.lsub, 1) := by decide +kernel
theorem dX7_sideOf_11 : decode cX7_sideOf 11 = .ok (.lmul, 1) := by decide +kernel
theorem dX7_sideOf_12 : decode cX7_sideOf 12 = .ok (.iload_n 3, 1) := by decide +kernel
theorem dX7_sideOf_13 : decode cX7_sideOf 13 = .ok (.i2l, 1) := by decide +kernel
theorem dX7_sideOf_14 : decode cX7_sideOf 14 = .ok (.iload_n 1, 1) := by decide +kernel
theorem dX7_sideOf_15 : decode cX7_sideOf 15 = .ok (.i2l, 1) := by decide +kernel
theorem dX7_sideOf_16 : decode cX7_sideOf 16 = .ok (.lsub, 1) := by decide +kernel
theorem dX7_sideOf_17 : decode cX7_sideOf 17 = .ok (.iload 4, 2) := by decide +kernel
theorem dX7_sideOf_19 : decode cX7_sideOf 19 = .ok (.i2l, 1) := by decide +kernel
theorem dX7_sideOf_20 : decode cX7_sideOf 20 = .ok (.iload_n 0, 1) := by decide +kernel
theorem dX7_sideOf_21 : decode cX7_sideOf 21 = .ok (.i2l, 1) := by decide +kernel
theorem dX7_sideOf_22 : decode cX7_sideOf 22 = .ok (.lsub, 1) := by decide +kernel
theorem dX7_sideOf_23 : decode cX7_sideOf 23 = .ok (.lmul, 1) := by decide +kernel
theorem dX7_sideOf_24 : decode cX7_sideOf 24 = .ok (.lsub, 1) := by decide +kernel
theorem dX7_sideOf_25 : decode cX7_sideOf 25 = .ok (.lreturn, 1) := by decide +kernel
set_option maxHeartbeats 4000000 in
set_option maxRecDepth 100000 in
theorem tX7_sideOf (l : Launch) (G : Gg) (b0 : Nat) {K : Kk} {R : Rr} {M : Mm} {a0 : Int32} {a1 : Int32} {a2 : Int32} {a3 : Int32} {a4 : Int32} {a5 : Int32} {res : Int64} (hm : mX7_sideOf K R M a0 a1 a2 a3 a4 a5 = some (res)) : CT l G b0 yX7_sideOf cX7_sideOf 6 (some .long) (rmz 1 0) [.int a0, .int a1, .int a2, .int a3, .int a4, .int a5] K R M (some (.long res)) K R M := by
  refine ct_of (by decide +kernel) (Nat.le_of_ble_eq_true rfl) (fun w hq => ?_)
  have hw := hq.b
  change w 0 0 0 [(0, .int a0), (1, .int a1), (2, .int a2), (3, .int a3), (4, .int a4), (5, .int a5)] [] K R M
  replace hm := h_start hm
  unfold mX7_sideOf at hm
  refine r_iload_n hw dX7_sideOf_0 2 rfl ?_
  refine r_i2l hw dX7_sideOf_1 ?_
  refine r_iload_n hw dX7_sideOf_2 0 rfl ?_
  refine r_i2l hw dX7_sideOf_3 ?_
  refine r_lsub hw dX7_sideOf_4 ?_
  refine r_iload hw dX7_sideOf_5 5 rfl ?_
  refine r_i2l hw dX7_sideOf_7 ?_
  refine r_iload_n hw dX7_sideOf_8 1 rfl ?_
  refine r_i2l hw dX7_sideOf_9 ?_
  refine r_lsub hw dX7_sideOf_10 ?_
  refine r_lmul hw dX7_sideOf_11 ?_
  refine r_iload_n hw dX7_sideOf_12 3 rfl ?_
  refine r_i2l hw dX7_sideOf_13 ?_
  refine r_iload_n hw dX7_sideOf_14 1 rfl ?_
  refine r_i2l hw dX7_sideOf_15 ?_
  refine r_lsub hw dX7_sideOf_16 ?_
  refine r_iload hw dX7_sideOf_17 4 rfl ?_
  refine r_i2l hw dX7_sideOf_19 ?_
  refine r_iload_n hw dX7_sideOf_20 0 rfl ?_
  refine r_i2l hw dX7_sideOf_21 ?_
  refine r_lsub hw dX7_sideOf_22 ?_
  refine r_lmul hw dX7_sideOf_23 ?_
  refine r_lsub hw dX7_sideOf_24 ?_
  cases h_ret hm
  exact r_lreturn hq rfl rfl dX7_sideOf_25
theorem dX5_sideAt_0 : decode cX5_sideAt 0 = .ok (.aload_n 0, 1) := by decide +kernel
theorem dX5_sideAt_1 : decode cX5_sideAt 1 = .ok (.getfield 7, 3) := by decide +kernel
theorem dX5_sideAt_4 : decode cX5_sideAt 4 = .ok (.iload_n 1, 1) := by decide +kernel
theorem dX5_sideAt_5 : decode cX5_sideAt 5 = .ok (.iaload, 1) := by decide +kernel
theorem dX5_sideAt_6 : decode cX5_sideAt 6 = .ok (.aload_n 0, 1) := by decide +kernel
theorem dX5_sideAt_7 : decode cX5_sideAt 7 = .ok (.getfield 13, 3) := by decide +kernel
theorem dX5_sideAt_10 : decode cX5_sideAt 10 = .ok (.iload_n 1, 1) := by decide +kernel
theorem dX5_sideAt_11 : decode cX5_sideAt 11 = .ok (.iaload, 1) := by decide +kernel
theorem dX5_sideAt_12 : decode cX5_sideAt 12 = .ok (.aload_n 0, 1) := by decide +kernel
theorem dX5_sideAt_13 : decode cX5_sideAt 13 = .ok (.getfield 7, 3) := by decide +kernel
theorem dX5_sideAt_16 : decode cX5_sideAt 16 = .ok (.iload_n 2, 1) := by decide +kernel
theorem dX5_sideAt_17 : decode cX5_sideAt 17 = .ok (.iaload, 1) := by decide +kernel
theorem dX5_sideAt_18 : decode cX5_sideAt 18 = .ok (.aload_n 0, 1) := by decide +kernel
theorem dX5_sideAt_19 : decode cX5_sideAt 19 = .ok (.getfield 13, 3) := by decide +kernel
theorem dX5_sideAt_22 : decode cX5_sideAt 22 = .ok (.iload_n 2, 1) := by decide +kernel
theorem dX5_sideAt_23 : decode cX5_sideAt 23 = .ok (.iaload, 1) := by decide +kernel
theorem dX5_sideAt_24 : decode cX5_sideAt 24 = .ok (.iload_n 3, 1) := by decide +kernel
theorem dX5_sideAt_25 : decode cX5_sideAt 25 = .ok (.iload 4, 2) := by decide +kernel
theorem dX5_sideAt_27 : decode cX5_sideAt 27 = .ok (.invokestatic 55, 3) := by decide +kernel
theorem dX5_sideAt_30 : decode cX5_sideAt 30 = .ok (.lreturn, 1) := by decide +kernel
set_option maxHeartbeats 4000000 in
set_option maxRecDepth 100000 in
theorem tX5_sideAt (l : Launch) (G : Gg) (b0 : Nat) {K : Kk} {R : Rr} {M : Mm} {r : Nat} {a0 : Int32} {a1 : Int32} {a2 : Int32} {a3 : Int32} {res : Int64} (hm : mX5_sideAt K R M r a0 a1 a2 a3 = some (res)) : CT l G b0 yX5_sideAt cX5_sideAt 5 (some .long) (rmz 2 25) [.ref r, .int a0, .int a1, .int a2, .int a3] K R M (some (.long res)) K R M := by
  refine ct_of (by decide +kernel) (Nat.le_of_ble_eq_true rfl) (fun w hq => ?_)
  have hw := hq.b
  change w 0 0 0 [(0, .ref r), (1, .int a0), (2, .int a1), (3, .int a2), (4, .int a3)] [] K R M
  replace hm := h_start hm
  unfold mX5_sideAt at hm
  obtain ⟨h1, m9⟩ := h_ck hm
  clear hm
  refine r_aload_n hw dX5_sideAt_0 0 rfl ?_
  obtain ⟨q2, bq2, m10⟩ := h_bd m9
  clear m9
  refine r_getR hw fO_X5_7 h1 bq2 dX5_sideAt_1 ?_
  refine r_iload_n hw dX5_sideAt_4 1 rfl ?_
  obtain ⟨h3, m11⟩ := h_ck m10
  clear m10
  refine r_iaload hw h3 dX5_sideAt_5 ?_
  refine r_aload_n hw dX5_sideAt_6 0 rfl ?_
  obtain ⟨q4, bq4, m12⟩ := h_bd m11
  clear m11
  refine r_getR hw fO_X5_13 h1 bq4 dX5_sideAt_7 ?_
  refine r_iload_n hw dX5_sideAt_10 1 rfl ?_
  obtain ⟨h5, m13⟩ := h_ck m12
  clear m12
  refine r_iaload hw h5 dX5_sideAt_11 ?_
  refine r_aload_n hw dX5_sideAt_12 0 rfl ?_
  refine r_getR hw fO_X5_7 h1 bq2 dX5_sideAt_13 ?_
  refine r_iload_n hw dX5_sideAt_16 2 rfl ?_
  obtain ⟨h6, m14⟩ := h_ck m13
  clear m13
  refine r_iaload hw h6 dX5_sideAt_17 ?_
  refine r_aload_n hw dX5_sideAt_18 0 rfl ?_
  refine r_getR hw fO_X5_13 h1 bq4 dX5_sideAt_19 ?_
  refine r_iload_n hw dX5_sideAt_22 2 rfl ?_
  obtain ⟨h7, m15⟩ := h_ck m14
  clear m14
  refine r_iaload hw h7 dX5_sideAt_23 ?_
  refine r_iload_n hw dX5_sideAt_24 3 rfl ?_
  refine r_iload hw dX5_sideAt_25 4 rfl ?_
  obtain ⟨l8, g8, m16⟩ := h_bd m15
  clear m15
  refine r_callSN1 hw (tX7_sideOf l G b0 g8) lB_X7_sideOf sT_X7_sideOf (nw_X5_55) rfl (Nat.le_of_ble_eq_true rfl) (Nat.le_of_ble_eq_true rfl) rfl (Nat.le_of_ble_eq_true rfl) dX5_sideAt_27 ?_
  cases h_ret m16
  exact r_lreturn hq rfl rfl dX5_sideAt_30
theorem dX5_holds_0 : decode cX5_holds 0 = .ok (.iconst 0, 1) := by decide +kernel
theorem dX5_holds_1 : decode cX5_holds 1 = .ok (.istore_n 3, 1) := by decide +kernel
theorem dX5_holds_2 : decode cX5_holds 2 = .ok (.iload_n 3, 1) := by decide +kernel
theorem dX5_holds_3 : decode cX5_holds 3 = .ok (.aload_n 0, 1) := by decide +kernel
theorem dX5_holds_4 : decode cX5_holds 4 = .ok (.getfield 16, 3) := by decide +kernel
theorem dX5_holds_7 : decode cX5_holds 7 = .ok (.if_icmp .ge 30, 3) := by decide +kernel
theorem dX5_holds_10 : decode cX5_holds 10 = .ok (.aload_n 0, 1) := by decide +kernel
theorem dX5_holds_11 : decode cX5_holds 11 = .ok (.iload_n 3, 1) := by decide +kernel
theorem dX5_holds_12 : decode cX5_holds 12 = .ok (.aload_n 0, 1) := by decide +kernel
theorem dX5_holds_13 : decode cX5_holds 13 = .ok (.iload_n 3, 1) := by decide +kernel
theorem dX5_holds_14 : decode cX5_holds 14 = .ok (.iconst 1, 1) := by decide +kernel
theorem dX5_holds_15 : decode cX5_holds 15 = .ok (.iadd, 1) := by decide +kernel
theorem dX5_holds_16 : decode cX5_holds 16 = .ok (.invokevirtual 40, 3) := by decide +kernel
theorem dX5_holds_19 : decode cX5_holds 19 = .ok (.iload_n 1, 1) := by decide +kernel
theorem dX5_holds_20 : decode cX5_holds 20 = .ok (.iload_n 2, 1) := by decide +kernel
theorem dX5_holds_21 : decode cX5_holds 21 = .ok (.invokevirtual 51, 3) := by decide +kernel
theorem dX5_holds_24 : decode cX5_holds 24 = .ok (.lconst 0, 1) := by decide +kernel
theorem dX5_holds_25 : decode cX5_holds 25 = .ok (.lcmp, 1) := by decide +kernel
theorem dX5_holds_26 : decode cX5_holds 26 = .ok (.ifCond .ge 5, 3) := by decide +kernel
theorem dX5_holds_29 : decode cX5_holds 29 = .ok (.iconst 0, 1) := by decide +kernel
theorem dX5_holds_30 : decode cX5_holds 30 = .ok (.ireturn, 1) := by decide +kernel
theorem dX5_holds_31 : decode cX5_holds 31 = .ok (.iinc 3 1, 3) := by decide +kernel
theorem dX5_holds_34 : decode cX5_holds 34 = .ok (.goto (-32), 3) := by decide +kernel
theorem dX5_holds_37 : decode cX5_holds 37 = .ok (.iconst 1, 1) := by decide +kernel
theorem dX5_holds_38 : decode cX5_holds 38 = .ok (.ireturn, 1) := by decide +kernel
set_option maxHeartbeats 4000000 in
set_option maxRecDepth 100000 in
theorem tX5_holds (l : Launch) (G : Gg) (b0 : Nat) {K : Kk} {R : Rr} {M : Mm} {r : Nat} {a0 : Int32} {a1 : Int32} {res : Int32} (hm : mX5_holds K R M r a0 a1 = some (res)) : CT l G b0 yX5_holds cX5_holds 4 (some .boolean) (rmz 3 49) [.ref r, .int a0, .int a1] K R M (some (.int res)) K R M := by
  refine ct_of (by decide +kernel) (Nat.le_of_ble_eq_true rfl) (fun w hq => ?_)
  have hw := hq.b
  change w 0 0 0 [(0, .ref r), (1, .int a0), (2, .int a1)] [] K R M
  replace hm := h_start hm
  unfold mX5_holds at hm
  obtain ⟨h1, m9⟩ := h_ck hm
  clear hm
  refine r_iconst (v := 0) hw dX5_holds_0 rfl ?_
  obtain ⟨i2, ei2, m10⟩ := h_nm m9
  clear m9
  refine r_topI (w := w) ei2 ?_
  refine r_istore_n hw dX5_holds_1 rfl (by decide) rfl ?_
  refine r_sub hw [1, 2, 3, 0] rfl ?_
  obtain ⟨v2, n02, hn2, hv2⟩ := h_lp m10
  clear m10
  have L2 : ∀ n : Nat, ∀ (i3 : Int32), it (mX5_holds_L2 K R M r a0 a1) n (i3) = some v2 → w 0 0 2 [(0, .ref r), (1, .int a0), (2, .int a1), (3, .int i3)] [] K R M := by
    intro n2
    induction n2 with
    | zero => intro i3 hz; exact absurd hz h_it0
    | succ n2 ih2 =>
      intro i3 m11
      replace m11 : (mX5_holds_B2 K R M r a0 a1 i3).bind (Sum.elim (it (mX5_holds_L2 K R M r a0 a1) n2) some) = some v2 := m11
      unfold mX5_holds_B2 at m11
      refine r_iload_n hw dX5_holds_2 3 rfl ?_
      refine r_aload_n hw dX5_holds_3 0 rfl ?_
      refine r_getI hw fO_X5_16 h1 dX5_holds_4 ?_
      refine r_icmp_ge (tgt := 37) hw dX5_holds_7 (by decide) (fun c4 => ?_) (fun c4 => ?_)
      · have m12 := h_if_f c4 m11
        clear m11
        have m13 := h_ex m12 hv2
        clear m12
        refine r_iconst (v := 1) hw dX5_holds_37 rfl ?_
        cases h_ret m13
        exact r_zreturn hq isB_1 rfl rfl dX5_holds_38
      · have m14 := h_if_t c4 m11
        clear m11
        refine r_aload_n hw dX5_holds_10 0 rfl ?_
        refine r_iload_n hw dX5_holds_11 3 rfl ?_
        refine r_aload_n hw dX5_holds_12 0 rfl ?_
        refine r_iload_n hw dX5_holds_13 3 rfl ?_
        refine r_iconst (v := 1) hw dX5_holds_14 rfl ?_
        refine r_iadd hw dX5_holds_15 ?_
        obtain ⟨i5, g5, m15⟩ := h_bd m14
        clear m14
        refine r_callV1 hw (tX5_wrap l G b0 g5) lB_X5_wrap lI_X5_wrap mL_X5_40 (c := 5) rfl h1 rfl (Nat.le_of_ble_eq_true rfl) (Nat.le_of_ble_eq_true rfl) rfl (Nat.le_of_ble_eq_true rfl) dX5_holds_16 ?_
        refine r_iload_n hw dX5_holds_19 1 rfl ?_
        refine r_iload_n hw dX5_holds_20 2 rfl ?_
        obtain ⟨l6, g6, m16⟩ := h_bd m15
        clear m15
        refine r_callV1 hw (tX5_sideAt l G b0 g6) lB_X5_sideAt lI_X5_sideAt mL_X5_51 (c := 5) rfl h1 rfl (Nat.le_of_ble_eq_true rfl) (Nat.le_of_ble_eq_true rfl) rfl (Nat.le_of_ble_eq_true rfl) dX5_holds_21 ?_
        refine r_lconst (v := 0) hw dX5_holds_24 rfl ?_
        refine r_lcmp_ge (tgt := 31) hw dX5_holds_25 dX5_holds_26 (by decide) (fun c7 => ?_) (fun c7 => ?_)
        · have m17 := h_if_f c7 m16
          clear m16
          obtain ⟨i8, ei8, m18⟩ := h_nm m17
          clear m17
          refine r_iinc (j := 3) (v := i8) hw dX5_holds_31 rfl (by rw [ei8]; rfl) (by decide) rfl ?_
          refine r_goto (tgt := 2) hw dX5_holds_34 (by decide) ?_
          refine r_sub hw [1, 2, 3, 0] rfl ?_
          exact ih2 _ m18
        · have m19 := h_if_t c7 m16
          clear m16
          have m20 := h_ex m19 hv2
          clear m19
          refine r_iconst (v := 0) hw dX5_holds_29 rfl ?_
          cases h_ret m20
          exact r_zreturn hq isB_0 rfl rfl dX5_holds_30
  exact L2 n02 _ hn2
theorem dX5_add_0 : decode cX5_add 0 = .ok (.aload_n 0, 1) := by decide +kernel
theorem dX5_add_1 : decode cX5_add 1 = .ok (.getfield 16, 3) := by decide +kernel
theorem dX5_add_4 : decode cX5_add 4 = .ok (.aload_n 0, 1) := by decide +kernel
theorem dX5_add_5 : decode cX5_add 5 = .ok (.getfield 7, 3) := by decide +kernel
theorem dX5_add_8 : decode cX5_add 8 = .ok (.arraylength, 1) := by decide +kernel
theorem dX5_add_9 : decode cX5_add 9 = .ok (.if_icmp .ge 33, 3) := by decide +kernel
theorem dX5_add_12 : decode cX5_add 12 = .ok (.aload_n 0, 1) := by decide +kernel
theorem dX5_add_13 : decode cX5_add 13 = .ok (.getfield 7, 3) := by decide +kernel
theorem dX5_add_16 : decode cX5_add 16 = .ok (.aload_n 0, 1) := by decide +kernel
theorem dX5_add_17 : decode cX5_add 17 = .ok (.getfield 16, 3) := by decide +kernel
theorem dX5_add_20 : decode cX5_add 20 = .ok (.iload_n 1, 1) := by decide +kernel
theorem dX5_add_21 : decode cX5_add 21 = .ok (.iastore, 1) := by decide +kernel
theorem dX5_add_22 : decode cX5_add 22 = .ok (.aload_n 0, 1) := by decide +kernel
theorem dX5_add_23 : decode cX5_add 23 = .ok (.getfield 13, 3) := by decide +kernel
theorem dX5_add_26 : decode cX5_add 26 = .ok (.aload_n 0, 1) := by decide +kernel
theorem dX5_add_27 : decode cX5_add 27 = .ok (.getfield 16, 3) := by decide +kernel
theorem dX5_add_30 : decode cX5_add 30 = .ok (.iload_n 2, 1) := by decide +kernel
theorem dX5_add_31 : decode cX5_add 31 = .ok (.iastore, 1) := by decide +kernel
theorem dX5_add_32 : decode cX5_add 32 = .ok (.aload_n 0, 1) := by decide +kernel
theorem dX5_add_33 : decode cX5_add 33 = .ok (.dup, 1) := by decide +kernel
theorem dX5_add_34 : decode cX5_add 34 = .ok (.getfield 16, 3) := by decide +kernel
theorem dX5_add_37 : decode cX5_add 37 = .ok (.iconst 1, 1) := by decide +kernel
theorem dX5_add_38 : decode cX5_add 38 = .ok (.iadd, 1) := by decide +kernel
theorem dX5_add_39 : decode cX5_add 39 = .ok (.putfield 16, 3) := by decide +kernel
theorem dX5_add_42 : decode cX5_add 42 = .ok (.return_, 1) := by decide +kernel
set_option maxHeartbeats 4000000 in
set_option maxRecDepth 100000 in
theorem tX5_add (l : Launch) (G : Gg) (b0 : Nat) {K : Kk} {R : Rr} {M : Mm} {r : Nat} {a0 : Int32} {a1 : Int32} {M' : Mm} (hm : mX5_add K R M r a0 a1 = some (M')) : CT l G b0 yX5_add cX5_add 3 none (rmz 1 0) [.ref r, .int a0, .int a1] K R M none K R M' := by
  refine ct_of (by decide +kernel) (Nat.le_of_ble_eq_true rfl) (fun w hq => ?_)
  have hw := hq.b
  change w 0 0 0 [(0, .ref r), (1, .int a0), (2, .int a1)] [] K R M
  replace hm := h_start hm
  unfold mX5_add at hm
  obtain ⟨h1, m11⟩ := h_ck hm
  clear hm
  refine r_aload_n hw dX5_add_0 0 rfl ?_
  refine r_getI hw fO_X5_16 h1 dX5_add_1 ?_
  refine r_aload_n hw dX5_add_4 0 rfl ?_
  obtain ⟨q2, bq2, m12⟩ := h_bd m11
  clear m11
  refine r_getR hw fO_X5_7 h1 bq2 dX5_add_5 ?_
  obtain ⟨h3, m13⟩ := h_ck m12
  clear m12
  refine r_alen hw h3 dX5_add_8 ?_
  refine r_icmp_ge (tgt := 42) hw dX5_add_9 (by decide) (fun c4 => ?_) (fun c4 => ?_)
  · have m14 := h_if_f c4 m13
    clear m13
    cases h_ret m14
    exact r_return hq rfl rfl dX5_add_42
  · have m15 := h_if_t c4 m13
    clear m13
    refine r_aload_n hw dX5_add_12 0 rfl ?_
    refine r_getR hw fO_X5_7 h1 bq2 dX5_add_13 ?_
    refine r_aload_n hw dX5_add_16 0 rfl ?_
    refine r_getI hw fO_X5_16 h1 dX5_add_17 ?_
    refine r_iload_n hw dX5_add_20 1 rfl ?_
    obtain ⟨h5, m16⟩ := h_ck m15
    clear m15
    obtain ⟨M6, eM6, m17⟩ := h_nm m16
    clear m16
    refine r_iastore hw h5 dX5_add_21 (r_mem ?_ rfl eM6)
    refine r_aload_n hw dX5_add_22 0 rfl ?_
    obtain ⟨q7, bq7, m18⟩ := h_bd m17
    clear m17
    refine r_getR hw fO_X5_13 h1 bq7 dX5_add_23 ?_
    refine r_aload_n hw dX5_add_26 0 rfl ?_
    refine r_getI hw fO_X5_16 h1 dX5_add_27 ?_
    refine r_iload_n hw dX5_add_30 2 rfl ?_
    obtain ⟨h8, m19⟩ := h_ck m18
    clear m18
    obtain ⟨M9, eM9, m20⟩ := h_nm m19
    clear m19
    refine r_iastore hw h8 dX5_add_31 (r_mem ?_ rfl eM9)
    refine r_aload_n hw dX5_add_32 0 rfl ?_
    refine r_dup hw dX5_add_33 rfl ?_
    refine r_getI hw fO_X5_16 h1 dX5_add_34 ?_
    refine r_iconst (v := 1) hw dX5_add_37 rfl ?_
    refine r_iadd hw dX5_add_38 ?_
    obtain ⟨M10, eM10, m21⟩ := h_nm m20
    clear m20
    refine r_putI hw fP_X5_16 h1 dX5_add_39 (r_mem ?_ rfl eM10)
    cases h_ret m21
    exact r_return hq rfl rfl dX5_add_42
theorem dX0_sortIn_0 : decode cX0_sortIn 0 = .ok (.iconst 0, 1) := by decide +kernel
theorem dX0_sortIn_1 : decode cX0_sortIn 1 = .ok (.istore_n 3, 1) := by decide +kernel
theorem dX0_sortIn_2 : decode cX0_sortIn 2 = .ok (.iload_n 3, 1) := by decide +kernel
theorem dX0_sortIn_3 : decode cX0_sortIn 3 = .ok (.aload_n 0, 1) := by decide +kernel
theorem dX0_sortIn_4 : decode cX0_sortIn 4 = .ok (.getfield 20, 3) := by decide +kernel
theorem dX0_sortIn_7 : decode cX0_sortIn 7 = .ok (.getfield 30, 3) := by decide +kernel
theorem dX0_sortIn_10 : decode cX0_sortIn 10 = .ok (.if_icmp .ge 48, 3) := by decide +kernel
theorem dX0_sortIn_13 : decode cX0_sortIn 13 = .ok (.aload_n 0, 1) := by decide +kernel
theorem dX0_sortIn_14 : decode cX0_sortIn 14 = .ok (.getfield 20, 3) := by decide +kernel
theorem dX0_sortIn_17 : decode cX0_sortIn 17 = .ok (.getfield 45, 3) := by decide +kernel
theorem dX0_sortIn_20 : decode cX0_sortIn 20 = .ok (.iload_n 3, 1) := by decide +kernel
theorem dX0_sortIn_21 : decode cX0_sortIn 21 = .ok (.iaload, 1) := by decide +kernel
theorem dX0_sortIn_22 : decode cX0_sortIn 22 = .ok (.iload_n 1, 1) := by decide +kernel
theorem dX0_sortIn_23 : decode cX0_sortIn 23 = .ok (.if_icmp .lt 29, 3) := by decide +kernel
theorem dX0_sortIn_26 : decode cX0_sortIn 26 = .ok (.aload_n 0, 1) := by decide +kernel
theorem dX0_sortIn_27 : decode cX0_sortIn 27 = .ok (.getfield 20, 3) := by decide +kernel
theorem dX0_sortIn_30 : decode cX0_sortIn 30 = .ok (.getfield 45, 3) := by decide +kernel
theorem dX0_sortIn_33 : decode cX0_sortIn 33 = .ok (.iload_n 3, 1) := by decide +kernel
theorem dX0_sortIn_34 : decode cX0_sortIn 34 = .ok (.iaload, 1) := by decide +kernel
theorem dX0_sortIn_35 : decode cX0_sortIn 35 = .ok (.iload_n 1, 1) := by decide +kernel
theorem dX0_sortIn_36 : decode cX0_sortIn 36 = .ok (.if_icmp .ne 22, 3) := by decide +kernel
theorem dX0_sortIn_39 : decode cX0_sortIn 39 = .ok (.aload_n 0, 1) := by decide +kernel
theorem dX0_sortIn_40 : decode cX0_sortIn 40 = .ok (.getfield 20, 3) := by decide +kernel
theorem dX0_sortIn_43 : decode cX0_sortIn 43 = .ok (.getfield 49, 3) := by decide +kernel
theorem dX0_sortIn_46 : decode cX0_sortIn 46 = .ok (.iload_n 3, 1) := by decide +kernel
theorem dX0_sortIn_47 : decode cX0_sortIn 47 = .ok (.iaload, 1) := by decide +kernel
theorem dX0_sortIn_48 : decode cX0_sortIn 48 = .ok (.iload_n 2, 1) := by decide +kernel
theorem dX0_sortIn_49 : decode cX0_sortIn 49 = .ok (.if_icmp .ge 9, 3) := by decide +kernel
theorem dX0_sortIn_52 : decode cX0_sortIn 52 = .ok (.iinc 3 1, 3) := by decide +kernel
theorem dX0_sortIn_55 : decode cX0_sortIn 55 = .ok (.goto (-53), 3) := by decide +kernel
theorem dX0_sortIn_58 : decode cX0_sortIn 58 = .ok (.iload_n 3, 1) := by decide +kernel
theorem dX0_sortIn_59 : decode cX0_sortIn 59 = .ok (.aload_n 0, 1) := by decide +kernel
theorem dX0_sortIn_60 : decode cX0_sortIn 60 = .ok (.getfield 20, 3) := by decide +kernel
theorem dX0_sortIn_63 : decode cX0_sortIn 63 = .ok (.getfield 30, 3) := by decide +kernel
theorem dX0_sortIn_66 : decode cX0_sortIn 66 = .ok (.if_icmp .ge 30, 3) := by decide +kernel
theorem dX0_sortIn_69 : decode cX0_sortIn 69 = .ok (.aload_n 0, 1) := by decide +kernel
theorem dX0_sortIn_70 : decode cX0_sortIn 70 = .ok (.getfield 20, 3) := by decide +kernel
theorem dX0_sortIn_73 : decode cX0_sortIn 73 = .ok (.getfield 45, 3) := by decide +kernel
theorem dX0_sortIn_76 : decode cX0_sortIn 76 = .ok (.iload_n 3, 1) := by decide +kernel
theorem dX0_sortIn_77 : decode cX0_sortIn 77 = .ok (.iaload, 1) := by decide +kernel
theorem dX0_sortIn_78 : decode cX0_sortIn 78 = .ok (.iload_n 1, 1) := by decide +kernel
theorem dX0_sortIn_79 : decode cX0_sortIn 79 = .ok (.if_icmp .ne 17, 3) := by decide +kernel
theorem dX0_sortIn_82 : decode cX0_sortIn 82 = .ok (.aload_n 0, 1) := by decide +kernel
theorem dX0_sortIn_83 : decode cX0_sortIn 83 = .ok (.getfield 20, 3) := by decide +kernel
theorem dX0_sortIn_86 : decode cX0_sortIn 86 = .ok (.getfield 49, 3) := by decide +kernel
theorem dX0_sortIn_89 : decode cX0_sortIn 89 = .ok (.iload_n 3, 1) := by decide +kernel
theorem dX0_sortIn_90 : decode cX0_sortIn 90 = .ok (.iaload, 1) := by decide +kernel
theorem dX0_sortIn_91 : decode cX0_sortIn 91 = .ok (.iload_n 2, 1) := by decide +kernel
theorem dX0_sortIn_92 : decode cX0_sortIn 92 = .ok (.if_icmp .ne 4, 3) := by decide +kernel
theorem dX0_sortIn_95 : decode cX0_sortIn 95 = .ok (.return_, 1) := by decide +kernel
theorem dX0_sortIn_96 : decode cX0_sortIn 96 = .ok (.aload_n 0, 1) := by decide +kernel
theorem dX0_sortIn_97 : decode cX0_sortIn 97 = .ok (.getfield 20, 3) := by decide +kernel
theorem dX0_sortIn_100 : decode cX0_sortIn 100 = .ok (.iload_n 1, 1) := by decide +kernel
theorem dX0_sortIn_101 : decode cX0_sortIn 101 = .ok (.iload_n 2, 1) := by decide +kernel
theorem dX0_sortIn_102 : decode cX0_sortIn 102 = .ok (.invokevirtual 89, 3) := by decide +kernel
theorem dX0_sortIn_105 : decode cX0_sortIn 105 = .ok (.aload_n 0, 1) := by decide +kernel
theorem dX0_sortIn_106 : decode cX0_sortIn 106 = .ok (.getfield 20, 3) := by decide +kernel
theorem dX0_sortIn_109 : decode cX0_sortIn 109 = .ok (.getfield 30, 3) := by decide +kernel
theorem dX0_sortIn_112 : decode cX0_sortIn 112 = .ok (.iconst 1, 1) := by decide +kernel
theorem dX0_sortIn_113 : decode cX0_sortIn 113 = .ok (.isub, 1) := by decide +kernel
theorem dX0_sortIn_114 : decode cX0_sortIn 114 = .ok (.istore 4, 2) := by decide +kernel
theorem dX0_sortIn_116 : decode cX0_sortIn 116 = .ok (.iload 4, 2) := by decide +kernel
theorem dX0_sortIn_118 : decode cX0_sortIn 118 = .ok (.iload_n 3, 1) := by decide +kernel
theorem dX0_sortIn_119 : decode cX0_sortIn 119 = .ok (.if_icmp .le 53, 3) := by decide +kernel
theorem dX0_sortIn_122 : decode cX0_sortIn 122 = .ok (.aload_n 0, 1) := by decide +kernel
theorem dX0_sortIn_123 : decode cX0_sortIn 123 = .ok (.getfield 20, 3) := by decide +kernel
theorem dX0_sortIn_126 : decode cX0_sortIn 126 = .ok (.getfield 45, 3) := by decide +kernel
theorem dX0_sortIn_129 : decode cX0_sortIn 129 = .ok (.iload 4, 2) := by decide +kernel
theorem dX0_sortIn_131 : decode cX0_sortIn 131 = .ok (.aload_n 0, 1) := by decide +kernel
theorem dX0_sortIn_132 : decode cX0_sortIn 132 = .ok (.getfield 20, 3) := by decide +kernel
theorem dX0_sortIn_135 : decode cX0_sortIn 135 = .ok (.getfield 45, 3) := by decide +kernel
theorem dX0_sortIn_138 : decode cX0_sortIn 138 = .ok (.iload 4, 2) := by decide +kernel
theorem dX0_sortIn_140 : decode cX0_sortIn 140 = .ok (.iconst 1, 1) := by decide +kernel
theorem dX0_sortIn_141 : decode cX0_sortIn 141 = .ok (.isub, 1) := by decide +kernel
theorem dX0_sortIn_142 : decode cX0_sortIn 142 = .ok (.iaload, 1) := by decide +kernel
theorem dX0_sortIn_143 : decode cX0_sortIn 143 = .ok (.iastore, 1) := by decide +kernel
theorem dX0_sortIn_144 : decode cX0_sortIn 144 = .ok (.aload_n 0, 1) := by decide +kernel
theorem dX0_sortIn_145 : decode cX0_sortIn 145 = .ok (.getfield 20, 3) := by decide +kernel
theorem dX0_sortIn_148 : decode cX0_sortIn 148 = .ok (.getfield 49, 3) := by decide +kernel
theorem dX0_sortIn_151 : decode cX0_sortIn 151 = .ok (.iload 4, 2) := by decide +kernel
theorem dX0_sortIn_153 : decode cX0_sortIn 153 = .ok (.aload_n 0, 1) := by decide +kernel
theorem dX0_sortIn_154 : decode cX0_sortIn 154 = .ok (.getfield 20, 3) := by decide +kernel
theorem dX0_sortIn_157 : decode cX0_sortIn 157 = .ok (.getfield 49, 3) := by decide +kernel
theorem dX0_sortIn_160 : decode cX0_sortIn 160 = .ok (.iload 4, 2) := by decide +kernel
theorem dX0_sortIn_162 : decode cX0_sortIn 162 = .ok (.iconst 1, 1) := by decide +kernel
theorem dX0_sortIn_163 : decode cX0_sortIn 163 = .ok (.isub, 1) := by decide +kernel
theorem dX0_sortIn_164 : decode cX0_sortIn 164 = .ok (.iaload, 1) := by decide +kernel
theorem dX0_sortIn_165 : decode cX0_sortIn 165 = .ok (.iastore, 1) := by decide +kernel
theorem dX0_sortIn_166 : decode cX0_sortIn 166 = .ok (.iinc 4 (-1), 3) := by decide +kernel
theorem dX0_sortIn_169 : decode cX0_sortIn 169 = .ok (.goto (-53), 3) := by decide +kernel
theorem dX0_sortIn_172 : decode cX0_sortIn 172 = .ok (.iload_n 3, 1) := by decide +kernel
theorem dX0_sortIn_173 : decode cX0_sortIn 173 = .ok (.aload_n 0, 1) := by decide +kernel
theorem dX0_sortIn_174 : decode cX0_sortIn 174 = .ok (.getfield 20, 3) := by decide +kernel
theorem dX0_sortIn_177 : decode cX0_sortIn 177 = .ok (.getfield 30, 3) := by decide +kernel
theorem dX0_sortIn_180 : decode cX0_sortIn 180 = .ok (.if_icmp .ge 23, 3) := by decide +kernel
theorem dX0_sortIn_183 : decode cX0_sortIn 183 = .ok (.aload_n 0, 1) := by decide +kernel
theorem dX0_sortIn_184 : decode cX0_sortIn 184 = .ok (.getfield 20, 3) := by decide +kernel
theorem dX0_sortIn_187 : decode cX0_sortIn 187 = .ok (.getfield 45, 3) := by decide +kernel
theorem dX0_sortIn_190 : decode cX0_sortIn 190 = .ok (.iload_n 3, 1) := by decide +kernel
theorem dX0_sortIn_191 : decode cX0_sortIn 191 = .ok (.iload_n 1, 1) := by decide +kernel
theorem dX0_sortIn_192 : decode cX0_sortIn 192 = .ok (.iastore, 1) := by decide +kernel
theorem dX0_sortIn_193 : decode cX0_sortIn 193 = .ok (.aload_n 0, 1) := by decide +kernel
theorem dX0_sortIn_194 : decode cX0_sortIn 194 = .ok (.getfield 20, 3) := by decide +kernel
theorem dX0_sortIn_197 : decode cX0_sortIn 197 = .ok (.getfield 49, 3) := by decide +kernel
theorem dX0_sortIn_200 : decode cX0_sortIn 200 = .ok (.iload_n 3, 1) := by decide +kernel
theorem dX0_sortIn_201 : decode cX0_sortIn 201 = .ok (.iload_n 2, 1) := by decide +kernel
theorem dX0_sortIn_202 : decode cX0_sortIn 202 = .ok (.iastore, 1) := by decide +kernel
theorem dX0_sortIn_203 : decode cX0_sortIn 203 = .ok (.return_, 1) := by decide +kernel
set_option maxHeartbeats 4000000 in
set_option maxRecDepth 100000 in
theorem tX0_sortIn (l : Launch) (G : Gg) (b0 : Nat) {K : Kk} {R : Rr} {M : Mm} {r : Nat} {a0 : Int32} {a1 : Int32} {M' : Mm} (hm : mX0_sortIn K R M r a0 a1 = some (M')) : CT l G b0 yX0_sortIn cX0_sortIn 5 none (rmz 2 22) [.ref r, .int a0, .int a1] K R M none K R M' := by
  refine ct_of (by decide +kernel) (Nat.le_of_ble_eq_true rfl) (fun w hq => ?_)
  have hw := hq.b
  change w 0 0 0 [(0, .ref r), (1, .int a0), (2, .int a1)] [] K R M
  replace hm := h_start hm
  unfold mX0_sortIn at hm
  obtain ⟨h1, m56⟩ := h_ck hm
  clear hm
  have J96 : ∀ (M3 : Mm) (i2 : Int32), (mX0_sortIn_J96 K R M3 r a0 a1 i2).bind some = some (M') → w 0 0 96 [(0, .ref r), (1, .int a0), (2, .int a1), (3, .int i2)] [] K R M3 := by
    intro M3 i2 m57
    unfold mX0_sortIn_J96 at m57
    refine r_aload_n hw dX0_sortIn_96 0 rfl ?_
    obtain ⟨q4, bq4, m58⟩ := h_bd m57
    clear m57
    refine r_getR hw fO_X0_20 h1 bq4 dX0_sortIn_97 ?_
    refine r_iload_n hw dX0_sortIn_100 1 rfl ?_
    refine r_iload_n hw dX0_sortIn_101 2 rfl ?_
    obtain ⟨h6, m59⟩ := h_ck m58
    clear m58
    obtain ⟨M5, g5, m60⟩ := h_bd m59
    clear m59
    refine r_callV0 hw (tX5_add l G b0 g5) lB_X5_add lI_X5_add mL_X0_89 (c := 5) rfl h6 rfl (Nat.le_of_ble_eq_true rfl) (Nat.le_of_ble_eq_true rfl) rfl (Nat.le_of_ble_eq_true rfl) dX0_sortIn_102 ?_
    refine r_aload_n hw dX0_sortIn_105 0 rfl ?_
    refine r_getR hw fO_X0_20 h1 bq4 dX0_sortIn_106 ?_
    refine r_getI hw fO_X0_30 h6 dX0_sortIn_109 ?_
    refine r_iconst (v := 1) hw dX0_sortIn_112 rfl ?_
    refine r_isub hw dX0_sortIn_113 ?_
    obtain ⟨i7, ei7, m61⟩ := h_nm m60
    clear m60
    refine r_topI (w := w) ei7 ?_
    refine r_istore hw dX0_sortIn_114 (by decide) rfl ?_
    refine r_sub hw [1, 2, 3, 4, 0] rfl ?_
    obtain ⟨v116, n0116, hn116, hv116⟩ := h_lp m61
    clear m61
    have L116 : ∀ n : Nat, ∀ (i8 : Int32) (M9 : Mm), it (mX0_sortIn_L116 K R r a0 a1 i2) n (i8, M9) = some v116 → w 0 0 116 [(0, .ref r), (1, .int a0), (2, .int a1), (3, .int i2), (4, .int i8)] [] K R M9 := by
      intro n116
      induction n116 with
      | zero => intro i8 M9 hz; exact absurd hz h_it0
      | succ n116 ih116 =>
        intro i8 M9 m62
        replace m62 : (mX0_sortIn_B116 K R r a0 a1 i2 i8 M9).bind (Sum.elim (it (mX0_sortIn_L116 K R r a0 a1 i2) n116) some) = some v116 := m62
        unfold mX0_sortIn_B116 at m62
        refine r_iload hw dX0_sortIn_116 4 rfl ?_
        refine r_iload_n hw dX0_sortIn_118 3 rfl ?_
        refine r_icmp_le (tgt := 172) hw dX0_sortIn_119 (by decide) (fun c10 => ?_) (fun c10 => ?_)
        · have m63 := h_if_t c10 m62
          clear m62
          have m64 := h_ex m63 hv116
          clear m63
          refine r_iload_n hw dX0_sortIn_172 3 rfl ?_
          refine r_aload_n hw dX0_sortIn_173 0 rfl ?_
          obtain ⟨q11, bq11, m65⟩ := h_bd m64
          clear m64
          refine r_getR hw fO_X0_20 h1 bq11 dX0_sortIn_174 ?_
          obtain ⟨h12, m66⟩ := h_ck m65
          clear m65
          refine r_getI hw fO_X0_30 h12 dX0_sortIn_177 ?_
          refine r_icmp_ge (tgt := 203) hw dX0_sortIn_180 (by decide) (fun c13 => ?_) (fun c13 => ?_)
          · have m67 := h_if_f c13 m66
            clear m66
            cases h_ret m67
            exact r_return hq rfl rfl dX0_sortIn_203
          · have m68 := h_if_t c13 m66
            clear m66
            refine r_aload_n hw dX0_sortIn_183 0 rfl ?_
            refine r_getR hw fO_X0_20 h1 bq11 dX0_sortIn_184 ?_
            obtain ⟨q14, bq14, m69⟩ := h_bd m68
            clear m68
            refine r_getR hw fO_X0_45 h12 bq14 dX0_sortIn_187 ?_
            refine r_iload_n hw dX0_sortIn_190 3 rfl ?_
            refine r_iload_n hw dX0_sortIn_191 1 rfl ?_
            obtain ⟨h15, m70⟩ := h_ck m69
            clear m69
            obtain ⟨M16, eM16, m71⟩ := h_nm m70
            clear m70
            refine r_iastore hw h15 dX0_sortIn_192 (r_mem ?_ rfl eM16)
            refine r_aload_n hw dX0_sortIn_193 0 rfl ?_
            refine r_getR hw fO_X0_20 h1 bq11 dX0_sortIn_194 ?_
            obtain ⟨q17, bq17, m72⟩ := h_bd m71
            clear m71
            refine r_getR hw fO_X0_49 h12 bq17 dX0_sortIn_197 ?_
            refine r_iload_n hw dX0_sortIn_200 3 rfl ?_
            refine r_iload_n hw dX0_sortIn_201 2 rfl ?_
            obtain ⟨h18, m73⟩ := h_ck m72
            clear m72
            obtain ⟨M19, eM19, m74⟩ := h_nm m73
            clear m73
            refine r_iastore hw h18 dX0_sortIn_202 (r_mem ?_ rfl eM19)
            cases h_ret m74
            exact r_return hq rfl rfl dX0_sortIn_203
        · have m75 := h_if_f c10 m62
          clear m62
          refine r_aload_n hw dX0_sortIn_122 0 rfl ?_
          obtain ⟨q20, bq20, m76⟩ := h_bd m75
          clear m75
          refine r_getR hw fO_X0_20 h1 bq20 dX0_sortIn_123 ?_
          obtain ⟨h21, m77⟩ := h_ck m76
          clear m76
          obtain ⟨q22, bq22, m78⟩ := h_bd m77
          clear m77
          refine r_getR hw fO_X0_45 h21 bq22 dX0_sortIn_126 ?_
          refine r_iload hw dX0_sortIn_129 4 rfl ?_
          refine r_aload_n hw dX0_sortIn_131 0 rfl ?_
          refine r_getR hw fO_X0_20 h1 bq20 dX0_sortIn_132 ?_
          refine r_getR hw fO_X0_45 h21 bq22 dX0_sortIn_135 ?_
          refine r_iload hw dX0_sortIn_138 4 rfl ?_
          refine r_iconst (v := 1) hw dX0_sortIn_140 rfl ?_
          refine r_isub hw dX0_sortIn_141 ?_
          obtain ⟨h23, m79⟩ := h_ck m78
          clear m78
          refine r_iaload hw h23 dX0_sortIn_142 ?_
          obtain ⟨h24, m80⟩ := h_ck m79
          clear m79
          obtain ⟨M25, eM25, m81⟩ := h_nm m80
          clear m80
          refine r_iastore hw h24 dX0_sortIn_143 (r_mem ?_ rfl eM25)
          refine r_aload_n hw dX0_sortIn_144 0 rfl ?_
          refine r_getR hw fO_X0_20 h1 bq20 dX0_sortIn_145 ?_
          obtain ⟨q26, bq26, m82⟩ := h_bd m81
          clear m81
          refine r_getR hw fO_X0_49 h21 bq26 dX0_sortIn_148 ?_
          refine r_iload hw dX0_sortIn_151 4 rfl ?_
          refine r_aload_n hw dX0_sortIn_153 0 rfl ?_
          refine r_getR hw fO_X0_20 h1 bq20 dX0_sortIn_154 ?_
          refine r_getR hw fO_X0_49 h21 bq26 dX0_sortIn_157 ?_
          refine r_iload hw dX0_sortIn_160 4 rfl ?_
          refine r_iconst (v := 1) hw dX0_sortIn_162 rfl ?_
          refine r_isub hw dX0_sortIn_163 ?_
          obtain ⟨h27, m83⟩ := h_ck m82
          clear m82
          refine r_iaload hw h27 dX0_sortIn_164 ?_
          obtain ⟨h28, m84⟩ := h_ck m83
          clear m83
          obtain ⟨M29, eM29, m85⟩ := h_nm m84
          clear m84
          refine r_iastore hw h28 dX0_sortIn_165 (r_mem ?_ rfl eM29)
          obtain ⟨i30, ei30, m86⟩ := h_nm m85
          clear m85
          refine r_iinc (j := 4) (v := i30) hw dX0_sortIn_166 rfl (by rw [ei30]; rfl) (by decide) rfl ?_
          refine r_goto (tgt := 116) hw dX0_sortIn_169 (by decide) ?_
          refine r_sub hw [1, 2, 3, 4, 0] rfl ?_
          exact ih116 _ _ m86
    exact L116 n0116 _ _ hn116
  have J58 : ∀ (M32 : Mm) (i31 : Int32), (mX0_sortIn_J58 K R M32 r a0 a1 i31).bind some = some (M') → w 0 0 58 [(0, .ref r), (1, .int a0), (2, .int a1), (3, .int i31)] [] K R M32 := by
    intro M32 i31 m87
    unfold mX0_sortIn_J58 at m87
    refine r_iload_n hw dX0_sortIn_58 3 rfl ?_
    refine r_aload_n hw dX0_sortIn_59 0 rfl ?_
    obtain ⟨q33, bq33, m88⟩ := h_bd m87
    clear m87
    refine r_getR hw fO_X0_20 h1 bq33 dX0_sortIn_60 ?_
    obtain ⟨h34, m89⟩ := h_ck m88
    clear m88
    refine r_getI hw fO_X0_30 h34 dX0_sortIn_63 ?_
    refine r_icmp_ge (tgt := 96) hw dX0_sortIn_66 (by decide) (fun c35 => ?_) (fun c35 => ?_)
    · have m90 := h_if_f c35 m89
      clear m89
      exact J96 _ _ m90
    · have m91 := h_if_t c35 m89
      clear m89
      refine r_aload_n hw dX0_sortIn_69 0 rfl ?_
      refine r_getR hw fO_X0_20 h1 bq33 dX0_sortIn_70 ?_
      obtain ⟨q36, bq36, m92⟩ := h_bd m91
      clear m91
      refine r_getR hw fO_X0_45 h34 bq36 dX0_sortIn_73 ?_
      refine r_iload_n hw dX0_sortIn_76 3 rfl ?_
      obtain ⟨h37, m93⟩ := h_ck m92
      clear m92
      refine r_iaload hw h37 dX0_sortIn_77 ?_
      refine r_iload_n hw dX0_sortIn_78 1 rfl ?_
      refine r_icmp_ne (tgt := 96) hw dX0_sortIn_79 (by decide) (fun c38 => ?_) (fun c38 => ?_)
      · have m94 := h_if_f c38 m93
        clear m93
        exact J96 _ _ m94
      · have m95 := h_if_t c38 m93
        clear m93
        refine r_aload_n hw dX0_sortIn_82 0 rfl ?_
        refine r_getR hw fO_X0_20 h1 bq33 dX0_sortIn_83 ?_
        obtain ⟨q39, bq39, m96⟩ := h_bd m95
        clear m95
        refine r_getR hw fO_X0_49 h34 bq39 dX0_sortIn_86 ?_
        refine r_iload_n hw dX0_sortIn_89 3 rfl ?_
        obtain ⟨h40, m97⟩ := h_ck m96
        clear m96
        refine r_iaload hw h40 dX0_sortIn_90 ?_
        refine r_iload_n hw dX0_sortIn_91 2 rfl ?_
        refine r_icmp_ne (tgt := 96) hw dX0_sortIn_92 (by decide) (fun c41 => ?_) (fun c41 => ?_)
        · have m98 := h_if_f c41 m97
          clear m97
          exact J96 _ _ m98
        · have m99 := h_if_t c41 m97
          clear m97
          cases h_ret m99
          exact r_return hq rfl rfl dX0_sortIn_95
  refine r_iconst (v := 0) hw dX0_sortIn_0 rfl ?_
  obtain ⟨i42, ei42, m100⟩ := h_nm m56
  clear m56
  refine r_topI (w := w) ei42 ?_
  refine r_istore_n hw dX0_sortIn_1 rfl (by decide) rfl ?_
  refine r_sub hw [1, 2, 3, 0] rfl ?_
  obtain ⟨v2, n02, hn2, hv2⟩ := h_lp m100
  clear m100
  have L2 : ∀ n : Nat, ∀ (i43 : Int32), it (mX0_sortIn_L2 K R M r a0 a1) n (i43) = some v2 → w 0 0 2 [(0, .ref r), (1, .int a0), (2, .int a1), (3, .int i43)] [] K R M := by
    intro n2
    induction n2 with
    | zero => intro i43 hz; exact absurd hz h_it0
    | succ n2 ih2 =>
      intro i43 m101
      replace m101 : (mX0_sortIn_B2 K R M r a0 a1 i43).bind (Sum.elim (it (mX0_sortIn_L2 K R M r a0 a1) n2) some) = some v2 := m101
      unfold mX0_sortIn_B2 at m101
      have J52 : ∀ (i44 : Int32), (mX0_sortIn_J52 K R M r a0 a1 i44).bind (Sum.elim (it (mX0_sortIn_L2 K R M r a0 a1) n2) some) = some v2 → w 0 0 52 [(0, .ref r), (1, .int a0), (2, .int a1), (3, .int i44)] [] K R M := by
        intro i44 m102
        unfold mX0_sortIn_J52 at m102
        obtain ⟨i45, ei45, m103⟩ := h_nm m102
        clear m102
        refine r_iinc (j := 3) (v := i45) hw dX0_sortIn_52 rfl (by rw [ei45]; rfl) (by decide) rfl ?_
        refine r_goto (tgt := 2) hw dX0_sortIn_55 (by decide) ?_
        refine r_sub hw [1, 2, 3, 0] rfl ?_
        exact ih2 _ m103
      refine r_iload_n hw dX0_sortIn_2 3 rfl ?_
      refine r_aload_n hw dX0_sortIn_3 0 rfl ?_
      obtain ⟨q46, bq46, m104⟩ := h_bd m101
      clear m101
      refine r_getR hw fO_X0_20 h1 bq46 dX0_sortIn_4 ?_
      obtain ⟨h47, m105⟩ := h_ck m104
      clear m104
      refine r_getI hw fO_X0_30 h47 dX0_sortIn_7 ?_
      refine r_icmp_ge (tgt := 58) hw dX0_sortIn_10 (by decide) (fun c48 => ?_) (fun c48 => ?_)
      · have m106 := h_if_f c48 m105
        clear m105
        have m107 := h_ex m106 hv2
        clear m106
        exact J58 _ _ m107
      · have m108 := h_if_t c48 m105
        clear m105
        refine r_aload_n hw dX0_sortIn_13 0 rfl ?_
        refine r_getR hw fO_X0_20 h1 bq46 dX0_sortIn_14 ?_
        obtain ⟨q49, bq49, m109⟩ := h_bd m108
        clear m108
        refine r_getR hw fO_X0_45 h47 bq49 dX0_sortIn_17 ?_
        refine r_iload_n hw dX0_sortIn_20 3 rfl ?_
        obtain ⟨h50, m110⟩ := h_ck m109
        clear m109
        refine r_iaload hw h50 dX0_sortIn_21 ?_
        refine r_iload_n hw dX0_sortIn_22 1 rfl ?_
        refine r_icmp_lt (tgt := 52) hw dX0_sortIn_23 (by decide) (fun c51 => ?_) (fun c51 => ?_)
        · have m111 := h_if_t c51 m110
          clear m110
          exact J52 _ m111
        · have m112 := h_if_f c51 m110
          clear m110
          refine r_aload_n hw dX0_sortIn_26 0 rfl ?_
          refine r_getR hw fO_X0_20 h1 bq46 dX0_sortIn_27 ?_
          refine r_getR hw fO_X0_45 h47 bq49 dX0_sortIn_30 ?_
          refine r_iload_n hw dX0_sortIn_33 3 rfl ?_
          refine r_iaload hw h50 dX0_sortIn_34 ?_
          refine r_iload_n hw dX0_sortIn_35 1 rfl ?_
          refine r_icmp_ne (tgt := 58) hw dX0_sortIn_36 (by decide) (fun c52 => ?_) (fun c52 => ?_)
          · have m113 := h_if_f c52 m112
            clear m112
            have m114 := h_ex m113 hv2
            clear m113
            exact J58 _ _ m114
          · have m115 := h_if_t c52 m112
            clear m112
            refine r_aload_n hw dX0_sortIn_39 0 rfl ?_
            refine r_getR hw fO_X0_20 h1 bq46 dX0_sortIn_40 ?_
            obtain ⟨q53, bq53, m116⟩ := h_bd m115
            clear m115
            refine r_getR hw fO_X0_49 h47 bq53 dX0_sortIn_43 ?_
            refine r_iload_n hw dX0_sortIn_46 3 rfl ?_
            obtain ⟨h54, m117⟩ := h_ck m116
            clear m116
            refine r_iaload hw h54 dX0_sortIn_47 ?_
            refine r_iload_n hw dX0_sortIn_48 2 rfl ?_
            refine r_icmp_ge (tgt := 58) hw dX0_sortIn_49 (by decide) (fun c55 => ?_) (fun c55 => ?_)
            · have m118 := h_if_f c55 m117
              clear m117
              have m119 := h_ex m118 hv2
              clear m118
              exact J58 _ _ m119
            · have m120 := h_if_t c55 m117
              clear m117
              exact J52 _ m120
  exact L2 n02 _ hn2
theorem dX0_sortInHeld_0 : decode cX0_sortInHeld 0 = .ok (.iconst 0, 1) := by decide +kernel
theorem dX0_sortInHeld_1 : decode cX0_sortInHeld 1 = .ok (.istore_n 3, 1) := by decide +kernel
theorem dX0_sortInHeld_2 : decode cX0_sortInHeld 2 = .ok (.iload_n 3, 1) := by decide +kernel
theorem dX0_sortInHeld_3 : decode cX0_sortInHeld 3 = .ok (.aload_n 1, 1) := by decide +kernel
theorem dX0_sortInHeld_4 : decode cX0_sortInHeld 4 = .ok (.getfield 30, 3) := by decide +kernel
theorem dX0_sortInHeld_7 : decode cX0_sortInHeld 7 = .ok (.if_icmp .ge 44, 3) := by decide +kernel
theorem dX0_sortInHeld_10 : decode cX0_sortInHeld 10 = .ok (.aload_n 2, 1) := by decide +kernel
theorem dX0_sortInHeld_11 : decode cX0_sortInHeld 11 = .ok (.aload_n 1, 1) := by decide +kernel
theorem dX0_sortInHeld_12 : decode cX0_sortInHeld 12 = .ok (.getfield 45, 3) := by decide +kernel
theorem dX0_sortInHeld_15 : decode cX0_sortInHeld 15 = .ok (.iload_n 3, 1) := by decide +kernel
theorem dX0_sortInHeld_16 : decode cX0_sortInHeld 16 = .ok (.iaload, 1) := by decide +kernel
theorem dX0_sortInHeld_17 : decode cX0_sortInHeld 17 = .ok (.aload_n 1, 1) := by decide +kernel
theorem dX0_sortInHeld_18 : decode cX0_sortInHeld 18 = .ok (.getfield 49, 3) := by decide +kernel
theorem dX0_sortInHeld_21 : decode cX0_sortInHeld 21 = .ok (.iload_n 3, 1) := by decide +kernel
theorem dX0_sortInHeld_22 : decode cX0_sortInHeld 22 = .ok (.iaload, 1) := by decide +kernel
theorem dX0_sortInHeld_23 : decode cX0_sortInHeld 23 = .ok (.invokevirtual 52, 3) := by decide +kernel
theorem dX0_sortInHeld_26 : decode cX0_sortInHeld 26 = .ok (.ifCond .eq 19, 3) := by decide +kernel
theorem dX0_sortInHeld_29 : decode cX0_sortInHeld 29 = .ok (.aload_n 0, 1) := by decide +kernel
theorem dX0_sortInHeld_30 : decode cX0_sortInHeld 30 = .ok (.aload_n 1, 1) := by decide +kernel
theorem dX0_sortInHeld_31 : decode cX0_sortInHeld 31 = .ok (.getfield 45, 3) := by decide +kernel
theorem dX0_sortInHeld_34 : decode cX0_sortInHeld 34 = .ok (.iload_n 3, 1) := by decide +kernel
theorem dX0_sortInHeld_35 : decode cX0_sortInHeld 35 = .ok (.iaload, 1) := by decide +kernel
theorem dX0_sortInHeld_36 : decode cX0_sortInHeld 36 = .ok (.aload_n 1, 1) := by decide +kernel
theorem dX0_sortInHeld_37 : decode cX0_sortInHeld 37 = .ok (.getfield 49, 3) := by decide +kernel
theorem dX0_sortInHeld_40 : decode cX0_sortInHeld 40 = .ok (.iload_n 3, 1) := by decide +kernel
theorem dX0_sortInHeld_41 : decode cX0_sortInHeld 41 = .ok (.iaload, 1) := by decide +kernel
theorem dX0_sortInHeld_42 : decode cX0_sortInHeld 42 = .ok (.invokevirtual 56, 3) := by decide +kernel
theorem dX0_sortInHeld_45 : decode cX0_sortInHeld 45 = .ok (.iinc 3 1, 3) := by decide +kernel
theorem dX0_sortInHeld_48 : decode cX0_sortInHeld 48 = .ok (.goto (-46), 3) := by decide +kernel
theorem dX0_sortInHeld_51 : decode cX0_sortInHeld 51 = .ok (.return_, 1) := by decide +kernel
set_option maxHeartbeats 4000000 in
set_option maxRecDepth 100000 in
theorem tX0_sortInHeld (l : Launch) (G : Gg) (b0 : Nat) {K : Kk} {R : Rr} {M : Mm} {r : Nat} {a0 : Nat} {a1 : Nat} {M' : Mm} (hm : mX0_sortInHeld K R M r a0 a1 = some (M')) : CT l G b0 yX0_sortInHeld cX0_sortInHeld 4 none (rmz 4 72) [.ref r, .ref a0, .ref a1] K R M none K R M' := by
  refine ct_of (by decide +kernel) (Nat.le_of_ble_eq_true rfl) (fun w hq => ?_)
  have hw := hq.b
  change w 0 0 0 [(0, .ref r), (1, .ref a0), (2, .ref a1)] [] K R M
  replace hm := h_start hm
  unfold mX0_sortInHeld at hm
  obtain ⟨h1, m18⟩ := h_ck hm
  clear hm
  obtain ⟨h2, m19⟩ := h_ck m18
  clear m18
  obtain ⟨h3, m20⟩ := h_ck m19
  clear m19
  refine r_iconst (v := 0) hw dX0_sortInHeld_0 rfl ?_
  obtain ⟨i4, ei4, m21⟩ := h_nm m20
  clear m20
  refine r_topI (w := w) ei4 ?_
  refine r_istore_n hw dX0_sortInHeld_1 rfl (by decide) rfl ?_
  refine r_sub hw [1, 2, 3, 0] rfl ?_
  obtain ⟨v2, n02, hn2, hv2⟩ := h_lp m21
  clear m21
  have L2 : ∀ n : Nat, ∀ (i5 : Int32) (M6 : Mm), it (mX0_sortInHeld_L2 K R r a0 a1) n (i5, M6) = some v2 → w 0 0 2 [(0, .ref r), (1, .ref a0), (2, .ref a1), (3, .int i5)] [] K R M6 := by
    intro n2
    induction n2 with
    | zero => intro i5 M6 hz; exact absurd hz h_it0
    | succ n2 ih2 =>
      intro i5 M6 m22
      replace m22 : (mX0_sortInHeld_B2 K R r a0 a1 i5 M6).bind (Sum.elim (it (mX0_sortInHeld_L2 K R r a0 a1) n2) some) = some v2 := m22
      unfold mX0_sortInHeld_B2 at m22
      have J45 : ∀ (M8 : Mm) (i7 : Int32), (mX0_sortInHeld_J45 K R M8 r a0 a1 i7).bind (Sum.elim (it (mX0_sortInHeld_L2 K R r a0 a1) n2) some) = some v2 → w 0 0 45 [(0, .ref r), (1, .ref a0), (2, .ref a1), (3, .int i7)] [] K R M8 := by
        intro M8 i7 m23
        unfold mX0_sortInHeld_J45 at m23
        obtain ⟨i9, ei9, m24⟩ := h_nm m23
        clear m23
        refine r_iinc (j := 3) (v := i9) hw dX0_sortInHeld_45 rfl (by rw [ei9]; rfl) (by decide) rfl ?_
        refine r_goto (tgt := 2) hw dX0_sortInHeld_48 (by decide) ?_
        refine r_sub hw [1, 2, 3, 0] rfl ?_
        exact ih2 _ _ m24
      refine r_iload_n hw dX0_sortInHeld_2 3 rfl ?_
      refine r_aload_n hw dX0_sortInHeld_3 1 rfl ?_
      refine r_getI hw fO_X0_30 h2 dX0_sortInHeld_4 ?_
      refine r_icmp_ge (tgt := 51) hw dX0_sortInHeld_7 (by decide) (fun c10 => ?_) (fun c10 => ?_)
      · have m25 := h_if_f c10 m22
        clear m22
        have m26 := h_ex m25 hv2
        clear m25
        cases h_ret m26
        exact r_return hq rfl rfl dX0_sortInHeld_51
      · have m27 := h_if_t c10 m22
        clear m22
        refine r_aload_n hw dX0_sortInHeld_10 2 rfl ?_
        refine r_aload_n hw dX0_sortInHeld_11 1 rfl ?_
        obtain ⟨q11, bq11, m28⟩ := h_bd m27
        clear m27
        refine r_getR hw fO_X0_45 h2 bq11 dX0_sortInHeld_12 ?_
        refine r_iload_n hw dX0_sortInHeld_15 3 rfl ?_
        obtain ⟨h12, m29⟩ := h_ck m28
        clear m28
        refine r_iaload hw h12 dX0_sortInHeld_16 ?_
        refine r_aload_n hw dX0_sortInHeld_17 1 rfl ?_
        obtain ⟨q13, bq13, m30⟩ := h_bd m29
        clear m29
        refine r_getR hw fO_X0_49 h2 bq13 dX0_sortInHeld_18 ?_
        refine r_iload_n hw dX0_sortInHeld_21 3 rfl ?_
        obtain ⟨h14, m31⟩ := h_ck m30
        clear m30
        refine r_iaload hw h14 dX0_sortInHeld_22 ?_
        obtain ⟨i15, g15, m32⟩ := h_bd m31
        clear m31
        refine r_callV1 hw (tX5_holds l G b0 g15) lB_X5_holds lI_X5_holds mL_X0_52 (c := 5) rfl h3 rfl (Nat.le_of_ble_eq_true rfl) (Nat.le_of_ble_eq_true rfl) rfl (Nat.le_of_ble_eq_true rfl) dX0_sortInHeld_23 ?_
        refine r_if_eq (tgt := 45) hw dX0_sortInHeld_26 (by decide) (fun c16 => ?_) (fun c16 => ?_)
        · have m33 := h_if_t c16 m32
          clear m32
          exact J45 _ _ m33
        · have m34 := h_if_f c16 m32
          clear m32
          refine r_aload_n hw dX0_sortInHeld_29 0 rfl ?_
          refine r_aload_n hw dX0_sortInHeld_30 1 rfl ?_
          refine r_getR hw fO_X0_45 h2 bq11 dX0_sortInHeld_31 ?_
          refine r_iload_n hw dX0_sortInHeld_34 3 rfl ?_
          refine r_iaload hw h12 dX0_sortInHeld_35 ?_
          refine r_aload_n hw dX0_sortInHeld_36 1 rfl ?_
          refine r_getR hw fO_X0_49 h2 bq13 dX0_sortInHeld_37 ?_
          refine r_iload_n hw dX0_sortInHeld_40 3 rfl ?_
          refine r_iaload hw h14 dX0_sortInHeld_41 ?_
          obtain ⟨M17, g17, m35⟩ := h_bd m34
          clear m34
          refine r_callV0 hw (tX0_sortIn l G b0 g17) lB_X0_sortIn lI_X0_sortIn mL_X0_56 (c := 0) rfl h1 rfl (Nat.le_of_ble_eq_true rfl) (Nat.le_of_ble_eq_true rfl) rfl (Nat.le_of_ble_eq_true rfl) dX0_sortInHeld_42 ?_
          exact J45 _ _ m35
  exact L2 n02 _ _ hn2
theorem dX2_set_0 : decode cX2_set 0 = .ok (.aload_n 0, 1) := by decide +kernel
theorem dX2_set_1 : decode cX2_set 1 = .ok (.iload_n 1, 1) := by decide +kernel
theorem dX2_set_2 : decode cX2_set 2 = .ok (.putfield 9, 3) := by decide +kernel
theorem dX2_set_5 : decode cX2_set 5 = .ok (.aload_n 0, 1) := by decide +kernel
theorem dX2_set_6 : decode cX2_set 6 = .ok (.iload_n 2, 1) := by decide +kernel
theorem dX2_set_7 : decode cX2_set 7 = .ok (.putfield 15, 3) := by decide +kernel
theorem dX2_set_10 : decode cX2_set 10 = .ok (.aload_n 0, 1) := by decide +kernel
theorem dX2_set_11 : decode cX2_set 11 = .ok (.iload_n 3, 1) := by decide +kernel
theorem dX2_set_12 : decode cX2_set 12 = .ok (.putfield 18, 3) := by decide +kernel
theorem dX2_set_15 : decode cX2_set 15 = .ok (.aload_n 0, 1) := by decide +kernel
theorem dX2_set_16 : decode cX2_set 16 = .ok (.iload 4, 2) := by decide +kernel
theorem dX2_set_18 : decode cX2_set 18 = .ok (.putfield 21, 3) := by decide +kernel
theorem dX2_set_21 : decode cX2_set 21 = .ok (.return_, 1) := by decide +kernel
set_option maxHeartbeats 4000000 in
set_option maxRecDepth 100000 in
theorem tX2_set (l : Launch) (G : Gg) (b0 : Nat) {K : Kk} {R : Rr} {M : Mm} {r : Nat} {a0 : Int32} {a1 : Int32} {a2 : Int32} {a3 : Int32} {M' : Mm} (hm : mX2_set K R M r a0 a1 a2 a3 = some (M')) : CT l G b0 yX2_set cX2_set 5 none (rmz 1 0) [.ref r, .int a0, .int a1, .int a2, .int a3] K R M none K R M' := by
  refine ct_of (by decide +kernel) (Nat.le_of_ble_eq_true rfl) (fun w hq => ?_)
  have hw := hq.b
  change w 0 0 0 [(0, .ref r), (1, .int a0), (2, .int a1), (3, .int a2), (4, .int a3)] [] K R M
  replace hm := h_start hm
  unfold mX2_set at hm
  obtain ⟨h1, m6⟩ := h_ck hm
  clear hm
  refine r_aload_n hw dX2_set_0 0 rfl ?_
  refine r_iload_n hw dX2_set_1 1 rfl ?_
  obtain ⟨M2, eM2, m7⟩ := h_nm m6
  clear m6
  refine r_putI hw fP_X2_9 h1 dX2_set_2 (r_mem ?_ rfl eM2)
  refine r_aload_n hw dX2_set_5 0 rfl ?_
  refine r_iload_n hw dX2_set_6 2 rfl ?_
  obtain ⟨M3, eM3, m8⟩ := h_nm m7
  clear m7
  refine r_putI hw fP_X2_15 h1 dX2_set_7 (r_mem ?_ rfl eM3)
  refine r_aload_n hw dX2_set_10 0 rfl ?_
  refine r_iload_n hw dX2_set_11 3 rfl ?_
  obtain ⟨M4, eM4, m9⟩ := h_nm m8
  clear m8
  refine r_putI hw fP_X2_18 h1 dX2_set_12 (r_mem ?_ rfl eM4)
  refine r_aload_n hw dX2_set_15 0 rfl ?_
  refine r_iload hw dX2_set_16 4 rfl ?_
  obtain ⟨M5, eM5, m10⟩ := h_nm m9
  clear m9
  refine r_putI hw fP_X2_21 h1 dX2_set_18 (r_mem ?_ rfl eM5)
  cases h_ret m10
  exact r_return hq rfl rfl dX2_set_21
theorem dX2_side_0 : decode cX2_side 0 = .ok (.aload_n 0, 1) := by decide +kernel
theorem dX2_side_1 : decode cX2_side 1 = .ok (.getfield 18, 3) := by decide +kernel
theorem dX2_side_4 : decode cX2_side 4 = .ok (.i2l, 1) := by decide +kernel
theorem dX2_side_5 : decode cX2_side 5 = .ok (.iload_n 2, 1) := by decide +kernel
theorem dX2_side_6 : decode cX2_side 6 = .ok (.aload_n 0, 1) := by decide +kernel
theorem dX2_side_7 : decode cX2_side 7 = .ok (.getfield 15, 3) := by decide +kernel
theorem dX2_side_10 : decode cX2_side 10 = .ok (.isub, 1) := by decide +kernel
theorem dX2_side_11 : decode cX2_side 11 = .ok (.i2l, 1) := by decide +kernel
theorem dX2_side_12 : decode cX2_side 12 = .ok (.lmul, 1) := by decide +kernel
theorem dX2_side_13 : decode cX2_side 13 = .ok (.aload_n 0, 1) := by decide +kernel
theorem dX2_side_14 : decode cX2_side 14 = .ok (.getfield 21, 3) := by decide +kernel
theorem dX2_side_17 : decode cX2_side 17 = .ok (.i2l, 1) := by decide +kernel
theorem dX2_side_18 : decode cX2_side 18 = .ok (.iload_n 1, 1) := by decide +kernel
theorem dX2_side_19 : decode cX2_side 19 = .ok (.aload_n 0, 1) := by decide +kernel
theorem dX2_side_20 : decode cX2_side 20 = .ok (.getfield 9, 3) := by decide +kernel
theorem dX2_side_23 : decode cX2_side 23 = .ok (.isub, 1) := by decide +kernel
theorem dX2_side_24 : decode cX2_side 24 = .ok (.i2l, 1) := by decide +kernel
theorem dX2_side_25 : decode cX2_side 25 = .ok (.lmul, 1) := by decide +kernel
theorem dX2_side_26 : decode cX2_side 26 = .ok (.lsub, 1) := by decide +kernel
theorem dX2_side_27 : decode cX2_side 27 = .ok (.lreturn, 1) := by decide +kernel
set_option maxHeartbeats 4000000 in
set_option maxRecDepth 100000 in
theorem tX2_side (l : Launch) (G : Gg) (b0 : Nat) {K : Kk} {R : Rr} {M : Mm} {r : Nat} {a0 : Int32} {a1 : Int32} {res : Int64} (hm : mX2_side K R M r a0 a1 = some (res)) : CT l G b0 yX2_side cX2_side 3 (some .long) (rmz 1 0) [.ref r, .int a0, .int a1] K R M (some (.long res)) K R M := by
  refine ct_of (by decide +kernel) (Nat.le_of_ble_eq_true rfl) (fun w hq => ?_)
  have hw := hq.b
  change w 0 0 0 [(0, .ref r), (1, .int a0), (2, .int a1)] [] K R M
  replace hm := h_start hm
  unfold mX2_side at hm
  obtain ⟨h1, m2⟩ := h_ck hm
  clear hm
  refine r_aload_n hw dX2_side_0 0 rfl ?_
  refine r_getI hw fO_X2_18 h1 dX2_side_1 ?_
  refine r_i2l hw dX2_side_4 ?_
  refine r_iload_n hw dX2_side_5 2 rfl ?_
  refine r_aload_n hw dX2_side_6 0 rfl ?_
  refine r_getI hw fO_X2_15 h1 dX2_side_7 ?_
  refine r_isub hw dX2_side_10 ?_
  refine r_i2l hw dX2_side_11 ?_
  refine r_lmul hw dX2_side_12 ?_
  refine r_aload_n hw dX2_side_13 0 rfl ?_
  refine r_getI hw fO_X2_21 h1 dX2_side_14 ?_
  refine r_i2l hw dX2_side_17 ?_
  refine r_iload_n hw dX2_side_18 1 rfl ?_
  refine r_aload_n hw dX2_side_19 0 rfl ?_
  refine r_getI hw fO_X2_9 h1 dX2_side_20 ?_
  refine r_isub hw dX2_side_23 ?_
  refine r_i2l hw dX2_side_24 ?_
  refine r_lmul hw dX2_side_25 ?_
  refine r_lsub hw dX2_side_26 ?_
  cases h_ret m2
  exact r_lreturn hq rfl rfl dX2_side_27
theorem dX2_isBetween_0 : decode cX2_isBetween 0 = .ok (.aload_n 0, 1) := by decide +kernel
theorem dX2_isBetween_1 : decode cX2_isBetween 1 = .ok (.iload_n 1, 1) := by decide +kernel
theorem dX2_isBetween_2 : decode cX2_isBetween 2 = .ok (.iload_n 2, 1) := by decide +kernel
theorem dX2_isBetween_3 : decode cX2_isBetween 3 = .ok (.invokevirtual 42, 3) := by decide +kernel
theorem dX2_isBetween_6 : decode cX2_isBetween 6 = .ok (.lstore 5, 2) := by decide +kernel
theorem dX2_isBetween_8 : decode cX2_isBetween 8 = .ok (.aload_n 0, 1) := by decide +kernel
theorem dX2_isBetween_9 : decode cX2_isBetween 9 = .ok (.iload_n 3, 1) := by decide +kernel
theorem dX2_isBetween_10 : decode cX2_isBetween 10 = .ok (.iload 4, 2) := by decide +kernel
theorem dX2_isBetween_12 : decode cX2_isBetween 12 = .ok (.invokevirtual 42, 3) := by decide +kernel
theorem dX2_isBetween_15 : decode cX2_isBetween 15 = .ok (.lstore 7, 2) := by decide +kernel
theorem dX2_isBetween_17 : decode cX2_isBetween 17 = .ok (.lload 5, 2) := by decide +kernel
theorem dX2_isBetween_19 : decode cX2_isBetween 19 = .ok (.lconst 0, 1) := by decide +kernel
theorem dX2_isBetween_20 : decode cX2_isBetween 20 = .ok (.lcmp, 1) := by decide +kernel
theorem dX2_isBetween_21 : decode cX2_isBetween 21 = .ok (.ifCond .le 10, 3) := by decide +kernel
theorem dX2_isBetween_24 : decode cX2_isBetween 24 = .ok (.lload 7, 2) := by decide +kernel
theorem dX2_isBetween_26 : decode cX2_isBetween 26 = .ok (.lconst 0, 1) := by decide +kernel
theorem dX2_isBetween_27 : decode cX2_isBetween 27 = .ok (.lcmp, 1) := by decide +kernel
theorem dX2_isBetween_28 : decode cX2_isBetween 28 = .ok (.ifCond .lt 17, 3) := by decide +kernel
theorem dX2_isBetween_31 : decode cX2_isBetween 31 = .ok (.lload 5, 2) := by decide +kernel
theorem dX2_isBetween_33 : decode cX2_isBetween 33 = .ok (.lconst 0, 1) := by decide +kernel
theorem dX2_isBetween_34 : decode cX2_isBetween 34 = .ok (.lcmp, 1) := by decide +kernel
theorem dX2_isBetween_35 : decode cX2_isBetween 35 = .ok (.ifCond .ge 14, 3) := by decide +kernel
theorem dX2_isBetween_38 : decode cX2_isBetween 38 = .ok (.lload 7, 2) := by decide +kernel
theorem dX2_isBetween_40 : decode cX2_isBetween 40 = .ok (.lconst 0, 1) := by decide +kernel
theorem dX2_isBetween_41 : decode cX2_isBetween 41 = .ok (.lcmp, 1) := by decide +kernel
theorem dX2_isBetween_42 : decode cX2_isBetween 42 = .ok (.ifCond .le 7, 3) := by decide +kernel
theorem dX2_isBetween_45 : decode cX2_isBetween 45 = .ok (.iconst 1, 1) := by decide +kernel
theorem dX2_isBetween_46 : decode cX2_isBetween 46 = .ok (.goto 4, 3) := by decide +kernel
theorem dX2_isBetween_49 : decode cX2_isBetween 49 = .ok (.iconst 0, 1) := by decide +kernel
theorem dX2_isBetween_50 : decode cX2_isBetween 50 = .ok (.ireturn, 1) := by decide +kernel
set_option maxHeartbeats 4000000 in
set_option maxRecDepth 100000 in
theorem tX2_isBetween (l : Launch) (G : Gg) (b0 : Nat) {K : Kk} {R : Rr} {M : Mm} {r : Nat} {a0 : Int32} {a1 : Int32} {a2 : Int32} {a3 : Int32} {res : Int32} (hm : mX2_isBetween K R M r a0 a1 a2 a3 = some (res)) : CT l G b0 yX2_isBetween cX2_isBetween 9 (some .boolean) (rmz 2 22) [.ref r, .int a0, .int a1, .int a2, .int a3] K R M (some (.int res)) K R M := by
  refine ct_of (by decide +kernel) (Nat.le_of_ble_eq_true rfl) (fun w hq => ?_)
  have hw := hq.b
  change w 0 0 0 [(0, .ref r), (1, .int a0), (2, .int a1), (3, .int a2), (4, .int a3)] [] K R M
  replace hm := h_start hm
  unfold mX2_isBetween at hm
  obtain ⟨h1, m10⟩ := h_ck hm
  clear hm
  have J45 : (mX2_isBetween_J45 K R M ).bind some = some (res) → w 0 0 45 [] [] K R M := by
    intro  m11
    unfold mX2_isBetween_J45 at m11
    refine r_iconst (v := 1) hw dX2_isBetween_45 rfl ?_
    refine r_goto (tgt := 50) hw dX2_isBetween_46 (by decide) ?_
    cases h_ret m11
    exact r_zreturn hq isB_1 rfl rfl dX2_isBetween_50
  have J31 : ∀ (l2 : Int64) (l3 : Int64), (mX2_isBetween_J31 K R M l2 l3).bind some = some (res) → w 0 0 31 [(5, .long l2), (7, .long l3)] [] K R M := by
    intro l2 l3 m12
    unfold mX2_isBetween_J31 at m12
    refine r_lload hw dX2_isBetween_31 0 rfl ?_
    refine r_lconst (v := 0) hw dX2_isBetween_33 rfl ?_
    refine r_lcmp_ge (tgt := 49) hw dX2_isBetween_34 dX2_isBetween_35 (by decide) (fun c4 => ?_) (fun c4 => ?_)
    · have m13 := h_if_f c4 m12
      clear m12
      refine r_iconst (v := 0) hw dX2_isBetween_49 rfl ?_
      cases h_ret m13
      exact r_zreturn hq isB_0 rfl rfl dX2_isBetween_50
    · have m14 := h_if_t c4 m12
      clear m12
      refine r_lload hw dX2_isBetween_38 1 rfl ?_
      refine r_lconst (v := 0) hw dX2_isBetween_40 rfl ?_
      refine r_lcmp_le (tgt := 49) hw dX2_isBetween_41 dX2_isBetween_42 (by decide) (fun c5 => ?_) (fun c5 => ?_)
      · have m15 := h_if_t c5 m14
        clear m14
        refine r_iconst (v := 0) hw dX2_isBetween_49 rfl ?_
        cases h_ret m15
        exact r_zreturn hq isB_0 rfl rfl dX2_isBetween_50
      · have m16 := h_if_f c5 m14
        clear m14
        refine r_sub hw [] rfl ?_
        exact J45  m16
  refine r_aload_n hw dX2_isBetween_0 0 rfl ?_
  refine r_iload_n hw dX2_isBetween_1 1 rfl ?_
  refine r_iload_n hw dX2_isBetween_2 2 rfl ?_
  obtain ⟨l6, g6, m17⟩ := h_bd m10
  clear m10
  refine r_callV1 hw (tX2_side l G b0 g6) lB_X2_side lI_X2_side mL_X2_42 (c := 2) rfl h1 rfl (Nat.le_of_ble_eq_true rfl) (Nat.le_of_ble_eq_true rfl) rfl (Nat.le_of_ble_eq_true rfl) dX2_isBetween_3 ?_
  refine r_lstore hw dX2_isBetween_6 (by decide) rfl ?_
  refine r_aload_n hw dX2_isBetween_8 1 rfl ?_
  refine r_iload_n hw dX2_isBetween_9 4 rfl ?_
  refine r_iload hw dX2_isBetween_10 5 rfl ?_
  obtain ⟨l7, g7, m18⟩ := h_bd m17
  clear m17
  refine r_callV1 hw (tX2_side l G b0 g7) lB_X2_side lI_X2_side mL_X2_42 (c := 2) rfl h1 rfl (Nat.le_of_ble_eq_true rfl) (Nat.le_of_ble_eq_true rfl) rfl (Nat.le_of_ble_eq_true rfl) dX2_isBetween_12 ?_
  refine r_lstore hw dX2_isBetween_15 (by decide) rfl ?_
  refine r_lload hw dX2_isBetween_17 1 rfl ?_
  refine r_lconst (v := 0) hw dX2_isBetween_19 rfl ?_
  refine r_lcmp_le (tgt := 31) hw dX2_isBetween_20 dX2_isBetween_21 (by decide) (fun c8 => ?_) (fun c8 => ?_)
  · have m19 := h_if_t c8 m18
    clear m18
    refine r_sub hw [1, 0] rfl ?_
    exact J31 _ _ m19
  · have m20 := h_if_f c8 m18
    clear m18
    refine r_lload hw dX2_isBetween_24 0 rfl ?_
    refine r_lconst (v := 0) hw dX2_isBetween_26 rfl ?_
    refine r_lcmp_lt (tgt := 45) hw dX2_isBetween_27 dX2_isBetween_28 (by decide) (fun c9 => ?_) (fun c9 => ?_)
    · have m21 := h_if_t c9 m20
      clear m20
      refine r_sub hw [] rfl ?_
      exact J45  m21
    · have m22 := h_if_f c9 m20
      clear m20
      refine r_sub hw [1, 0] rfl ?_
      exact J31 _ _ m22
theorem dX0_isParted_0 : decode cX0_isParted 0 = .ok (.aload_n 3, 1) := by decide +kernel
theorem dX0_isParted_1 : decode cX0_isParted 1 = .ok (.iload 4, 2) := by decide +kernel
theorem dX0_isParted_3 : decode cX0_isParted 3 = .ok (.iload 5, 2) := by decide +kernel
theorem dX0_isParted_5 : decode cX0_isParted 5 = .ok (.aload_n 0, 1) := by decide +kernel
theorem dX0_isParted_6 : decode cX0_isParted 6 = .ok (.getfield 45, 3) := by decide +kernel
theorem dX0_isParted_9 : decode cX0_isParted 9 = .ok (.iload_n 1, 1) := by decide +kernel
theorem dX0_isParted_10 : decode cX0_isParted 10 = .ok (.iaload, 1) := by decide +kernel
theorem dX0_isParted_11 : decode cX0_isParted 11 = .ok (.aload_n 0, 1) := by decide +kernel
theorem dX0_isParted_12 : decode cX0_isParted 12 = .ok (.getfield 49, 3) := by decide +kernel
theorem dX0_isParted_15 : decode cX0_isParted 15 = .ok (.iload_n 1, 1) := by decide +kernel
theorem dX0_isParted_16 : decode cX0_isParted 16 = .ok (.iaload, 1) := by decide +kernel
theorem dX0_isParted_17 : decode cX0_isParted 17 = .ok (.invokevirtual 85, 3) := by decide +kernel
theorem dX0_isParted_20 : decode cX0_isParted 20 = .ok (.lstore 6, 2) := by decide +kernel
theorem dX0_isParted_22 : decode cX0_isParted 22 = .ok (.aload_n 3, 1) := by decide +kernel
theorem dX0_isParted_23 : decode cX0_isParted 23 = .ok (.iload 4, 2) := by decide +kernel
theorem dX0_isParted_25 : decode cX0_isParted 25 = .ok (.iload 5, 2) := by decide +kernel
theorem dX0_isParted_27 : decode cX0_isParted 27 = .ok (.aload_n 0, 1) := by decide +kernel
theorem dX0_isParted_28 : decode cX0_isParted 28 = .ok (.getfield 45, 3) := by decide +kernel
theorem dX0_isParted_31 : decode cX0_isParted 31 = .ok (.iload_n 2, 1) := by decide +kernel
theorem dX0_isParted_32 : decode cX0_isParted 32 = .ok (.iaload, 1) := by decide +kernel
theorem dX0_isParted_33 : decode cX0_isParted 33 = .ok (.aload_n 0, 1) := by decide +kernel
theorem dX0_isParted_34 : decode cX0_isParted 34 = .ok (.getfield 49, 3) := by decide +kernel
theorem dX0_isParted_37 : decode cX0_isParted 37 = .ok (.iload_n 2, 1) := by decide +kernel
theorem dX0_isParted_38 : decode cX0_isParted 38 = .ok (.iaload, 1) := by decide +kernel
theorem dX0_isParted_39 : decode cX0_isParted 39 = .ok (.invokevirtual 85, 3) := by decide +kernel
theorem dX0_isParted_42 : decode cX0_isParted 42 = .ok (.lstore 8, 2) := by decide +kernel
theorem dX0_isParted_44 : decode cX0_isParted 44 = .ok (.lload 6, 2) := by decide +kernel
theorem dX0_isParted_46 : decode cX0_isParted 46 = .ok (.lconst 0, 1) := by decide +kernel
theorem dX0_isParted_47 : decode cX0_isParted 47 = .ok (.lcmp, 1) := by decide +kernel
theorem dX0_isParted_48 : decode cX0_isParted 48 = .ok (.ifCond .le 10, 3) := by decide +kernel
theorem dX0_isParted_51 : decode cX0_isParted 51 = .ok (.lload 8, 2) := by decide +kernel
theorem dX0_isParted_53 : decode cX0_isParted 53 = .ok (.lconst 0, 1) := by decide +kernel
theorem dX0_isParted_54 : decode cX0_isParted 54 = .ok (.lcmp, 1) := by decide +kernel
theorem dX0_isParted_55 : decode cX0_isParted 55 = .ok (.ifCond .lt 17, 3) := by decide +kernel
theorem dX0_isParted_58 : decode cX0_isParted 58 = .ok (.lload 6, 2) := by decide +kernel
theorem dX0_isParted_60 : decode cX0_isParted 60 = .ok (.lconst 0, 1) := by decide +kernel
theorem dX0_isParted_61 : decode cX0_isParted 61 = .ok (.lcmp, 1) := by decide +kernel
theorem dX0_isParted_62 : decode cX0_isParted 62 = .ok (.ifCond .ge 14, 3) := by decide +kernel
theorem dX0_isParted_65 : decode cX0_isParted 65 = .ok (.lload 8, 2) := by decide +kernel
theorem dX0_isParted_67 : decode cX0_isParted 67 = .ok (.lconst 0, 1) := by decide +kernel
theorem dX0_isParted_68 : decode cX0_isParted 68 = .ok (.lcmp, 1) := by decide +kernel
theorem dX0_isParted_69 : decode cX0_isParted 69 = .ok (.ifCond .le 7, 3) := by decide +kernel
theorem dX0_isParted_72 : decode cX0_isParted 72 = .ok (.iconst 1, 1) := by decide +kernel
theorem dX0_isParted_73 : decode cX0_isParted 73 = .ok (.goto 4, 3) := by decide +kernel
theorem dX0_isParted_76 : decode cX0_isParted 76 = .ok (.iconst 0, 1) := by decide +kernel
theorem dX0_isParted_77 : decode cX0_isParted 77 = .ok (.ireturn, 1) := by decide +kernel
set_option maxHeartbeats 4000000 in
set_option maxRecDepth 100000 in
theorem tX0_isParted (l : Launch) (G : Gg) (b0 : Nat) {K : Kk} {R : Rr} {M : Mm} {a0 : Nat} {a1 : Int32} {a2 : Int32} {a3 : Nat} {a4 : Int32} {a5 : Int32} {res : Int32} (hm : mX0_isParted K R M a0 a1 a2 a3 a4 a5 = some (res)) : CT l G b0 yX0_isParted cX0_isParted 10 (some .boolean) (rmz 3 49) [.ref a0, .int a1, .int a2, .ref a3, .int a4, .int a5] K R M (some (.int res)) K R M := by
  refine ct_of (by decide +kernel) (Nat.le_of_ble_eq_true rfl) (fun w hq => ?_)
  have hw := hq.b
  change w 0 0 0 [(0, .ref a0), (1, .int a1), (2, .int a2), (3, .ref a3), (4, .int a4), (5, .int a5)] [] K R M
  replace hm := h_start hm
  unfold mX0_isParted at hm
  obtain ⟨h1, m17⟩ := h_ck hm
  clear hm
  obtain ⟨h2, m18⟩ := h_ck m17
  clear m17
  have J72 : (mX0_isParted_J72 K R M ).bind some = some (res) → w 0 0 72 [] [] K R M := by
    intro  m19
    unfold mX0_isParted_J72 at m19
    refine r_iconst (v := 1) hw dX0_isParted_72 rfl ?_
    refine r_goto (tgt := 77) hw dX0_isParted_73 (by decide) ?_
    cases h_ret m19
    exact r_zreturn hq isB_1 rfl rfl dX0_isParted_77
  have J58 : ∀ (l3 : Int64) (l4 : Int64), (mX0_isParted_J58 K R M l3 l4).bind some = some (res) → w 0 0 58 [(6, .long l3), (8, .long l4)] [] K R M := by
    intro l3 l4 m20
    unfold mX0_isParted_J58 at m20
    refine r_lload hw dX0_isParted_58 0 rfl ?_
    refine r_lconst (v := 0) hw dX0_isParted_60 rfl ?_
    refine r_lcmp_ge (tgt := 76) hw dX0_isParted_61 dX0_isParted_62 (by decide) (fun c5 => ?_) (fun c5 => ?_)
    · have m21 := h_if_f c5 m20
      clear m20
      refine r_iconst (v := 0) hw dX0_isParted_76 rfl ?_
      cases h_ret m21
      exact r_zreturn hq isB_0 rfl rfl dX0_isParted_77
    · have m22 := h_if_t c5 m20
      clear m20
      refine r_lload hw dX0_isParted_65 1 rfl ?_
      refine r_lconst (v := 0) hw dX0_isParted_67 rfl ?_
      refine r_lcmp_le (tgt := 76) hw dX0_isParted_68 dX0_isParted_69 (by decide) (fun c6 => ?_) (fun c6 => ?_)
      · have m23 := h_if_t c6 m22
        clear m22
        refine r_iconst (v := 0) hw dX0_isParted_76 rfl ?_
        cases h_ret m23
        exact r_zreturn hq isB_0 rfl rfl dX0_isParted_77
      · have m24 := h_if_f c6 m22
        clear m22
        refine r_sub hw [] rfl ?_
        exact J72  m24
  refine r_aload_n hw dX0_isParted_0 3 rfl ?_
  refine r_iload hw dX0_isParted_1 4 rfl ?_
  refine r_iload hw dX0_isParted_3 5 rfl ?_
  refine r_aload_n hw dX0_isParted_5 0 rfl ?_
  obtain ⟨q7, bq7, m25⟩ := h_bd m18
  clear m18
  refine r_getR hw fO_X0_45 h1 bq7 dX0_isParted_6 ?_
  refine r_iload_n hw dX0_isParted_9 1 rfl ?_
  obtain ⟨h8, m26⟩ := h_ck m25
  clear m25
  refine r_iaload hw h8 dX0_isParted_10 ?_
  refine r_aload_n hw dX0_isParted_11 0 rfl ?_
  obtain ⟨q9, bq9, m27⟩ := h_bd m26
  clear m26
  refine r_getR hw fO_X0_49 h1 bq9 dX0_isParted_12 ?_
  refine r_iload_n hw dX0_isParted_15 1 rfl ?_
  obtain ⟨h10, m28⟩ := h_ck m27
  clear m27
  refine r_iaload hw h10 dX0_isParted_16 ?_
  obtain ⟨l11, g11, m29⟩ := h_bd m28
  clear m28
  refine r_callV1 hw (tX5_sideAt l G b0 g11) lB_X5_sideAt lI_X5_sideAt mL_X0_85 (c := 5) rfl h2 rfl (Nat.le_of_ble_eq_true rfl) (Nat.le_of_ble_eq_true rfl) rfl (Nat.le_of_ble_eq_true rfl) dX0_isParted_17 ?_
  refine r_lstore hw dX0_isParted_20 (by decide) rfl ?_
  refine r_aload_n hw dX0_isParted_22 4 rfl ?_
  refine r_iload hw dX0_isParted_23 5 rfl ?_
  refine r_iload hw dX0_isParted_25 6 rfl ?_
  refine r_aload_n hw dX0_isParted_27 1 rfl ?_
  refine r_getR hw fO_X0_45 h1 bq7 dX0_isParted_28 ?_
  refine r_iload_n hw dX0_isParted_31 3 rfl ?_
  obtain ⟨h12, m30⟩ := h_ck m29
  clear m29
  refine r_iaload hw h12 dX0_isParted_32 ?_
  refine r_aload_n hw dX0_isParted_33 1 rfl ?_
  refine r_getR hw fO_X0_49 h1 bq9 dX0_isParted_34 ?_
  refine r_iload_n hw dX0_isParted_37 3 rfl ?_
  obtain ⟨h13, m31⟩ := h_ck m30
  clear m30
  refine r_iaload hw h13 dX0_isParted_38 ?_
  obtain ⟨l14, g14, m32⟩ := h_bd m31
  clear m31
  refine r_callV1 hw (tX5_sideAt l G b0 g14) lB_X5_sideAt lI_X5_sideAt mL_X0_85 (c := 5) rfl h2 rfl (Nat.le_of_ble_eq_true rfl) (Nat.le_of_ble_eq_true rfl) rfl (Nat.le_of_ble_eq_true rfl) dX0_isParted_39 ?_
  refine r_lstore hw dX0_isParted_42 (by decide) rfl ?_
  refine r_lload hw dX0_isParted_44 1 rfl ?_
  refine r_lconst (v := 0) hw dX0_isParted_46 rfl ?_
  refine r_lcmp_le (tgt := 58) hw dX0_isParted_47 dX0_isParted_48 (by decide) (fun c15 => ?_) (fun c15 => ?_)
  · have m33 := h_if_t c15 m32
    clear m32
    refine r_sub hw [1, 0] rfl ?_
    exact J58 _ _ m33
  · have m34 := h_if_f c15 m32
    clear m32
    refine r_lload hw dX0_isParted_51 0 rfl ?_
    refine r_lconst (v := 0) hw dX0_isParted_53 rfl ?_
    refine r_lcmp_lt (tgt := 72) hw dX0_isParted_54 dX0_isParted_55 (by decide) (fun c16 => ?_) (fun c16 => ?_)
    · have m35 := h_if_t c16 m34
      clear m34
      refine r_sub hw [] rfl ?_
      exact J72  m35
    · have m36 := h_if_f c16 m34
      clear m34
      refine r_sub hw [1, 0] rfl ?_
      exact J58 _ _ m36
theorem dX2_meet_0 : decode cX2_meet 0 = .ok (.aload_n 0, 1) := by decide +kernel
theorem dX2_meet_1 : decode cX2_meet 1 = .ok (.iload_n 1, 1) := by decide +kernel
theorem dX2_meet_2 : decode cX2_meet 2 = .ok (.iload_n 2, 1) := by decide +kernel
theorem dX2_meet_3 : decode cX2_meet 3 = .ok (.invokevirtual 42, 3) := by decide +kernel
theorem dX2_meet_6 : decode cX2_meet 6 = .ok (.lstore 5, 2) := by decide +kernel
theorem dX2_meet_8 : decode cX2_meet 8 = .ok (.lload 5, 2) := by decide +kernel
theorem dX2_meet_10 : decode cX2_meet 10 = .ok (.aload_n 0, 1) := by decide +kernel
theorem dX2_meet_11 : decode cX2_meet 11 = .ok (.iload_n 3, 1) := by decide +kernel
theorem dX2_meet_12 : decode cX2_meet 12 = .ok (.iload 4, 2) := by decide +kernel
theorem dX2_meet_14 : decode cX2_meet 14 = .ok (.invokevirtual 42, 3) := by decide +kernel
theorem dX2_meet_17 : decode cX2_meet 17 = .ok (.lsub, 1) := by decide +kernel
theorem dX2_meet_18 : decode cX2_meet 18 = .ok (.lstore 7, 2) := by decide +kernel
theorem dX2_meet_20 : decode cX2_meet 20 = .ok (.lload 7, 2) := by decide +kernel
theorem dX2_meet_22 : decode cX2_meet 22 = .ok (.lconst 0, 1) := by decide +kernel
theorem dX2_meet_23 : decode cX2_meet 23 = .ok (.lcmp, 1) := by decide +kernel
theorem dX2_meet_24 : decode cX2_meet 24 = .ok (.ifCond .ne 5, 3) := by decide +kernel
theorem dX2_meet_27 : decode cX2_meet 27 = .ok (.iconst 0, 1) := by decide +kernel
theorem dX2_meet_28 : decode cX2_meet 28 = .ok (.ireturn, 1) := by decide +kernel
theorem dX2_meet_29 : decode cX2_meet 29 = .ok (.iload_n 3, 1) := by decide +kernel
theorem dX2_meet_30 : decode cX2_meet 30 = .ok (.iload_n 1, 1) := by decide +kernel
theorem dX2_meet_31 : decode cX2_meet 31 = .ok (.isub, 1) := by decide +kernel
theorem dX2_meet_32 : decode cX2_meet 32 = .ok (.i2l, 1) := by decide +kernel
theorem dX2_meet_33 : decode cX2_meet 33 = .ok (.lload 5, 2) := by decide +kernel
theorem dX2_meet_35 : decode cX2_meet 35 = .ok (.lmul, 1) := by decide +kernel
theorem dX2_meet_36 : decode cX2_meet 36 = .ok (.lstore 9, 2) := by decide +kernel
theorem dX2_meet_38 : decode cX2_meet 38 = .ok (.iload 4, 2) := by decide +kernel
theorem dX2_meet_40 : decode cX2_meet 40 = .ok (.iload_n 2, 1) := by decide +kernel
theorem dX2_meet_41 : decode cX2_meet 41 = .ok (.isub, 1) := by decide +kernel
theorem dX2_meet_42 : decode cX2_meet 42 = .ok (.i2l, 1) := by decide +kernel
theorem dX2_meet_43 : decode cX2_meet 43 = .ok (.lload 5, 2) := by decide +kernel
theorem dX2_meet_45 : decode cX2_meet 45 = .ok (.lmul, 1) := by decide +kernel
theorem dX2_meet_46 : decode cX2_meet 46 = .ok (.lstore 11, 2) := by decide +kernel
theorem dX2_meet_48 : decode cX2_meet 48 = .ok (.lload 9, 2) := by decide +kernel
theorem dX2_meet_50 : decode cX2_meet 50 = .ok (.lload 7, 2) := by decide +kernel
theorem dX2_meet_52 : decode cX2_meet 52 = .ok (.lrem, 1) := by decide +kernel
theorem dX2_meet_53 : decode cX2_meet 53 = .ok (.lconst 0, 1) := by decide +kernel
theorem dX2_meet_54 : decode cX2_meet 54 = .ok (.lcmp, 1) := by decide +kernel
theorem dX2_meet_55 : decode cX2_meet 55 = .ok (.ifCond .ne 13, 3) := by decide +kernel
theorem dX2_meet_58 : decode cX2_meet 58 = .ok (.lload 11, 2) := by decide +kernel
theorem dX2_meet_60 : decode cX2_meet 60 = .ok (.lload 7, 2) := by decide +kernel
theorem dX2_meet_62 : decode cX2_meet 62 = .ok (.lrem, 1) := by decide +kernel
theorem dX2_meet_63 : decode cX2_meet 63 = .ok (.lconst 0, 1) := by decide +kernel
theorem dX2_meet_64 : decode cX2_meet 64 = .ok (.lcmp, 1) := by decide +kernel
theorem dX2_meet_65 : decode cX2_meet 65 = .ok (.ifCond .eq 5, 3) := by decide +kernel
theorem dX2_meet_68 : decode cX2_meet 68 = .ok (.iconst 0, 1) := by decide +kernel
theorem dX2_meet_69 : decode cX2_meet 69 = .ok (.ireturn, 1) := by decide +kernel
theorem dX2_meet_70 : decode cX2_meet 70 = .ok (.aload_n 0, 1) := by decide +kernel
theorem dX2_meet_71 : decode cX2_meet 71 = .ok (.iload_n 1, 1) := by decide +kernel
theorem dX2_meet_72 : decode cX2_meet 72 = .ok (.i2l, 1) := by decide +kernel
theorem dX2_meet_73 : decode cX2_meet 73 = .ok (.lload 9, 2) := by decide +kernel
theorem dX2_meet_75 : decode cX2_meet 75 = .ok (.lload 7, 2) := by decide +kernel
theorem dX2_meet_77 : decode cX2_meet 77 = .ok (.ldiv, 1) := by decide +kernel
theorem dX2_meet_78 : decode cX2_meet 78 = .ok (.ladd, 1) := by decide +kernel
theorem dX2_meet_79 : decode cX2_meet 79 = .ok (.l2i, 1) := by decide +kernel
theorem dX2_meet_80 : decode cX2_meet 80 = .ok (.putfield 67, 3) := by decide +kernel
theorem dX2_meet_83 : decode cX2_meet 83 = .ok (.aload_n 0, 1) := by decide +kernel
theorem dX2_meet_84 : decode cX2_meet 84 = .ok (.iload_n 2, 1) := by decide +kernel
theorem dX2_meet_85 : decode cX2_meet 85 = .ok (.i2l, 1) := by decide +kernel
theorem dX2_meet_86 : decode cX2_meet 86 = .ok (.lload 11, 2) := by decide +kernel
theorem dX2_meet_88 : decode cX2_meet 88 = .ok (.lload 7, 2) := by decide +kernel
theorem dX2_meet_90 : decode cX2_meet 90 = .ok (.ldiv, 1) := by decide +kernel
theorem dX2_meet_91 : decode cX2_meet 91 = .ok (.ladd, 1) := by decide +kernel
theorem dX2_meet_92 : decode cX2_meet 92 = .ok (.l2i, 1) := by decide +kernel
theorem dX2_meet_93 : decode cX2_meet 93 = .ok (.putfield 70, 3) := by decide +kernel
theorem dX2_meet_96 : decode cX2_meet 96 = .ok (.iconst 1, 1) := by decide +kernel
theorem dX2_meet_97 : decode cX2_meet 97 = .ok (.ireturn, 1) := by decide +kernel
set_option maxHeartbeats 4000000 in
set_option maxRecDepth 100000 in
theorem tX2_meet (l : Launch) (G : Gg) (b0 : Nat) {K : Kk} {R : Rr} {M : Mm} {r : Nat} {a0 : Int32} {a1 : Int32} {a2 : Int32} {a3 : Int32} {res : Int32} {M' : Mm} (hm : mX2_meet K R M r a0 a1 a2 a3 = some (res, M')) : CT l G b0 yX2_meet cX2_meet 13 (some .boolean) (rmz 2 22) [.ref r, .int a0, .int a1, .int a2, .int a3] K R M (some (.int res)) K R M' := by
  refine ct_of (by decide +kernel) (Nat.le_of_ble_eq_true rfl) (fun w hq => ?_)
  have hw := hq.b
  change w 0 0 0 [(0, .ref r), (1, .int a0), (2, .int a1), (3, .int a2), (4, .int a3)] [] K R M
  replace hm := h_start hm
  unfold mX2_meet at hm
  obtain ⟨h1, m13⟩ := h_ck hm
  clear hm
  refine r_aload_n hw dX2_meet_0 0 rfl ?_
  refine r_iload_n hw dX2_meet_1 1 rfl ?_
  refine r_iload_n hw dX2_meet_2 2 rfl ?_
  obtain ⟨l2, g2, m14⟩ := h_bd m13
  clear m13
  refine r_callV1 hw (tX2_side l G b0 g2) lB_X2_side lI_X2_side mL_X2_42 (c := 2) rfl h1 rfl (Nat.le_of_ble_eq_true rfl) (Nat.le_of_ble_eq_true rfl) rfl (Nat.le_of_ble_eq_true rfl) dX2_meet_3 ?_
  refine r_lstore hw dX2_meet_6 (by decide) rfl ?_
  refine r_lload hw dX2_meet_8 0 rfl ?_
  refine r_aload_n hw dX2_meet_10 1 rfl ?_
  refine r_iload_n hw dX2_meet_11 4 rfl ?_
  refine r_iload hw dX2_meet_12 5 rfl ?_
  obtain ⟨l3, g3, m15⟩ := h_bd m14
  clear m14
  refine r_callV1 hw (tX2_side l G b0 g3) lB_X2_side lI_X2_side mL_X2_42 (c := 2) rfl h1 rfl (Nat.le_of_ble_eq_true rfl) (Nat.le_of_ble_eq_true rfl) rfl (Nat.le_of_ble_eq_true rfl) dX2_meet_14 ?_
  refine r_lsub hw dX2_meet_17 ?_
  obtain ⟨l4, el4, m16⟩ := h_nm m15
  clear m15
  refine r_topL (w := w) el4 ?_
  refine r_lstore hw dX2_meet_18 (by decide) rfl ?_
  refine r_lload hw dX2_meet_20 0 rfl ?_
  refine r_lconst (v := 0) hw dX2_meet_22 rfl ?_
  refine r_lcmp_ne (tgt := 29) hw dX2_meet_23 dX2_meet_24 (by decide) (fun c5 => ?_) (fun c5 => ?_)
  · have m17 := h_if_f c5 m16
    clear m16
    refine r_iload_n hw dX2_meet_29 5 rfl ?_
    refine r_iload_n hw dX2_meet_30 3 rfl ?_
    refine r_isub hw dX2_meet_31 ?_
    refine r_i2l hw dX2_meet_32 ?_
    refine r_lload hw dX2_meet_33 1 rfl ?_
    refine r_lmul hw dX2_meet_35 ?_
    obtain ⟨l6, el6, m18⟩ := h_nm m17
    clear m17
    refine r_topL (w := w) el6 ?_
    refine r_lstore hw dX2_meet_36 (by decide) rfl ?_
    refine r_iload hw dX2_meet_38 7 rfl ?_
    refine r_iload_n hw dX2_meet_40 5 rfl ?_
    refine r_isub hw dX2_meet_41 ?_
    refine r_i2l hw dX2_meet_42 ?_
    refine r_lload hw dX2_meet_43 2 rfl ?_
    refine r_lmul hw dX2_meet_45 ?_
    obtain ⟨l7, el7, m19⟩ := h_nm m18
    clear m18
    refine r_topL (w := w) el7 ?_
    refine r_lstore hw dX2_meet_46 (by decide) rfl ?_
    refine r_lload hw dX2_meet_48 1 rfl ?_
    refine r_lload hw dX2_meet_50 2 rfl ?_
    obtain ⟨h8, m20⟩ := h_ck m19
    clear m19
    refine r_lrem hw dX2_meet_52 h8 ?_
    refine r_lconst (v := 0) hw dX2_meet_53 rfl ?_
    refine r_lcmp_ne (tgt := 68) hw dX2_meet_54 dX2_meet_55 (by decide) (fun c9 => ?_) (fun c9 => ?_)
    · have m21 := h_if_f c9 m20
      clear m20
      refine r_iconst (v := 0) hw dX2_meet_68 rfl ?_
      cases h_ret m21
      exact r_zreturn hq isB_0 rfl rfl dX2_meet_69
    · have m22 := h_if_t c9 m20
      clear m20
      refine r_lload hw dX2_meet_58 0 rfl ?_
      refine r_lload hw dX2_meet_60 2 rfl ?_
      refine r_lrem hw dX2_meet_62 h8 ?_
      refine r_lconst (v := 0) hw dX2_meet_63 rfl ?_
      refine r_lcmp_eq (tgt := 70) hw dX2_meet_64 dX2_meet_65 (by decide) (fun c10 => ?_) (fun c10 => ?_)
      · have m23 := h_if_t c10 m22
        clear m22
        refine r_aload_n hw dX2_meet_70 4 rfl ?_
        refine r_iload_n hw dX2_meet_71 5 rfl ?_
        refine r_i2l hw dX2_meet_72 ?_
        refine r_lload hw dX2_meet_73 1 rfl ?_
        refine r_lload hw dX2_meet_75 2 rfl ?_
        refine r_ldiv hw dX2_meet_77 h8 ?_
        refine r_ladd hw dX2_meet_78 ?_
        refine r_l2i hw dX2_meet_79 ?_
        obtain ⟨M11, eM11, m24⟩ := h_nm m23
        clear m23
        refine r_putI hw fP_X2_67 h1 dX2_meet_80 (r_mem ?_ rfl eM11)
        refine r_aload_n hw dX2_meet_83 4 rfl ?_
        refine r_iload_n hw dX2_meet_84 6 rfl ?_
        refine r_i2l hw dX2_meet_85 ?_
        refine r_lload hw dX2_meet_86 0 rfl ?_
        refine r_lload hw dX2_meet_88 2 rfl ?_
        refine r_ldiv hw dX2_meet_90 h8 ?_
        refine r_ladd hw dX2_meet_91 ?_
        refine r_l2i hw dX2_meet_92 ?_
        obtain ⟨M12, eM12, m25⟩ := h_nm m24
        clear m24
        refine r_putI hw fP_X2_70 h1 dX2_meet_93 (r_mem ?_ rfl eM12)
        refine r_iconst (v := 1) hw dX2_meet_96 rfl ?_
        cases h_ret m25
        exact r_zreturn hq isB_1 rfl rfl dX2_meet_97
      · have m26 := h_if_f c10 m22
        clear m22
        refine r_iconst (v := 0) hw dX2_meet_68 rfl ?_
        cases h_ret m26
        exact r_zreturn hq isB_0 rfl rfl dX2_meet_69
  · have m27 := h_if_t c5 m16
    clear m16
    refine r_iconst (v := 0) hw dX2_meet_27 rfl ?_
    cases h_ret m27
    exact r_zreturn hq isB_0 rfl rfl dX2_meet_28
theorem dX0_sortInCrossings_0 : decode cX0_sortInCrossings 0 = .ok (.iconst 0, 1) := by decide +kernel
theorem dX0_sortInCrossings_1 : decode cX0_sortInCrossings 1 = .ok (.istore_n 3, 1) := by decide +kernel
theorem dX0_sortInCrossings_2 : decode cX0_sortInCrossings 2 = .ok (.iload_n 3, 1) := by decide +kernel
theorem dX0_sortInCrossings_3 : decode cX0_sortInCrossings 3 = .ok (.aload_n 1, 1) := by decide +kernel
theorem dX0_sortInCrossings_4 : decode cX0_sortInCrossings 4 = .ok (.getfield 30, 3) := by decide +kernel
theorem dX0_sortInCrossings_7 : decode cX0_sortInCrossings 7 = .ok (.if_icmp .ge 204, 3) := by decide +kernel
theorem dX0_sortInCrossings_10 : decode cX0_sortInCrossings 10 = .ok (.aload_n 1, 1) := by decide +kernel
theorem dX0_sortInCrossings_11 : decode cX0_sortInCrossings 11 = .ok (.iload_n 3, 1) := by decide +kernel
theorem dX0_sortInCrossings_12 : decode cX0_sortInCrossings 12 = .ok (.iconst 1, 1) := by decide +kernel
theorem dX0_sortInCrossings_13 : decode cX0_sortInCrossings 13 = .ok (.iadd, 1) := by decide +kernel
theorem dX0_sortInCrossings_14 : decode cX0_sortInCrossings 14 = .ok (.invokevirtual 60, 3) := by decide +kernel
theorem dX0_sortInCrossings_17 : decode cX0_sortInCrossings 17 = .ok (.istore 4, 2) := by decide +kernel
theorem dX0_sortInCrossings_19 : decode cX0_sortInCrossings 19 = .ok (.aload_n 0, 1) := by decide +kernel
theorem dX0_sortInCrossings_20 : decode cX0_sortInCrossings 20 = .ok (.getfield 26, 3) := by decide +kernel
theorem dX0_sortInCrossings_23 : decode cX0_sortInCrossings 23 = .ok (.aload_n 1, 1) := by decide +kernel
theorem dX0_sortInCrossings_24 : decode cX0_sortInCrossings 24 = .ok (.getfield 45, 3) := by decide +kernel
theorem dX0_sortInCrossings_27 : decode cX0_sortInCrossings 27 = .ok (.iload_n 3, 1) := by decide +kernel
theorem dX0_sortInCrossings_28 : decode cX0_sortInCrossings 28 = .ok (.iaload, 1) := by decide +kernel
theorem dX0_sortInCrossings_29 : decode cX0_sortInCrossings 29 = .ok (.aload_n 1, 1) := by decide +kernel
theorem dX0_sortInCrossings_30 : decode cX0_sortInCrossings 30 = .ok (.getfield 49, 3) := by decide +kernel
theorem dX0_sortInCrossings_33 : decode cX0_sortInCrossings 33 = .ok (.iload_n 3, 1) := by decide +kernel
theorem dX0_sortInCrossings_34 : decode cX0_sortInCrossings 34 = .ok (.iaload, 1) := by decide +kernel
theorem dX0_sortInCrossings_35 : decode cX0_sortInCrossings 35 = .ok (.aload_n 1, 1) := by decide +kernel
theorem dX0_sortInCrossings_36 : decode cX0_sortInCrossings 36 = .ok (.getfield 45, 3) := by decide +kernel
theorem dX0_sortInCrossings_39 : decode cX0_sortInCrossings 39 = .ok (.iload 4, 2) := by decide +kernel
theorem dX0_sortInCrossings_41 : decode cX0_sortInCrossings 41 = .ok (.iaload, 1) := by decide +kernel
theorem dX0_sortInCrossings_42 : decode cX0_sortInCrossings 42 = .ok (.aload_n 1, 1) := by decide +kernel
theorem dX0_sortInCrossings_43 : decode cX0_sortInCrossings 43 = .ok (.getfield 45, 3) := by decide +kernel
theorem dX0_sortInCrossings_46 : decode cX0_sortInCrossings 46 = .ok (.iload_n 3, 1) := by decide +kernel
theorem dX0_sortInCrossings_47 : decode cX0_sortInCrossings 47 = .ok (.iaload, 1) := by decide +kernel
theorem dX0_sortInCrossings_48 : decode cX0_sortInCrossings 48 = .ok (.isub, 1) := by decide +kernel
theorem dX0_sortInCrossings_49 : decode cX0_sortInCrossings 49 = .ok (.aload_n 1, 1) := by decide +kernel
theorem dX0_sortInCrossings_50 : decode cX0_sortInCrossings 50 = .ok (.getfield 49, 3) := by decide +kernel
theorem dX0_sortInCrossings_53 : decode cX0_sortInCrossings 53 = .ok (.iload 4, 2) := by decide +kernel
theorem dX0_sortInCrossings_55 : decode cX0_sortInCrossings 55 = .ok (.iaload, 1) := by decide +kernel
theorem dX0_sortInCrossings_56 : decode cX0_sortInCrossings 56 = .ok (.aload_n 1, 1) := by decide +kernel
theorem dX0_sortInCrossings_57 : decode cX0_sortInCrossings 57 = .ok (.getfield 49, 3) := by decide +kernel
theorem dX0_sortInCrossings_60 : decode cX0_sortInCrossings 60 = .ok (.iload_n 3, 1) := by decide +kernel
theorem dX0_sortInCrossings_61 : decode cX0_sortInCrossings 61 = .ok (.iaload, 1) := by decide +kernel
theorem dX0_sortInCrossings_62 : decode cX0_sortInCrossings 62 = .ok (.isub, 1) := by decide +kernel
theorem dX0_sortInCrossings_63 : decode cX0_sortInCrossings 63 = .ok (.invokevirtual 64, 3) := by decide +kernel
theorem dX0_sortInCrossings_66 : decode cX0_sortInCrossings 66 = .ok (.iconst 0, 1) := by decide +kernel
theorem dX0_sortInCrossings_67 : decode cX0_sortInCrossings 67 = .ok (.istore 5, 2) := by decide +kernel
theorem dX0_sortInCrossings_69 : decode cX0_sortInCrossings 69 = .ok (.iload 5, 2) := by decide +kernel
theorem dX0_sortInCrossings_71 : decode cX0_sortInCrossings 71 = .ok (.aload_n 2, 1) := by decide +kernel
theorem dX0_sortInCrossings_72 : decode cX0_sortInCrossings 72 = .ok (.getfield 30, 3) := by decide +kernel
theorem dX0_sortInCrossings_75 : decode cX0_sortInCrossings 75 = .ok (.if_icmp .ge 130, 3) := by decide +kernel
theorem dX0_sortInCrossings_78 : decode cX0_sortInCrossings 78 = .ok (.aload_n 2, 1) := by decide +kernel
theorem dX0_sortInCrossings_79 : decode cX0_sortInCrossings 79 = .ok (.iload 5, 2) := by decide +kernel
theorem dX0_sortInCrossings_81 : decode cX0_sortInCrossings 81 = .ok (.iconst 1, 1) := by decide +kernel
theorem dX0_sortInCrossings_82 : decode cX0_sortInCrossings 82 = .ok (.iadd, 1) := by decide +kernel
theorem dX0_sortInCrossings_83 : decode cX0_sortInCrossings 83 = .ok (.invokevirtual 60, 3) := by decide +kernel
theorem dX0_sortInCrossings_86 : decode cX0_sortInCrossings 86 = .ok (.istore 6, 2) := by decide +kernel
theorem dX0_sortInCrossings_88 : decode cX0_sortInCrossings 88 = .ok (.aload_n 0, 1) := by decide +kernel
theorem dX0_sortInCrossings_89 : decode cX0_sortInCrossings 89 = .ok (.getfield 26, 3) := by decide +kernel
theorem dX0_sortInCrossings_92 : decode cX0_sortInCrossings 92 = .ok (.aload_n 2, 1) := by decide +kernel
theorem dX0_sortInCrossings_93 : decode cX0_sortInCrossings 93 = .ok (.getfield 45, 3) := by decide +kernel
theorem dX0_sortInCrossings_96 : decode cX0_sortInCrossings 96 = .ok (.iload 5, 2) := by decide +kernel
theorem dX0_sortInCrossings_98 : decode cX0_sortInCrossings 98 = .ok (.iaload, 1) := by decide +kernel
theorem dX0_sortInCrossings_99 : decode cX0_sortInCrossings 99 = .ok (.aload_n 2, 1) := by decide +kernel
theorem dX0_sortInCrossings_100 : decode cX0_sortInCrossings 100 = .ok (.getfield 49, 3) := by decide +kernel
theorem dX0_sortInCrossings_103 : decode cX0_sortInCrossings 103 = .ok (.iload 5, 2) := by decide +kernel
theorem dX0_sortInCrossings_105 : decode cX0_sortInCrossings 105 = .ok (.iaload, 1) := by decide +kernel
theorem dX0_sortInCrossings_106 : decode cX0_sortInCrossings 106 = .ok (.aload_n 2, 1) := by decide +kernel
theorem dX0_sortInCrossings_107 : decode cX0_sortInCrossings 107 = .ok (.getfield 45, 3) := by decide +kernel
theorem dX0_sortInCrossings_110 : decode cX0_sortInCrossings 110 = .ok (.iload 6, 2) := by decide +kernel
theorem dX0_sortInCrossings_112 : decode cX0_sortInCrossings 112 = .ok (.iaload, 1) := by decide +kernel
theorem dX0_sortInCrossings_113 : decode cX0_sortInCrossings 113 = .ok (.aload_n 2, 1) := by decide +kernel
theorem dX0_sortInCrossings_114 : decode cX0_sortInCrossings 114 = .ok (.getfield 49, 3) := by decide +kernel
theorem dX0_sortInCrossings_117 : decode cX0_sortInCrossings 117 = .ok (.iload 6, 2) := by decide +kernel
theorem dX0_sortInCrossings_119 : decode cX0_sortInCrossings 119 = .ok (.iaload, 1) := by decide +kernel
theorem dX0_sortInCrossings_120 : decode cX0_sortInCrossings 120 = .ok (.invokevirtual 68, 3) := by decide +kernel
theorem dX0_sortInCrossings_123 : decode cX0_sortInCrossings 123 = .ok (.ifCond .eq 76, 3) := by decide +kernel
theorem dX0_sortInCrossings_126 : decode cX0_sortInCrossings 126 = .ok (.aload_n 1, 1) := by decide +kernel
theorem dX0_sortInCrossings_127 : decode cX0_sortInCrossings 127 = .ok (.iload_n 3, 1) := by decide +kernel
theorem dX0_sortInCrossings_128 : decode cX0_sortInCrossings 128 = .ok (.iload 4, 2) := by decide +kernel
theorem dX0_sortInCrossings_130 : decode cX0_sortInCrossings 130 = .ok (.aload_n 2, 1) := by decide +kernel
theorem dX0_sortInCrossings_131 : decode cX0_sortInCrossings 131 = .ok (.iload 5, 2) := by decide +kernel
theorem dX0_sortInCrossings_133 : decode cX0_sortInCrossings 133 = .ok (.iload 6, 2) := by decide +kernel
theorem dX0_sortInCrossings_135 : decode cX0_sortInCrossings 135 = .ok (.invokestatic 72, 3) := by decide +kernel
theorem dX0_sortInCrossings_138 : decode cX0_sortInCrossings 138 = .ok (.ifCond .eq 61, 3) := by decide +kernel
theorem dX0_sortInCrossings_141 : decode cX0_sortInCrossings 141 = .ok (.aload_n 0, 1) := by decide +kernel
theorem dX0_sortInCrossings_142 : decode cX0_sortInCrossings 142 = .ok (.getfield 26, 3) := by decide +kernel
theorem dX0_sortInCrossings_145 : decode cX0_sortInCrossings 145 = .ok (.aload_n 2, 1) := by decide +kernel
theorem dX0_sortInCrossings_146 : decode cX0_sortInCrossings 146 = .ok (.getfield 45, 3) := by decide +kernel
theorem dX0_sortInCrossings_149 : decode cX0_sortInCrossings 149 = .ok (.iload 5, 2) := by decide +kernel
theorem dX0_sortInCrossings_151 : decode cX0_sortInCrossings 151 = .ok (.iaload, 1) := by decide +kernel
theorem dX0_sortInCrossings_152 : decode cX0_sortInCrossings 152 = .ok (.aload_n 2, 1) := by decide +kernel
theorem dX0_sortInCrossings_153 : decode cX0_sortInCrossings 153 = .ok (.getfield 49, 3) := by decide +kernel
theorem dX0_sortInCrossings_156 : decode cX0_sortInCrossings 156 = .ok (.iload 5, 2) := by decide +kernel
theorem dX0_sortInCrossings_158 : decode cX0_sortInCrossings 158 = .ok (.iaload, 1) := by decide +kernel
theorem dX0_sortInCrossings_159 : decode cX0_sortInCrossings 159 = .ok (.aload_n 2, 1) := by decide +kernel
theorem dX0_sortInCrossings_160 : decode cX0_sortInCrossings 160 = .ok (.getfield 45, 3) := by decide +kernel
theorem dX0_sortInCrossings_163 : decode cX0_sortInCrossings 163 = .ok (.iload 6, 2) := by decide +kernel
theorem dX0_sortInCrossings_165 : decode cX0_sortInCrossings 165 = .ok (.iaload, 1) := by decide +kernel
theorem dX0_sortInCrossings_166 : decode cX0_sortInCrossings 166 = .ok (.aload_n 2, 1) := by decide +kernel
theorem dX0_sortInCrossings_167 : decode cX0_sortInCrossings 167 = .ok (.getfield 49, 3) := by decide +kernel
theorem dX0_sortInCrossings_170 : decode cX0_sortInCrossings 170 = .ok (.iload 6, 2) := by decide +kernel
theorem dX0_sortInCrossings_172 : decode cX0_sortInCrossings 172 = .ok (.iaload, 1) := by decide +kernel
theorem dX0_sortInCrossings_173 : decode cX0_sortInCrossings 173 = .ok (.invokevirtual 76, 3) := by decide +kernel
theorem dX0_sortInCrossings_176 : decode cX0_sortInCrossings 176 = .ok (.ifCond .ne 5, 3) := by decide +kernel
theorem dX0_sortInCrossings_179 : decode cX0_sortInCrossings 179 = .ok (.iconst 0, 1) := by decide +kernel
theorem dX0_sortInCrossings_180 : decode cX0_sortInCrossings 180 = .ok (.ireturn, 1) := by decide +kernel
theorem dX0_sortInCrossings_181 : decode cX0_sortInCrossings 181 = .ok (.aload_n 0, 1) := by decide +kernel
theorem dX0_sortInCrossings_182 : decode cX0_sortInCrossings 182 = .ok (.aload_n 0, 1) := by decide +kernel
theorem dX0_sortInCrossings_183 : decode cX0_sortInCrossings 183 = .ok (.getfield 26, 3) := by decide +kernel
theorem dX0_sortInCrossings_186 : decode cX0_sortInCrossings 186 = .ok (.getfield 79, 3) := by decide +kernel
theorem dX0_sortInCrossings_189 : decode cX0_sortInCrossings 189 = .ok (.aload_n 0, 1) := by decide +kernel
theorem dX0_sortInCrossings_190 : decode cX0_sortInCrossings 190 = .ok (.getfield 26, 3) := by decide +kernel
theorem dX0_sortInCrossings_193 : decode cX0_sortInCrossings 193 = .ok (.getfield 82, 3) := by decide +kernel
theorem dX0_sortInCrossings_196 : decode cX0_sortInCrossings 196 = .ok (.invokevirtual 56, 3) := by decide +kernel
theorem dX0_sortInCrossings_199 : decode cX0_sortInCrossings 199 = .ok (.iinc 5 1, 3) := by decide +kernel
theorem dX0_sortInCrossings_202 : decode cX0_sortInCrossings 202 = .ok (.goto (-133), 3) := by decide +kernel
theorem dX0_sortInCrossings_205 : decode cX0_sortInCrossings 205 = .ok (.iinc 3 1, 3) := by decide +kernel
theorem dX0_sortInCrossings_208 : decode cX0_sortInCrossings 208 = .ok (.goto (-206), 3) := by decide +kernel
theorem dX0_sortInCrossings_211 : decode cX0_sortInCrossings 211 = .ok (.iconst 1, 1) := by decide +kernel
theorem dX0_sortInCrossings_212 : decode cX0_sortInCrossings 212 = .ok (.ireturn, 1) := by decide +kernel
set_option maxHeartbeats 4000000 in
set_option maxRecDepth 100000 in
theorem tX0_sortInCrossings (l : Launch) (G : Gg) (b0 : Nat) {K : Kk} {R : Rr} {M : Mm} {r : Nat} {a0 : Nat} {a1 : Nat} {res : Int32} {M' : Mm} (hm : mX0_sortInCrossings K R M r a0 a1 = some (res, M')) : CT l G b0 yX0_sortInCrossings cX0_sortInCrossings 7 (some .boolean) (rmz 4 78) [.ref r, .ref a0, .ref a1] K R M (some (.int res)) K R M' := by
  refine ct_of (by decide +kernel) (Nat.le_of_ble_eq_true rfl) (fun w hq => ?_)
  have hw := hq.b
  change w 0 0 0 [(0, .ref r), (1, .ref a0), (2, .ref a1)] [] K R M
  replace hm := h_start hm
  unfold mX0_sortInCrossings at hm
  obtain ⟨h1, m43⟩ := h_ck hm
  clear hm
  obtain ⟨h2, m44⟩ := h_ck m43
  clear m43
  obtain ⟨h3, m45⟩ := h_ck m44
  clear m44
  refine r_iconst (v := 0) hw dX0_sortInCrossings_0 rfl ?_
  obtain ⟨i4, ei4, m46⟩ := h_nm m45
  clear m45
  refine r_topI (w := w) ei4 ?_
  refine r_istore_n hw dX0_sortInCrossings_1 rfl (by decide) rfl ?_
  refine r_sub hw [1, 2, 3, 0] rfl ?_
  obtain ⟨v2, n02, hn2, hv2⟩ := h_lp m46
  clear m46
  have L2 : ∀ n : Nat, ∀ (i5 : Int32) (M6 : Mm), it (mX0_sortInCrossings_L2 K R r a0 a1) n (i5, M6) = some v2 → w 0 0 2 [(0, .ref r), (1, .ref a0), (2, .ref a1), (3, .int i5)] [] K R M6 := by
    intro n2
    induction n2 with
    | zero => intro i5 M6 hz; exact absurd hz h_it0
    | succ n2 ih2 =>
      intro i5 M6 m47
      replace m47 : (mX0_sortInCrossings_B2 K R r a0 a1 i5 M6).bind (Sum.elim (it (mX0_sortInCrossings_L2 K R r a0 a1) n2) some) = some v2 := m47
      unfold mX0_sortInCrossings_B2 at m47
      refine r_iload_n hw dX0_sortInCrossings_2 3 rfl ?_
      refine r_aload_n hw dX0_sortInCrossings_3 1 rfl ?_
      refine r_getI hw fO_X0_30 h2 dX0_sortInCrossings_4 ?_
      refine r_icmp_ge (tgt := 211) hw dX0_sortInCrossings_7 (by decide) (fun c7 => ?_) (fun c7 => ?_)
      · have m48 := h_if_f c7 m47
        clear m47
        have m49 := h_ex m48 hv2
        clear m48
        refine r_iconst (v := 1) hw dX0_sortInCrossings_211 rfl ?_
        cases h_ret m49
        exact r_zreturn hq isB_1 rfl rfl dX0_sortInCrossings_212
      · have m50 := h_if_t c7 m47
        clear m47
        refine r_aload_n hw dX0_sortInCrossings_10 1 rfl ?_
        refine r_iload_n hw dX0_sortInCrossings_11 3 rfl ?_
        refine r_iconst (v := 1) hw dX0_sortInCrossings_12 rfl ?_
        refine r_iadd hw dX0_sortInCrossings_13 ?_
        obtain ⟨i8, g8, m51⟩ := h_bd m50
        clear m50
        refine r_callV1 hw (tX5_wrap l G b0 g8) lB_X5_wrap lI_X5_wrap mL_X0_60 (c := 5) rfl h2 rfl (Nat.le_of_ble_eq_true rfl) (Nat.le_of_ble_eq_true rfl) rfl (Nat.le_of_ble_eq_true rfl) dX0_sortInCrossings_14 ?_
        refine r_istore hw dX0_sortInCrossings_17 (by decide) rfl ?_
        refine r_aload_n hw dX0_sortInCrossings_19 1 rfl ?_
        obtain ⟨q9, bq9, m52⟩ := h_bd m51
        clear m51
        refine r_getR hw fO_X0_26 h1 bq9 dX0_sortInCrossings_20 ?_
        refine r_aload_n hw dX0_sortInCrossings_23 2 rfl ?_
        obtain ⟨q10, bq10, m53⟩ := h_bd m52
        clear m52
        refine r_getR hw fO_X0_45 h2 bq10 dX0_sortInCrossings_24 ?_
        refine r_iload_n hw dX0_sortInCrossings_27 4 rfl ?_
        obtain ⟨h11, m54⟩ := h_ck m53
        clear m53
        refine r_iaload hw h11 dX0_sortInCrossings_28 ?_
        refine r_aload_n hw dX0_sortInCrossings_29 2 rfl ?_
        obtain ⟨q12, bq12, m55⟩ := h_bd m54
        clear m54
        refine r_getR hw fO_X0_49 h2 bq12 dX0_sortInCrossings_30 ?_
        refine r_iload_n hw dX0_sortInCrossings_33 4 rfl ?_
        obtain ⟨h13, m56⟩ := h_ck m55
        clear m55
        refine r_iaload hw h13 dX0_sortInCrossings_34 ?_
        refine r_aload_n hw dX0_sortInCrossings_35 2 rfl ?_
        refine r_getR hw fO_X0_45 h2 bq10 dX0_sortInCrossings_36 ?_
        refine r_iload hw dX0_sortInCrossings_39 0 rfl ?_
        obtain ⟨h14, m57⟩ := h_ck m56
        clear m56
        refine r_iaload hw h14 dX0_sortInCrossings_41 ?_
        refine r_aload_n hw dX0_sortInCrossings_42 2 rfl ?_
        refine r_getR hw fO_X0_45 h2 bq10 dX0_sortInCrossings_43 ?_
        refine r_iload_n hw dX0_sortInCrossings_46 4 rfl ?_
        refine r_iaload hw h11 dX0_sortInCrossings_47 ?_
        refine r_isub hw dX0_sortInCrossings_48 ?_
        refine r_aload_n hw dX0_sortInCrossings_49 2 rfl ?_
        refine r_getR hw fO_X0_49 h2 bq12 dX0_sortInCrossings_50 ?_
        refine r_iload hw dX0_sortInCrossings_53 0 rfl ?_
        obtain ⟨h15, m58⟩ := h_ck m57
        clear m57
        refine r_iaload hw h15 dX0_sortInCrossings_55 ?_
        refine r_aload_n hw dX0_sortInCrossings_56 2 rfl ?_
        refine r_getR hw fO_X0_49 h2 bq12 dX0_sortInCrossings_57 ?_
        refine r_iload_n hw dX0_sortInCrossings_60 4 rfl ?_
        refine r_iaload hw h13 dX0_sortInCrossings_61 ?_
        refine r_isub hw dX0_sortInCrossings_62 ?_
        obtain ⟨h17, m59⟩ := h_ck m58
        clear m58
        obtain ⟨M16, g16, m60⟩ := h_bd m59
        clear m59
        refine r_callV0 hw (tX2_set l G b0 g16) lB_X2_set lI_X2_set mL_X0_64 (c := 2) rfl h17 rfl (Nat.le_of_ble_eq_true rfl) (Nat.le_of_ble_eq_true rfl) rfl (Nat.le_of_ble_eq_true rfl) dX0_sortInCrossings_63 ?_
        refine r_iconst (v := 0) hw dX0_sortInCrossings_66 rfl ?_
        obtain ⟨i18, ei18, m61⟩ := h_nm m60
        clear m60
        refine r_topI (w := w) ei18 ?_
        refine r_istore hw dX0_sortInCrossings_67 (by decide) rfl ?_
        refine r_sub hw [2, 3, 4, 5, 1, 0] rfl ?_
        obtain ⟨v69, n069, hn69, hv69⟩ := h_lp m61
        clear m61
        have L69 : ∀ n : Nat, ∀ (i19 : Int32) (M20 : Mm), it (mX0_sortInCrossings_L69 K R r a0 a1 i5 i8) n (i19, M20) = some v69 → w 0 0 69 [(0, .ref r), (1, .ref a0), (2, .ref a1), (3, .int i5), (4, .int i8), (5, .int i19)] [] K R M20 := by
          intro n69
          induction n69 with
          | zero => intro i19 M20 hz; exact absurd hz h_it0
          | succ n69 ih69 =>
            intro i19 M20 m62
            replace m62 : (mX0_sortInCrossings_B69 K R r a0 a1 i5 i8 i19 M20).bind (Sum.elim (it (mX0_sortInCrossings_L69 K R r a0 a1 i5 i8) n69) some) = some v69 := m62
            unfold mX0_sortInCrossings_B69 at m62
            have J199 : ∀ (M22 : Mm) (i21 : Int32), (mX0_sortInCrossings_J199 K R M22 r a0 a1 i5 i8 i21).bind (Sum.elim (it (mX0_sortInCrossings_L69 K R r a0 a1 i5 i8) n69) some) = some v69 → w 0 0 199 [(0, .ref r), (1, .ref a0), (2, .ref a1), (3, .int i5), (4, .int i8), (5, .int i21)] [] K R M22 := by
              intro M22 i21 m63
              unfold mX0_sortInCrossings_J199 at m63
              obtain ⟨i23, ei23, m64⟩ := h_nm m63
              clear m63
              refine r_iinc (j := 5) (v := i23) hw dX0_sortInCrossings_199 rfl (by rw [ei23]; rfl) (by decide) rfl ?_
              refine r_goto (tgt := 69) hw dX0_sortInCrossings_202 (by decide) ?_
              refine r_sub hw [1, 2, 3, 4, 5, 0] rfl ?_
              exact ih69 _ _ m64
            refine r_iload hw dX0_sortInCrossings_69 5 rfl ?_
            refine r_aload_n hw dX0_sortInCrossings_71 2 rfl ?_
            refine r_getI hw fO_X0_30 h3 dX0_sortInCrossings_72 ?_
            refine r_icmp_ge (tgt := 205) hw dX0_sortInCrossings_75 (by decide) (fun c24 => ?_) (fun c24 => ?_)
            · have m65 := h_if_f c24 m62
              clear m62
              have m66 := h_ex m65 hv69
              clear m65
              obtain ⟨i25, ei25, m67⟩ := h_nm m66
              clear m66
              refine r_iinc (j := 3) (v := i25) hw dX0_sortInCrossings_205 rfl (by rw [ei25]; rfl) (by decide) rfl ?_
              refine r_goto (tgt := 2) hw dX0_sortInCrossings_208 (by decide) ?_
              refine r_sub hw [1, 2, 3, 0] rfl ?_
              exact ih2 _ _ m67
            · have m68 := h_if_t c24 m62
              clear m62
              refine r_aload_n hw dX0_sortInCrossings_78 2 rfl ?_
              refine r_iload hw dX0_sortInCrossings_79 5 rfl ?_
              refine r_iconst (v := 1) hw dX0_sortInCrossings_81 rfl ?_
              refine r_iadd hw dX0_sortInCrossings_82 ?_
              obtain ⟨i26, g26, m69⟩ := h_bd m68
              clear m68
              refine r_callV1 hw (tX5_wrap l G b0 g26) lB_X5_wrap lI_X5_wrap mL_X0_60 (c := 5) rfl h3 rfl (Nat.le_of_ble_eq_true rfl) (Nat.le_of_ble_eq_true rfl) rfl (Nat.le_of_ble_eq_true rfl) dX0_sortInCrossings_83 ?_
              refine r_istore hw dX0_sortInCrossings_86 (by decide) rfl ?_
              refine r_aload_n hw dX0_sortInCrossings_88 1 rfl ?_
              obtain ⟨q27, bq27, m70⟩ := h_bd m69
              clear m69
              refine r_getR hw fO_X0_26 h1 bq27 dX0_sortInCrossings_89 ?_
              refine r_aload_n hw dX0_sortInCrossings_92 3 rfl ?_
              obtain ⟨q28, bq28, m71⟩ := h_bd m70
              clear m70
              refine r_getR hw fO_X0_45 h3 bq28 dX0_sortInCrossings_93 ?_
              refine r_iload hw dX0_sortInCrossings_96 6 rfl ?_
              obtain ⟨h29, m72⟩ := h_ck m71
              clear m71
              refine r_iaload hw h29 dX0_sortInCrossings_98 ?_
              refine r_aload_n hw dX0_sortInCrossings_99 3 rfl ?_
              obtain ⟨q30, bq30, m73⟩ := h_bd m72
              clear m72
              refine r_getR hw fO_X0_49 h3 bq30 dX0_sortInCrossings_100 ?_
              refine r_iload hw dX0_sortInCrossings_103 6 rfl ?_
              obtain ⟨h31, m74⟩ := h_ck m73
              clear m73
              refine r_iaload hw h31 dX0_sortInCrossings_105 ?_
              refine r_aload_n hw dX0_sortInCrossings_106 3 rfl ?_
              refine r_getR hw fO_X0_45 h3 bq28 dX0_sortInCrossings_107 ?_
              refine r_iload hw dX0_sortInCrossings_110 0 rfl ?_
              obtain ⟨h32, m75⟩ := h_ck m74
              clear m74
              refine r_iaload hw h32 dX0_sortInCrossings_112 ?_
              refine r_aload_n hw dX0_sortInCrossings_113 3 rfl ?_
              refine r_getR hw fO_X0_49 h3 bq30 dX0_sortInCrossings_114 ?_
              refine r_iload hw dX0_sortInCrossings_117 0 rfl ?_
              obtain ⟨h33, m76⟩ := h_ck m75
              clear m75
              refine r_iaload hw h33 dX0_sortInCrossings_119 ?_
              obtain ⟨h35, m77⟩ := h_ck m76
              clear m76
              obtain ⟨i34, g34, m78⟩ := h_bd m77
              clear m77
              refine r_callV1 hw (tX2_isBetween l G b0 g34) lB_X2_isBetween lI_X2_isBetween mL_X0_68 (c := 2) rfl h35 rfl (Nat.le_of_ble_eq_true rfl) (Nat.le_of_ble_eq_true rfl) rfl (Nat.le_of_ble_eq_true rfl) dX0_sortInCrossings_120 ?_
              refine r_if_eq (tgt := 199) hw dX0_sortInCrossings_123 (by decide) (fun c36 => ?_) (fun c36 => ?_)
              · have m79 := h_if_t c36 m78
                clear m78
                refine r_sub hw [1, 2, 3, 4, 5, 6] rfl ?_
                exact J199 _ _ m79
              · have m80 := h_if_f c36 m78
                clear m78
                refine r_aload_n hw dX0_sortInCrossings_126 2 rfl ?_
                refine r_iload_n hw dX0_sortInCrossings_127 4 rfl ?_
                refine r_iload hw dX0_sortInCrossings_128 5 rfl ?_
                refine r_aload_n hw dX0_sortInCrossings_130 3 rfl ?_
                refine r_iload hw dX0_sortInCrossings_131 6 rfl ?_
                refine r_iload hw dX0_sortInCrossings_133 0 rfl ?_
                obtain ⟨i37, g37, m81⟩ := h_bd m80
                clear m80
                refine r_callS1 hw (tX0_isParted l G b0 g37) lB_X0_isParted sT_X0_isParted mL_X0_72 rfl rfl (Nat.le_of_ble_eq_true rfl) (Nat.le_of_ble_eq_true rfl) rfl (Nat.le_of_ble_eq_true rfl) dX0_sortInCrossings_135 ?_
                refine r_if_eq (tgt := 199) hw dX0_sortInCrossings_138 (by decide) (fun c38 => ?_) (fun c38 => ?_)
                · have m82 := h_if_t c38 m81
                  clear m81
                  refine r_sub hw [1, 2, 3, 4, 5, 6] rfl ?_
                  exact J199 _ _ m82
                · have m83 := h_if_f c38 m81
                  clear m81
                  refine r_aload_n hw dX0_sortInCrossings_141 1 rfl ?_
                  refine r_getR hw fO_X0_26 h1 bq27 dX0_sortInCrossings_142 ?_
                  refine r_aload_n hw dX0_sortInCrossings_145 3 rfl ?_
                  refine r_getR hw fO_X0_45 h3 bq28 dX0_sortInCrossings_146 ?_
                  refine r_iload hw dX0_sortInCrossings_149 6 rfl ?_
                  refine r_iaload hw h29 dX0_sortInCrossings_151 ?_
                  refine r_aload_n hw dX0_sortInCrossings_152 3 rfl ?_
                  refine r_getR hw fO_X0_49 h3 bq30 dX0_sortInCrossings_153 ?_
                  refine r_iload hw dX0_sortInCrossings_156 6 rfl ?_
                  refine r_iaload hw h31 dX0_sortInCrossings_158 ?_
                  refine r_aload_n hw dX0_sortInCrossings_159 3 rfl ?_
                  refine r_getR hw fO_X0_45 h3 bq28 dX0_sortInCrossings_160 ?_
                  refine r_iload hw dX0_sortInCrossings_163 0 rfl ?_
                  refine r_iaload hw h32 dX0_sortInCrossings_165 ?_
                  refine r_aload_n hw dX0_sortInCrossings_166 3 rfl ?_
                  refine r_getR hw fO_X0_49 h3 bq30 dX0_sortInCrossings_167 ?_
                  refine r_iload hw dX0_sortInCrossings_170 0 rfl ?_
                  refine r_iaload hw h33 dX0_sortInCrossings_172 ?_
                  obtain ⟨i39, M40, g40, m84⟩ := h_bd2 m83
                  clear m83
                  refine r_callV1 hw (tX2_meet l G b0 g40) lB_X2_meet lI_X2_meet mL_X0_76 (c := 2) rfl h35 rfl (Nat.le_of_ble_eq_true rfl) (Nat.le_of_ble_eq_true rfl) rfl (Nat.le_of_ble_eq_true rfl) dX0_sortInCrossings_173 ?_
                  refine r_if_ne (tgt := 181) hw dX0_sortInCrossings_176 (by decide) (fun c41 => ?_) (fun c41 => ?_)
                  · have m85 := h_if_f c41 m84
                    clear m84
                    refine r_aload_n hw dX0_sortInCrossings_181 1 rfl ?_
                    refine r_aload_n hw dX0_sortInCrossings_182 1 rfl ?_
                    refine r_getR hw fO_X0_26 h1 bq27 dX0_sortInCrossings_183 ?_
                    refine r_getI hw fO_X0_79 h35 dX0_sortInCrossings_186 ?_
                    refine r_aload_n hw dX0_sortInCrossings_189 1 rfl ?_
                    refine r_getR hw fO_X0_26 h1 bq27 dX0_sortInCrossings_190 ?_
                    refine r_getI hw fO_X0_82 h35 dX0_sortInCrossings_193 ?_
                    obtain ⟨M42, g42, m86⟩ := h_bd m85
                    clear m85
                    refine r_callV0 hw (tX0_sortIn l G b0 g42) lB_X0_sortIn lI_X0_sortIn mL_X0_56 (c := 0) rfl h1 rfl (Nat.le_of_ble_eq_true rfl) (Nat.le_of_ble_eq_true rfl) rfl (Nat.le_of_ble_eq_true rfl) dX0_sortInCrossings_196 ?_
                    refine r_sub hw [1, 2, 3, 4, 5, 6] rfl ?_
                    exact J199 _ _ m86
                  · have m87 := h_if_t c41 m84
                    clear m84
                    have m88 := h_ex m87 hv69
                    clear m87
                    have m89 := h_ex m88 hv2
                    clear m88
                    refine r_iconst (v := 0) hw dX0_sortInCrossings_179 rfl ?_
                    cases h_ret m89
                    exact r_zreturn hq isB_0 rfl rfl dX0_sortInCrossings_180
        exact L69 n069 _ _ hn69
  exact L2 n02 _ _ hn2
