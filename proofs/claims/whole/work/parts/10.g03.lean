theorem dX5_takeBackwards_0 : decode cX5_takeBackwards 0 = .ok (.aload_n 0, 1) := by decide +kernel
theorem dX5_takeBackwards_1 : decode cX5_takeBackwards 1 = .ok (.iconst 0, 1) := by decide +kernel
theorem dX5_takeBackwards_2 : decode cX5_takeBackwards 2 = .ok (.putfield 16, 3) := by decide +kernel
theorem dX5_takeBackwards_5 : decode cX5_takeBackwards 5 = .ok (.aload_n 1, 1) := by decide +kernel
theorem dX5_takeBackwards_6 : decode cX5_takeBackwards 6 = .ok (.getfield 16, 3) := by decide +kernel
theorem dX5_takeBackwards_9 : decode cX5_takeBackwards 9 = .ok (.iconst 1, 1) := by decide +kernel
theorem dX5_takeBackwards_10 : decode cX5_takeBackwards 10 = .ok (.isub, 1) := by decide +kernel
theorem dX5_takeBackwards_11 : decode cX5_takeBackwards 11 = .ok (.istore_n 2, 1) := by decide +kernel
theorem dX5_takeBackwards_12 : decode cX5_takeBackwards 12 = .ok (.iload_n 2, 1) := by decide +kernel
theorem dX5_takeBackwards_13 : decode cX5_takeBackwards 13 = .ok (.ifCond .lt 25, 3) := by decide +kernel
theorem dX5_takeBackwards_16 : decode cX5_takeBackwards 16 = .ok (.aload_n 0, 1) := by decide +kernel
theorem dX5_takeBackwards_17 : decode cX5_takeBackwards 17 = .ok (.aload_n 1, 1) := by decide +kernel
theorem dX5_takeBackwards_18 : decode cX5_takeBackwards 18 = .ok (.getfield 7, 3) := by decide +kernel
theorem dX5_takeBackwards_21 : decode cX5_takeBackwards 21 = .ok (.iload_n 2, 1) := by decide +kernel
theorem dX5_takeBackwards_22 : decode cX5_takeBackwards 22 = .ok (.iaload, 1) := by decide +kernel
theorem dX5_takeBackwards_23 : decode cX5_takeBackwards 23 = .ok (.aload_n 1, 1) := by decide +kernel
theorem dX5_takeBackwards_24 : decode cX5_takeBackwards 24 = .ok (.getfield 13, 3) := by decide +kernel
theorem dX5_takeBackwards_27 : decode cX5_takeBackwards 27 = .ok (.iload_n 2, 1) := by decide +kernel
theorem dX5_takeBackwards_28 : decode cX5_takeBackwards 28 = .ok (.iaload, 1) := by decide +kernel
theorem dX5_takeBackwards_29 : decode cX5_takeBackwards 29 = .ok (.invokevirtual 32, 3) := by decide +kernel
theorem dX5_takeBackwards_32 : decode cX5_takeBackwards 32 = .ok (.iinc 2 (-1), 3) := by decide +kernel
theorem dX5_takeBackwards_35 : decode cX5_takeBackwards 35 = .ok (.goto (-23), 3) := by decide +kernel
theorem dX5_takeBackwards_38 : decode cX5_takeBackwards 38 = .ok (.return_, 1) := by decide +kernel
set_option maxHeartbeats 4000000 in
set_option maxRecDepth 100000 in
theorem tX5_takeBackwards (l : Launch) (G : Gg) (b0 : Nat) {K : Kk} {R : Rr} {M : Mm} {r : Nat} {a0 : Nat} {M' : Mm} (hm : mX5_takeBackwards K R M r a0 = some (M')) : CT l G b0 yX5_takeBackwards cX5_takeBackwards 3 none (rmz 2 22) [.ref r, .ref a0] K R M none K R M' := by
  refine ct_of (by decide +kernel) (Nat.le_of_ble_eq_true rfl) (fun w hq => ?_)
  have hw := hq.b
  change w 0 0 0 [(0, .ref r), (1, .ref a0)] [] K R M
  replace hm := h_start hm
  unfold mX5_takeBackwards at hm
  obtain ⟨h1, m14⟩ := h_ck hm
  clear hm
  obtain ⟨h2, m15⟩ := h_ck m14
  clear m14
  refine r_aload_n hw dX5_takeBackwards_0 0 rfl ?_
  refine r_iconst (v := 0) hw dX5_takeBackwards_1 rfl ?_
  obtain ⟨M3, eM3, m16⟩ := h_nm m15
  clear m15
  refine r_putI hw fP_X5_16 h1 dX5_takeBackwards_2 (r_mem ?_ rfl eM3)
  refine r_aload_n hw dX5_takeBackwards_5 1 rfl ?_
  refine r_getI hw fO_X5_16 h2 dX5_takeBackwards_6 ?_
  refine r_iconst (v := 1) hw dX5_takeBackwards_9 rfl ?_
  refine r_isub hw dX5_takeBackwards_10 ?_
  obtain ⟨i4, ei4, m17⟩ := h_nm m16
  clear m16
  refine r_topI (w := w) ei4 ?_
  refine r_istore_n hw dX5_takeBackwards_11 rfl (by decide) rfl ?_
  refine r_sub hw [1, 2, 0] rfl ?_
  obtain ⟨v12, n012, hn12, hv12⟩ := h_lp m17
  clear m17
  have L12 : ∀ n : Nat, ∀ (i5 : Int32) (M6 : Mm), it (mX5_takeBackwards_L12 K R r a0) n (i5, M6) = some v12 → w 0 0 12 [(0, .ref r), (1, .ref a0), (2, .int i5)] [] K R M6 := by
    intro n12
    induction n12 with
    | zero => intro i5 M6 hz; exact absurd hz h_it0
    | succ n12 ih12 =>
      intro i5 M6 m18
      replace m18 : (mX5_takeBackwards_B12 K R r a0 i5 M6).bind (Sum.elim (it (mX5_takeBackwards_L12 K R r a0) n12) some) = some v12 := m18
      unfold mX5_takeBackwards_B12 at m18
      refine r_iload_n hw dX5_takeBackwards_12 2 rfl ?_
      refine r_if_lt (tgt := 38) hw dX5_takeBackwards_13 (by decide) (fun c7 => ?_) (fun c7 => ?_)
      · have m19 := h_if_t c7 m18
        clear m18
        have m20 := h_ex m19 hv12
        clear m19
        cases h_ret m20
        exact r_return hq rfl rfl dX5_takeBackwards_38
      · have m21 := h_if_f c7 m18
        clear m18
        refine r_aload_n hw dX5_takeBackwards_16 0 rfl ?_
        refine r_aload_n hw dX5_takeBackwards_17 1 rfl ?_
        obtain ⟨q8, bq8, m22⟩ := h_bd m21
        clear m21
        refine r_getR hw fO_X5_7 h2 bq8 dX5_takeBackwards_18 ?_
        refine r_iload_n hw dX5_takeBackwards_21 2 rfl ?_
        obtain ⟨h9, m23⟩ := h_ck m22
        clear m22
        refine r_iaload hw h9 dX5_takeBackwards_22 ?_
        refine r_aload_n hw dX5_takeBackwards_23 1 rfl ?_
        obtain ⟨q10, bq10, m24⟩ := h_bd m23
        clear m23
        refine r_getR hw fO_X5_13 h2 bq10 dX5_takeBackwards_24 ?_
        refine r_iload_n hw dX5_takeBackwards_27 2 rfl ?_
        obtain ⟨h11, m25⟩ := h_ck m24
        clear m24
        refine r_iaload hw h11 dX5_takeBackwards_28 ?_
        obtain ⟨M12, g12, m26⟩ := h_bd m25
        clear m25
        refine r_callV0 hw (tX5_add l G b0 g12) lB_X5_add lI_X5_add mL_X5_32 (c := 5) rfl h1 rfl (Nat.le_of_ble_eq_true rfl) (Nat.le_of_ble_eq_true rfl) rfl (Nat.le_of_ble_eq_true rfl) dX5_takeBackwards_29 ?_
        obtain ⟨i13, ei13, m27⟩ := h_nm m26
        clear m26
        refine r_iinc (j := 2) (v := i13) hw dX5_takeBackwards_32 rfl (by rw [ei13]; rfl) (by decide) rfl ?_
        refine r_goto (tgt := 12) hw dX5_takeBackwards_35 (by decide) ?_
        refine r_sub hw [1, 2, 0] rfl ?_
        exact ih12 _ _ m27
  exact L12 n012 _ _ hn12
theorem dX5_isSame_0 : decode cX5_isSame 0 = .ok (.aload_n 0, 1) := by decide +kernel
theorem dX5_isSame_1 : decode cX5_isSame 1 = .ok (.getfield 7, 3) := by decide +kernel
theorem dX5_isSame_4 : decode cX5_isSame 4 = .ok (.iload_n 1, 1) := by decide +kernel
theorem dX5_isSame_5 : decode cX5_isSame 5 = .ok (.iaload, 1) := by decide +kernel
theorem dX5_isSame_6 : decode cX5_isSame 6 = .ok (.aload_n 2, 1) := by decide +kernel
theorem dX5_isSame_7 : decode cX5_isSame 7 = .ok (.getfield 7, 3) := by decide +kernel
theorem dX5_isSame_10 : decode cX5_isSame 10 = .ok (.iload_n 3, 1) := by decide +kernel
theorem dX5_isSame_11 : decode cX5_isSame 11 = .ok (.iaload, 1) := by decide +kernel
theorem dX5_isSame_12 : decode cX5_isSame 12 = .ok (.if_icmp .ne 22, 3) := by decide +kernel
theorem dX5_isSame_15 : decode cX5_isSame 15 = .ok (.aload_n 0, 1) := by decide +kernel
theorem dX5_isSame_16 : decode cX5_isSame 16 = .ok (.getfield 13, 3) := by decide +kernel
theorem dX5_isSame_19 : decode cX5_isSame 19 = .ok (.iload_n 1, 1) := by decide +kernel
theorem dX5_isSame_20 : decode cX5_isSame 20 = .ok (.iaload, 1) := by decide +kernel
theorem dX5_isSame_21 : decode cX5_isSame 21 = .ok (.aload_n 2, 1) := by decide +kernel
theorem dX5_isSame_22 : decode cX5_isSame 22 = .ok (.getfield 13, 3) := by decide +kernel
theorem dX5_isSame_25 : decode cX5_isSame 25 = .ok (.iload_n 3, 1) := by decide +kernel
theorem dX5_isSame_26 : decode cX5_isSame 26 = .ok (.iaload, 1) := by decide +kernel
theorem dX5_isSame_27 : decode cX5_isSame 27 = .ok (.if_icmp .ne 7, 3) := by decide +kernel
theorem dX5_isSame_30 : decode cX5_isSame 30 = .ok (.iconst 1, 1) := by decide +kernel
theorem dX5_isSame_31 : decode cX5_isSame 31 = .ok (.goto 4, 3) := by decide +kernel
theorem dX5_isSame_34 : decode cX5_isSame 34 = .ok (.iconst 0, 1) := by decide +kernel
theorem dX5_isSame_35 : decode cX5_isSame 35 = .ok (.ireturn, 1) := by decide +kernel
set_option maxHeartbeats 4000000 in
set_option maxRecDepth 100000 in
theorem tX5_isSame (l : Launch) (G : Gg) (b0 : Nat) {K : Kk} {R : Rr} {M : Mm} {r : Nat} {a0 : Int32} {a1 : Nat} {a2 : Int32} {res : Int32} (hm : mX5_isSame K R M r a0 a1 a2 = some (res)) : CT l G b0 yX5_isSame cX5_isSame 4 (some .boolean) (rmz 1 0) [.ref r, .int a0, .ref a1, .int a2] K R M (some (.int res)) K R M := by
  refine ct_of (by decide +kernel) (Nat.le_of_ble_eq_true rfl) (fun w hq => ?_)
  have hw := hq.b
  change w 0 0 0 [(0, .ref r), (1, .int a0), (2, .ref a1), (3, .int a2)] [] K R M
  replace hm := h_start hm
  unfold mX5_isSame at hm
  obtain ⟨h1, m13⟩ := h_ck hm
  clear hm
  obtain ⟨h2, m14⟩ := h_ck m13
  clear m13
  refine r_aload_n hw dX5_isSame_0 0 rfl ?_
  obtain ⟨q3, bq3, m15⟩ := h_bd m14
  clear m14
  refine r_getR hw fO_X5_7 h1 bq3 dX5_isSame_1 ?_
  refine r_iload_n hw dX5_isSame_4 1 rfl ?_
  obtain ⟨h4, m16⟩ := h_ck m15
  clear m15
  refine r_iaload hw h4 dX5_isSame_5 ?_
  refine r_aload_n hw dX5_isSame_6 2 rfl ?_
  obtain ⟨q5, bq5, m17⟩ := h_bd m16
  clear m16
  refine r_getR hw fO_X5_7 h2 bq5 dX5_isSame_7 ?_
  refine r_iload_n hw dX5_isSame_10 3 rfl ?_
  obtain ⟨h6, m18⟩ := h_ck m17
  clear m17
  refine r_iaload hw h6 dX5_isSame_11 ?_
  refine r_icmp_ne (tgt := 34) hw dX5_isSame_12 (by decide) (fun c7 => ?_) (fun c7 => ?_)
  · have m19 := h_if_f c7 m18
    clear m18
    refine r_iconst (v := 0) hw dX5_isSame_34 rfl ?_
    cases h_ret m19
    exact r_zreturn hq isB_0 rfl rfl dX5_isSame_35
  · have m20 := h_if_t c7 m18
    clear m18
    refine r_aload_n hw dX5_isSame_15 0 rfl ?_
    obtain ⟨q8, bq8, m21⟩ := h_bd m20
    clear m20
    refine r_getR hw fO_X5_13 h1 bq8 dX5_isSame_16 ?_
    refine r_iload_n hw dX5_isSame_19 1 rfl ?_
    obtain ⟨h9, m22⟩ := h_ck m21
    clear m21
    refine r_iaload hw h9 dX5_isSame_20 ?_
    refine r_aload_n hw dX5_isSame_21 2 rfl ?_
    obtain ⟨q10, bq10, m23⟩ := h_bd m22
    clear m22
    refine r_getR hw fO_X5_13 h2 bq10 dX5_isSame_22 ?_
    refine r_iload_n hw dX5_isSame_25 3 rfl ?_
    obtain ⟨h11, m24⟩ := h_ck m23
    clear m23
    refine r_iaload hw h11 dX5_isSame_26 ?_
    refine r_icmp_ne (tgt := 34) hw dX5_isSame_27 (by decide) (fun c12 => ?_) (fun c12 => ?_)
    · have m25 := h_if_f c12 m24
      clear m24
      refine r_iconst (v := 0) hw dX5_isSame_34 rfl ?_
      cases h_ret m25
      exact r_zreturn hq isB_0 rfl rfl dX5_isSame_35
    · have m26 := h_if_t c12 m24
      clear m24
      refine r_iconst (v := 1) hw dX5_isSame_30 rfl ?_
      refine r_goto (tgt := 35) hw dX5_isSame_31 (by decide) ?_
      cases h_ret m26
      exact r_zreturn hq isB_1 rfl rfl dX5_isSame_35
theorem dX5_addFrom_0 : decode cX5_addFrom 0 = .ok (.iconst 0, 1) := by decide +kernel
theorem dX5_addFrom_1 : decode cX5_addFrom 1 = .ok (.istore 4, 2) := by decide +kernel
theorem dX5_addFrom_3 : decode cX5_addFrom 3 = .ok (.iload 4, 2) := by decide +kernel
theorem dX5_addFrom_5 : decode cX5_addFrom 5 = .ok (.iload_n 3, 1) := by decide +kernel
theorem dX5_addFrom_6 : decode cX5_addFrom 6 = .ok (.if_icmp .ge 37, 3) := by decide +kernel
theorem dX5_addFrom_9 : decode cX5_addFrom 9 = .ok (.aload_n 1, 1) := by decide +kernel
theorem dX5_addFrom_10 : decode cX5_addFrom 10 = .ok (.iload_n 2, 1) := by decide +kernel
theorem dX5_addFrom_11 : decode cX5_addFrom 11 = .ok (.iload 4, 2) := by decide +kernel
theorem dX5_addFrom_13 : decode cX5_addFrom 13 = .ok (.iadd, 1) := by decide +kernel
theorem dX5_addFrom_14 : decode cX5_addFrom 14 = .ok (.invokevirtual 40, 3) := by decide +kernel
theorem dX5_addFrom_17 : decode cX5_addFrom 17 = .ok (.istore 5, 2) := by decide +kernel
theorem dX5_addFrom_19 : decode cX5_addFrom 19 = .ok (.aload_n 0, 1) := by decide +kernel
theorem dX5_addFrom_20 : decode cX5_addFrom 20 = .ok (.aload_n 1, 1) := by decide +kernel
theorem dX5_addFrom_21 : decode cX5_addFrom 21 = .ok (.getfield 7, 3) := by decide +kernel
theorem dX5_addFrom_24 : decode cX5_addFrom 24 = .ok (.iload 5, 2) := by decide +kernel
theorem dX5_addFrom_26 : decode cX5_addFrom 26 = .ok (.iaload, 1) := by decide +kernel
theorem dX5_addFrom_27 : decode cX5_addFrom 27 = .ok (.aload_n 1, 1) := by decide +kernel
theorem dX5_addFrom_28 : decode cX5_addFrom 28 = .ok (.getfield 13, 3) := by decide +kernel
theorem dX5_addFrom_31 : decode cX5_addFrom 31 = .ok (.iload 5, 2) := by decide +kernel
theorem dX5_addFrom_33 : decode cX5_addFrom 33 = .ok (.iaload, 1) := by decide +kernel
theorem dX5_addFrom_34 : decode cX5_addFrom 34 = .ok (.invokevirtual 32, 3) := by decide +kernel
theorem dX5_addFrom_37 : decode cX5_addFrom 37 = .ok (.iinc 4 1, 3) := by decide +kernel
theorem dX5_addFrom_40 : decode cX5_addFrom 40 = .ok (.goto (-37), 3) := by decide +kernel
theorem dX5_addFrom_43 : decode cX5_addFrom 43 = .ok (.return_, 1) := by decide +kernel
set_option maxHeartbeats 4000000 in
set_option maxRecDepth 100000 in
theorem tX5_addFrom (l : Launch) (G : Gg) (b0 : Nat) {K : Kk} {R : Rr} {M : Mm} {r : Nat} {a0 : Nat} {a1 : Int32} {a2 : Int32} {M' : Mm} (hm : mX5_addFrom K R M r a0 a1 a2 = some (M')) : CT l G b0 yX5_addFrom cX5_addFrom 6 none (rmz 2 22) [.ref r, .ref a0, .int a1, .int a2] K R M none K R M' := by
  refine ct_of (by decide +kernel) (Nat.le_of_ble_eq_true rfl) (fun w hq => ?_)
  have hw := hq.b
  change w 0 0 0 [(0, .ref r), (1, .ref a0), (2, .int a1), (3, .int a2)] [] K R M
  replace hm := h_start hm
  unfold mX5_addFrom at hm
  obtain ⟨h1, m14⟩ := h_ck hm
  clear hm
  obtain ⟨h2, m15⟩ := h_ck m14
  clear m14
  refine r_iconst (v := 0) hw dX5_addFrom_0 rfl ?_
  obtain ⟨i3, ei3, m16⟩ := h_nm m15
  clear m15
  refine r_topI (w := w) ei3 ?_
  refine r_istore hw dX5_addFrom_1 (by decide) rfl ?_
  refine r_sub hw [1, 2, 3, 4, 0] rfl ?_
  obtain ⟨v3, n03, hn3, hv3⟩ := h_lp m16
  clear m16
  have L3 : ∀ n : Nat, ∀ (i4 : Int32) (M5 : Mm), it (mX5_addFrom_L3 K R r a0 a1 a2) n (i4, M5) = some v3 → w 0 0 3 [(0, .ref r), (1, .ref a0), (2, .int a1), (3, .int a2), (4, .int i4)] [] K R M5 := by
    intro n3
    induction n3 with
    | zero => intro i4 M5 hz; exact absurd hz h_it0
    | succ n3 ih3 =>
      intro i4 M5 m17
      replace m17 : (mX5_addFrom_B3 K R r a0 a1 a2 i4 M5).bind (Sum.elim (it (mX5_addFrom_L3 K R r a0 a1 a2) n3) some) = some v3 := m17
      unfold mX5_addFrom_B3 at m17
      refine r_iload hw dX5_addFrom_3 4 rfl ?_
      refine r_iload_n hw dX5_addFrom_5 3 rfl ?_
      refine r_icmp_ge (tgt := 43) hw dX5_addFrom_6 (by decide) (fun c6 => ?_) (fun c6 => ?_)
      · have m18 := h_if_f c6 m17
        clear m17
        have m19 := h_ex m18 hv3
        clear m18
        cases h_ret m19
        exact r_return hq rfl rfl dX5_addFrom_43
      · have m20 := h_if_t c6 m17
        clear m17
        refine r_aload_n hw dX5_addFrom_9 1 rfl ?_
        refine r_iload_n hw dX5_addFrom_10 2 rfl ?_
        refine r_iload hw dX5_addFrom_11 4 rfl ?_
        refine r_iadd hw dX5_addFrom_13 ?_
        obtain ⟨i7, g7, m21⟩ := h_bd m20
        clear m20
        refine r_callV1 hw (tX5_wrap l G b0 g7) lB_X5_wrap lI_X5_wrap mL_X5_40 (c := 5) rfl h2 rfl (Nat.le_of_ble_eq_true rfl) (Nat.le_of_ble_eq_true rfl) rfl (Nat.le_of_ble_eq_true rfl) dX5_addFrom_14 ?_
        refine r_istore hw dX5_addFrom_17 (by decide) rfl ?_
        refine r_aload_n hw dX5_addFrom_19 1 rfl ?_
        refine r_aload_n hw dX5_addFrom_20 2 rfl ?_
        obtain ⟨q8, bq8, m22⟩ := h_bd m21
        clear m21
        refine r_getR hw fO_X5_7 h2 bq8 dX5_addFrom_21 ?_
        refine r_iload hw dX5_addFrom_24 0 rfl ?_
        obtain ⟨h9, m23⟩ := h_ck m22
        clear m22
        refine r_iaload hw h9 dX5_addFrom_26 ?_
        refine r_aload_n hw dX5_addFrom_27 2 rfl ?_
        obtain ⟨q10, bq10, m24⟩ := h_bd m23
        clear m23
        refine r_getR hw fO_X5_13 h2 bq10 dX5_addFrom_28 ?_
        refine r_iload hw dX5_addFrom_31 0 rfl ?_
        obtain ⟨h11, m25⟩ := h_ck m24
        clear m24
        refine r_iaload hw h11 dX5_addFrom_33 ?_
        obtain ⟨M12, g12, m26⟩ := h_bd m25
        clear m25
        refine r_callV0 hw (tX5_add l G b0 g12) lB_X5_add lI_X5_add mL_X5_32 (c := 5) rfl h1 rfl (Nat.le_of_ble_eq_true rfl) (Nat.le_of_ble_eq_true rfl) rfl (Nat.le_of_ble_eq_true rfl) dX5_addFrom_34 ?_
        obtain ⟨i13, ei13, m27⟩ := h_nm m26
        clear m26
        refine r_iinc (j := 5) (v := i13) hw dX5_addFrom_37 rfl (by rw [ei13]; rfl) (by decide) rfl ?_
        refine r_goto (tgt := 3) hw dX5_addFrom_40 (by decide) ?_
        refine r_sub hw [2, 3, 4, 5, 0] rfl ?_
        exact ih3 _ _ m27
  exact L3 n03 _ _ hn3
theorem dX5_takeJoined_0 : decode cX5_takeJoined 0 = .ok (.iconst 0, 1) := by decide +kernel
theorem dX5_takeJoined_1 : decode cX5_takeJoined 1 = .ok (.istore_n 3, 1) := by decide +kernel
theorem dX5_takeJoined_2 : decode cX5_takeJoined 2 = .ok (.iload_n 3, 1) := by decide +kernel
theorem dX5_takeJoined_3 : decode cX5_takeJoined 3 = .ok (.aload_n 1, 1) := by decide +kernel
theorem dX5_takeJoined_4 : decode cX5_takeJoined 4 = .ok (.getfield 16, 3) := by decide +kernel
theorem dX5_takeJoined_7 : decode cX5_takeJoined 7 = .ok (.if_icmp .ge 95, 3) := by decide +kernel
theorem dX5_takeJoined_10 : decode cX5_takeJoined 10 = .ok (.iconst 0, 1) := by decide +kernel
theorem dX5_takeJoined_11 : decode cX5_takeJoined 11 = .ok (.istore 4, 2) := by decide +kernel
theorem dX5_takeJoined_13 : decode cX5_takeJoined 13 = .ok (.iload 4, 2) := by decide +kernel
theorem dX5_takeJoined_15 : decode cX5_takeJoined 15 = .ok (.aload_n 2, 1) := by decide +kernel
theorem dX5_takeJoined_16 : decode cX5_takeJoined 16 = .ok (.getfield 16, 3) := by decide +kernel
theorem dX5_takeJoined_19 : decode cX5_takeJoined 19 = .ok (.if_icmp .ge 77, 3) := by decide +kernel
theorem dX5_takeJoined_22 : decode cX5_takeJoined 22 = .ok (.aload_n 1, 1) := by decide +kernel
theorem dX5_takeJoined_23 : decode cX5_takeJoined 23 = .ok (.iload_n 3, 1) := by decide +kernel
theorem dX5_takeJoined_24 : decode cX5_takeJoined 24 = .ok (.aload_n 2, 1) := by decide +kernel
theorem dX5_takeJoined_25 : decode cX5_takeJoined 25 = .ok (.aload_n 2, 1) := by decide +kernel
theorem dX5_takeJoined_26 : decode cX5_takeJoined 26 = .ok (.iload 4, 2) := by decide +kernel
theorem dX5_takeJoined_28 : decode cX5_takeJoined 28 = .ok (.iconst 1, 1) := by decide +kernel
theorem dX5_takeJoined_29 : decode cX5_takeJoined 29 = .ok (.iadd, 1) := by decide +kernel
theorem dX5_takeJoined_30 : decode cX5_takeJoined 30 = .ok (.invokevirtual 40, 3) := by decide +kernel
theorem dX5_takeJoined_33 : decode cX5_takeJoined 33 = .ok (.invokevirtual 43, 3) := by decide +kernel
theorem dX5_takeJoined_36 : decode cX5_takeJoined 36 = .ok (.ifCond .eq 54, 3) := by decide +kernel
theorem dX5_takeJoined_39 : decode cX5_takeJoined 39 = .ok (.aload_n 1, 1) := by decide +kernel
theorem dX5_takeJoined_40 : decode cX5_takeJoined 40 = .ok (.aload_n 1, 1) := by decide +kernel
theorem dX5_takeJoined_41 : decode cX5_takeJoined 41 = .ok (.iload_n 3, 1) := by decide +kernel
theorem dX5_takeJoined_42 : decode cX5_takeJoined 42 = .ok (.iconst 1, 1) := by decide +kernel
theorem dX5_takeJoined_43 : decode cX5_takeJoined 43 = .ok (.iadd, 1) := by decide +kernel
theorem dX5_takeJoined_44 : decode cX5_takeJoined 44 = .ok (.invokevirtual 40, 3) := by decide +kernel
theorem dX5_takeJoined_47 : decode cX5_takeJoined 47 = .ok (.aload_n 2, 1) := by decide +kernel
theorem dX5_takeJoined_48 : decode cX5_takeJoined 48 = .ok (.iload 4, 2) := by decide +kernel
theorem dX5_takeJoined_50 : decode cX5_takeJoined 50 = .ok (.invokevirtual 43, 3) := by decide +kernel
theorem dX5_takeJoined_53 : decode cX5_takeJoined 53 = .ok (.ifCond .eq 37, 3) := by decide +kernel
theorem dX5_takeJoined_56 : decode cX5_takeJoined 56 = .ok (.aload_n 0, 1) := by decide +kernel
theorem dX5_takeJoined_57 : decode cX5_takeJoined 57 = .ok (.iconst 0, 1) := by decide +kernel
theorem dX5_takeJoined_58 : decode cX5_takeJoined 58 = .ok (.putfield 16, 3) := by decide +kernel
theorem dX5_takeJoined_61 : decode cX5_takeJoined 61 = .ok (.aload_n 0, 1) := by decide +kernel
theorem dX5_takeJoined_62 : decode cX5_takeJoined 62 = .ok (.aload_n 1, 1) := by decide +kernel
theorem dX5_takeJoined_63 : decode cX5_takeJoined 63 = .ok (.iload_n 3, 1) := by decide +kernel
theorem dX5_takeJoined_64 : decode cX5_takeJoined 64 = .ok (.iconst 1, 1) := by decide +kernel
theorem dX5_takeJoined_65 : decode cX5_takeJoined 65 = .ok (.iadd, 1) := by decide +kernel
theorem dX5_takeJoined_66 : decode cX5_takeJoined 66 = .ok (.aload_n 1, 1) := by decide +kernel
theorem dX5_takeJoined_67 : decode cX5_takeJoined 67 = .ok (.getfield 16, 3) := by decide +kernel
theorem dX5_takeJoined_70 : decode cX5_takeJoined 70 = .ok (.invokevirtual 47, 3) := by decide +kernel
theorem dX5_takeJoined_73 : decode cX5_takeJoined 73 = .ok (.aload_n 0, 1) := by decide +kernel
theorem dX5_takeJoined_74 : decode cX5_takeJoined 74 = .ok (.aload_n 2, 1) := by decide +kernel
theorem dX5_takeJoined_75 : decode cX5_takeJoined 75 = .ok (.iload 4, 2) := by decide +kernel
theorem dX5_takeJoined_77 : decode cX5_takeJoined 77 = .ok (.iconst 2, 1) := by decide +kernel
theorem dX5_takeJoined_78 : decode cX5_takeJoined 78 = .ok (.iadd, 1) := by decide +kernel
theorem dX5_takeJoined_79 : decode cX5_takeJoined 79 = .ok (.aload_n 2, 1) := by decide +kernel
theorem dX5_takeJoined_80 : decode cX5_takeJoined 80 = .ok (.getfield 16, 3) := by decide +kernel
theorem dX5_takeJoined_83 : decode cX5_takeJoined 83 = .ok (.iconst 2, 1) := by decide +kernel
theorem dX5_takeJoined_84 : decode cX5_takeJoined 84 = .ok (.isub, 1) := by decide +kernel
theorem dX5_takeJoined_85 : decode cX5_takeJoined 85 = .ok (.invokevirtual 47, 3) := by decide +kernel
theorem dX5_takeJoined_88 : decode cX5_takeJoined 88 = .ok (.iconst 1, 1) := by decide +kernel
theorem dX5_takeJoined_89 : decode cX5_takeJoined 89 = .ok (.ireturn, 1) := by decide +kernel
theorem dX5_takeJoined_90 : decode cX5_takeJoined 90 = .ok (.iinc 4 1, 3) := by decide +kernel
theorem dX5_takeJoined_93 : decode cX5_takeJoined 93 = .ok (.goto (-80), 3) := by decide +kernel
theorem dX5_takeJoined_96 : decode cX5_takeJoined 96 = .ok (.iinc 3 1, 3) := by decide +kernel
theorem dX5_takeJoined_99 : decode cX5_takeJoined 99 = .ok (.goto (-97), 3) := by decide +kernel
theorem dX5_takeJoined_102 : decode cX5_takeJoined 102 = .ok (.iconst 0, 1) := by decide +kernel
theorem dX5_takeJoined_103 : decode cX5_takeJoined 103 = .ok (.ireturn, 1) := by decide +kernel
set_option maxHeartbeats 4000000 in
set_option maxRecDepth 100000 in
theorem tX5_takeJoined (l : Launch) (G : Gg) (b0 : Nat) {K : Kk} {R : Rr} {M : Mm} {r : Nat} {a0 : Nat} {a1 : Nat} {res : Int32} {M' : Mm} (hm : mX5_takeJoined K R M r a0 a1 = some (res, M')) : CT l G b0 yX5_takeJoined cX5_takeJoined 5 (some .boolean) (rmz 3 47) [.ref r, .ref a0, .ref a1] K R M (some (.int res)) K R M' := by
  refine ct_of (by decide +kernel) (Nat.le_of_ble_eq_true rfl) (fun w hq => ?_)
  have hw := hq.b
  change w 0 0 0 [(0, .ref r), (1, .ref a0), (2, .ref a1)] [] K R M
  replace hm := h_start hm
  unfold mX5_takeJoined at hm
  obtain ⟨h1, m22⟩ := h_ck hm
  clear hm
  obtain ⟨h2, m23⟩ := h_ck m22
  clear m22
  obtain ⟨h3, m24⟩ := h_ck m23
  clear m23
  refine r_iconst (v := 0) hw dX5_takeJoined_0 rfl ?_
  obtain ⟨i4, ei4, m25⟩ := h_nm m24
  clear m24
  refine r_topI (w := w) ei4 ?_
  refine r_istore_n hw dX5_takeJoined_1 rfl (by decide) rfl ?_
  refine r_sub hw [1, 2, 3, 0] rfl ?_
  obtain ⟨v2, n02, hn2, hv2⟩ := h_lp m25
  clear m25
  have L2 : ∀ n : Nat, ∀ (i5 : Int32), it (mX5_takeJoined_L2 K R M r a0 a1) n (i5) = some v2 → w 0 0 2 [(0, .ref r), (1, .ref a0), (2, .ref a1), (3, .int i5)] [] K R M := by
    intro n2
    induction n2 with
    | zero => intro i5 hz; exact absurd hz h_it0
    | succ n2 ih2 =>
      intro i5 m26
      replace m26 : (mX5_takeJoined_B2 K R M r a0 a1 i5).bind (Sum.elim (it (mX5_takeJoined_L2 K R M r a0 a1) n2) some) = some v2 := m26
      unfold mX5_takeJoined_B2 at m26
      refine r_iload_n hw dX5_takeJoined_2 3 rfl ?_
      refine r_aload_n hw dX5_takeJoined_3 1 rfl ?_
      refine r_getI hw fO_X5_16 h2 dX5_takeJoined_4 ?_
      refine r_icmp_ge (tgt := 102) hw dX5_takeJoined_7 (by decide) (fun c6 => ?_) (fun c6 => ?_)
      · have m27 := h_if_f c6 m26
        clear m26
        have m28 := h_ex m27 hv2
        clear m27
        refine r_iconst (v := 0) hw dX5_takeJoined_102 rfl ?_
        cases h_ret m28
        exact r_zreturn hq isB_0 rfl rfl dX5_takeJoined_103
      · have m29 := h_if_t c6 m26
        clear m26
        refine r_iconst (v := 0) hw dX5_takeJoined_10 rfl ?_
        obtain ⟨i7, ei7, m30⟩ := h_nm m29
        clear m29
        refine r_topI (w := w) ei7 ?_
        refine r_istore hw dX5_takeJoined_11 (by decide) rfl ?_
        refine r_sub hw [1, 2, 3, 4, 0] rfl ?_
        obtain ⟨v13, n013, hn13, hv13⟩ := h_lp m30
        clear m30
        have L13 : ∀ n : Nat, ∀ (i8 : Int32), it (mX5_takeJoined_L13 K R M r a0 a1 i5) n (i8) = some v13 → w 0 0 13 [(0, .ref r), (1, .ref a0), (2, .ref a1), (3, .int i5), (4, .int i8)] [] K R M := by
          intro n13
          induction n13 with
          | zero => intro i8 hz; exact absurd hz h_it0
          | succ n13 ih13 =>
            intro i8 m31
            replace m31 : (mX5_takeJoined_B13 K R M r a0 a1 i5 i8).bind (Sum.elim (it (mX5_takeJoined_L13 K R M r a0 a1 i5) n13) some) = some v13 := m31
            unfold mX5_takeJoined_B13 at m31
            have J90 : ∀ (i9 : Int32), (mX5_takeJoined_J90 K R M r a0 a1 i5 i9).bind (Sum.elim (it (mX5_takeJoined_L13 K R M r a0 a1 i5) n13) some) = some v13 → w 0 0 90 [(0, .ref r), (1, .ref a0), (2, .ref a1), (3, .int i5), (4, .int i9)] [] K R M := by
              intro i9 m32
              unfold mX5_takeJoined_J90 at m32
              obtain ⟨i10, ei10, m33⟩ := h_nm m32
              clear m32
              refine r_iinc (j := 4) (v := i10) hw dX5_takeJoined_90 rfl (by rw [ei10]; rfl) (by decide) rfl ?_
              refine r_goto (tgt := 13) hw dX5_takeJoined_93 (by decide) ?_
              refine r_sub hw [1, 2, 3, 4, 0] rfl ?_
              exact ih13 _ m33
            refine r_iload hw dX5_takeJoined_13 4 rfl ?_
            refine r_aload_n hw dX5_takeJoined_15 2 rfl ?_
            refine r_getI hw fO_X5_16 h3 dX5_takeJoined_16 ?_
            refine r_icmp_ge (tgt := 96) hw dX5_takeJoined_19 (by decide) (fun c11 => ?_) (fun c11 => ?_)
            · have m34 := h_if_f c11 m31
              clear m31
              have m35 := h_ex m34 hv13
              clear m34
              obtain ⟨i12, ei12, m36⟩ := h_nm m35
              clear m35
              refine r_iinc (j := 3) (v := i12) hw dX5_takeJoined_96 rfl (by rw [ei12]; rfl) (by decide) rfl ?_
              refine r_goto (tgt := 2) hw dX5_takeJoined_99 (by decide) ?_
              refine r_sub hw [1, 2, 3, 0] rfl ?_
              exact ih2 _ m36
            · have m37 := h_if_t c11 m31
              clear m31
              refine r_aload_n hw dX5_takeJoined_22 1 rfl ?_
              refine r_iload_n hw dX5_takeJoined_23 3 rfl ?_
              refine r_aload_n hw dX5_takeJoined_24 2 rfl ?_
              refine r_aload_n hw dX5_takeJoined_25 2 rfl ?_
              refine r_iload hw dX5_takeJoined_26 4 rfl ?_
              refine r_iconst (v := 1) hw dX5_takeJoined_28 rfl ?_
              refine r_iadd hw dX5_takeJoined_29 ?_
              obtain ⟨i13, g13, m38⟩ := h_bd m37
              clear m37
              refine r_callV1 hw (tX5_wrap l G b0 g13) lB_X5_wrap lI_X5_wrap mL_X5_40 (c := 5) rfl h3 rfl (Nat.le_of_ble_eq_true rfl) (Nat.le_of_ble_eq_true rfl) rfl (Nat.le_of_ble_eq_true rfl) dX5_takeJoined_30 ?_
              obtain ⟨i14, g14, m39⟩ := h_bd m38
              clear m38
              refine r_callV1 hw (tX5_isSame l G b0 g14) lB_X5_isSame lI_X5_isSame mL_X5_43 (c := 5) rfl h2 rfl (Nat.le_of_ble_eq_true rfl) (Nat.le_of_ble_eq_true rfl) rfl (Nat.le_of_ble_eq_true rfl) dX5_takeJoined_33 ?_
              refine r_if_eq (tgt := 90) hw dX5_takeJoined_36 (by decide) (fun c15 => ?_) (fun c15 => ?_)
              · have m40 := h_if_t c15 m39
                clear m39
                exact J90 _ m40
              · have m41 := h_if_f c15 m39
                clear m39
                refine r_aload_n hw dX5_takeJoined_39 1 rfl ?_
                refine r_aload_n hw dX5_takeJoined_40 1 rfl ?_
                refine r_iload_n hw dX5_takeJoined_41 3 rfl ?_
                refine r_iconst (v := 1) hw dX5_takeJoined_42 rfl ?_
                refine r_iadd hw dX5_takeJoined_43 ?_
                obtain ⟨i16, g16, m42⟩ := h_bd m41
                clear m41
                refine r_callV1 hw (tX5_wrap l G b0 g16) lB_X5_wrap lI_X5_wrap mL_X5_40 (c := 5) rfl h2 rfl (Nat.le_of_ble_eq_true rfl) (Nat.le_of_ble_eq_true rfl) rfl (Nat.le_of_ble_eq_true rfl) dX5_takeJoined_44 ?_
                refine r_aload_n hw dX5_takeJoined_47 2 rfl ?_
                refine r_iload hw dX5_takeJoined_48 4 rfl ?_
                obtain ⟨i17, g17, m43⟩ := h_bd m42
                clear m42
                refine r_callV1 hw (tX5_isSame l G b0 g17) lB_X5_isSame lI_X5_isSame mL_X5_43 (c := 5) rfl h2 rfl (Nat.le_of_ble_eq_true rfl) (Nat.le_of_ble_eq_true rfl) rfl (Nat.le_of_ble_eq_true rfl) dX5_takeJoined_50 ?_
                refine r_if_eq (tgt := 90) hw dX5_takeJoined_53 (by decide) (fun c18 => ?_) (fun c18 => ?_)
                · have m44 := h_if_t c18 m43
                  clear m43
                  exact J90 _ m44
                · have m45 := h_if_f c18 m43
                  clear m43
                  have m46 := h_ex m45 hv13
                  clear m45
                  have m47 := h_ex m46 hv2
                  clear m46
                  refine r_aload_n hw dX5_takeJoined_56 0 rfl ?_
                  refine r_iconst (v := 0) hw dX5_takeJoined_57 rfl ?_
                  obtain ⟨M19, eM19, m48⟩ := h_nm m47
                  clear m47
                  refine r_putI hw fP_X5_16 h1 dX5_takeJoined_58 (r_mem ?_ rfl eM19)
                  refine r_aload_n hw dX5_takeJoined_61 0 rfl ?_
                  refine r_aload_n hw dX5_takeJoined_62 1 rfl ?_
                  refine r_iload_n hw dX5_takeJoined_63 3 rfl ?_
                  refine r_iconst (v := 1) hw dX5_takeJoined_64 rfl ?_
                  refine r_iadd hw dX5_takeJoined_65 ?_
                  refine r_aload_n hw dX5_takeJoined_66 1 rfl ?_
                  refine r_getI hw fO_X5_16 h2 dX5_takeJoined_67 ?_
                  obtain ⟨M20, g20, m49⟩ := h_bd m48
                  clear m48
                  refine r_callV0 hw (tX5_addFrom l G b0 g20) lB_X5_addFrom lI_X5_addFrom mL_X5_47 (c := 5) rfl h1 rfl (Nat.le_of_ble_eq_true rfl) (Nat.le_of_ble_eq_true rfl) rfl (Nat.le_of_ble_eq_true rfl) dX5_takeJoined_70 ?_
                  refine r_aload_n hw dX5_takeJoined_73 0 rfl ?_
                  refine r_aload_n hw dX5_takeJoined_74 2 rfl ?_
                  refine r_iload hw dX5_takeJoined_75 4 rfl ?_
                  refine r_iconst (v := 2) hw dX5_takeJoined_77 rfl ?_
                  refine r_iadd hw dX5_takeJoined_78 ?_
                  refine r_aload_n hw dX5_takeJoined_79 2 rfl ?_
                  refine r_getI hw fO_X5_16 h3 dX5_takeJoined_80 ?_
                  refine r_iconst (v := 2) hw dX5_takeJoined_83 rfl ?_
                  refine r_isub hw dX5_takeJoined_84 ?_
                  obtain ⟨M21, g21, m50⟩ := h_bd m49
                  clear m49
                  refine r_callV0 hw (tX5_addFrom l G b0 g21) lB_X5_addFrom lI_X5_addFrom mL_X5_47 (c := 5) rfl h1 rfl (Nat.le_of_ble_eq_true rfl) (Nat.le_of_ble_eq_true rfl) rfl (Nat.le_of_ble_eq_true rfl) dX5_takeJoined_85 ?_
                  refine r_iconst (v := 1) hw dX5_takeJoined_88 rfl ?_
                  cases h_ret m50
                  exact r_zreturn hq isB_1 rfl rfl dX5_takeJoined_89
        exact L13 n013 _ hn13
  exact L2 n02 _ hn2
theorem dX5_takeUnbent_0 : decode cX5_takeUnbent 0 = .ok (.aload_n 0, 1) := by decide +kernel
theorem dX5_takeUnbent_1 : decode cX5_takeUnbent 1 = .ok (.iconst 0, 1) := by decide +kernel
theorem dX5_takeUnbent_2 : decode cX5_takeUnbent 2 = .ok (.putfield 16, 3) := by decide +kernel
theorem dX5_takeUnbent_5 : decode cX5_takeUnbent 5 = .ok (.iconst 0, 1) := by decide +kernel
theorem dX5_takeUnbent_6 : decode cX5_takeUnbent 6 = .ok (.istore_n 2, 1) := by decide +kernel
theorem dX5_takeUnbent_7 : decode cX5_takeUnbent 7 = .ok (.iload_n 2, 1) := by decide +kernel
theorem dX5_takeUnbent_8 : decode cX5_takeUnbent 8 = .ok (.aload_n 1, 1) := by decide +kernel
theorem dX5_takeUnbent_9 : decode cX5_takeUnbent 9 = .ok (.getfield 16, 3) := by decide +kernel
theorem dX5_takeUnbent_12 : decode cX5_takeUnbent 12 = .ok (.if_icmp .ge 85, 3) := by decide +kernel
theorem dX5_takeUnbent_15 : decode cX5_takeUnbent 15 = .ok (.aload_n 1, 1) := by decide +kernel
theorem dX5_takeUnbent_16 : decode cX5_takeUnbent 16 = .ok (.iload_n 2, 1) := by decide +kernel
theorem dX5_takeUnbent_17 : decode cX5_takeUnbent 17 = .ok (.aload_n 1, 1) := by decide +kernel
theorem dX5_takeUnbent_18 : decode cX5_takeUnbent 18 = .ok (.getfield 16, 3) := by decide +kernel
theorem dX5_takeUnbent_21 : decode cX5_takeUnbent 21 = .ok (.iadd, 1) := by decide +kernel
theorem dX5_takeUnbent_22 : decode cX5_takeUnbent 22 = .ok (.iconst 1, 1) := by decide +kernel
theorem dX5_takeUnbent_23 : decode cX5_takeUnbent 23 = .ok (.isub, 1) := by decide +kernel
theorem dX5_takeUnbent_24 : decode cX5_takeUnbent 24 = .ok (.invokevirtual 40, 3) := by decide +kernel
theorem dX5_takeUnbent_27 : decode cX5_takeUnbent 27 = .ok (.istore_n 3, 1) := by decide +kernel
theorem dX5_takeUnbent_28 : decode cX5_takeUnbent 28 = .ok (.aload_n 1, 1) := by decide +kernel
theorem dX5_takeUnbent_29 : decode cX5_takeUnbent 29 = .ok (.iload_n 2, 1) := by decide +kernel
theorem dX5_takeUnbent_30 : decode cX5_takeUnbent 30 = .ok (.iconst 1, 1) := by decide +kernel
theorem dX5_takeUnbent_31 : decode cX5_takeUnbent 31 = .ok (.iadd, 1) := by decide +kernel
theorem dX5_takeUnbent_32 : decode cX5_takeUnbent 32 = .ok (.invokevirtual 40, 3) := by decide +kernel
theorem dX5_takeUnbent_35 : decode cX5_takeUnbent 35 = .ok (.istore 4, 2) := by decide +kernel
theorem dX5_takeUnbent_37 : decode cX5_takeUnbent 37 = .ok (.aload_n 1, 1) := by decide +kernel
theorem dX5_takeUnbent_38 : decode cX5_takeUnbent 38 = .ok (.iload_n 3, 1) := by decide +kernel
theorem dX5_takeUnbent_39 : decode cX5_takeUnbent 39 = .ok (.iload_n 2, 1) := by decide +kernel
theorem dX5_takeUnbent_40 : decode cX5_takeUnbent 40 = .ok (.aload_n 1, 1) := by decide +kernel
theorem dX5_takeUnbent_41 : decode cX5_takeUnbent 41 = .ok (.getfield 7, 3) := by decide +kernel
theorem dX5_takeUnbent_44 : decode cX5_takeUnbent 44 = .ok (.iload 4, 2) := by decide +kernel
theorem dX5_takeUnbent_46 : decode cX5_takeUnbent 46 = .ok (.iaload, 1) := by decide +kernel
theorem dX5_takeUnbent_47 : decode cX5_takeUnbent 47 = .ok (.aload_n 1, 1) := by decide +kernel
theorem dX5_takeUnbent_48 : decode cX5_takeUnbent 48 = .ok (.getfield 13, 3) := by decide +kernel
theorem dX5_takeUnbent_51 : decode cX5_takeUnbent 51 = .ok (.iload 4, 2) := by decide +kernel
theorem dX5_takeUnbent_53 : decode cX5_takeUnbent 53 = .ok (.iaload, 1) := by decide +kernel
theorem dX5_takeUnbent_54 : decode cX5_takeUnbent 54 = .ok (.invokevirtual 51, 3) := by decide +kernel
theorem dX5_takeUnbent_57 : decode cX5_takeUnbent 57 = .ok (.lstore 5, 2) := by decide +kernel
theorem dX5_takeUnbent_59 : decode cX5_takeUnbent 59 = .ok (.lload 5, 2) := by decide +kernel
theorem dX5_takeUnbent_61 : decode cX5_takeUnbent 61 = .ok (.lconst 0, 1) := by decide +kernel
theorem dX5_takeUnbent_62 : decode cX5_takeUnbent 62 = .ok (.lcmp, 1) := by decide +kernel
theorem dX5_takeUnbent_63 : decode cX5_takeUnbent 63 = .ok (.ifCond .ge 5, 3) := by decide +kernel
theorem dX5_takeUnbent_66 : decode cX5_takeUnbent 66 = .ok (.iconst 0, 1) := by decide +kernel
theorem dX5_takeUnbent_67 : decode cX5_takeUnbent 67 = .ok (.ireturn, 1) := by decide +kernel
theorem dX5_takeUnbent_68 : decode cX5_takeUnbent 68 = .ok (.lload 5, 2) := by decide +kernel
theorem dX5_takeUnbent_70 : decode cX5_takeUnbent 70 = .ok (.lconst 0, 1) := by decide +kernel
theorem dX5_takeUnbent_71 : decode cX5_takeUnbent 71 = .ok (.lcmp, 1) := by decide +kernel
theorem dX5_takeUnbent_72 : decode cX5_takeUnbent 72 = .ok (.ifCond .le 19, 3) := by decide +kernel
theorem dX5_takeUnbent_75 : decode cX5_takeUnbent 75 = .ok (.aload_n 0, 1) := by decide +kernel
theorem dX5_takeUnbent_76 : decode cX5_takeUnbent 76 = .ok (.aload_n 1, 1) := by decide +kernel
theorem dX5_takeUnbent_77 : decode cX5_takeUnbent 77 = .ok (.getfield 7, 3) := by decide +kernel
theorem dX5_takeUnbent_80 : decode cX5_takeUnbent 80 = .ok (.iload_n 2, 1) := by decide +kernel
theorem dX5_takeUnbent_81 : decode cX5_takeUnbent 81 = .ok (.iaload, 1) := by decide +kernel
theorem dX5_takeUnbent_82 : decode cX5_takeUnbent 82 = .ok (.aload_n 1, 1) := by decide +kernel
theorem dX5_takeUnbent_83 : decode cX5_takeUnbent 83 = .ok (.getfield 13, 3) := by decide +kernel
theorem dX5_takeUnbent_86 : decode cX5_takeUnbent 86 = .ok (.iload_n 2, 1) := by decide +kernel
theorem dX5_takeUnbent_87 : decode cX5_takeUnbent 87 = .ok (.iaload, 1) := by decide +kernel
theorem dX5_takeUnbent_88 : decode cX5_takeUnbent 88 = .ok (.invokevirtual 32, 3) := by decide +kernel
theorem dX5_takeUnbent_91 : decode cX5_takeUnbent 91 = .ok (.iinc 2 1, 3) := by decide +kernel
theorem dX5_takeUnbent_94 : decode cX5_takeUnbent 94 = .ok (.goto (-87), 3) := by decide +kernel
theorem dX5_takeUnbent_97 : decode cX5_takeUnbent 97 = .ok (.iconst 1, 1) := by decide +kernel
theorem dX5_takeUnbent_98 : decode cX5_takeUnbent 98 = .ok (.ireturn, 1) := by decide +kernel
set_option maxHeartbeats 4000000 in
set_option maxRecDepth 100000 in
theorem tX5_takeUnbent (l : Launch) (G : Gg) (b0 : Nat) {K : Kk} {R : Rr} {M : Mm} {r : Nat} {a0 : Nat} {res : Int32} {M' : Mm} (hm : mX5_takeUnbent K R M r a0 = some (res, M')) : CT l G b0 yX5_takeUnbent cX5_takeUnbent 7 (some .boolean) (rmz 3 49) [.ref r, .ref a0] K R M (some (.int res)) K R M' := by
  refine ct_of (by decide +kernel) (Nat.le_of_ble_eq_true rfl) (fun w hq => ?_)
  have hw := hq.b
  change w 0 0 0 [(0, .ref r), (1, .ref a0)] [] K R M
  replace hm := h_start hm
  unfold mX5_takeUnbent at hm
  obtain ⟨h1, m23⟩ := h_ck hm
  clear hm
  obtain ⟨h2, m24⟩ := h_ck m23
  clear m23
  refine r_aload_n hw dX5_takeUnbent_0 0 rfl ?_
  refine r_iconst (v := 0) hw dX5_takeUnbent_1 rfl ?_
  obtain ⟨M3, eM3, m25⟩ := h_nm m24
  clear m24
  refine r_putI hw fP_X5_16 h1 dX5_takeUnbent_2 (r_mem ?_ rfl eM3)
  refine r_iconst (v := 0) hw dX5_takeUnbent_5 rfl ?_
  obtain ⟨i4, ei4, m26⟩ := h_nm m25
  clear m25
  refine r_topI (w := w) ei4 ?_
  refine r_istore_n hw dX5_takeUnbent_6 rfl (by decide) rfl ?_
  refine r_sub hw [1, 2, 0] rfl ?_
  obtain ⟨v7, n07, hn7, hv7⟩ := h_lp m26
  clear m26
  have L7 : ∀ n : Nat, ∀ (i5 : Int32) (M6 : Mm), it (mX5_takeUnbent_L7 K R r a0) n (i5, M6) = some v7 → w 0 0 7 [(0, .ref r), (1, .ref a0), (2, .int i5)] [] K R M6 := by
    intro n7
    induction n7 with
    | zero => intro i5 M6 hz; exact absurd hz h_it0
    | succ n7 ih7 =>
      intro i5 M6 m27
      replace m27 : (mX5_takeUnbent_B7 K R r a0 i5 M6).bind (Sum.elim (it (mX5_takeUnbent_L7 K R r a0) n7) some) = some v7 := m27
      unfold mX5_takeUnbent_B7 at m27
      have J91 : ∀ (M8 : Mm) (i7 : Int32), (mX5_takeUnbent_J91 K R M8 r a0 i7).bind (Sum.elim (it (mX5_takeUnbent_L7 K R r a0) n7) some) = some v7 → w 0 0 91 [(0, .ref r), (1, .ref a0), (2, .int i7)] [] K R M8 := by
        intro M8 i7 m28
        unfold mX5_takeUnbent_J91 at m28
        obtain ⟨i9, ei9, m29⟩ := h_nm m28
        clear m28
        refine r_iinc (j := 2) (v := i9) hw dX5_takeUnbent_91 rfl (by rw [ei9]; rfl) (by decide) rfl ?_
        refine r_goto (tgt := 7) hw dX5_takeUnbent_94 (by decide) ?_
        refine r_sub hw [1, 2, 0] rfl ?_
        exact ih7 _ _ m29
      refine r_iload_n hw dX5_takeUnbent_7 2 rfl ?_
      refine r_aload_n hw dX5_takeUnbent_8 1 rfl ?_
      refine r_getI hw fO_X5_16 h2 dX5_takeUnbent_9 ?_
      refine r_icmp_ge (tgt := 97) hw dX5_takeUnbent_12 (by decide) (fun c10 => ?_) (fun c10 => ?_)
      · have m30 := h_if_f c10 m27
        clear m27
        have m31 := h_ex m30 hv7
        clear m30
        refine r_iconst (v := 1) hw dX5_takeUnbent_97 rfl ?_
        cases h_ret m31
        exact r_zreturn hq isB_1 rfl rfl dX5_takeUnbent_98
      · have m32 := h_if_t c10 m27
        clear m27
        refine r_aload_n hw dX5_takeUnbent_15 1 rfl ?_
        refine r_iload_n hw dX5_takeUnbent_16 2 rfl ?_
        refine r_aload_n hw dX5_takeUnbent_17 1 rfl ?_
        refine r_getI hw fO_X5_16 h2 dX5_takeUnbent_18 ?_
        refine r_iadd hw dX5_takeUnbent_21 ?_
        refine r_iconst (v := 1) hw dX5_takeUnbent_22 rfl ?_
        refine r_isub hw dX5_takeUnbent_23 ?_
        obtain ⟨i11, g11, m33⟩ := h_bd m32
        clear m32
        refine r_callV1 hw (tX5_wrap l G b0 g11) lB_X5_wrap lI_X5_wrap mL_X5_40 (c := 5) rfl h2 rfl (Nat.le_of_ble_eq_true rfl) (Nat.le_of_ble_eq_true rfl) rfl (Nat.le_of_ble_eq_true rfl) dX5_takeUnbent_24 ?_
        refine r_istore_n hw dX5_takeUnbent_27 rfl (by decide) rfl ?_
        refine r_aload_n hw dX5_takeUnbent_28 2 rfl ?_
        refine r_iload_n hw dX5_takeUnbent_29 3 rfl ?_
        refine r_iconst (v := 1) hw dX5_takeUnbent_30 rfl ?_
        refine r_iadd hw dX5_takeUnbent_31 ?_
        obtain ⟨i12, g12, m34⟩ := h_bd m33
        clear m33
        refine r_callV1 hw (tX5_wrap l G b0 g12) lB_X5_wrap lI_X5_wrap mL_X5_40 (c := 5) rfl h2 rfl (Nat.le_of_ble_eq_true rfl) (Nat.le_of_ble_eq_true rfl) rfl (Nat.le_of_ble_eq_true rfl) dX5_takeUnbent_32 ?_
        refine r_istore hw dX5_takeUnbent_35 (by decide) rfl ?_
        refine r_aload_n hw dX5_takeUnbent_37 3 rfl ?_
        refine r_iload_n hw dX5_takeUnbent_38 1 rfl ?_
        refine r_iload_n hw dX5_takeUnbent_39 4 rfl ?_
        refine r_aload_n hw dX5_takeUnbent_40 3 rfl ?_
        obtain ⟨q13, bq13, m35⟩ := h_bd m34
        clear m34
        refine r_getR hw fO_X5_7 h2 bq13 dX5_takeUnbent_41 ?_
        refine r_iload hw dX5_takeUnbent_44 0 rfl ?_
        obtain ⟨h14, m36⟩ := h_ck m35
        clear m35
        refine r_iaload hw h14 dX5_takeUnbent_46 ?_
        refine r_aload_n hw dX5_takeUnbent_47 3 rfl ?_
        obtain ⟨q15, bq15, m37⟩ := h_bd m36
        clear m36
        refine r_getR hw fO_X5_13 h2 bq15 dX5_takeUnbent_48 ?_
        refine r_iload hw dX5_takeUnbent_51 0 rfl ?_
        obtain ⟨h16, m38⟩ := h_ck m37
        clear m37
        refine r_iaload hw h16 dX5_takeUnbent_53 ?_
        obtain ⟨l17, g17, m39⟩ := h_bd m38
        clear m38
        refine r_callV1 hw (tX5_sideAt l G b0 g17) lB_X5_sideAt lI_X5_sideAt mL_X5_51 (c := 5) rfl h2 rfl (Nat.le_of_ble_eq_true rfl) (Nat.le_of_ble_eq_true rfl) rfl (Nat.le_of_ble_eq_true rfl) dX5_takeUnbent_54 ?_
        refine r_lstore hw dX5_takeUnbent_57 (by decide) rfl ?_
        refine r_lload hw dX5_takeUnbent_59 0 rfl ?_
        refine r_lconst (v := 0) hw dX5_takeUnbent_61 rfl ?_
        refine r_lcmp_ge (tgt := 68) hw dX5_takeUnbent_62 dX5_takeUnbent_63 (by decide) (fun c18 => ?_) (fun c18 => ?_)
        · have m40 := h_if_f c18 m39
          clear m39
          refine r_lload hw dX5_takeUnbent_68 0 rfl ?_
          refine r_lconst (v := 0) hw dX5_takeUnbent_70 rfl ?_
          refine r_lcmp_le (tgt := 91) hw dX5_takeUnbent_71 dX5_takeUnbent_72 (by decide) (fun c19 => ?_) (fun c19 => ?_)
          · have m41 := h_if_t c19 m40
            clear m40
            refine r_sub hw [3, 4, 5] rfl ?_
            exact J91 _ _ m41
          · have m42 := h_if_f c19 m40
            clear m40
            refine r_aload_n hw dX5_takeUnbent_75 3 rfl ?_
            refine r_aload_n hw dX5_takeUnbent_76 4 rfl ?_
            refine r_getR hw fO_X5_7 h2 bq13 dX5_takeUnbent_77 ?_
            refine r_iload_n hw dX5_takeUnbent_80 5 rfl ?_
            obtain ⟨h20, m43⟩ := h_ck m42
            clear m42
            refine r_iaload hw h20 dX5_takeUnbent_81 ?_
            refine r_aload_n hw dX5_takeUnbent_82 4 rfl ?_
            refine r_getR hw fO_X5_13 h2 bq15 dX5_takeUnbent_83 ?_
            refine r_iload_n hw dX5_takeUnbent_86 5 rfl ?_
            obtain ⟨h21, m44⟩ := h_ck m43
            clear m43
            refine r_iaload hw h21 dX5_takeUnbent_87 ?_
            obtain ⟨M22, g22, m45⟩ := h_bd m44
            clear m44
            refine r_callV0 hw (tX5_add l G b0 g22) lB_X5_add lI_X5_add mL_X5_32 (c := 5) rfl h1 rfl (Nat.le_of_ble_eq_true rfl) (Nat.le_of_ble_eq_true rfl) rfl (Nat.le_of_ble_eq_true rfl) dX5_takeUnbent_88 ?_
            refine r_sub hw [3, 4, 5] rfl ?_
            exact J91 _ _ m45
        · have m46 := h_if_t c18 m39
          clear m39
          have m47 := h_ex m46 hv7
          clear m46
          refine r_iconst (v := 0) hw dX5_takeUnbent_66 rfl ?_
          cases h_ret m47
          exact r_zreturn hq isB_0 rfl rfl dX5_takeUnbent_67
  exact L7 n07 _ _ hn7
theorem dX5_isRing_0 : decode cX5_isRing 0 = .ok (.iconst 0, 1) := by decide +kernel
theorem dX5_isRing_1 : decode cX5_isRing 1 = .ok (.istore_n 1, 1) := by decide +kernel
theorem dX5_isRing_2 : decode cX5_isRing 2 = .ok (.iload_n 1, 1) := by decide +kernel
theorem dX5_isRing_3 : decode cX5_isRing 3 = .ok (.aload_n 0, 1) := by decide +kernel
theorem dX5_isRing_4 : decode cX5_isRing 4 = .ok (.getfield 16, 3) := by decide +kernel
theorem dX5_isRing_7 : decode cX5_isRing 7 = .ok (.if_icmp .ge 68, 3) := by decide +kernel
theorem dX5_isRing_10 : decode cX5_isRing 10 = .ok (.aload_n 0, 1) := by decide +kernel
theorem dX5_isRing_11 : decode cX5_isRing 11 = .ok (.iload_n 1, 1) := by decide +kernel
theorem dX5_isRing_12 : decode cX5_isRing 12 = .ok (.iconst 1, 1) := by decide +kernel
theorem dX5_isRing_13 : decode cX5_isRing 13 = .ok (.iadd, 1) := by decide +kernel
theorem dX5_isRing_14 : decode cX5_isRing 14 = .ok (.invokevirtual 40, 3) := by decide +kernel
theorem dX5_isRing_17 : decode cX5_isRing 17 = .ok (.istore_n 2, 1) := by decide +kernel
theorem dX5_isRing_18 : decode cX5_isRing 18 = .ok (.iconst 0, 1) := by decide +kernel
theorem dX5_isRing_19 : decode cX5_isRing 19 = .ok (.istore_n 3, 1) := by decide +kernel
theorem dX5_isRing_20 : decode cX5_isRing 20 = .ok (.iload_n 3, 1) := by decide +kernel
theorem dX5_isRing_21 : decode cX5_isRing 21 = .ok (.aload_n 0, 1) := by decide +kernel
theorem dX5_isRing_22 : decode cX5_isRing 22 = .ok (.getfield 16, 3) := by decide +kernel
theorem dX5_isRing_25 : decode cX5_isRing 25 = .ok (.if_icmp .ge 44, 3) := by decide +kernel
theorem dX5_isRing_28 : decode cX5_isRing 28 = .ok (.iload_n 3, 1) := by decide +kernel
theorem dX5_isRing_29 : decode cX5_isRing 29 = .ok (.iload_n 1, 1) := by decide +kernel
theorem dX5_isRing_30 : decode cX5_isRing 30 = .ok (.if_icmp .eq 33, 3) := by decide +kernel
theorem dX5_isRing_33 : decode cX5_isRing 33 = .ok (.iload_n 3, 1) := by decide +kernel
theorem dX5_isRing_34 : decode cX5_isRing 34 = .ok (.iload_n 2, 1) := by decide +kernel
theorem dX5_isRing_35 : decode cX5_isRing 35 = .ok (.if_icmp .eq 28, 3) := by decide +kernel
theorem dX5_isRing_38 : decode cX5_isRing 38 = .ok (.aload_n 0, 1) := by decide +kernel
theorem dX5_isRing_39 : decode cX5_isRing 39 = .ok (.iload_n 1, 1) := by decide +kernel
theorem dX5_isRing_40 : decode cX5_isRing 40 = .ok (.iload_n 2, 1) := by decide +kernel
theorem dX5_isRing_41 : decode cX5_isRing 41 = .ok (.aload_n 0, 1) := by decide +kernel
theorem dX5_isRing_42 : decode cX5_isRing 42 = .ok (.getfield 7, 3) := by decide +kernel
theorem dX5_isRing_45 : decode cX5_isRing 45 = .ok (.iload_n 3, 1) := by decide +kernel
theorem dX5_isRing_46 : decode cX5_isRing 46 = .ok (.iaload, 1) := by decide +kernel
theorem dX5_isRing_47 : decode cX5_isRing 47 = .ok (.aload_n 0, 1) := by decide +kernel
theorem dX5_isRing_48 : decode cX5_isRing 48 = .ok (.getfield 13, 3) := by decide +kernel
theorem dX5_isRing_51 : decode cX5_isRing 51 = .ok (.iload_n 3, 1) := by decide +kernel
theorem dX5_isRing_52 : decode cX5_isRing 52 = .ok (.iaload, 1) := by decide +kernel
theorem dX5_isRing_53 : decode cX5_isRing 53 = .ok (.invokevirtual 51, 3) := by decide +kernel
theorem dX5_isRing_56 : decode cX5_isRing 56 = .ok (.lconst 0, 1) := by decide +kernel
theorem dX5_isRing_57 : decode cX5_isRing 57 = .ok (.lcmp, 1) := by decide +kernel
theorem dX5_isRing_58 : decode cX5_isRing 58 = .ok (.ifCond .gt 5, 3) := by decide +kernel
theorem dX5_isRing_61 : decode cX5_isRing 61 = .ok (.iconst 0, 1) := by decide +kernel
theorem dX5_isRing_62 : decode cX5_isRing 62 = .ok (.ireturn, 1) := by decide +kernel
theorem dX5_isRing_63 : decode cX5_isRing 63 = .ok (.iinc 3 1, 3) := by decide +kernel
theorem dX5_isRing_66 : decode cX5_isRing 66 = .ok (.goto (-46), 3) := by decide +kernel
theorem dX5_isRing_69 : decode cX5_isRing 69 = .ok (.iinc 1 1, 3) := by decide +kernel
theorem dX5_isRing_72 : decode cX5_isRing 72 = .ok (.goto (-70), 3) := by decide +kernel
theorem dX5_isRing_75 : decode cX5_isRing 75 = .ok (.aload_n 0, 1) := by decide +kernel
theorem dX5_isRing_76 : decode cX5_isRing 76 = .ok (.getfield 16, 3) := by decide +kernel
theorem dX5_isRing_79 : decode cX5_isRing 79 = .ok (.iconst 3, 1) := by decide +kernel
theorem dX5_isRing_80 : decode cX5_isRing 80 = .ok (.if_icmp .lt 7, 3) := by decide +kernel
theorem dX5_isRing_83 : decode cX5_isRing 83 = .ok (.iconst 1, 1) := by decide +kernel
theorem dX5_isRing_84 : decode cX5_isRing 84 = .ok (.goto 4, 3) := by decide +kernel
theorem dX5_isRing_87 : decode cX5_isRing 87 = .ok (.iconst 0, 1) := by decide +kernel
theorem dX5_isRing_88 : decode cX5_isRing 88 = .ok (.ireturn, 1) := by decide +kernel
set_option maxHeartbeats 4000000 in
set_option maxRecDepth 100000 in
theorem tX5_isRing (l : Launch) (G : Gg) (b0 : Nat) {K : Kk} {R : Rr} {M : Mm} {r : Nat} {res : Int32} (hm : mX5_isRing K R M r = some (res)) : CT l G b0 yX5_isRing cX5_isRing 4 (some .boolean) (rmz 3 49) [.ref r] K R M (some (.int res)) K R M := by
  refine ct_of (by decide +kernel) (Nat.le_of_ble_eq_true rfl) (fun w hq => ?_)
  have hw := hq.b
  change w 0 0 0 [(0, .ref r)] [] K R M
  replace hm := h_start hm
  unfold mX5_isRing at hm
  obtain ⟨h1, m21⟩ := h_ck hm
  clear hm
  refine r_iconst (v := 0) hw dX5_isRing_0 rfl ?_
  obtain ⟨i2, ei2, m22⟩ := h_nm m21
  clear m21
  refine r_topI (w := w) ei2 ?_
  refine r_istore_n hw dX5_isRing_1 rfl (by decide) rfl ?_
  refine r_sub hw [1, 0] rfl ?_
  obtain ⟨v2, n02, hn2, hv2⟩ := h_lp m22
  clear m22
  have L2 : ∀ n : Nat, ∀ (i3 : Int32), it (mX5_isRing_L2 K R M r) n (i3) = some v2 → w 0 0 2 [(0, .ref r), (1, .int i3)] [] K R M := by
    intro n2
    induction n2 with
    | zero => intro i3 hz; exact absurd hz h_it0
    | succ n2 ih2 =>
      intro i3 m23
      replace m23 : (mX5_isRing_B2 K R M r i3).bind (Sum.elim (it (mX5_isRing_L2 K R M r) n2) some) = some v2 := m23
      unfold mX5_isRing_B2 at m23
      refine r_iload_n hw dX5_isRing_2 1 rfl ?_
      refine r_aload_n hw dX5_isRing_3 0 rfl ?_
      refine r_getI hw fO_X5_16 h1 dX5_isRing_4 ?_
      refine r_icmp_ge (tgt := 75) hw dX5_isRing_7 (by decide) (fun c4 => ?_) (fun c4 => ?_)
      · have m24 := h_if_f c4 m23
        clear m23
        have m25 := h_ex m24 hv2
        clear m24
        refine r_aload_n hw dX5_isRing_75 0 rfl ?_
        refine r_getI hw fO_X5_16 h1 dX5_isRing_76 ?_
        refine r_iconst (v := 3) hw dX5_isRing_79 rfl ?_
        refine r_icmp_lt (tgt := 87) hw dX5_isRing_80 (by decide) (fun c5 => ?_) (fun c5 => ?_)
        · have m26 := h_if_t c5 m25
          clear m25
          refine r_iconst (v := 0) hw dX5_isRing_87 rfl ?_
          cases h_ret m26
          exact r_zreturn hq isB_0 rfl rfl dX5_isRing_88
        · have m27 := h_if_f c5 m25
          clear m25
          refine r_iconst (v := 1) hw dX5_isRing_83 rfl ?_
          refine r_goto (tgt := 88) hw dX5_isRing_84 (by decide) ?_
          cases h_ret m27
          exact r_zreturn hq isB_1 rfl rfl dX5_isRing_88
      · have m28 := h_if_t c4 m23
        clear m23
        refine r_aload_n hw dX5_isRing_10 0 rfl ?_
        refine r_iload_n hw dX5_isRing_11 1 rfl ?_
        refine r_iconst (v := 1) hw dX5_isRing_12 rfl ?_
        refine r_iadd hw dX5_isRing_13 ?_
        obtain ⟨i6, g6, m29⟩ := h_bd m28
        clear m28
        refine r_callV1 hw (tX5_wrap l G b0 g6) lB_X5_wrap lI_X5_wrap mL_X5_40 (c := 5) rfl h1 rfl (Nat.le_of_ble_eq_true rfl) (Nat.le_of_ble_eq_true rfl) rfl (Nat.le_of_ble_eq_true rfl) dX5_isRing_14 ?_
        refine r_istore_n hw dX5_isRing_17 rfl (by decide) rfl ?_
        refine r_iconst (v := 0) hw dX5_isRing_18 rfl ?_
        obtain ⟨i7, ei7, m30⟩ := h_nm m29
        clear m29
        refine r_topI (w := w) ei7 ?_
        refine r_istore_n hw dX5_isRing_19 rfl (by decide) rfl ?_
        refine r_sub hw [2, 3, 1, 0] rfl ?_
        obtain ⟨v20, n020, hn20, hv20⟩ := h_lp m30
        clear m30
        have L20 : ∀ n : Nat, ∀ (i8 : Int32), it (mX5_isRing_L20 K R M r i3 i6) n (i8) = some v20 → w 0 0 20 [(0, .ref r), (1, .int i3), (2, .int i6), (3, .int i8)] [] K R M := by
          intro n20
          induction n20 with
          | zero => intro i8 hz; exact absurd hz h_it0
          | succ n20 ih20 =>
            intro i8 m31
            replace m31 : (mX5_isRing_B20 K R M r i3 i6 i8).bind (Sum.elim (it (mX5_isRing_L20 K R M r i3 i6) n20) some) = some v20 := m31
            unfold mX5_isRing_B20 at m31
            have J63 : ∀ (i9 : Int32), (mX5_isRing_J63 K R M r i3 i6 i9).bind (Sum.elim (it (mX5_isRing_L20 K R M r i3 i6) n20) some) = some v20 → w 0 0 63 [(0, .ref r), (1, .int i3), (2, .int i6), (3, .int i9)] [] K R M := by
              intro i9 m32
              unfold mX5_isRing_J63 at m32
              obtain ⟨i10, ei10, m33⟩ := h_nm m32
              clear m32
              refine r_iinc (j := 3) (v := i10) hw dX5_isRing_63 rfl (by rw [ei10]; rfl) (by decide) rfl ?_
              refine r_goto (tgt := 20) hw dX5_isRing_66 (by decide) ?_
              refine r_sub hw [1, 2, 3, 0] rfl ?_
              exact ih20 _ m33
            refine r_iload_n hw dX5_isRing_20 3 rfl ?_
            refine r_aload_n hw dX5_isRing_21 0 rfl ?_
            refine r_getI hw fO_X5_16 h1 dX5_isRing_22 ?_
            refine r_icmp_ge (tgt := 69) hw dX5_isRing_25 (by decide) (fun c11 => ?_) (fun c11 => ?_)
            · have m34 := h_if_f c11 m31
              clear m31
              have m35 := h_ex m34 hv20
              clear m34
              obtain ⟨i12, ei12, m36⟩ := h_nm m35
              clear m35
              refine r_iinc (j := 1) (v := i12) hw dX5_isRing_69 rfl (by rw [ei12]; rfl) (by decide) rfl ?_
              refine r_goto (tgt := 2) hw dX5_isRing_72 (by decide) ?_
              refine r_sub hw [1, 0] rfl ?_
              exact ih2 _ m36
            · have m37 := h_if_t c11 m31
              clear m31
              refine r_iload_n hw dX5_isRing_28 3 rfl ?_
              refine r_iload_n hw dX5_isRing_29 1 rfl ?_
              refine r_icmp_eq (tgt := 63) hw dX5_isRing_30 (by decide) (fun c13 => ?_) (fun c13 => ?_)
              · have m38 := h_if_t c13 m37
                clear m37
                exact J63 _ m38
              · have m39 := h_if_f c13 m37
                clear m37
                refine r_iload_n hw dX5_isRing_33 3 rfl ?_
                refine r_iload_n hw dX5_isRing_34 2 rfl ?_
                refine r_icmp_eq (tgt := 63) hw dX5_isRing_35 (by decide) (fun c14 => ?_) (fun c14 => ?_)
                · have m40 := h_if_t c14 m39
                  clear m39
                  exact J63 _ m40
                · have m41 := h_if_f c14 m39
                  clear m39
                  refine r_aload_n hw dX5_isRing_38 0 rfl ?_
                  refine r_iload_n hw dX5_isRing_39 1 rfl ?_
                  refine r_iload_n hw dX5_isRing_40 2 rfl ?_
                  refine r_aload_n hw dX5_isRing_41 0 rfl ?_
                  obtain ⟨q15, bq15, m42⟩ := h_bd m41
                  clear m41
                  refine r_getR hw fO_X5_7 h1 bq15 dX5_isRing_42 ?_
                  refine r_iload_n hw dX5_isRing_45 3 rfl ?_
                  obtain ⟨h16, m43⟩ := h_ck m42
                  clear m42
                  refine r_iaload hw h16 dX5_isRing_46 ?_
                  refine r_aload_n hw dX5_isRing_47 0 rfl ?_
                  obtain ⟨q17, bq17, m44⟩ := h_bd m43
                  clear m43
                  refine r_getR hw fO_X5_13 h1 bq17 dX5_isRing_48 ?_
                  refine r_iload_n hw dX5_isRing_51 3 rfl ?_
                  obtain ⟨h18, m45⟩ := h_ck m44
                  clear m44
                  refine r_iaload hw h18 dX5_isRing_52 ?_
                  obtain ⟨l19, g19, m46⟩ := h_bd m45
                  clear m45
                  refine r_callV1 hw (tX5_sideAt l G b0 g19) lB_X5_sideAt lI_X5_sideAt mL_X5_51 (c := 5) rfl h1 rfl (Nat.le_of_ble_eq_true rfl) (Nat.le_of_ble_eq_true rfl) rfl (Nat.le_of_ble_eq_true rfl) dX5_isRing_53 ?_
                  refine r_lconst (v := 0) hw dX5_isRing_56 rfl ?_
                  refine r_lcmp_gt (tgt := 63) hw dX5_isRing_57 dX5_isRing_58 (by decide) (fun c20 => ?_) (fun c20 => ?_)
                  · have m47 := h_if_f c20 m46
                    clear m46
                    exact J63 _ m47
                  · have m48 := h_if_t c20 m46
                    clear m46
                    have m49 := h_ex m48 hv20
                    clear m48
                    have m50 := h_ex m49 hv2
                    clear m49
                    refine r_iconst (v := 0) hw dX5_isRing_61 rfl ?_
                    cases h_ret m50
                    exact r_zreturn hq isB_0 rfl rfl dX5_isRing_62
        exact L20 n020 _ hn20
  exact L2 n02 _ hn2
theorem dX7_isWithin_0 : decode cX7_isWithin 0 = .ok (.iload_n 0, 1) := by decide +kernel
theorem dX7_isWithin_1 : decode cX7_isWithin 1 = .ok (.iload_n 1, 1) := by decide +kernel
theorem dX7_isWithin_2 : decode cX7_isWithin 2 = .ok (.ineg, 1) := by decide +kernel
theorem dX7_isWithin_3 : decode cX7_isWithin 3 = .ok (.if_icmp .lt 12, 3) := by decide +kernel
theorem dX7_isWithin_6 : decode cX7_isWithin 6 = .ok (.iload_n 0, 1) := by decide +kernel
theorem dX7_isWithin_7 : decode cX7_isWithin 7 = .ok (.iload_n 1, 1) := by decide +kernel
theorem dX7_isWithin_8 : decode cX7_isWithin 8 = .ok (.if_icmp .gt 7, 3) := by decide +kernel
theorem dX7_isWithin_11 : decode cX7_isWithin 11 = .ok (.iconst 1, 1) := by decide +kernel
theorem dX7_isWithin_12 : decode cX7_isWithin 12 = .ok (.goto 4, 3) := by decide +kernel
theorem dX7_isWithin_15 : decode cX7_isWithin 15 = .ok (.iconst 0, 1) := by decide +kernel
theorem dX7_isWithin_16 : decode cX7_isWithin 16 = .ok (.ireturn, 1) := by decide +kernel
set_option maxHeartbeats 4000000 in
set_option maxRecDepth 100000 in
theorem tX7_isWithin (l : Launch) (G : Gg) (b0 : Nat) {K : Kk} {R : Rr} {M : Mm} {a0 : Int32} {a1 : Int32} {res : Int32} (hm : mX7_isWithin K R M a0 a1 = some (res)) : CT l G b0 yX7_isWithin cX7_isWithin 2 (some .boolean) (rmz 1 0) [.int a0, .int a1] K R M (some (.int res)) K R M := by
  refine ct_of (by decide +kernel) (Nat.le_of_ble_eq_true rfl) (fun w hq => ?_)
  have hw := hq.b
  change w 0 0 0 [(0, .int a0), (1, .int a1)] [] K R M
  replace hm := h_start hm
  unfold mX7_isWithin at hm
  refine r_iload_n hw dX7_isWithin_0 0 rfl ?_
  refine r_iload_n hw dX7_isWithin_1 1 rfl ?_
  refine r_ineg hw dX7_isWithin_2 ?_
  refine r_icmp_lt (tgt := 15) hw dX7_isWithin_3 (by decide) (fun c1 => ?_) (fun c1 => ?_)
  · have m3 := h_if_t c1 hm
    clear hm
    refine r_iconst (v := 0) hw dX7_isWithin_15 rfl ?_
    cases h_ret m3
    exact r_zreturn hq isB_0 rfl rfl dX7_isWithin_16
  · have m4 := h_if_f c1 hm
    clear hm
    refine r_iload_n hw dX7_isWithin_6 0 rfl ?_
    refine r_iload_n hw dX7_isWithin_7 1 rfl ?_
    refine r_icmp_gt (tgt := 15) hw dX7_isWithin_8 (by decide) (fun c2 => ?_) (fun c2 => ?_)
    · have m5 := h_if_f c2 m4
      clear m4
      refine r_iconst (v := 0) hw dX7_isWithin_15 rfl ?_
      cases h_ret m5
      exact r_zreturn hq isB_0 rfl rfl dX7_isWithin_16
    · have m6 := h_if_t c2 m4
      clear m4
      refine r_iconst (v := 1) hw dX7_isWithin_11 rfl ?_
      refine r_goto (tgt := 16) hw dX7_isWithin_12 (by decide) ?_
      cases h_ret m6
      exact r_zreturn hq isB_1 rfl rfl dX7_isWithin_16
theorem dX7_isPlace_0 : decode cX7_isPlace 0 = .ok (.iload_n 0, 1) := by decide +kernel
theorem dX7_isPlace_1 : decode cX7_isPlace 1 = .ok (.ldc_w 319, 3) := by decide +kernel
theorem dX7_isPlace_4 : decode cX7_isPlace 4 = .ok (.invokestatic 189, 3) := by decide +kernel
theorem dX7_isPlace_7 : decode cX7_isPlace 7 = .ok (.ifCond .eq 17, 3) := by decide +kernel
theorem dX7_isPlace_10 : decode cX7_isPlace 10 = .ok (.iload_n 1, 1) := by decide +kernel
theorem dX7_isPlace_11 : decode cX7_isPlace 11 = .ok (.ldc_w 319, 3) := by decide +kernel
theorem dX7_isPlace_14 : decode cX7_isPlace 14 = .ok (.invokestatic 189, 3) := by decide +kernel
theorem dX7_isPlace_17 : decode cX7_isPlace 17 = .ok (.ifCond .eq 7, 3) := by decide +kernel
theorem dX7_isPlace_20 : decode cX7_isPlace 20 = .ok (.iconst 1, 1) := by decide +kernel
theorem dX7_isPlace_21 : decode cX7_isPlace 21 = .ok (.goto 4, 3) := by decide +kernel
theorem dX7_isPlace_24 : decode cX7_isPlace 24 = .ok (.iconst 0, 1) := by decide +kernel
theorem dX7_isPlace_25 : decode cX7_isPlace 25 = .ok (.ireturn, 1) := by decide +kernel
set_option maxHeartbeats 4000000 in
set_option maxRecDepth 100000 in
theorem tX7_isPlace (l : Launch) (G : Gg) (b0 : Nat) {K : Kk} {R : Rr} {M : Mm} {a0 : Int32} {a1 : Int32} {res : Int32} (hm : mX7_isPlace K R M a0 a1 = some (res)) : CT l G b0 yX7_isPlace cX7_isPlace 2 (some .boolean) (rmz 2 21) [.int a0, .int a1] K R M (some (.int res)) K R M := by
  refine ct_of (by decide +kernel) (Nat.le_of_ble_eq_true rfl) (fun w hq => ?_)
  have hw := hq.b
  change w 0 0 0 [(0, .int a0), (1, .int a1)] [] K R M
  replace hm := h_start hm
  unfold mX7_isPlace at hm
  refine r_iload_n hw dX7_isPlace_0 0 rfl ?_
  refine r_ldcw (v := 100000) hw dX7_isPlace_1 kW_X7_319 ?_
  obtain ⟨i1, g1, m5⟩ := h_bd hm
  clear hm
  refine r_callS1 hw (tX7_isWithin l G b0 g1) lB_X7_isWithin sT_X7_isWithin mL_X7_189 rfl rfl (Nat.le_of_ble_eq_true rfl) (Nat.le_of_ble_eq_true rfl) rfl (Nat.le_of_ble_eq_true rfl) dX7_isPlace_4 ?_
  refine r_if_eq (tgt := 24) hw dX7_isPlace_7 (by decide) (fun c2 => ?_) (fun c2 => ?_)
  · have m6 := h_if_t c2 m5
    clear m5
    refine r_iconst (v := 0) hw dX7_isPlace_24 rfl ?_
    cases h_ret m6
    exact r_zreturn hq isB_0 rfl rfl dX7_isPlace_25
  · have m7 := h_if_f c2 m5
    clear m5
    refine r_iload_n hw dX7_isPlace_10 1 rfl ?_
    refine r_ldcw (v := 100000) hw dX7_isPlace_11 kW_X7_319 ?_
    obtain ⟨i3, g3, m8⟩ := h_bd m7
    clear m7
    refine r_callS1 hw (tX7_isWithin l G b0 g3) lB_X7_isWithin sT_X7_isWithin mL_X7_189 rfl rfl (Nat.le_of_ble_eq_true rfl) (Nat.le_of_ble_eq_true rfl) rfl (Nat.le_of_ble_eq_true rfl) dX7_isPlace_14 ?_
    refine r_if_eq (tgt := 24) hw dX7_isPlace_17 (by decide) (fun c4 => ?_) (fun c4 => ?_)
    · have m9 := h_if_t c4 m8
      clear m8
      refine r_iconst (v := 0) hw dX7_isPlace_24 rfl ?_
      cases h_ret m9
      exact r_zreturn hq isB_0 rfl rfl dX7_isPlace_25
    · have m10 := h_if_f c4 m8
      clear m8
      refine r_iconst (v := 1) hw dX7_isPlace_20 rfl ?_
      refine r_goto (tgt := 25) hw dX7_isPlace_21 (by decide) ?_
      cases h_ret m10
      exact r_zreturn hq isB_1 rfl rfl dX7_isPlace_25
theorem dX5_isInBounds_0 : decode cX5_isInBounds 0 = .ok (.iconst 0, 1) := by decide +kernel
theorem dX5_isInBounds_1 : decode cX5_isInBounds 1 = .ok (.istore_n 1, 1) := by decide +kernel
theorem dX5_isInBounds_2 : decode cX5_isInBounds 2 = .ok (.iload_n 1, 1) := by decide +kernel
theorem dX5_isInBounds_3 : decode cX5_isInBounds 3 = .ok (.aload_n 0, 1) := by decide +kernel
theorem dX5_isInBounds_4 : decode cX5_isInBounds 4 = .ok (.getfield 16, 3) := by decide +kernel
theorem dX5_isInBounds_7 : decode cX5_isInBounds 7 = .ok (.if_icmp .ge 29, 3) := by decide +kernel
theorem dX5_isInBounds_10 : decode cX5_isInBounds 10 = .ok (.aload_n 0, 1) := by decide +kernel
theorem dX5_isInBounds_11 : decode cX5_isInBounds 11 = .ok (.getfield 7, 3) := by decide +kernel
theorem dX5_isInBounds_14 : decode cX5_isInBounds 14 = .ok (.iload_n 1, 1) := by decide +kernel
theorem dX5_isInBounds_15 : decode cX5_isInBounds 15 = .ok (.iaload, 1) := by decide +kernel
theorem dX5_isInBounds_16 : decode cX5_isInBounds 16 = .ok (.aload_n 0, 1) := by decide +kernel
theorem dX5_isInBounds_17 : decode cX5_isInBounds 17 = .ok (.getfield 13, 3) := by decide +kernel
theorem dX5_isInBounds_20 : decode cX5_isInBounds 20 = .ok (.iload_n 1, 1) := by decide +kernel
theorem dX5_isInBounds_21 : decode cX5_isInBounds 21 = .ok (.iaload, 1) := by decide +kernel
theorem dX5_isInBounds_22 : decode cX5_isInBounds 22 = .ok (.invokestatic 61, 3) := by decide +kernel
theorem dX5_isInBounds_25 : decode cX5_isInBounds 25 = .ok (.ifCond .ne 5, 3) := by decide +kernel
theorem dX5_isInBounds_28 : decode cX5_isInBounds 28 = .ok (.iconst 0, 1) := by decide +kernel
theorem dX5_isInBounds_29 : decode cX5_isInBounds 29 = .ok (.ireturn, 1) := by decide +kernel
theorem dX5_isInBounds_30 : decode cX5_isInBounds 30 = .ok (.iinc 1 1, 3) := by decide +kernel
theorem dX5_isInBounds_33 : decode cX5_isInBounds 33 = .ok (.goto (-31), 3) := by decide +kernel
theorem dX5_isInBounds_36 : decode cX5_isInBounds 36 = .ok (.iconst 1, 1) := by decide +kernel
theorem dX5_isInBounds_37 : decode cX5_isInBounds 37 = .ok (.ireturn, 1) := by decide +kernel
set_option maxHeartbeats 4000000 in
set_option maxRecDepth 100000 in
theorem tX5_isInBounds (l : Launch) (G : Gg) (b0 : Nat) {K : Kk} {R : Rr} {M : Mm} {r : Nat} {res : Int32} (hm : mX5_isInBounds K R M r = some (res)) : CT l G b0 yX5_isInBounds cX5_isInBounds 2 (some .boolean) (rmz 3 42) [.ref r] K R M (some (.int res)) K R M := by
  refine ct_of (by decide +kernel) (Nat.le_of_ble_eq_true rfl) (fun w hq => ?_)
  have hw := hq.b
  change w 0 0 0 [(0, .ref r)] [] K R M
  replace hm := h_start hm
  unfold mX5_isInBounds at hm
  obtain ⟨h1, m12⟩ := h_ck hm
  clear hm
  refine r_iconst (v := 0) hw dX5_isInBounds_0 rfl ?_
  obtain ⟨i2, ei2, m13⟩ := h_nm m12
  clear m12
  refine r_topI (w := w) ei2 ?_
  refine r_istore_n hw dX5_isInBounds_1 rfl (by decide) rfl ?_
  refine r_sub hw [1, 0] rfl ?_
  obtain ⟨v2, n02, hn2, hv2⟩ := h_lp m13
  clear m13
  have L2 : ∀ n : Nat, ∀ (i3 : Int32), it (mX5_isInBounds_L2 K R M r) n (i3) = some v2 → w 0 0 2 [(0, .ref r), (1, .int i3)] [] K R M := by
    intro n2
    induction n2 with
    | zero => intro i3 hz; exact absurd hz h_it0
    | succ n2 ih2 =>
      intro i3 m14
      replace m14 : (mX5_isInBounds_B2 K R M r i3).bind (Sum.elim (it (mX5_isInBounds_L2 K R M r) n2) some) = some v2 := m14
      unfold mX5_isInBounds_B2 at m14
      refine r_iload_n hw dX5_isInBounds_2 1 rfl ?_
      refine r_aload_n hw dX5_isInBounds_3 0 rfl ?_
      refine r_getI hw fO_X5_16 h1 dX5_isInBounds_4 ?_
      refine r_icmp_ge (tgt := 36) hw dX5_isInBounds_7 (by decide) (fun c4 => ?_) (fun c4 => ?_)
      · have m15 := h_if_f c4 m14
        clear m14
        have m16 := h_ex m15 hv2
        clear m15
        refine r_iconst (v := 1) hw dX5_isInBounds_36 rfl ?_
        cases h_ret m16
        exact r_zreturn hq isB_1 rfl rfl dX5_isInBounds_37
      · have m17 := h_if_t c4 m14
        clear m14
        refine r_aload_n hw dX5_isInBounds_10 0 rfl ?_
        obtain ⟨q5, bq5, m18⟩ := h_bd m17
        clear m17
        refine r_getR hw fO_X5_7 h1 bq5 dX5_isInBounds_11 ?_
        refine r_iload_n hw dX5_isInBounds_14 1 rfl ?_
        obtain ⟨h6, m19⟩ := h_ck m18
        clear m18
        refine r_iaload hw h6 dX5_isInBounds_15 ?_
        refine r_aload_n hw dX5_isInBounds_16 0 rfl ?_
        obtain ⟨q7, bq7, m20⟩ := h_bd m19
        clear m19
        refine r_getR hw fO_X5_13 h1 bq7 dX5_isInBounds_17 ?_
        refine r_iload_n hw dX5_isInBounds_20 1 rfl ?_
        obtain ⟨h8, m21⟩ := h_ck m20
        clear m20
        refine r_iaload hw h8 dX5_isInBounds_21 ?_
        obtain ⟨i9, g9, m22⟩ := h_bd m21
        clear m21
        refine r_callSN1 hw (tX7_isPlace l G b0 g9) lB_X7_isPlace sT_X7_isPlace (nw_X5_61) rfl (Nat.le_of_ble_eq_true rfl) (Nat.le_of_ble_eq_true rfl) rfl (Nat.le_of_ble_eq_true rfl) dX5_isInBounds_22 ?_
        refine r_if_ne (tgt := 30) hw dX5_isInBounds_25 (by decide) (fun c10 => ?_) (fun c10 => ?_)
        · have m23 := h_if_f c10 m22
          clear m22
          obtain ⟨i11, ei11, m24⟩ := h_nm m23
          clear m23
          refine r_iinc (j := 1) (v := i11) hw dX5_isInBounds_30 rfl (by rw [ei11]; rfl) (by decide) rfl ?_
          refine r_goto (tgt := 2) hw dX5_isInBounds_33 (by decide) ?_
          refine r_sub hw [1, 0] rfl ?_
          exact ih2 _ m24
        · have m25 := h_if_t c10 m22
          clear m22
          have m26 := h_ex m25 hv2
          clear m25
          refine r_iconst (v := 0) hw dX5_isInBounds_28 rfl ?_
          cases h_ret m26
          exact r_zreturn hq isB_0 rfl rfl dX5_isInBounds_29
  exact L2 n02 _ hn2
theorem dX5_holdsAll_0 : decode cX5_holdsAll 0 = .ok (.iconst 0, 1) := by decide +kernel
theorem dX5_holdsAll_1 : decode cX5_holdsAll 1 = .ok (.istore_n 2, 1) := by decide +kernel
theorem dX5_holdsAll_2 : decode cX5_holdsAll 2 = .ok (.iload_n 2, 1) := by decide +kernel
theorem dX5_holdsAll_3 : decode cX5_holdsAll 3 = .ok (.aload_n 1, 1) := by decide +kernel
theorem dX5_holdsAll_4 : decode cX5_holdsAll 4 = .ok (.getfield 16, 3) := by decide +kernel
theorem dX5_holdsAll_7 : decode cX5_holdsAll 7 = .ok (.if_icmp .ge 30, 3) := by decide +kernel
theorem dX5_holdsAll_10 : decode cX5_holdsAll 10 = .ok (.aload_n 0, 1) := by decide +kernel
theorem dX5_holdsAll_11 : decode cX5_holdsAll 11 = .ok (.aload_n 1, 1) := by decide +kernel
theorem dX5_holdsAll_12 : decode cX5_holdsAll 12 = .ok (.getfield 7, 3) := by decide +kernel
theorem dX5_holdsAll_15 : decode cX5_holdsAll 15 = .ok (.iload_n 2, 1) := by decide +kernel
theorem dX5_holdsAll_16 : decode cX5_holdsAll 16 = .ok (.iaload, 1) := by decide +kernel
theorem dX5_holdsAll_17 : decode cX5_holdsAll 17 = .ok (.aload_n 1, 1) := by decide +kernel
theorem dX5_holdsAll_18 : decode cX5_holdsAll 18 = .ok (.getfield 13, 3) := by decide +kernel
theorem dX5_holdsAll_21 : decode cX5_holdsAll 21 = .ok (.iload_n 2, 1) := by decide +kernel
theorem dX5_holdsAll_22 : decode cX5_holdsAll 22 = .ok (.iaload, 1) := by decide +kernel
theorem dX5_holdsAll_23 : decode cX5_holdsAll 23 = .ok (.invokevirtual 65, 3) := by decide +kernel
theorem dX5_holdsAll_26 : decode cX5_holdsAll 26 = .ok (.ifCond .ne 5, 3) := by decide +kernel
theorem dX5_holdsAll_29 : decode cX5_holdsAll 29 = .ok (.iconst 0, 1) := by decide +kernel
theorem dX5_holdsAll_30 : decode cX5_holdsAll 30 = .ok (.ireturn, 1) := by decide +kernel
theorem dX5_holdsAll_31 : decode cX5_holdsAll 31 = .ok (.iinc 2 1, 3) := by decide +kernel
theorem dX5_holdsAll_34 : decode cX5_holdsAll 34 = .ok (.goto (-32), 3) := by decide +kernel
theorem dX5_holdsAll_37 : decode cX5_holdsAll 37 = .ok (.iconst 1, 1) := by decide +kernel
theorem dX5_holdsAll_38 : decode cX5_holdsAll 38 = .ok (.ireturn, 1) := by decide +kernel
set_option maxHeartbeats 4000000 in
set_option maxRecDepth 100000 in
theorem tX5_holdsAll (l : Launch) (G : Gg) (b0 : Nat) {K : Kk} {R : Rr} {M : Mm} {r : Nat} {a0 : Nat} {res : Int32} (hm : mX5_holdsAll K R M r a0 = some (res)) : CT l G b0 yX5_holdsAll cX5_holdsAll 3 (some .boolean) (rmz 4 72) [.ref r, .ref a0] K R M (some (.int res)) K R M := by
  refine ct_of (by decide +kernel) (Nat.le_of_ble_eq_true rfl) (fun w hq => ?_)
  have hw := hq.b
  change w 0 0 0 [(0, .ref r), (1, .ref a0)] [] K R M
  replace hm := h_start hm
  unfold mX5_holdsAll at hm
  obtain ⟨h1, m13⟩ := h_ck hm
  clear hm
  obtain ⟨h2, m14⟩ := h_ck m13
  clear m13
  refine r_iconst (v := 0) hw dX5_holdsAll_0 rfl ?_
  obtain ⟨i3, ei3, m15⟩ := h_nm m14
  clear m14
  refine r_topI (w := w) ei3 ?_
  refine r_istore_n hw dX5_holdsAll_1 rfl (by decide) rfl ?_
  refine r_sub hw [1, 2, 0] rfl ?_
  obtain ⟨v2, n02, hn2, hv2⟩ := h_lp m15
  clear m15
  have L2 : ∀ n : Nat, ∀ (i4 : Int32), it (mX5_holdsAll_L2 K R M r a0) n (i4) = some v2 → w 0 0 2 [(0, .ref r), (1, .ref a0), (2, .int i4)] [] K R M := by
    intro n2
    induction n2 with
    | zero => intro i4 hz; exact absurd hz h_it0
    | succ n2 ih2 =>
      intro i4 m16
      replace m16 : (mX5_holdsAll_B2 K R M r a0 i4).bind (Sum.elim (it (mX5_holdsAll_L2 K R M r a0) n2) some) = some v2 := m16
      unfold mX5_holdsAll_B2 at m16
      refine r_iload_n hw dX5_holdsAll_2 2 rfl ?_
      refine r_aload_n hw dX5_holdsAll_3 1 rfl ?_
      refine r_getI hw fO_X5_16 h2 dX5_holdsAll_4 ?_
      refine r_icmp_ge (tgt := 37) hw dX5_holdsAll_7 (by decide) (fun c5 => ?_) (fun c5 => ?_)
      · have m17 := h_if_f c5 m16
        clear m16
        have m18 := h_ex m17 hv2
        clear m17
        refine r_iconst (v := 1) hw dX5_holdsAll_37 rfl ?_
        cases h_ret m18
        exact r_zreturn hq isB_1 rfl rfl dX5_holdsAll_38
      · have m19 := h_if_t c5 m16
        clear m16
        refine r_aload_n hw dX5_holdsAll_10 0 rfl ?_
        refine r_aload_n hw dX5_holdsAll_11 1 rfl ?_
        obtain ⟨q6, bq6, m20⟩ := h_bd m19
        clear m19
        refine r_getR hw fO_X5_7 h2 bq6 dX5_holdsAll_12 ?_
        refine r_iload_n hw dX5_holdsAll_15 2 rfl ?_
        obtain ⟨h7, m21⟩ := h_ck m20
        clear m20
        refine r_iaload hw h7 dX5_holdsAll_16 ?_
        refine r_aload_n hw dX5_holdsAll_17 1 rfl ?_
        obtain ⟨q8, bq8, m22⟩ := h_bd m21
        clear m21
        refine r_getR hw fO_X5_13 h2 bq8 dX5_holdsAll_18 ?_
        refine r_iload_n hw dX5_holdsAll_21 2 rfl ?_
        obtain ⟨h9, m23⟩ := h_ck m22
        clear m22
        refine r_iaload hw h9 dX5_holdsAll_22 ?_
        obtain ⟨i10, g10, m24⟩ := h_bd m23
        clear m23
        refine r_callV1 hw (tX5_holds l G b0 g10) lB_X5_holds lI_X5_holds mL_X5_65 (c := 5) rfl h1 rfl (Nat.le_of_ble_eq_true rfl) (Nat.le_of_ble_eq_true rfl) rfl (Nat.le_of_ble_eq_true rfl) dX5_holdsAll_23 ?_
        refine r_if_ne (tgt := 31) hw dX5_holdsAll_26 (by decide) (fun c11 => ?_) (fun c11 => ?_)
        · have m25 := h_if_f c11 m24
          clear m24
          obtain ⟨i12, ei12, m26⟩ := h_nm m25
          clear m25
          refine r_iinc (j := 2) (v := i12) hw dX5_holdsAll_31 rfl (by rw [ei12]; rfl) (by decide) rfl ?_
          refine r_goto (tgt := 2) hw dX5_holdsAll_34 (by decide) ?_
          refine r_sub hw [1, 2, 0] rfl ?_
          exact ih2 _ m26
        · have m27 := h_if_t c11 m24
          clear m24
          have m28 := h_ex m27 hv2
          clear m27
          refine r_iconst (v := 0) hw dX5_holdsAll_29 rfl ?_
          cases h_ret m28
          exact r_zreturn hq isB_0 rfl rfl dX5_holdsAll_30
  exact L2 n02 _ hn2
theorem dX5_isNoneLeftOfSide_0 : decode cX5_isNoneLeftOfSide 0 = .ok (.aload_n 0, 1) := by decide +kernel
theorem dX5_isNoneLeftOfSide_1 : decode cX5_isNoneLeftOfSide 1 = .ok (.iload_n 1, 1) := by decide +kernel
theorem dX5_isNoneLeftOfSide_2 : decode cX5_isNoneLeftOfSide 2 = .ok (.iconst 1, 1) := by decide +kernel
theorem dX5_isNoneLeftOfSide_3 : decode cX5_isNoneLeftOfSide 3 = .ok (.iadd, 1) := by decide +kernel
theorem dX5_isNoneLeftOfSide_4 : decode cX5_isNoneLeftOfSide 4 = .ok (.invokevirtual 40, 3) := by decide +kernel
theorem dX5_isNoneLeftOfSide_7 : decode cX5_isNoneLeftOfSide 7 = .ok (.istore_n 3, 1) := by decide +kernel
theorem dX5_isNoneLeftOfSide_8 : decode cX5_isNoneLeftOfSide 8 = .ok (.iconst 0, 1) := by decide +kernel
theorem dX5_isNoneLeftOfSide_9 : decode cX5_isNoneLeftOfSide 9 = .ok (.istore 4, 2) := by decide +kernel
theorem dX5_isNoneLeftOfSide_11 : decode cX5_isNoneLeftOfSide 11 = .ok (.iload 4, 2) := by decide +kernel
theorem dX5_isNoneLeftOfSide_13 : decode cX5_isNoneLeftOfSide 13 = .ok (.aload_n 2, 1) := by decide +kernel
theorem dX5_isNoneLeftOfSide_14 : decode cX5_isNoneLeftOfSide 14 = .ok (.getfield 16, 3) := by decide +kernel
theorem dX5_isNoneLeftOfSide_17 : decode cX5_isNoneLeftOfSide 17 = .ok (.if_icmp .ge 36, 3) := by decide +kernel
theorem dX5_isNoneLeftOfSide_20 : decode cX5_isNoneLeftOfSide 20 = .ok (.aload_n 0, 1) := by decide +kernel
theorem dX5_isNoneLeftOfSide_21 : decode cX5_isNoneLeftOfSide 21 = .ok (.iload_n 1, 1) := by decide +kernel
theorem dX5_isNoneLeftOfSide_22 : decode cX5_isNoneLeftOfSide 22 = .ok (.iload_n 3, 1) := by decide +kernel
theorem dX5_isNoneLeftOfSide_23 : decode cX5_isNoneLeftOfSide 23 = .ok (.aload_n 2, 1) := by decide +kernel
theorem dX5_isNoneLeftOfSide_24 : decode cX5_isNoneLeftOfSide 24 = .ok (.getfield 7, 3) := by decide +kernel
theorem dX5_isNoneLeftOfSide_27 : decode cX5_isNoneLeftOfSide 27 = .ok (.iload 4, 2) := by decide +kernel
theorem dX5_isNoneLeftOfSide_29 : decode cX5_isNoneLeftOfSide 29 = .ok (.iaload, 1) := by decide +kernel
theorem dX5_isNoneLeftOfSide_30 : decode cX5_isNoneLeftOfSide 30 = .ok (.aload_n 2, 1) := by decide +kernel
theorem dX5_isNoneLeftOfSide_31 : decode cX5_isNoneLeftOfSide 31 = .ok (.getfield 13, 3) := by decide +kernel
theorem dX5_isNoneLeftOfSide_34 : decode cX5_isNoneLeftOfSide 34 = .ok (.iload 4, 2) := by decide +kernel
theorem dX5_isNoneLeftOfSide_36 : decode cX5_isNoneLeftOfSide 36 = .ok (.iaload, 1) := by decide +kernel
theorem dX5_isNoneLeftOfSide_37 : decode cX5_isNoneLeftOfSide 37 = .ok (.invokevirtual 51, 3) := by decide +kernel
theorem dX5_isNoneLeftOfSide_40 : decode cX5_isNoneLeftOfSide 40 = .ok (.lconst 0, 1) := by decide +kernel
theorem dX5_isNoneLeftOfSide_41 : decode cX5_isNoneLeftOfSide 41 = .ok (.lcmp, 1) := by decide +kernel
theorem dX5_isNoneLeftOfSide_42 : decode cX5_isNoneLeftOfSide 42 = .ok (.ifCond .le 5, 3) := by decide +kernel
theorem dX5_isNoneLeftOfSide_45 : decode cX5_isNoneLeftOfSide 45 = .ok (.iconst 0, 1) := by decide +kernel
theorem dX5_isNoneLeftOfSide_46 : decode cX5_isNoneLeftOfSide 46 = .ok (.ireturn, 1) := by decide +kernel
theorem dX5_isNoneLeftOfSide_47 : decode cX5_isNoneLeftOfSide 47 = .ok (.iinc 4 1, 3) := by decide +kernel
theorem dX5_isNoneLeftOfSide_50 : decode cX5_isNoneLeftOfSide 50 = .ok (.goto (-39), 3) := by decide +kernel
theorem dX5_isNoneLeftOfSide_53 : decode cX5_isNoneLeftOfSide 53 = .ok (.iconst 1, 1) := by decide +kernel
theorem dX5_isNoneLeftOfSide_54 : decode cX5_isNoneLeftOfSide 54 = .ok (.ireturn, 1) := by decide +kernel
set_option maxHeartbeats 4000000 in
set_option maxRecDepth 100000 in
theorem tX5_isNoneLeftOfSide (l : Launch) (G : Gg) (b0 : Nat) {K : Kk} {R : Rr} {M : Mm} {r : Nat} {a0 : Int32} {a1 : Nat} {res : Int32} (hm : mX5_isNoneLeftOfSide K R M r a0 a1 = some (res)) : CT l G b0 yX5_isNoneLeftOfSide cX5_isNoneLeftOfSide 5 (some .boolean) (rmz 3 49) [.ref r, .int a0, .ref a1] K R M (some (.int res)) K R M := by
  refine ct_of (by decide +kernel) (Nat.le_of_ble_eq_true rfl) (fun w hq => ?_)
  have hw := hq.b
  change w 0 0 0 [(0, .ref r), (1, .int a0), (2, .ref a1)] [] K R M
  replace hm := h_start hm
  unfold mX5_isNoneLeftOfSide at hm
  obtain ⟨h1, m14⟩ := h_ck hm
  clear hm
  obtain ⟨h2, m15⟩ := h_ck m14
  clear m14
  refine r_aload_n hw dX5_isNoneLeftOfSide_0 0 rfl ?_
  refine r_iload_n hw dX5_isNoneLeftOfSide_1 1 rfl ?_
  refine r_iconst (v := 1) hw dX5_isNoneLeftOfSide_2 rfl ?_
  refine r_iadd hw dX5_isNoneLeftOfSide_3 ?_
  obtain ⟨i3, g3, m16⟩ := h_bd m15
  clear m15
  refine r_callV1 hw (tX5_wrap l G b0 g3) lB_X5_wrap lI_X5_wrap mL_X5_40 (c := 5) rfl h1 rfl (Nat.le_of_ble_eq_true rfl) (Nat.le_of_ble_eq_true rfl) rfl (Nat.le_of_ble_eq_true rfl) dX5_isNoneLeftOfSide_4 ?_
  refine r_istore_n hw dX5_isNoneLeftOfSide_7 rfl (by decide) rfl ?_
  refine r_iconst (v := 0) hw dX5_isNoneLeftOfSide_8 rfl ?_
  obtain ⟨i4, ei4, m17⟩ := h_nm m16
  clear m16
  refine r_topI (w := w) ei4 ?_
  refine r_istore hw dX5_isNoneLeftOfSide_9 (by decide) rfl ?_
  refine r_sub hw [2, 3, 4, 1, 0] rfl ?_
  obtain ⟨v11, n011, hn11, hv11⟩ := h_lp m17
  clear m17
  have L11 : ∀ n : Nat, ∀ (i5 : Int32), it (mX5_isNoneLeftOfSide_L11 K R M r a0 a1 i3) n (i5) = some v11 → w 0 0 11 [(0, .ref r), (1, .int a0), (2, .ref a1), (3, .int i3), (4, .int i5)] [] K R M := by
    intro n11
    induction n11 with
    | zero => intro i5 hz; exact absurd hz h_it0
    | succ n11 ih11 =>
      intro i5 m18
      replace m18 : (mX5_isNoneLeftOfSide_B11 K R M r a0 a1 i3 i5).bind (Sum.elim (it (mX5_isNoneLeftOfSide_L11 K R M r a0 a1 i3) n11) some) = some v11 := m18
      unfold mX5_isNoneLeftOfSide_B11 at m18
      refine r_iload hw dX5_isNoneLeftOfSide_11 4 rfl ?_
      refine r_aload_n hw dX5_isNoneLeftOfSide_13 2 rfl ?_
      refine r_getI hw fO_X5_16 h2 dX5_isNoneLeftOfSide_14 ?_
      refine r_icmp_ge (tgt := 53) hw dX5_isNoneLeftOfSide_17 (by decide) (fun c6 => ?_) (fun c6 => ?_)
      · have m19 := h_if_f c6 m18
        clear m18
        have m20 := h_ex m19 hv11
        clear m19
        refine r_iconst (v := 1) hw dX5_isNoneLeftOfSide_53 rfl ?_
        cases h_ret m20
        exact r_zreturn hq isB_1 rfl rfl dX5_isNoneLeftOfSide_54
      · have m21 := h_if_t c6 m18
        clear m18
        refine r_aload_n hw dX5_isNoneLeftOfSide_20 0 rfl ?_
        refine r_iload_n hw dX5_isNoneLeftOfSide_21 1 rfl ?_
        refine r_iload_n hw dX5_isNoneLeftOfSide_22 3 rfl ?_
        refine r_aload_n hw dX5_isNoneLeftOfSide_23 2 rfl ?_
        obtain ⟨q7, bq7, m22⟩ := h_bd m21
        clear m21
        refine r_getR hw fO_X5_7 h2 bq7 dX5_isNoneLeftOfSide_24 ?_
        refine r_iload hw dX5_isNoneLeftOfSide_27 4 rfl ?_
        obtain ⟨h8, m23⟩ := h_ck m22
        clear m22
        refine r_iaload hw h8 dX5_isNoneLeftOfSide_29 ?_
        refine r_aload_n hw dX5_isNoneLeftOfSide_30 2 rfl ?_
        obtain ⟨q9, bq9, m24⟩ := h_bd m23
        clear m23
        refine r_getR hw fO_X5_13 h2 bq9 dX5_isNoneLeftOfSide_31 ?_
        refine r_iload hw dX5_isNoneLeftOfSide_34 4 rfl ?_
        obtain ⟨h10, m25⟩ := h_ck m24
        clear m24
        refine r_iaload hw h10 dX5_isNoneLeftOfSide_36 ?_
        obtain ⟨l11, g11, m26⟩ := h_bd m25
        clear m25
        refine r_callV1 hw (tX5_sideAt l G b0 g11) lB_X5_sideAt lI_X5_sideAt mL_X5_51 (c := 5) rfl h1 rfl (Nat.le_of_ble_eq_true rfl) (Nat.le_of_ble_eq_true rfl) rfl (Nat.le_of_ble_eq_true rfl) dX5_isNoneLeftOfSide_37 ?_
        refine r_lconst (v := 0) hw dX5_isNoneLeftOfSide_40 rfl ?_
        refine r_lcmp_le (tgt := 47) hw dX5_isNoneLeftOfSide_41 dX5_isNoneLeftOfSide_42 (by decide) (fun c12 => ?_) (fun c12 => ?_)
        · have m27 := h_if_t c12 m26
          clear m26
          obtain ⟨i13, ei13, m28⟩ := h_nm m27
          clear m27
          refine r_iinc (j := 4) (v := i13) hw dX5_isNoneLeftOfSide_47 rfl (by rw [ei13]; rfl) (by decide) rfl ?_
          refine r_goto (tgt := 11) hw dX5_isNoneLeftOfSide_50 (by decide) ?_
          refine r_sub hw [1, 2, 3, 4, 0] rfl ?_
          exact ih11 _ m28
        · have m29 := h_if_f c12 m26
          clear m26
          have m30 := h_ex m29 hv11
          clear m29
          refine r_iconst (v := 0) hw dX5_isNoneLeftOfSide_45 rfl ?_
          cases h_ret m30
          exact r_zreturn hq isB_0 rfl rfl dX5_isNoneLeftOfSide_46
  exact L11 n011 _ hn11
theorem dX5_hasSidePartingFrom_0 : decode cX5_hasSidePartingFrom 0 = .ok (.iconst 0, 1) := by decide +kernel
theorem dX5_hasSidePartingFrom_1 : decode cX5_hasSidePartingFrom 1 = .ok (.istore_n 2, 1) := by decide +kernel
theorem dX5_hasSidePartingFrom_2 : decode cX5_hasSidePartingFrom 2 = .ok (.iload_n 2, 1) := by decide +kernel
theorem dX5_hasSidePartingFrom_3 : decode cX5_hasSidePartingFrom 3 = .ok (.aload_n 0, 1) := by decide +kernel
theorem dX5_hasSidePartingFrom_4 : decode cX5_hasSidePartingFrom 4 = .ok (.getfield 16, 3) := by decide +kernel
theorem dX5_hasSidePartingFrom_7 : decode cX5_hasSidePartingFrom 7 = .ok (.if_icmp .ge 20, 3) := by decide +kernel
theorem dX5_hasSidePartingFrom_10 : decode cX5_hasSidePartingFrom 10 = .ok (.aload_n 0, 1) := by decide +kernel
theorem dX5_hasSidePartingFrom_11 : decode cX5_hasSidePartingFrom 11 = .ok (.iload_n 2, 1) := by decide +kernel
theorem dX5_hasSidePartingFrom_12 : decode cX5_hasSidePartingFrom 12 = .ok (.aload_n 1, 1) := by decide +kernel
theorem dX5_hasSidePartingFrom_13 : decode cX5_hasSidePartingFrom 13 = .ok (.invokevirtual 72, 3) := by decide +kernel
theorem dX5_hasSidePartingFrom_16 : decode cX5_hasSidePartingFrom 16 = .ok (.ifCond .eq 5, 3) := by decide +kernel
theorem dX5_hasSidePartingFrom_19 : decode cX5_hasSidePartingFrom 19 = .ok (.iconst 1, 1) := by decide +kernel
theorem dX5_hasSidePartingFrom_20 : decode cX5_hasSidePartingFrom 20 = .ok (.ireturn, 1) := by decide +kernel
theorem dX5_hasSidePartingFrom_21 : decode cX5_hasSidePartingFrom 21 = .ok (.iinc 2 1, 3) := by decide +kernel
theorem dX5_hasSidePartingFrom_24 : decode cX5_hasSidePartingFrom 24 = .ok (.goto (-22), 3) := by decide +kernel
theorem dX5_hasSidePartingFrom_27 : decode cX5_hasSidePartingFrom 27 = .ok (.iconst 0, 1) := by decide +kernel
theorem dX5_hasSidePartingFrom_28 : decode cX5_hasSidePartingFrom 28 = .ok (.ireturn, 1) := by decide +kernel
set_option maxHeartbeats 4000000 in
set_option maxRecDepth 100000 in
theorem tX5_hasSidePartingFrom (l : Launch) (G : Gg) (b0 : Nat) {K : Kk} {R : Rr} {M : Mm} {r : Nat} {a0 : Nat} {res : Int32} (hm : mX5_hasSidePartingFrom K R M r a0 = some (res)) : CT l G b0 yX5_hasSidePartingFrom cX5_hasSidePartingFrom 3 (some .boolean) (rmz 4 73) [.ref r, .ref a0] K R M (some (.int res)) K R M := by
  refine ct_of (by decide +kernel) (Nat.le_of_ble_eq_true rfl) (fun w hq => ?_)
  have hw := hq.b
  change w 0 0 0 [(0, .ref r), (1, .ref a0)] [] K R M
  replace hm := h_start hm
  unfold mX5_hasSidePartingFrom at hm
  obtain ⟨h1, m9⟩ := h_ck hm
  clear hm
  obtain ⟨h2, m10⟩ := h_ck m9
  clear m9
  refine r_iconst (v := 0) hw dX5_hasSidePartingFrom_0 rfl ?_
  obtain ⟨i3, ei3, m11⟩ := h_nm m10
  clear m10
  refine r_topI (w := w) ei3 ?_
  refine r_istore_n hw dX5_hasSidePartingFrom_1 rfl (by decide) rfl ?_
  refine r_sub hw [1, 2, 0] rfl ?_
  obtain ⟨v2, n02, hn2, hv2⟩ := h_lp m11
  clear m11
  have L2 : ∀ n : Nat, ∀ (i4 : Int32), it (mX5_hasSidePartingFrom_L2 K R M r a0) n (i4) = some v2 → w 0 0 2 [(0, .ref r), (1, .ref a0), (2, .int i4)] [] K R M := by
    intro n2
    induction n2 with
    | zero => intro i4 hz; exact absurd hz h_it0
    | succ n2 ih2 =>
      intro i4 m12
      replace m12 : (mX5_hasSidePartingFrom_B2 K R M r a0 i4).bind (Sum.elim (it (mX5_hasSidePartingFrom_L2 K R M r a0) n2) some) = some v2 := m12
      unfold mX5_hasSidePartingFrom_B2 at m12
      refine r_iload_n hw dX5_hasSidePartingFrom_2 2 rfl ?_
      refine r_aload_n hw dX5_hasSidePartingFrom_3 0 rfl ?_
      refine r_getI hw fO_X5_16 h1 dX5_hasSidePartingFrom_4 ?_
      refine r_icmp_ge (tgt := 27) hw dX5_hasSidePartingFrom_7 (by decide) (fun c5 => ?_) (fun c5 => ?_)
      · have m13 := h_if_f c5 m12
        clear m12
        have m14 := h_ex m13 hv2
        clear m13
        refine r_iconst (v := 0) hw dX5_hasSidePartingFrom_27 rfl ?_
        cases h_ret m14
        exact r_zreturn hq isB_0 rfl rfl dX5_hasSidePartingFrom_28
      · have m15 := h_if_t c5 m12
        clear m12
        refine r_aload_n hw dX5_hasSidePartingFrom_10 0 rfl ?_
        refine r_iload_n hw dX5_hasSidePartingFrom_11 2 rfl ?_
        refine r_aload_n hw dX5_hasSidePartingFrom_12 1 rfl ?_
        obtain ⟨i6, g6, m16⟩ := h_bd m15
        clear m15
        refine r_callV1 hw (tX5_isNoneLeftOfSide l G b0 g6) lB_X5_isNoneLeftOfSide lI_X5_isNoneLeftOfSide mL_X5_72 (c := 5) rfl h1 rfl (Nat.le_of_ble_eq_true rfl) (Nat.le_of_ble_eq_true rfl) rfl (Nat.le_of_ble_eq_true rfl) dX5_hasSidePartingFrom_13 ?_
        refine r_if_eq (tgt := 21) hw dX5_hasSidePartingFrom_16 (by decide) (fun c7 => ?_) (fun c7 => ?_)
        · have m17 := h_if_t c7 m16
          clear m16
          obtain ⟨i8, ei8, m18⟩ := h_nm m17
          clear m17
          refine r_iinc (j := 2) (v := i8) hw dX5_hasSidePartingFrom_21 rfl (by rw [ei8]; rfl) (by decide) rfl ?_
          refine r_goto (tgt := 2) hw dX5_hasSidePartingFrom_24 (by decide) ?_
          refine r_sub hw [1, 2, 0] rfl ?_
          exact ih2 _ m18
        · have m19 := h_if_f c7 m16
          clear m16
          have m20 := h_ex m19 hv2
          clear m19
          refine r_iconst (v := 1) hw dX5_hasSidePartingFrom_19 rfl ?_
          cases h_ret m20
          exact r_zreturn hq isB_1 rfl rfl dX5_hasSidePartingFrom_20
  exact L2 n02 _ hn2
theorem dX5_liesOver_0 : decode cX5_liesOver 0 = .ok (.aload_n 0, 1) := by decide +kernel
theorem dX5_liesOver_1 : decode cX5_liesOver 1 = .ok (.aload_n 1, 1) := by decide +kernel
theorem dX5_liesOver_2 : decode cX5_liesOver 2 = .ok (.invokevirtual 68, 3) := by decide +kernel
theorem dX5_liesOver_5 : decode cX5_liesOver 5 = .ok (.ifCond .ne 15, 3) := by decide +kernel
theorem dX5_liesOver_8 : decode cX5_liesOver 8 = .ok (.aload_n 1, 1) := by decide +kernel
theorem dX5_liesOver_9 : decode cX5_liesOver 9 = .ok (.aload_n 0, 1) := by decide +kernel
theorem dX5_liesOver_10 : decode cX5_liesOver 10 = .ok (.invokevirtual 68, 3) := by decide +kernel
theorem dX5_liesOver_13 : decode cX5_liesOver 13 = .ok (.ifCond .ne 7, 3) := by decide +kernel
theorem dX5_liesOver_16 : decode cX5_liesOver 16 = .ok (.iconst 1, 1) := by decide +kernel
theorem dX5_liesOver_17 : decode cX5_liesOver 17 = .ok (.goto 4, 3) := by decide +kernel
theorem dX5_liesOver_20 : decode cX5_liesOver 20 = .ok (.iconst 0, 1) := by decide +kernel
theorem dX5_liesOver_21 : decode cX5_liesOver 21 = .ok (.ireturn, 1) := by decide +kernel
set_option maxHeartbeats 4000000 in
set_option maxRecDepth 100000 in
theorem tX5_liesOver (l : Launch) (G : Gg) (b0 : Nat) {K : Kk} {R : Rr} {M : Mm} {r : Nat} {a0 : Nat} {res : Int32} (hm : mX5_liesOver K R M r a0 = some (res)) : CT l G b0 yX5_liesOver cX5_liesOver 2 (some .boolean) (rmz 5 95) [.ref r, .ref a0] K R M (some (.int res)) K R M := by
  refine ct_of (by decide +kernel) (Nat.le_of_ble_eq_true rfl) (fun w hq => ?_)
  have hw := hq.b
  change w 0 0 0 [(0, .ref r), (1, .ref a0)] [] K R M
  replace hm := h_start hm
  unfold mX5_liesOver at hm
  obtain ⟨h1, m7⟩ := h_ck hm
  clear hm
  obtain ⟨h2, m8⟩ := h_ck m7
  clear m7
  refine r_aload_n hw dX5_liesOver_0 0 rfl ?_
  refine r_aload_n hw dX5_liesOver_1 1 rfl ?_
  obtain ⟨i3, g3, m9⟩ := h_bd m8
  clear m8
  refine r_callV1 hw (tX5_hasSidePartingFrom l G b0 g3) lB_X5_hasSidePartingFrom lI_X5_hasSidePartingFrom mL_X5_68 (c := 5) rfl h1 rfl (Nat.le_of_ble_eq_true rfl) (Nat.le_of_ble_eq_true rfl) rfl (Nat.le_of_ble_eq_true rfl) dX5_liesOver_2 ?_
  refine r_if_ne (tgt := 20) hw dX5_liesOver_5 (by decide) (fun c4 => ?_) (fun c4 => ?_)
  · have m10 := h_if_f c4 m9
    clear m9
    refine r_iconst (v := 0) hw dX5_liesOver_20 rfl ?_
    cases h_ret m10
    exact r_zreturn hq isB_0 rfl rfl dX5_liesOver_21
  · have m11 := h_if_t c4 m9
    clear m9
    refine r_aload_n hw dX5_liesOver_8 1 rfl ?_
    refine r_aload_n hw dX5_liesOver_9 0 rfl ?_
    obtain ⟨i5, g5, m12⟩ := h_bd m11
    clear m11
    refine r_callV1 hw (tX5_hasSidePartingFrom l G b0 g5) lB_X5_hasSidePartingFrom lI_X5_hasSidePartingFrom mL_X5_68 (c := 5) rfl h2 rfl (Nat.le_of_ble_eq_true rfl) (Nat.le_of_ble_eq_true rfl) rfl (Nat.le_of_ble_eq_true rfl) dX5_liesOver_10 ?_
    refine r_if_ne (tgt := 20) hw dX5_liesOver_13 (by decide) (fun c6 => ?_) (fun c6 => ?_)
    · have m13 := h_if_f c6 m12
      clear m12
      refine r_iconst (v := 0) hw dX5_liesOver_20 rfl ?_
      cases h_ret m13
      exact r_zreturn hq isB_0 rfl rfl dX5_liesOver_21
    · have m14 := h_if_t c6 m12
      clear m12
      refine r_iconst (v := 1) hw dX5_liesOver_16 rfl ?_
      refine r_goto (tgt := 21) hw dX5_liesOver_17 (by decide) ?_
      cases h_ret m14
      exact r_zreturn hq isB_1 rfl rfl dX5_liesOver_21
theorem dX6_greatestDivisor_0 : decode cX6_greatestDivisor 0 = .ok (.iload_n 0, 1) := by decide +kernel
theorem dX6_greatestDivisor_1 : decode cX6_greatestDivisor 1 = .ok (.istore_n 2, 1) := by decide +kernel
theorem dX6_greatestDivisor_2 : decode cX6_greatestDivisor 2 = .ok (.iload_n 1, 1) := by decide +kernel
theorem dX6_greatestDivisor_3 : decode cX6_greatestDivisor 3 = .ok (.istore_n 3, 1) := by decide +kernel
theorem dX6_greatestDivisor_4 : decode cX6_greatestDivisor 4 = .ok (.iconst 0, 1) := by decide +kernel
theorem dX6_greatestDivisor_5 : decode cX6_greatestDivisor 5 = .ok (.istore 4, 2) := by decide +kernel
theorem dX6_greatestDivisor_7 : decode cX6_greatestDivisor 7 = .ok (.iload 4, 2) := by decide +kernel
theorem dX6_greatestDivisor_9 : decode cX6_greatestDivisor 9 = .ok (.bipush 64, 2) := by decide +kernel
theorem dX6_greatestDivisor_11 : decode cX6_greatestDivisor 11 = .ok (.if_icmp .ge 23, 3) := by decide +kernel
theorem dX6_greatestDivisor_14 : decode cX6_greatestDivisor 14 = .ok (.iload_n 3, 1) := by decide +kernel
theorem dX6_greatestDivisor_15 : decode cX6_greatestDivisor 15 = .ok (.ifCond .eq 19, 3) := by decide +kernel
theorem dX6_greatestDivisor_18 : decode cX6_greatestDivisor 18 = .ok (.iload_n 2, 1) := by decide +kernel
theorem dX6_greatestDivisor_19 : decode cX6_greatestDivisor 19 = .ok (.iload_n 3, 1) := by decide +kernel
theorem dX6_greatestDivisor_20 : decode cX6_greatestDivisor 20 = .ok (.irem, 1) := by decide +kernel
theorem dX6_greatestDivisor_21 : decode cX6_greatestDivisor 21 = .ok (.istore 5, 2) := by decide +kernel
theorem dX6_greatestDivisor_23 : decode cX6_greatestDivisor 23 = .ok (.iload_n 3, 1) := by decide +kernel
theorem dX6_greatestDivisor_24 : decode cX6_greatestDivisor 24 = .ok (.istore_n 2, 1) := by decide +kernel
theorem dX6_greatestDivisor_25 : decode cX6_greatestDivisor 25 = .ok (.iload 5, 2) := by decide +kernel
theorem dX6_greatestDivisor_27 : decode cX6_greatestDivisor 27 = .ok (.istore_n 3, 1) := by decide +kernel
theorem dX6_greatestDivisor_28 : decode cX6_greatestDivisor 28 = .ok (.iinc 4 1, 3) := by decide +kernel
theorem dX6_greatestDivisor_31 : decode cX6_greatestDivisor 31 = .ok (.goto (-24), 3) := by decide +kernel
theorem dX6_greatestDivisor_34 : decode cX6_greatestDivisor 34 = .ok (.iload_n 2, 1) := by decide +kernel
theorem dX6_greatestDivisor_35 : decode cX6_greatestDivisor 35 = .ok (.ireturn, 1) := by decide +kernel
set_option maxHeartbeats 4000000 in
set_option maxRecDepth 100000 in
theorem tX6_greatestDivisor (l : Launch) (G : Gg) (b0 : Nat) {K : Kk} {R : Rr} {M : Mm} {a0 : Int32} {a1 : Int32} {res : Int32} (hm : mX6_greatestDivisor K R M a0 a1 = some (res)) : CT l G b0 yX6_greatestDivisor cX6_greatestDivisor 6 (some .int) (rmz 1 0) [.int a0, .int a1] K R M (some (.int res)) K R M := by
  refine ct_of (by decide +kernel) (Nat.le_of_ble_eq_true rfl) (fun w hq => ?_)
  have hw := hq.b
  change w 0 0 0 [(0, .int a0), (1, .int a1)] [] K R M
  replace hm := h_start hm
  unfold mX6_greatestDivisor at hm
  refine r_iload_n hw dX6_greatestDivisor_0 0 rfl ?_
  refine r_istore_n hw dX6_greatestDivisor_1 rfl (by decide) rfl ?_
  refine r_iload_n hw dX6_greatestDivisor_2 2 rfl ?_
  refine r_istore_n hw dX6_greatestDivisor_3 rfl (by decide) rfl ?_
  refine r_iconst (v := 0) hw dX6_greatestDivisor_4 rfl ?_
  obtain ⟨i1, ei1, m10⟩ := h_nm hm
  clear hm
  refine r_topI (w := w) ei1 ?_
  refine r_istore hw dX6_greatestDivisor_5 (by decide) rfl ?_
  refine r_sub hw [2, 1, 0] rfl ?_
  obtain ⟨v7, n07, hn7, hv7⟩ := h_lp m10
  clear m10
  have L7 : ∀ n : Nat, ∀ (i2 : Int32) (i3 : Int32) (i4 : Int32), it (mX6_greatestDivisor_L7 K R M) n (i2, i3, i4) = some v7 → w 0 0 7 [(2, .int i2), (3, .int i3), (4, .int i4)] [] K R M := by
    intro n7
    induction n7 with
    | zero => intro i2 i3 i4 hz; exact absurd hz h_it0
    | succ n7 ih7 =>
      intro i2 i3 i4 m11
      replace m11 : (mX6_greatestDivisor_B7 K R M i2 i3 i4).bind (Sum.elim (it (mX6_greatestDivisor_L7 K R M) n7) some) = some v7 := m11
      unfold mX6_greatestDivisor_B7 at m11
      refine r_iload hw dX6_greatestDivisor_7 2 rfl ?_
      refine r_bipush (v := 64) hw dX6_greatestDivisor_9 rfl ?_
      refine r_icmp_ge (tgt := 34) hw dX6_greatestDivisor_11 (by decide) (fun c5 => ?_) (fun c5 => ?_)
      · have m12 := h_if_f c5 m11
        clear m11
        have m13 := h_ex m12 hv7
        clear m12
        refine r_iload_n hw dX6_greatestDivisor_34 0 rfl ?_
        cases h_ret m13
        exact r_ireturn hq rfl rfl dX6_greatestDivisor_35
      · have m14 := h_if_t c5 m11
        clear m11
        refine r_iload_n hw dX6_greatestDivisor_14 1 rfl ?_
        refine r_if_eq (tgt := 34) hw dX6_greatestDivisor_15 (by decide) (fun c6 => ?_) (fun c6 => ?_)
        · have m15 := h_if_t c6 m14
          clear m14
          have m16 := h_ex m15 hv7
          clear m15
          refine r_iload_n hw dX6_greatestDivisor_34 0 rfl ?_
          cases h_ret m16
          exact r_ireturn hq rfl rfl dX6_greatestDivisor_35
        · have m17 := h_if_f c6 m14
          clear m14
          refine r_iload_n hw dX6_greatestDivisor_18 0 rfl ?_
          refine r_iload_n hw dX6_greatestDivisor_19 1 rfl ?_
          obtain ⟨h7, m18⟩ := h_ck m17
          clear m17
          refine r_irem hw dX6_greatestDivisor_20 h7 ?_
          obtain ⟨i8, ei8, m19⟩ := h_nm m18
          clear m18
          refine r_topI (w := w) ei8 ?_
          refine r_istore hw dX6_greatestDivisor_21 (by decide) rfl ?_
          refine r_iload_n hw dX6_greatestDivisor_23 2 rfl ?_
          refine r_istore_n hw dX6_greatestDivisor_24 rfl (by decide) rfl ?_
          refine r_iload hw dX6_greatestDivisor_25 1 rfl ?_
          refine r_istore_n hw dX6_greatestDivisor_27 rfl (by decide) rfl ?_
          obtain ⟨i9, ei9, m20⟩ := h_nm m19
          clear m19
          refine r_iinc (j := 3) (v := i9) hw dX6_greatestDivisor_28 rfl (by rw [ei9]; rfl) (by decide) rfl ?_
          refine r_goto (tgt := 7) hw dX6_greatestDivisor_31 (by decide) ?_
          refine r_sub hw [2, 1, 0] rfl ?_
          exact ih7 _ _ _ m20
  exact L7 n07 _ _ _ hn7
theorem dX6_firstNotBelow_0 : decode cX6_firstNotBelow 0 = .ok (.iconst 0, 1) := by decide +kernel
theorem dX6_firstNotBelow_1 : decode cX6_firstNotBelow 1 = .ok (.istore_n 3, 1) := by decide +kernel
theorem dX6_firstNotBelow_2 : decode cX6_firstNotBelow 2 = .ok (.aload_n 0, 1) := by decide +kernel
theorem dX6_firstNotBelow_3 : decode cX6_firstNotBelow 3 = .ok (.getfield 58, 3) := by decide +kernel
theorem dX6_firstNotBelow_6 : decode cX6_firstNotBelow 6 = .ok (.istore 4, 2) := by decide +kernel
theorem dX6_firstNotBelow_8 : decode cX6_firstNotBelow 8 = .ok (.iconst 0, 1) := by decide +kernel
theorem dX6_firstNotBelow_9 : decode cX6_firstNotBelow 9 = .ok (.istore 5, 2) := by decide +kernel
theorem dX6_firstNotBelow_11 : decode cX6_firstNotBelow 11 = .ok (.iload 5, 2) := by decide +kernel
theorem dX6_firstNotBelow_13 : decode cX6_firstNotBelow 13 = .ok (.bipush 32, 2) := by decide +kernel
theorem dX6_firstNotBelow_15 : decode cX6_firstNotBelow 15 = .ok (.if_icmp .ge 68, 3) := by decide +kernel
theorem dX6_firstNotBelow_18 : decode cX6_firstNotBelow 18 = .ok (.iload_n 3, 1) := by decide +kernel
theorem dX6_firstNotBelow_19 : decode cX6_firstNotBelow 19 = .ok (.iload 4, 2) := by decide +kernel
theorem dX6_firstNotBelow_21 : decode cX6_firstNotBelow 21 = .ok (.if_icmp .ge 62, 3) := by decide +kernel
theorem dX6_firstNotBelow_24 : decode cX6_firstNotBelow 24 = .ok (.iload_n 3, 1) := by decide +kernel
theorem dX6_firstNotBelow_25 : decode cX6_firstNotBelow 25 = .ok (.iload 4, 2) := by decide +kernel
theorem dX6_firstNotBelow_27 : decode cX6_firstNotBelow 27 = .ok (.iadd, 1) := by decide +kernel
theorem dX6_firstNotBelow_28 : decode cX6_firstNotBelow 28 = .ok (.iconst 2, 1) := by decide +kernel
theorem dX6_firstNotBelow_29 : decode cX6_firstNotBelow 29 = .ok (.idiv, 1) := by decide +kernel
theorem dX6_firstNotBelow_30 : decode cX6_firstNotBelow 30 = .ok (.istore 6, 2) := by decide +kernel
theorem dX6_firstNotBelow_32 : decode cX6_firstNotBelow 32 = .ok (.aload_n 0, 1) := by decide +kernel
theorem dX6_firstNotBelow_33 : decode cX6_firstNotBelow 33 = .ok (.getfield 9, 3) := by decide +kernel
theorem dX6_firstNotBelow_36 : decode cX6_firstNotBelow 36 = .ok (.iload 6, 2) := by decide +kernel
theorem dX6_firstNotBelow_38 : decode cX6_firstNotBelow 38 = .ok (.iaload, 1) := by decide +kernel
theorem dX6_firstNotBelow_39 : decode cX6_firstNotBelow 39 = .ok (.iload_n 1, 1) := by decide +kernel
theorem dX6_firstNotBelow_40 : decode cX6_firstNotBelow 40 = .ok (.if_icmp .lt 25, 3) := by decide +kernel
theorem dX6_firstNotBelow_43 : decode cX6_firstNotBelow 43 = .ok (.aload_n 0, 1) := by decide +kernel
theorem dX6_firstNotBelow_44 : decode cX6_firstNotBelow 44 = .ok (.getfield 9, 3) := by decide +kernel
theorem dX6_firstNotBelow_47 : decode cX6_firstNotBelow 47 = .ok (.iload 6, 2) := by decide +kernel
theorem dX6_firstNotBelow_49 : decode cX6_firstNotBelow 49 = .ok (.iaload, 1) := by decide +kernel
theorem dX6_firstNotBelow_50 : decode cX6_firstNotBelow 50 = .ok (.iload_n 1, 1) := by decide +kernel
theorem dX6_firstNotBelow_51 : decode cX6_firstNotBelow 51 = .ok (.if_icmp .ne 22, 3) := by decide +kernel
theorem dX6_firstNotBelow_54 : decode cX6_firstNotBelow 54 = .ok (.aload_n 0, 1) := by decide +kernel
theorem dX6_firstNotBelow_55 : decode cX6_firstNotBelow 55 = .ok (.getfield 15, 3) := by decide +kernel
theorem dX6_firstNotBelow_58 : decode cX6_firstNotBelow 58 = .ok (.iload 6, 2) := by decide +kernel
theorem dX6_firstNotBelow_60 : decode cX6_firstNotBelow 60 = .ok (.iaload, 1) := by decide +kernel
theorem dX6_firstNotBelow_61 : decode cX6_firstNotBelow 61 = .ok (.iload_n 2, 1) := by decide +kernel
theorem dX6_firstNotBelow_62 : decode cX6_firstNotBelow 62 = .ok (.if_icmp .ge 11, 3) := by decide +kernel
theorem dX6_firstNotBelow_65 : decode cX6_firstNotBelow 65 = .ok (.iload 6, 2) := by decide +kernel
theorem dX6_firstNotBelow_67 : decode cX6_firstNotBelow 67 = .ok (.iconst 1, 1) := by decide +kernel
theorem dX6_firstNotBelow_68 : decode cX6_firstNotBelow 68 = .ok (.iadd, 1) := by decide +kernel
theorem dX6_firstNotBelow_69 : decode cX6_firstNotBelow 69 = .ok (.istore_n 3, 1) := by decide +kernel
theorem dX6_firstNotBelow_70 : decode cX6_firstNotBelow 70 = .ok (.goto 7, 3) := by decide +kernel
theorem dX6_firstNotBelow_73 : decode cX6_firstNotBelow 73 = .ok (.iload 6, 2) := by decide +kernel
theorem dX6_firstNotBelow_75 : decode cX6_firstNotBelow 75 = .ok (.istore 4, 2) := by decide +kernel
theorem dX6_firstNotBelow_77 : decode cX6_firstNotBelow 77 = .ok (.iinc 5 1, 3) := by decide +kernel
theorem dX6_firstNotBelow_80 : decode cX6_firstNotBelow 80 = .ok (.goto (-69), 3) := by decide +kernel
theorem dX6_firstNotBelow_83 : decode cX6_firstNotBelow 83 = .ok (.iload_n 3, 1) := by decide +kernel
theorem dX6_firstNotBelow_84 : decode cX6_firstNotBelow 84 = .ok (.ireturn, 1) := by decide +kernel
set_option maxHeartbeats 4000000 in
set_option maxRecDepth 100000 in
theorem tX6_firstNotBelow (l : Launch) (G : Gg) (b0 : Nat) {K : Kk} {R : Rr} {M : Mm} {r : Nat} {a0 : Int32} {a1 : Int32} {res : Int32} (hm : mX6_firstNotBelow K R M r a0 a1 = some (res)) : CT l G b0 yX6_firstNotBelow cX6_firstNotBelow 7 (some .int) (rmz 1 0) [.ref r, .int a0, .int a1] K R M (some (.int res)) K R M := by
  refine ct_of (by decide +kernel) (Nat.le_of_ble_eq_true rfl) (fun w hq => ?_)
  have hw := hq.b
  change w 0 0 0 [(0, .ref r), (1, .int a0), (2, .int a1)] [] K R M
  replace hm := h_start hm
  unfold mX6_firstNotBelow at hm
  obtain ⟨h1, m29⟩ := h_ck hm
  clear hm
  refine r_iconst (v := 0) hw dX6_firstNotBelow_0 rfl ?_
  obtain ⟨i2, ei2, m30⟩ := h_nm m29
  clear m29
  refine r_topI (w := w) ei2 ?_
  refine r_istore_n hw dX6_firstNotBelow_1 rfl (by decide) rfl ?_
  refine r_aload_n hw dX6_firstNotBelow_2 1 rfl ?_
  refine r_getI hw fO_X6_58 h1 dX6_firstNotBelow_3 ?_
  obtain ⟨i3, ei3, m31⟩ := h_nm m30
  clear m30
  refine r_topI (w := w) ei3 ?_
  refine r_istore hw dX6_firstNotBelow_6 (by decide) rfl ?_
  refine r_iconst (v := 0) hw dX6_firstNotBelow_8 rfl ?_
  obtain ⟨i4, ei4, m32⟩ := h_nm m31
  clear m31
  refine r_topI (w := w) ei4 ?_
  refine r_istore hw dX6_firstNotBelow_9 (by decide) rfl ?_
  refine r_sub hw [3, 4, 5, 2, 1, 0] rfl ?_
  obtain ⟨v11, n011, hn11, hv11⟩ := h_lp m32
  clear m32
  have L11 : ∀ n : Nat, ∀ (i5 : Int32) (i6 : Int32) (i7 : Int32), it (mX6_firstNotBelow_L11 K R M r a0 a1) n (i5, i6, i7) = some v11 → w 0 0 11 [(0, .ref r), (1, .int a0), (2, .int a1), (3, .int i5), (4, .int i6), (5, .int i7)] [] K R M := by
    intro n11
    induction n11 with
    | zero => intro i5 i6 i7 hz; exact absurd hz h_it0
    | succ n11 ih11 =>
      intro i5 i6 i7 m33
      replace m33 : (mX6_firstNotBelow_B11 K R M r a0 a1 i5 i6 i7).bind (Sum.elim (it (mX6_firstNotBelow_L11 K R M r a0 a1) n11) some) = some v11 := m33
      unfold mX6_firstNotBelow_B11 at m33
      have J77 : ∀ (i8 : Int32) (i9 : Int32) (i10 : Int32), (mX6_firstNotBelow_J77 K R M r a0 a1 i8 i9 i10).bind (Sum.elim (it (mX6_firstNotBelow_L11 K R M r a0 a1) n11) some) = some v11 → w 0 0 77 [(0, .ref r), (1, .int a0), (2, .int a1), (3, .int i8), (4, .int i9), (5, .int i10)] [] K R M := by
        intro i8 i9 i10 m34
        unfold mX6_firstNotBelow_J77 at m34
        obtain ⟨i11, ei11, m35⟩ := h_nm m34
        clear m34
        refine r_iinc (j := 5) (v := i11) hw dX6_firstNotBelow_77 rfl (by rw [ei11]; rfl) (by decide) rfl ?_
        refine r_goto (tgt := 11) hw dX6_firstNotBelow_80 (by decide) ?_
        refine r_sub hw [1, 2, 3, 4, 5, 0] rfl ?_
        exact ih11 _ _ _ m35
      have J73 : ∀ (i12 : Int32) (i13 : Int32) (i14 : Int32), (mX6_firstNotBelow_J73 K R M r a0 a1 i12 i13 i14).bind (Sum.elim (it (mX6_firstNotBelow_L11 K R M r a0 a1) n11) some) = some v11 → w 0 0 73 [(0, .ref r), (1, .int a0), (2, .int a1), (3, .int i12), (5, .int i13), (6, .int i14)] [] K R M := by
        intro i12 i13 i14 m36
        unfold mX6_firstNotBelow_J73 at m36
        refine r_iload hw dX6_firstNotBelow_73 5 rfl ?_
        refine r_istore hw dX6_firstNotBelow_75 (by decide) rfl ?_
        refine r_sub hw [1, 2, 3, 4, 0, 5] rfl ?_
        exact J77 _ _ _ m36
      have J65 : ∀ (i15 : Int32) (i16 : Int32) (i17 : Int32), (mX6_firstNotBelow_J65 K R M r a0 a1 i15 i16 i17).bind (Sum.elim (it (mX6_firstNotBelow_L11 K R M r a0 a1) n11) some) = some v11 → w 0 0 65 [(0, .ref r), (1, .int a0), (2, .int a1), (4, .int i15), (5, .int i16), (6, .int i17)] [] K R M := by
        intro i15 i16 i17 m37
        unfold mX6_firstNotBelow_J65 at m37
        refine r_iload hw dX6_firstNotBelow_65 5 rfl ?_
        refine r_iconst (v := 1) hw dX6_firstNotBelow_67 rfl ?_
        refine r_iadd hw dX6_firstNotBelow_68 ?_
        obtain ⟨i18, ei18, m38⟩ := h_nm m37
        clear m37
        refine r_topI (w := w) ei18 ?_
        refine r_istore_n hw dX6_firstNotBelow_69 rfl (by decide) rfl ?_
        refine r_goto (tgt := 77) hw dX6_firstNotBelow_70 (by decide) ?_
        refine r_sub hw [1, 2, 3, 0, 4, 5] rfl ?_
        exact J77 _ _ _ m38
      refine r_iload hw dX6_firstNotBelow_11 5 rfl ?_
      refine r_bipush (v := 32) hw dX6_firstNotBelow_13 rfl ?_
      refine r_icmp_ge (tgt := 83) hw dX6_firstNotBelow_15 (by decide) (fun c19 => ?_) (fun c19 => ?_)
      · have m39 := h_if_f c19 m33
        clear m33
        have m40 := h_ex m39 hv11
        clear m39
        refine r_iload_n hw dX6_firstNotBelow_83 3 rfl ?_
        cases h_ret m40
        exact r_ireturn hq rfl rfl dX6_firstNotBelow_84
      · have m41 := h_if_t c19 m33
        clear m33
        refine r_iload_n hw dX6_firstNotBelow_18 3 rfl ?_
        refine r_iload hw dX6_firstNotBelow_19 4 rfl ?_
        refine r_icmp_ge (tgt := 83) hw dX6_firstNotBelow_21 (by decide) (fun c20 => ?_) (fun c20 => ?_)
        · have m42 := h_if_f c20 m41
          clear m41
          have m43 := h_ex m42 hv11
          clear m42
          refine r_iload_n hw dX6_firstNotBelow_83 3 rfl ?_
          cases h_ret m43
          exact r_ireturn hq rfl rfl dX6_firstNotBelow_84
        · have m44 := h_if_t c20 m41
          clear m41
          refine r_iload_n hw dX6_firstNotBelow_24 3 rfl ?_
          refine r_iload hw dX6_firstNotBelow_25 4 rfl ?_
          refine r_iadd hw dX6_firstNotBelow_27 ?_
          refine r_iconst (v := 2) hw dX6_firstNotBelow_28 rfl ?_
          refine r_idiv hw dX6_firstNotBelow_29 (by decide) ?_
          obtain ⟨i21, ei21, m45⟩ := h_nm m44
          clear m44
          refine r_topI (w := w) ei21 ?_
          refine r_istore hw dX6_firstNotBelow_30 (by decide) rfl ?_
          refine r_aload_n hw dX6_firstNotBelow_32 1 rfl ?_
          obtain ⟨q22, bq22, m46⟩ := h_bd m45
          clear m45
          refine r_getR hw fO_X6_9 h1 bq22 dX6_firstNotBelow_33 ?_
          refine r_iload hw dX6_firstNotBelow_36 0 rfl ?_
          obtain ⟨h23, m47⟩ := h_ck m46
          clear m46
          refine r_iaload hw h23 dX6_firstNotBelow_38 ?_
          refine r_iload_n hw dX6_firstNotBelow_39 2 rfl ?_
          refine r_icmp_lt (tgt := 65) hw dX6_firstNotBelow_40 (by decide) (fun c24 => ?_) (fun c24 => ?_)
          · have m48 := h_if_t c24 m47
            clear m47
            refine r_sub hw [1, 2, 3, 5, 6, 0] rfl ?_
            exact J65 _ _ _ m48
          · have m49 := h_if_f c24 m47
            clear m47
            refine r_aload_n hw dX6_firstNotBelow_43 1 rfl ?_
            refine r_getR hw fO_X6_9 h1 bq22 dX6_firstNotBelow_44 ?_
            refine r_iload hw dX6_firstNotBelow_47 0 rfl ?_
            refine r_iaload hw h23 dX6_firstNotBelow_49 ?_
            refine r_iload_n hw dX6_firstNotBelow_50 2 rfl ?_
            refine r_icmp_ne (tgt := 73) hw dX6_firstNotBelow_51 (by decide) (fun c25 => ?_) (fun c25 => ?_)
            · have m50 := h_if_f c25 m49
              clear m49
              refine r_sub hw [1, 2, 3, 4, 6, 0] rfl ?_
              exact J73 _ _ _ m50
            · have m51 := h_if_t c25 m49
              clear m49
              refine r_aload_n hw dX6_firstNotBelow_54 1 rfl ?_
              obtain ⟨q26, bq26, m52⟩ := h_bd m51
              clear m51
              refine r_getR hw fO_X6_15 h1 bq26 dX6_firstNotBelow_55 ?_
              refine r_iload hw dX6_firstNotBelow_58 0 rfl ?_
              obtain ⟨h27, m53⟩ := h_ck m52
              clear m52
              refine r_iaload hw h27 dX6_firstNotBelow_60 ?_
              refine r_iload_n hw dX6_firstNotBelow_61 3 rfl ?_
              refine r_icmp_ge (tgt := 73) hw dX6_firstNotBelow_62 (by decide) (fun c28 => ?_) (fun c28 => ?_)
              · have m54 := h_if_f c28 m53
                clear m53
                refine r_sub hw [1, 2, 3, 4, 6, 0] rfl ?_
                exact J73 _ _ _ m54
              · have m55 := h_if_t c28 m53
                clear m53
                refine r_sub hw [1, 2, 3, 5, 6, 0] rfl ?_
                exact J65 _ _ _ m55
  exact L11 n011 _ _ _ hn11
