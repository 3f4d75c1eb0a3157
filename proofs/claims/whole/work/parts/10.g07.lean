theorem dX7_shelve_0 : decode cX7_shelve 0 = .ok (.iload_n 1, 1) := by decide +kernel
theorem dX7_shelve_1 : decode cX7_shelve 1 = .ok (.invokestatic 297, 3) := by decide +kernel
theorem dX7_shelve_4 : decode cX7_shelve 4 = .ok (.ifCond .ne 7, 3) := by decide +kernel
theorem dX7_shelve_7 : decode cX7_shelve 7 = .ok (.ldc2_w 87, 3) := by decide +kernel
theorem dX7_shelve_10 : decode cX7_shelve 10 = .ok (.lreturn, 1) := by decide +kernel
theorem dX7_shelve_11 : decode cX7_shelve 11 = .ok (.aload_n 0, 1) := by decide +kernel
theorem dX7_shelve_12 : decode cX7_shelve 12 = .ok (.getfield 31, 3) := by decide +kernel
theorem dX7_shelve_15 : decode cX7_shelve 15 = .ok (.iload_n 1, 1) := by decide +kernel
theorem dX7_shelve_16 : decode cX7_shelve 16 = .ok (.aaload, 1) := by decide +kernel
theorem dX7_shelve_17 : decode cX7_shelve 17 = .ok (.aload_n 0, 1) := by decide +kernel
theorem dX7_shelve_18 : decode cX7_shelve 18 = .ok (.getfield 25, 3) := by decide +kernel
theorem dX7_shelve_21 : decode cX7_shelve 21 = .ok (.invokevirtual 145, 3) := by decide +kernel
theorem dX7_shelve_24 : decode cX7_shelve 24 = .ok (.invokevirtual 300, 3) := by decide +kernel
theorem dX7_shelve_27 : decode cX7_shelve 27 = .ok (.aload_n 0, 1) := by decide +kernel
theorem dX7_shelve_28 : decode cX7_shelve 28 = .ok (.getfield 36, 3) := by decide +kernel
theorem dX7_shelve_31 : decode cX7_shelve 31 = .ok (.iload_n 1, 1) := by decide +kernel
theorem dX7_shelve_32 : decode cX7_shelve 32 = .ok (.iconst 1, 1) := by decide +kernel
theorem dX7_shelve_33 : decode cX7_shelve 33 = .ok (.bastore, 1) := by decide +kernel
theorem dX7_shelve_34 : decode cX7_shelve 34 = .ok (.aload_n 0, 1) := by decide +kernel
theorem dX7_shelve_35 : decode cX7_shelve 35 = .ok (.getfield 31, 3) := by decide +kernel
theorem dX7_shelve_38 : decode cX7_shelve 38 = .ok (.iload_n 1, 1) := by decide +kernel
theorem dX7_shelve_39 : decode cX7_shelve 39 = .ok (.aaload, 1) := by decide +kernel
theorem dX7_shelve_40 : decode cX7_shelve 40 = .ok (.getfield 148, 3) := by decide +kernel
theorem dX7_shelve_43 : decode cX7_shelve 43 = .ok (.i2l, 1) := by decide +kernel
theorem dX7_shelve_44 : decode cX7_shelve 44 = .ok (.lreturn, 1) := by decide +kernel
set_option maxHeartbeats 4000000 in
set_option maxRecDepth 100000 in
theorem tX7_shelve (l : Launch) (G : Gg) (b0 : Nat) {K : Kk} {R : Rr} {M : Mm} {r : Nat} {a0 : Int32} {res : Int64} {M' : Mm} (hm : mX7_shelve K R M r a0 = some (res, M')) : CT l G b0 yX7_shelve cX7_shelve 2 (some .long) (rmz 5 112) [.ref r, .int a0] K R M (some (.long res)) K R M' := by
  refine ct_of (by decide +kernel) (Nat.le_of_ble_eq_true rfl) (fun w hq => ?_)
  have hw := hq.b
  change w 0 0 0 [(0, .ref r), (1, .int a0)] [] K R M
  replace hm := h_start hm
  unfold mX7_shelve at hm
  obtain ⟨h1, m15⟩ := h_ck hm
  clear hm
  refine r_iload_n hw dX7_shelve_0 1 rfl ?_
  obtain ⟨i2, g2, m16⟩ := h_bd m15
  clear m15
  refine r_callS1 hw (tX7_isShelf l G b0 g2) lB_X7_isShelf sT_X7_isShelf mL_X7_297 rfl rfl (Nat.le_of_ble_eq_true rfl) (Nat.le_of_ble_eq_true rfl) rfl (Nat.le_of_ble_eq_true rfl) dX7_shelve_1 ?_
  refine r_if_ne (tgt := 11) hw dX7_shelve_4 (by decide) (fun c3 => ?_) (fun c3 => ?_)
  · have m17 := h_if_f c3 m16
    clear m16
    refine r_aload_n hw dX7_shelve_11 0 rfl ?_
    obtain ⟨q4, bq4, m18⟩ := h_bd m17
    clear m17
    refine r_getR hw fO_X7_31 h1 bq4 dX7_shelve_12 ?_
    refine r_iload_n hw dX7_shelve_15 1 rfl ?_
    obtain ⟨h5, m19⟩ := h_ck m18
    clear m18
    obtain ⟨q6, bq6, m20⟩ := h_bd m19
    clear m19
    refine r_aaload hw 1 (by decide) h5 bq6 dX7_shelve_16 ?_
    refine r_aload_n hw dX7_shelve_17 0 rfl ?_
    obtain ⟨q7, bq7, m21⟩ := h_bd m20
    clear m20
    refine r_getR hw fO_X7_25 h1 bq7 dX7_shelve_18 ?_
    obtain ⟨h9, m22⟩ := h_ck m21
    clear m21
    obtain ⟨q8, g8, m23⟩ := h_bd m22
    clear m22
    refine r_callV1 hw (tX1_now l G b0 g8) lB_X1_now lI_X1_now mL_X7_145 (c := 1) rfl h9 rfl (Nat.le_of_ble_eq_true rfl) (Nat.le_of_ble_eq_true rfl) rfl (Nat.le_of_ble_eq_true rfl) dX7_shelve_21 ?_
    obtain ⟨h11, m24⟩ := h_ck m23
    clear m23
    obtain ⟨M10, g10, m25⟩ := h_bd m24
    clear m24
    refine r_callV0 hw (tX4_take l G b0 g10) lB_X4_take lI_X4_take mL_X7_300 (c := 4) rfl h11 rfl (Nat.le_of_ble_eq_true rfl) (Nat.le_of_ble_eq_true rfl) rfl (Nat.le_of_ble_eq_true rfl) dX7_shelve_24 ?_
    refine r_aload_n hw dX7_shelve_27 0 rfl ?_
    obtain ⟨q12, bq12, m26⟩ := h_bd m25
    clear m25
    refine r_getR hw fO_X7_36 h1 bq12 dX7_shelve_28 ?_
    refine r_iload_n hw dX7_shelve_31 1 rfl ?_
    refine r_iconst (v := 1) hw dX7_shelve_32 rfl ?_
    obtain ⟨h13, m27⟩ := h_ck m26
    clear m26
    obtain ⟨M14, eM14, m28⟩ := h_nm m27
    clear m27
    refine r_bastore hw h13 dX7_shelve_33 (r_mem ?_ rfl eM14)
    refine r_aload_n hw dX7_shelve_34 0 rfl ?_
    refine r_getR hw fO_X7_31 h1 bq4 dX7_shelve_35 ?_
    refine r_iload_n hw dX7_shelve_38 1 rfl ?_
    refine r_aaload hw 1 (by decide) h5 bq6 dX7_shelve_39 ?_
    refine r_getI hw fO_X7_148 h11 dX7_shelve_40 ?_
    refine r_i2l hw dX7_shelve_43 ?_
    cases h_ret m28
    exact r_lreturn hq rfl rfl dX7_shelve_44
  · have m29 := h_if_t c3 m16
    clear m16
    refine r_ldc2 (v := (-9000000000000000001)) hw dX7_shelve_7 kW_X7_87 ?_
    cases h_ret m29
    exact r_lreturn hq rfl rfl dX7_shelve_10
theorem dX7_fetch_0 : decode cX7_fetch 0 = .ok (.iload_n 1, 1) := by decide +kernel
theorem dX7_fetch_1 : decode cX7_fetch 1 = .ok (.invokestatic 297, 3) := by decide +kernel
theorem dX7_fetch_4 : decode cX7_fetch 4 = .ok (.ifCond .ne 7, 3) := by decide +kernel
theorem dX7_fetch_7 : decode cX7_fetch 7 = .ok (.ldc2_w 87, 3) := by decide +kernel
theorem dX7_fetch_10 : decode cX7_fetch 10 = .ok (.lreturn, 1) := by decide +kernel
theorem dX7_fetch_11 : decode cX7_fetch 11 = .ok (.aload_n 0, 1) := by decide +kernel
theorem dX7_fetch_12 : decode cX7_fetch 12 = .ok (.getfield 36, 3) := by decide +kernel
theorem dX7_fetch_15 : decode cX7_fetch 15 = .ok (.iload_n 1, 1) := by decide +kernel
theorem dX7_fetch_16 : decode cX7_fetch 16 = .ok (.baload, 1) := by decide +kernel
theorem dX7_fetch_17 : decode cX7_fetch 17 = .ok (.ifCond .ne 7, 3) := by decide +kernel
theorem dX7_fetch_20 : decode cX7_fetch 20 = .ok (.ldc2_w 118, 3) := by decide +kernel
theorem dX7_fetch_23 : decode cX7_fetch 23 = .ok (.lreturn, 1) := by decide +kernel
theorem dX7_fetch_24 : decode cX7_fetch 24 = .ok (.aload_n 0, 1) := by decide +kernel
theorem dX7_fetch_25 : decode cX7_fetch 25 = .ok (.getfield 25, 3) := by decide +kernel
theorem dX7_fetch_28 : decode cX7_fetch 28 = .ok (.invokevirtual 170, 3) := by decide +kernel
theorem dX7_fetch_31 : decode cX7_fetch 31 = .ok (.aload_n 0, 1) := by decide +kernel
theorem dX7_fetch_32 : decode cX7_fetch 32 = .ok (.getfield 31, 3) := by decide +kernel
theorem dX7_fetch_35 : decode cX7_fetch 35 = .ok (.iload_n 1, 1) := by decide +kernel
theorem dX7_fetch_36 : decode cX7_fetch 36 = .ok (.aaload, 1) := by decide +kernel
theorem dX7_fetch_37 : decode cX7_fetch 37 = .ok (.invokevirtual 300, 3) := by decide +kernel
theorem dX7_fetch_40 : decode cX7_fetch 40 = .ok (.aload_n 0, 1) := by decide +kernel
theorem dX7_fetch_41 : decode cX7_fetch 41 = .ok (.getfield 25, 3) := by decide +kernel
theorem dX7_fetch_44 : decode cX7_fetch 44 = .ok (.invokevirtual 138, 3) := by decide +kernel
theorem dX7_fetch_47 : decode cX7_fetch 47 = .ok (.aload_n 0, 1) := by decide +kernel
theorem dX7_fetch_48 : decode cX7_fetch 48 = .ok (.getfield 31, 3) := by decide +kernel
theorem dX7_fetch_51 : decode cX7_fetch 51 = .ok (.iload_n 1, 1) := by decide +kernel
theorem dX7_fetch_52 : decode cX7_fetch 52 = .ok (.aaload, 1) := by decide +kernel
theorem dX7_fetch_53 : decode cX7_fetch 53 = .ok (.getfield 148, 3) := by decide +kernel
theorem dX7_fetch_56 : decode cX7_fetch 56 = .ok (.i2l, 1) := by decide +kernel
theorem dX7_fetch_57 : decode cX7_fetch 57 = .ok (.lreturn, 1) := by decide +kernel
set_option maxHeartbeats 4000000 in
set_option maxRecDepth 100000 in
theorem tX7_fetch (l : Launch) (G : Gg) (b0 : Nat) {K : Kk} {R : Rr} {M : Mm} {r : Nat} {a0 : Int32} {res : Int64} {R' : Rr} {M' : Mm} (hm : mX7_fetch K R M r a0 = some (res, R', M')) : CT l G b0 yX7_fetch cX7_fetch 2 (some .long) (rmz 6 132) [.ref r, .int a0] K R M (some (.long res)) K R' M' := by
  refine ct_of (by decide +kernel) (Nat.le_of_ble_eq_true rfl) (fun w hq => ?_)
  have hw := hq.b
  change w 0 0 0 [(0, .ref r), (1, .int a0)] [] K R M
  replace hm := h_start hm
  unfold mX7_fetch at hm
  obtain ⟨h1, m22⟩ := h_ck hm
  clear hm
  refine r_iload_n hw dX7_fetch_0 1 rfl ?_
  obtain ⟨i2, g2, m23⟩ := h_bd m22
  clear m22
  refine r_callS1 hw (tX7_isShelf l G b0 g2) lB_X7_isShelf sT_X7_isShelf mL_X7_297 rfl rfl (Nat.le_of_ble_eq_true rfl) (Nat.le_of_ble_eq_true rfl) rfl (Nat.le_of_ble_eq_true rfl) dX7_fetch_1 ?_
  refine r_if_ne (tgt := 11) hw dX7_fetch_4 (by decide) (fun c3 => ?_) (fun c3 => ?_)
  · have m24 := h_if_f c3 m23
    clear m23
    refine r_aload_n hw dX7_fetch_11 0 rfl ?_
    obtain ⟨q4, bq4, m25⟩ := h_bd m24
    clear m24
    refine r_getR hw fO_X7_36 h1 bq4 dX7_fetch_12 ?_
    refine r_iload_n hw dX7_fetch_15 1 rfl ?_
    obtain ⟨h5, m26⟩ := h_ck m25
    clear m25
    refine r_baload hw h5 dX7_fetch_16 ?_
    refine r_if_ne (tgt := 24) hw dX7_fetch_17 (by decide) (fun c6 => ?_) (fun c6 => ?_)
    · have m27 := h_if_f c6 m26
      clear m26
      refine r_aload_n hw dX7_fetch_24 0 rfl ?_
      obtain ⟨q7, bq7, m28⟩ := h_bd m27
      clear m27
      refine r_getR hw fO_X7_25 h1 bq7 dX7_fetch_25 ?_
      obtain ⟨h10, m29⟩ := h_ck m28
      clear m28
      obtain ⟨q8, M9, g9, m30⟩ := h_bd2 m29
      clear m29
      refine r_callV1 hw (tX1_draft l G b0 g9) lB_X1_draft lI_X1_draft mL_X7_170 (c := 1) rfl h10 rfl (Nat.le_of_ble_eq_true rfl) (Nat.le_of_ble_eq_true rfl) rfl (Nat.le_of_ble_eq_true rfl) dX7_fetch_28 ?_
      refine r_aload_n hw dX7_fetch_31 0 rfl ?_
      obtain ⟨q11, bq11, m31⟩ := h_bd m30
      clear m30
      refine r_getR hw fO_X7_31 h1 bq11 dX7_fetch_32 ?_
      refine r_iload_n hw dX7_fetch_35 1 rfl ?_
      obtain ⟨h12, m32⟩ := h_ck m31
      clear m31
      obtain ⟨q13, bq13, m33⟩ := h_bd m32
      clear m32
      refine r_aaload hw 1 (by decide) h12 bq13 dX7_fetch_36 ?_
      obtain ⟨h15, m34⟩ := h_ck m33
      clear m33
      obtain ⟨M14, g14, m35⟩ := h_bd m34
      clear m34
      refine r_callV0 hw (tX4_take l G b0 g14) lB_X4_take lI_X4_take mL_X7_300 (c := 4) rfl h15 rfl (Nat.le_of_ble_eq_true rfl) (Nat.le_of_ble_eq_true rfl) rfl (Nat.le_of_ble_eq_true rfl) dX7_fetch_37 ?_
      refine r_aload_n hw dX7_fetch_40 0 rfl ?_
      refine r_getR hw fO_X7_25 h1 bq7 dX7_fetch_41 ?_
      obtain ⟨R16, M17, g17, m36⟩ := h_bd2 m35
      clear m35
      refine r_callV0 hw (tX1_keepDraft l G b0 g17) lB_X1_keepDraft lI_X1_keepDraft mL_X7_138 (c := 1) rfl h10 rfl (Nat.le_of_ble_eq_true rfl) (Nat.le_of_ble_eq_true rfl) rfl (Nat.le_of_ble_eq_true rfl) dX7_fetch_44 ?_
      refine r_aload_n hw dX7_fetch_47 0 rfl ?_
      obtain ⟨q18, bq18, m37⟩ := h_bd m36
      clear m36
      refine r_getR hw fO_X7_31 h1 bq18 dX7_fetch_48 ?_
      refine r_iload_n hw dX7_fetch_51 1 rfl ?_
      obtain ⟨h19, m38⟩ := h_ck m37
      clear m37
      obtain ⟨q20, bq20, m39⟩ := h_bd m38
      clear m38
      refine r_aaload hw 1 (by decide) h19 bq20 dX7_fetch_52 ?_
      obtain ⟨h21, m40⟩ := h_ck m39
      clear m39
      refine r_getI hw fO_X7_148 h21 dX7_fetch_53 ?_
      refine r_i2l hw dX7_fetch_56 ?_
      cases h_ret m40
      exact r_lreturn hq rfl rfl dX7_fetch_57
    · have m41 := h_if_t c6 m26
      clear m26
      refine r_ldc2 (v := (-9000000000000000002)) hw dX7_fetch_20 kW_X7_118 ?_
      cases h_ret m41
      exact r_lreturn hq rfl rfl dX7_fetch_23
  · have m42 := h_if_t c3 m23
    clear m23
    refine r_ldc2 (v := (-9000000000000000001)) hw dX7_fetch_7 kW_X7_87 ?_
    cases h_ret m42
    exact r_lreturn hq rfl rfl dX7_fetch_10
theorem dX7_addCommon_0 : decode cX7_addCommon 0 = .ok (.aload_n 2, 1) := by decide +kernel
theorem dX7_addCommon_1 : decode cX7_addCommon 1 = .ok (.aload_n 0, 1) := by decide +kernel
theorem dX7_addCommon_2 : decode cX7_addCommon 2 = .ok (.getfield 68, 3) := by decide +kernel
theorem dX7_addCommon_5 : decode cX7_addCommon 5 = .ok (.invokevirtual 153, 3) := by decide +kernel
theorem dX7_addCommon_8 : decode cX7_addCommon 8 = .ok (.aload_n 0, 1) := by decide +kernel
theorem dX7_addCommon_9 : decode cX7_addCommon 9 = .ok (.getfield 68, 3) := by decide +kernel
theorem dX7_addCommon_12 : decode cX7_addCommon 12 = .ok (.aload_n 3, 1) := by decide +kernel
theorem dX7_addCommon_13 : decode cX7_addCommon 13 = .ok (.getfield 206, 3) := by decide +kernel
theorem dX7_addCommon_16 : decode cX7_addCommon 16 = .ok (.invokevirtual 259, 3) := by decide +kernel
theorem dX7_addCommon_19 : decode cX7_addCommon 19 = .ok (.ifCond .ne 5, 3) := by decide +kernel
theorem dX7_addCommon_22 : decode cX7_addCommon 22 = .ok (.lconst 0, 1) := by decide +kernel
theorem dX7_addCommon_23 : decode cX7_addCommon 23 = .ok (.lreturn, 1) := by decide +kernel
theorem dX7_addCommon_24 : decode cX7_addCommon 24 = .ok (.aload_n 0, 1) := by decide +kernel
theorem dX7_addCommon_25 : decode cX7_addCommon 25 = .ok (.getfield 57, 3) := by decide +kernel
theorem dX7_addCommon_28 : decode cX7_addCommon 28 = .ok (.aload_n 0, 1) := by decide +kernel
theorem dX7_addCommon_29 : decode cX7_addCommon 29 = .ok (.getfield 68, 3) := by decide +kernel
theorem dX7_addCommon_32 : decode cX7_addCommon 32 = .ok (.aload_n 3, 1) := by decide +kernel
theorem dX7_addCommon_33 : decode cX7_addCommon 33 = .ok (.getfield 206, 3) := by decide +kernel
theorem dX7_addCommon_36 : decode cX7_addCommon 36 = .ok (.invokevirtual 307, 3) := by decide +kernel
theorem dX7_addCommon_39 : decode cX7_addCommon 39 = .ok (.ifCond .ne 7, 3) := by decide +kernel
theorem dX7_addCommon_42 : decode cX7_addCommon 42 = .ok (.ldc2_w 168, 3) := by decide +kernel
theorem dX7_addCommon_45 : decode cX7_addCommon 45 = .ok (.lreturn, 1) := by decide +kernel
theorem dX7_addCommon_46 : decode cX7_addCommon 46 = .ok (.aload_n 0, 1) := by decide +kernel
theorem dX7_addCommon_47 : decode cX7_addCommon 47 = .ok (.getfield 57, 3) := by decide +kernel
theorem dX7_addCommon_50 : decode cX7_addCommon 50 = .ok (.getfield 310, 3) := by decide +kernel
theorem dX7_addCommon_53 : decode cX7_addCommon 53 = .ok (.getfield 89, 3) := by decide +kernel
theorem dX7_addCommon_56 : decode cX7_addCommon 56 = .ok (.bipush 16, 2) := by decide +kernel
theorem dX7_addCommon_58 : decode cX7_addCommon 58 = .ok (.if_icmp .gt 12, 3) := by decide +kernel
theorem dX7_addCommon_61 : decode cX7_addCommon 61 = .ok (.aload_n 1, 1) := by decide +kernel
theorem dX7_addCommon_62 : decode cX7_addCommon 62 = .ok (.getfield 148, 3) := by decide +kernel
theorem dX7_addCommon_65 : decode cX7_addCommon 65 = .ok (.bipush 40, 2) := by decide +kernel
theorem dX7_addCommon_67 : decode cX7_addCommon 67 = .ok (.if_icmp .lt 7, 3) := by decide +kernel
theorem dX7_addCommon_70 : decode cX7_addCommon 70 = .ok (.ldc2_w 93, 3) := by decide +kernel
theorem dX7_addCommon_73 : decode cX7_addCommon 73 = .ok (.lreturn, 1) := by decide +kernel
theorem dX7_addCommon_74 : decode cX7_addCommon 74 = .ok (.aload_n 0, 1) := by decide +kernel
theorem dX7_addCommon_75 : decode cX7_addCommon 75 = .ok (.getfield 64, 3) := by decide +kernel
theorem dX7_addCommon_78 : decode cX7_addCommon 78 = .ok (.aload_n 2, 1) := by decide +kernel
theorem dX7_addCommon_79 : decode cX7_addCommon 79 = .ok (.getfield 193, 3) := by decide +kernel
theorem dX7_addCommon_82 : decode cX7_addCommon 82 = .ok (.aload_n 2, 1) := by decide +kernel
theorem dX7_addCommon_83 : decode cX7_addCommon 83 = .ok (.getfield 196, 3) := by decide +kernel
theorem dX7_addCommon_86 : decode cX7_addCommon 86 = .ok (.aload_n 2, 1) := by decide +kernel
theorem dX7_addCommon_87 : decode cX7_addCommon 87 = .ok (.getfield 199, 3) := by decide +kernel
theorem dX7_addCommon_90 : decode cX7_addCommon 90 = .ok (.invokevirtual 124, 3) := by decide +kernel
theorem dX7_addCommon_93 : decode cX7_addCommon 93 = .ok (.aload_n 0, 1) := by decide +kernel
theorem dX7_addCommon_94 : decode cX7_addCommon 94 = .ok (.getfield 64, 3) := by decide +kernel
theorem dX7_addCommon_97 : decode cX7_addCommon 97 = .ok (.aload_n 0, 1) := by decide +kernel
theorem dX7_addCommon_98 : decode cX7_addCommon 98 = .ok (.getfield 57, 3) := by decide +kernel
theorem dX7_addCommon_101 : decode cX7_addCommon 101 = .ok (.getfield 310, 3) := by decide +kernel
theorem dX7_addCommon_104 : decode cX7_addCommon 104 = .ok (.invokevirtual 183, 3) := by decide +kernel
theorem dX7_addCommon_107 : decode cX7_addCommon 107 = .ok (.aload_n 0, 1) := by decide +kernel
theorem dX7_addCommon_108 : decode cX7_addCommon 108 = .ok (.getfield 64, 3) := by decide +kernel
theorem dX7_addCommon_111 : decode cX7_addCommon 111 = .ok (.aload_n 3, 1) := by decide +kernel
theorem dX7_addCommon_112 : decode cX7_addCommon 112 = .ok (.getfield 193, 3) := by decide +kernel
theorem dX7_addCommon_115 : decode cX7_addCommon 115 = .ok (.aload_n 2, 1) := by decide +kernel
theorem dX7_addCommon_116 : decode cX7_addCommon 116 = .ok (.getfield 193, 3) := by decide +kernel
theorem dX7_addCommon_119 : decode cX7_addCommon 119 = .ok (.imul, 1) := by decide +kernel
theorem dX7_addCommon_120 : decode cX7_addCommon 120 = .ok (.aload_n 3, 1) := by decide +kernel
theorem dX7_addCommon_121 : decode cX7_addCommon 121 = .ok (.getfield 193, 3) := by decide +kernel
theorem dX7_addCommon_124 : decode cX7_addCommon 124 = .ok (.aload_n 2, 1) := by decide +kernel
theorem dX7_addCommon_125 : decode cX7_addCommon 125 = .ok (.getfield 196, 3) := by decide +kernel
theorem dX7_addCommon_128 : decode cX7_addCommon 128 = .ok (.imul, 1) := by decide +kernel
theorem dX7_addCommon_129 : decode cX7_addCommon 129 = .ok (.aload_n 3, 1) := by decide +kernel
theorem dX7_addCommon_130 : decode cX7_addCommon 130 = .ok (.getfield 196, 3) := by decide +kernel
theorem dX7_addCommon_133 : decode cX7_addCommon 133 = .ok (.iadd, 1) := by decide +kernel
theorem dX7_addCommon_134 : decode cX7_addCommon 134 = .ok (.aload_n 3, 1) := by decide +kernel
theorem dX7_addCommon_135 : decode cX7_addCommon 135 = .ok (.getfield 193, 3) := by decide +kernel
theorem dX7_addCommon_138 : decode cX7_addCommon 138 = .ok (.aload_n 2, 1) := by decide +kernel
theorem dX7_addCommon_139 : decode cX7_addCommon 139 = .ok (.getfield 199, 3) := by decide +kernel
theorem dX7_addCommon_142 : decode cX7_addCommon 142 = .ok (.imul, 1) := by decide +kernel
theorem dX7_addCommon_143 : decode cX7_addCommon 143 = .ok (.aload_n 3, 1) := by decide +kernel
theorem dX7_addCommon_144 : decode cX7_addCommon 144 = .ok (.getfield 199, 3) := by decide +kernel
theorem dX7_addCommon_147 : decode cX7_addCommon 147 = .ok (.iadd, 1) := by decide +kernel
theorem dX7_addCommon_148 : decode cX7_addCommon 148 = .ok (.invokevirtual 124, 3) := by decide +kernel
theorem dX7_addCommon_151 : decode cX7_addCommon 151 = .ok (.aload_n 0, 1) := by decide +kernel
theorem dX7_addCommon_152 : decode cX7_addCommon 152 = .ok (.getfield 64, 3) := by decide +kernel
theorem dX7_addCommon_155 : decode cX7_addCommon 155 = .ok (.aload_n 0, 1) := by decide +kernel
theorem dX7_addCommon_156 : decode cX7_addCommon 156 = .ok (.getfield 71, 3) := by decide +kernel
theorem dX7_addCommon_159 : decode cX7_addCommon 159 = .ok (.invokevirtual 153, 3) := by decide +kernel
theorem dX7_addCommon_162 : decode cX7_addCommon 162 = .ok (.aload_n 0, 1) := by decide +kernel
theorem dX7_addCommon_163 : decode cX7_addCommon 163 = .ok (.getfield 71, 3) := by decide +kernel
theorem dX7_addCommon_166 : decode cX7_addCommon 166 = .ok (.invokevirtual 209, 3) := by decide +kernel
theorem dX7_addCommon_169 : decode cX7_addCommon 169 = .ok (.ifCond .ne 7, 3) := by decide +kernel
theorem dX7_addCommon_172 : decode cX7_addCommon 172 = .ok (.ldc2_w 87, 3) := by decide +kernel
theorem dX7_addCommon_175 : decode cX7_addCommon 175 = .ok (.lreturn, 1) := by decide +kernel
theorem dX7_addCommon_176 : decode cX7_addCommon 176 = .ok (.aload_n 1, 1) := by decide +kernel
theorem dX7_addCommon_177 : decode cX7_addCommon 177 = .ok (.aload_n 0, 1) := by decide +kernel
theorem dX7_addCommon_178 : decode cX7_addCommon 178 = .ok (.getfield 64, 3) := by decide +kernel
theorem dX7_addCommon_181 : decode cX7_addCommon 181 = .ok (.invokevirtual 135, 3) := by decide +kernel
theorem dX7_addCommon_184 : decode cX7_addCommon 184 = .ok (.lconst 0, 1) := by decide +kernel
theorem dX7_addCommon_185 : decode cX7_addCommon 185 = .ok (.lreturn, 1) := by decide +kernel
set_option maxHeartbeats 4000000 in
set_option maxRecDepth 100000 in
theorem tX7_addCommon (l : Launch) (G : Gg) (b0 : Nat) {K : Kk} {R : Rr} {M : Mm} {r : Nat} {a0 : Nat} {a1 : Nat} {a2 : Nat} {res : Int64} {M' : Mm} (hm : mX7_addCommon K R M r a0 a1 a2 = some (res, M')) : CT l G b0 yX7_addCommon cX7_addCommon 4 (some .long) (rmz 6 126) [.ref r, .ref a0, .ref a1, .ref a2] K R M (some (.long res)) K R M' := by
  refine ct_of (by decide +kernel) (Nat.le_of_ble_eq_true rfl) (fun w hq => ?_)
  have hw := hq.b
  change w 0 0 0 [(0, .ref r), (1, .ref a0), (2, .ref a1), (3, .ref a2)] [] K R M
  replace hm := h_start hm
  unfold mX7_addCommon at hm
  obtain ⟨h1, m31⟩ := h_ck hm
  clear hm
  obtain ⟨h2, m32⟩ := h_ck m31
  clear m31
  obtain ⟨h3, m33⟩ := h_ck m32
  clear m32
  obtain ⟨h4, m34⟩ := h_ck m33
  clear m33
  refine r_aload_n hw dX7_addCommon_0 2 rfl ?_
  refine r_aload_n hw dX7_addCommon_1 0 rfl ?_
  obtain ⟨q5, bq5, m35⟩ := h_bd m34
  clear m34
  refine r_getR hw fO_X7_68 h1 bq5 dX7_addCommon_2 ?_
  obtain ⟨M6, g6, m36⟩ := h_bd m35
  clear m35
  refine r_callV0 hw (tX3_placeInto l G b0 g6) lB_X3_placeInto lI_X3_placeInto mL_X7_153 (c := 3) rfl h3 rfl (Nat.le_of_ble_eq_true rfl) (Nat.le_of_ble_eq_true rfl) rfl (Nat.le_of_ble_eq_true rfl) dX7_addCommon_5 ?_
  refine r_aload_n hw dX7_addCommon_8 0 rfl ?_
  refine r_getR hw fO_X7_68 h1 bq5 dX7_addCommon_9 ?_
  refine r_aload_n hw dX7_addCommon_12 3 rfl ?_
  obtain ⟨q7, bq7, m37⟩ := h_bd m36
  clear m36
  refine r_getR hw fO_X7_206 h4 bq7 dX7_addCommon_13 ?_
  obtain ⟨h9, m38⟩ := h_ck m37
  clear m37
  obtain ⟨i8, g8, m39⟩ := h_bd m38
  clear m38
  refine r_callV1 hw (tX5_liesOver l G b0 g8) lB_X5_liesOver lI_X5_liesOver mL_X7_259 (c := 5) rfl h9 rfl (Nat.le_of_ble_eq_true rfl) (Nat.le_of_ble_eq_true rfl) rfl (Nat.le_of_ble_eq_true rfl) dX7_addCommon_16 ?_
  refine r_if_ne (tgt := 24) hw dX7_addCommon_19 (by decide) (fun c10 => ?_) (fun c10 => ?_)
  · have m40 := h_if_f c10 m39
    clear m39
    refine r_aload_n hw dX7_addCommon_24 0 rfl ?_
    obtain ⟨q11, bq11, m41⟩ := h_bd m40
    clear m40
    refine r_getR hw fO_X7_57 h1 bq11 dX7_addCommon_25 ?_
    refine r_aload_n hw dX7_addCommon_28 0 rfl ?_
    refine r_getR hw fO_X7_68 h1 bq5 dX7_addCommon_29 ?_
    refine r_aload_n hw dX7_addCommon_32 3 rfl ?_
    refine r_getR hw fO_X7_206 h4 bq7 dX7_addCommon_33 ?_
    obtain ⟨h14, m42⟩ := h_ck m41
    clear m41
    obtain ⟨i12, M13, g13, m43⟩ := h_bd2 m42
    clear m42
    refine r_callV1 hw (tX0_trace l G b0 g13) lB_X0_trace lI_X0_trace mL_X7_307 (c := 0) rfl h14 rfl (Nat.le_of_ble_eq_true rfl) (Nat.le_of_ble_eq_true rfl) rfl (Nat.le_of_ble_eq_true rfl) dX7_addCommon_36 ?_
    refine r_if_ne (tgt := 46) hw dX7_addCommon_39 (by decide) (fun c15 => ?_) (fun c15 => ?_)
    · have m44 := h_if_f c15 m43
      clear m43
      refine r_aload_n hw dX7_addCommon_46 0 rfl ?_
      refine r_getR hw fO_X7_57 h1 bq11 dX7_addCommon_47 ?_
      obtain ⟨q16, bq16, m45⟩ := h_bd m44
      clear m44
      refine r_getR hw fO_X7_310 h14 bq16 dX7_addCommon_50 ?_
      obtain ⟨h17, m46⟩ := h_ck m45
      clear m45
      refine r_getI hw fO_X7_89 h17 dX7_addCommon_53 ?_
      refine r_bipush (v := 16) hw dX7_addCommon_56 rfl ?_
      refine r_icmp_gt (tgt := 70) hw dX7_addCommon_58 (by decide) (fun c18 => ?_) (fun c18 => ?_)
      · have m47 := h_if_f c18 m46
        clear m46
        refine r_ldc2 (v := (-9000000000000000003)) hw dX7_addCommon_70 kW_X7_93 ?_
        cases h_ret m47
        exact r_lreturn hq rfl rfl dX7_addCommon_73
      · have m48 := h_if_t c18 m46
        clear m46
        refine r_aload_n hw dX7_addCommon_61 1 rfl ?_
        refine r_getI hw fO_X7_148 h2 dX7_addCommon_62 ?_
        refine r_bipush (v := 40) hw dX7_addCommon_65 rfl ?_
        refine r_icmp_lt (tgt := 74) hw dX7_addCommon_67 (by decide) (fun c19 => ?_) (fun c19 => ?_)
        · have m49 := h_if_t c19 m48
          clear m48
          refine r_aload_n hw dX7_addCommon_74 0 rfl ?_
          obtain ⟨q20, bq20, m50⟩ := h_bd m49
          clear m49
          refine r_getR hw fO_X7_64 h1 bq20 dX7_addCommon_75 ?_
          refine r_aload_n hw dX7_addCommon_78 2 rfl ?_
          refine r_getI hw fO_X7_193 h3 dX7_addCommon_79 ?_
          refine r_aload_n hw dX7_addCommon_82 2 rfl ?_
          refine r_getI hw fO_X7_196 h3 dX7_addCommon_83 ?_
          refine r_aload_n hw dX7_addCommon_86 2 rfl ?_
          refine r_getI hw fO_X7_199 h3 dX7_addCommon_87 ?_
          obtain ⟨h22, m51⟩ := h_ck m50
          clear m50
          obtain ⟨M21, g21, m52⟩ := h_bd m51
          clear m51
          refine r_callV0 hw (tX3_setMove l G b0 g21) lB_X3_setMove lI_X3_setMove mL_X7_124 (c := 3) rfl h22 rfl (Nat.le_of_ble_eq_true rfl) (Nat.le_of_ble_eq_true rfl) rfl (Nat.le_of_ble_eq_true rfl) dX7_addCommon_90 ?_
          refine r_aload_n hw dX7_addCommon_93 0 rfl ?_
          refine r_getR hw fO_X7_64 h1 bq20 dX7_addCommon_94 ?_
          refine r_aload_n hw dX7_addCommon_97 0 rfl ?_
          refine r_getR hw fO_X7_57 h1 bq11 dX7_addCommon_98 ?_
          refine r_getR hw fO_X7_310 h14 bq16 dX7_addCommon_101 ?_
          obtain ⟨M23, g23, m53⟩ := h_bd m52
          clear m52
          refine r_callV0 hw (tX3_setPlace l G b0 g23) lB_X3_setPlace lI_X3_setPlace mL_X7_183 (c := 3) rfl h22 rfl (Nat.le_of_ble_eq_true rfl) (Nat.le_of_ble_eq_true rfl) rfl (Nat.le_of_ble_eq_true rfl) dX7_addCommon_104 ?_
          refine r_aload_n hw dX7_addCommon_107 0 rfl ?_
          refine r_getR hw fO_X7_64 h1 bq20 dX7_addCommon_108 ?_
          refine r_aload_n hw dX7_addCommon_111 3 rfl ?_
          refine r_getI hw fO_X7_193 h4 dX7_addCommon_112 ?_
          refine r_aload_n hw dX7_addCommon_115 2 rfl ?_
          refine r_getI hw fO_X7_193 h3 dX7_addCommon_116 ?_
          refine r_imul hw dX7_addCommon_119 ?_
          refine r_aload_n hw dX7_addCommon_120 3 rfl ?_
          refine r_getI hw fO_X7_193 h4 dX7_addCommon_121 ?_
          refine r_aload_n hw dX7_addCommon_124 2 rfl ?_
          refine r_getI hw fO_X7_196 h3 dX7_addCommon_125 ?_
          refine r_imul hw dX7_addCommon_128 ?_
          refine r_aload_n hw dX7_addCommon_129 3 rfl ?_
          refine r_getI hw fO_X7_196 h4 dX7_addCommon_130 ?_
          refine r_iadd hw dX7_addCommon_133 ?_
          refine r_aload_n hw dX7_addCommon_134 3 rfl ?_
          refine r_getI hw fO_X7_193 h4 dX7_addCommon_135 ?_
          refine r_aload_n hw dX7_addCommon_138 2 rfl ?_
          refine r_getI hw fO_X7_199 h3 dX7_addCommon_139 ?_
          refine r_imul hw dX7_addCommon_142 ?_
          refine r_aload_n hw dX7_addCommon_143 3 rfl ?_
          refine r_getI hw fO_X7_199 h4 dX7_addCommon_144 ?_
          refine r_iadd hw dX7_addCommon_147 ?_
          obtain ⟨M24, g24, m54⟩ := h_bd m53
          clear m53
          refine r_callV0 hw (tX3_setMove l G b0 g24) lB_X3_setMove lI_X3_setMove mL_X7_124 (c := 3) rfl h22 rfl (Nat.le_of_ble_eq_true rfl) (Nat.le_of_ble_eq_true rfl) rfl (Nat.le_of_ble_eq_true rfl) dX7_addCommon_148 ?_
          refine r_aload_n hw dX7_addCommon_151 0 rfl ?_
          refine r_getR hw fO_X7_64 h1 bq20 dX7_addCommon_152 ?_
          refine r_aload_n hw dX7_addCommon_155 0 rfl ?_
          obtain ⟨q25, bq25, m55⟩ := h_bd m54
          clear m54
          refine r_getR hw fO_X7_71 h1 bq25 dX7_addCommon_156 ?_
          obtain ⟨M26, g26, m56⟩ := h_bd m55
          clear m55
          refine r_callV0 hw (tX3_placeInto l G b0 g26) lB_X3_placeInto lI_X3_placeInto mL_X7_153 (c := 3) rfl h22 rfl (Nat.le_of_ble_eq_true rfl) (Nat.le_of_ble_eq_true rfl) rfl (Nat.le_of_ble_eq_true rfl) dX7_addCommon_159 ?_
          refine r_aload_n hw dX7_addCommon_162 0 rfl ?_
          refine r_getR hw fO_X7_71 h1 bq25 dX7_addCommon_163 ?_
          obtain ⟨h28, m57⟩ := h_ck m56
          clear m56
          obtain ⟨i27, g27, m58⟩ := h_bd m57
          clear m57
          refine r_callV1 hw (tX5_isInBounds l G b0 g27) lB_X5_isInBounds lI_X5_isInBounds mL_X7_209 (c := 5) rfl h28 rfl (Nat.le_of_ble_eq_true rfl) (Nat.le_of_ble_eq_true rfl) rfl (Nat.le_of_ble_eq_true rfl) dX7_addCommon_166 ?_
          refine r_if_ne (tgt := 176) hw dX7_addCommon_169 (by decide) (fun c29 => ?_) (fun c29 => ?_)
          · have m59 := h_if_f c29 m58
            clear m58
            refine r_aload_n hw dX7_addCommon_176 1 rfl ?_
            refine r_aload_n hw dX7_addCommon_177 0 rfl ?_
            refine r_getR hw fO_X7_64 h1 bq20 dX7_addCommon_178 ?_
            obtain ⟨M30, g30, m60⟩ := h_bd m59
            clear m59
            refine r_callV0 hw (tX4_add l G b0 g30) lB_X4_add lI_X4_add mL_X7_135 (c := 4) rfl h2 rfl (Nat.le_of_ble_eq_true rfl) (Nat.le_of_ble_eq_true rfl) rfl (Nat.le_of_ble_eq_true rfl) dX7_addCommon_181 ?_
            refine r_lconst (v := 0) hw dX7_addCommon_184 rfl ?_
            cases h_ret m60
            exact r_lreturn hq rfl rfl dX7_addCommon_185
          · have m61 := h_if_t c29 m58
            clear m58
            refine r_ldc2 (v := (-9000000000000000001)) hw dX7_addCommon_172 kW_X7_87 ?_
            cases h_ret m61
            exact r_lreturn hq rfl rfl dX7_addCommon_175
        · have m62 := h_if_f c19 m48
          clear m48
          refine r_ldc2 (v := (-9000000000000000003)) hw dX7_addCommon_70 kW_X7_93 ?_
          cases h_ret m62
          exact r_lreturn hq rfl rfl dX7_addCommon_73
    · have m63 := h_if_t c15 m43
      clear m43
      refine r_ldc2 (v := (-9000000000000000004)) hw dX7_addCommon_42 kW_X7_168 ?_
      cases h_ret m63
      exact r_lreturn hq rfl rfl dX7_addCommon_45
  · have m64 := h_if_t c10 m39
    clear m39
    refine r_lconst (v := 0) hw dX7_addCommon_22 rfl ?_
    cases h_ret m64
    exact r_lreturn hq rfl rfl dX7_addCommon_23
theorem dX7_third_0 : decode cX7_third 0 = .ok (.iload_n 1, 1) := by decide +kernel
theorem dX7_third_1 : decode cX7_third 1 = .ok (.invokestatic 297, 3) := by decide +kernel
theorem dX7_third_4 : decode cX7_third 4 = .ok (.ifCond .ne 7, 3) := by decide +kernel
theorem dX7_third_7 : decode cX7_third 7 = .ok (.ldc2_w 87, 3) := by decide +kernel
theorem dX7_third_10 : decode cX7_third 10 = .ok (.lreturn, 1) := by decide +kernel
theorem dX7_third_11 : decode cX7_third 11 = .ok (.aload_n 0, 1) := by decide +kernel
theorem dX7_third_12 : decode cX7_third 12 = .ok (.getfield 36, 3) := by decide +kernel
theorem dX7_third_15 : decode cX7_third 15 = .ok (.iload_n 1, 1) := by decide +kernel
theorem dX7_third_16 : decode cX7_third 16 = .ok (.baload, 1) := by decide +kernel
theorem dX7_third_17 : decode cX7_third 17 = .ok (.ifCond .ne 7, 3) := by decide +kernel
theorem dX7_third_20 : decode cX7_third 20 = .ok (.ldc2_w 118, 3) := by decide +kernel
theorem dX7_third_23 : decode cX7_third 23 = .ok (.lreturn, 1) := by decide +kernel
theorem dX7_third_24 : decode cX7_third 24 = .ok (.aload_n 0, 1) := by decide +kernel
theorem dX7_third_25 : decode cX7_third 25 = .ok (.getfield 25, 3) := by decide +kernel
theorem dX7_third_28 : decode cX7_third 28 = .ok (.invokevirtual 145, 3) := by decide +kernel
theorem dX7_third_31 : decode cX7_third 31 = .ok (.astore_n 2, 1) := by decide +kernel
theorem dX7_third_32 : decode cX7_third 32 = .ok (.aload_n 0, 1) := by decide +kernel
theorem dX7_third_33 : decode cX7_third 33 = .ok (.getfield 31, 3) := by decide +kernel
theorem dX7_third_36 : decode cX7_third 36 = .ok (.iload_n 1, 1) := by decide +kernel
theorem dX7_third_37 : decode cX7_third 37 = .ok (.aaload, 1) := by decide +kernel
theorem dX7_third_38 : decode cX7_third 38 = .ok (.astore_n 3, 1) := by decide +kernel
theorem dX7_third_39 : decode cX7_third 39 = .ok (.aload_n 0, 1) := by decide +kernel
theorem dX7_third_40 : decode cX7_third 40 = .ok (.getfield 25, 3) := by decide +kernel
theorem dX7_third_43 : decode cX7_third 43 = .ok (.invokevirtual 131, 3) := by decide +kernel
theorem dX7_third_46 : decode cX7_third 46 = .ok (.astore 4, 2) := by decide +kernel
theorem dX7_third_48 : decode cX7_third 48 = .ok (.iconst 0, 1) := by decide +kernel
theorem dX7_third_49 : decode cX7_third 49 = .ok (.istore 5, 2) := by decide +kernel
theorem dX7_third_51 : decode cX7_third 51 = .ok (.iload 5, 2) := by decide +kernel
theorem dX7_third_53 : decode cX7_third 53 = .ok (.aload_n 2, 1) := by decide +kernel
theorem dX7_third_54 : decode cX7_third 54 = .ok (.getfield 148, 3) := by decide +kernel
theorem dX7_third_57 : decode cX7_third 57 = .ok (.if_icmp .ge 59, 3) := by decide +kernel
theorem dX7_third_60 : decode cX7_third 60 = .ok (.iconst 0, 1) := by decide +kernel
theorem dX7_third_61 : decode cX7_third 61 = .ok (.istore 6, 2) := by decide +kernel
theorem dX7_third_63 : decode cX7_third 63 = .ok (.iload 6, 2) := by decide +kernel
theorem dX7_third_65 : decode cX7_third 65 = .ok (.aload_n 3, 1) := by decide +kernel
theorem dX7_third_66 : decode cX7_third 66 = .ok (.getfield 148, 3) := by decide +kernel
theorem dX7_third_69 : decode cX7_third 69 = .ok (.if_icmp .ge 41, 3) := by decide +kernel
theorem dX7_third_72 : decode cX7_third 72 = .ok (.aload_n 0, 1) := by decide +kernel
theorem dX7_third_73 : decode cX7_third 73 = .ok (.aload 4, 2) := by decide +kernel
theorem dX7_third_75 : decode cX7_third 75 = .ok (.aload_n 2, 1) := by decide +kernel
theorem dX7_third_76 : decode cX7_third 76 = .ok (.getfield 149, 3) := by decide +kernel
theorem dX7_third_79 : decode cX7_third 79 = .ok (.iload 5, 2) := by decide +kernel
theorem dX7_third_81 : decode cX7_third 81 = .ok (.aaload, 1) := by decide +kernel
theorem dX7_third_82 : decode cX7_third 82 = .ok (.aload_n 3, 1) := by decide +kernel
theorem dX7_third_83 : decode cX7_third 83 = .ok (.getfield 149, 3) := by decide +kernel
theorem dX7_third_86 : decode cX7_third 86 = .ok (.iload 6, 2) := by decide +kernel
theorem dX7_third_88 : decode cX7_third 88 = .ok (.aaload, 1) := by decide +kernel
theorem dX7_third_89 : decode cX7_third 89 = .ok (.invokevirtual 303, 3) := by decide +kernel
theorem dX7_third_92 : decode cX7_third 92 = .ok (.lstore 7, 2) := by decide +kernel
theorem dX7_third_94 : decode cX7_third 94 = .ok (.lload 7, 2) := by decide +kernel
theorem dX7_third_96 : decode cX7_third 96 = .ok (.lconst 0, 1) := by decide +kernel
theorem dX7_third_97 : decode cX7_third 97 = .ok (.lcmp, 1) := by decide +kernel
theorem dX7_third_98 : decode cX7_third 98 = .ok (.ifCond .eq 6, 3) := by decide +kernel
theorem dX7_third_101 : decode cX7_third 101 = .ok (.lload 7, 2) := by decide +kernel
theorem dX7_third_103 : decode cX7_third 103 = .ok (.lreturn, 1) := by decide +kernel
theorem dX7_third_104 : decode cX7_third 104 = .ok (.iinc 6 1, 3) := by decide +kernel
theorem dX7_third_107 : decode cX7_third 107 = .ok (.goto (-44), 3) := by decide +kernel
theorem dX7_third_110 : decode cX7_third 110 = .ok (.iinc 5 1, 3) := by decide +kernel
theorem dX7_third_113 : decode cX7_third 113 = .ok (.goto (-62), 3) := by decide +kernel
theorem dX7_third_116 : decode cX7_third 116 = .ok (.aload_n 0, 1) := by decide +kernel
theorem dX7_third_117 : decode cX7_third 117 = .ok (.getfield 25, 3) := by decide +kernel
theorem dX7_third_120 : decode cX7_third 120 = .ok (.invokevirtual 138, 3) := by decide +kernel
theorem dX7_third_123 : decode cX7_third 123 = .ok (.aload 4, 2) := by decide +kernel
theorem dX7_third_125 : decode cX7_third 125 = .ok (.getfield 148, 3) := by decide +kernel
theorem dX7_third_128 : decode cX7_third 128 = .ok (.i2l, 1) := by decide +kernel
theorem dX7_third_129 : decode cX7_third 129 = .ok (.lreturn, 1) := by decide +kernel
set_option maxHeartbeats 4000000 in
set_option maxRecDepth 100000 in
theorem tX7_third (l : Launch) (G : Gg) (b0 : Nat) {K : Kk} {R : Rr} {M : Mm} {r : Nat} {a0 : Int32} {res : Int64} {R' : Rr} {M' : Mm} (hm : mX7_third K R M r a0 = some (res, R', M')) : CT l G b0 yX7_third cX7_third 9 (some .long) (rmz 7 149) [.ref r, .int a0] K R M (some (.long res)) K R' M' := by
  refine ct_of (by decide +kernel) (Nat.le_of_ble_eq_true rfl) (fun w hq => ?_)
  have hw := hq.b
  change w 0 0 0 [(0, .ref r), (1, .int a0)] [] K R M
  replace hm := h_start hm
  unfold mX7_third at hm
  obtain ⟨h1, m41⟩ := h_ck hm
  clear hm
  refine r_iload_n hw dX7_third_0 1 rfl ?_
  obtain ⟨i2, g2, m42⟩ := h_bd m41
  clear m41
  refine r_callS1 hw (tX7_isShelf l G b0 g2) lB_X7_isShelf sT_X7_isShelf mL_X7_297 rfl rfl (Nat.le_of_ble_eq_true rfl) (Nat.le_of_ble_eq_true rfl) rfl (Nat.le_of_ble_eq_true rfl) dX7_third_1 ?_
  refine r_if_ne (tgt := 11) hw dX7_third_4 (by decide) (fun c3 => ?_) (fun c3 => ?_)
  · have m43 := h_if_f c3 m42
    clear m42
    refine r_aload_n hw dX7_third_11 0 rfl ?_
    obtain ⟨q4, bq4, m44⟩ := h_bd m43
    clear m43
    refine r_getR hw fO_X7_36 h1 bq4 dX7_third_12 ?_
    refine r_iload_n hw dX7_third_15 1 rfl ?_
    obtain ⟨h5, m45⟩ := h_ck m44
    clear m44
    refine r_baload hw h5 dX7_third_16 ?_
    refine r_if_ne (tgt := 24) hw dX7_third_17 (by decide) (fun c6 => ?_) (fun c6 => ?_)
    · have m46 := h_if_f c6 m45
      clear m45
      refine r_aload_n hw dX7_third_24 0 rfl ?_
      obtain ⟨q7, bq7, m47⟩ := h_bd m46
      clear m46
      refine r_getR hw fO_X7_25 h1 bq7 dX7_third_25 ?_
      obtain ⟨h9, m48⟩ := h_ck m47
      clear m47
      obtain ⟨q8, g8, m49⟩ := h_bd m48
      clear m48
      refine r_callV1 hw (tX1_now l G b0 g8) lB_X1_now lI_X1_now mL_X7_145 (c := 1) rfl h9 rfl (Nat.le_of_ble_eq_true rfl) (Nat.le_of_ble_eq_true rfl) rfl (Nat.le_of_ble_eq_true rfl) dX7_third_28 ?_
      refine r_astore_n hw dX7_third_31 rfl (by decide) rfl ?_
      refine r_aload_n hw dX7_third_32 1 rfl ?_
      obtain ⟨q10, bq10, m50⟩ := h_bd m49
      clear m49
      refine r_getR hw fO_X7_31 h1 bq10 dX7_third_33 ?_
      refine r_iload_n hw dX7_third_36 2 rfl ?_
      obtain ⟨h11, m51⟩ := h_ck m50
      clear m50
      obtain ⟨q12, bq12, m52⟩ := h_bd m51
      clear m51
      refine r_aaload hw 1 (by decide) h11 bq12 dX7_third_37 ?_
      refine r_astore_n hw dX7_third_38 rfl (by decide) rfl ?_
      refine r_aload_n hw dX7_third_39 2 rfl ?_
      refine r_getR hw fO_X7_25 h1 bq7 dX7_third_40 ?_
      obtain ⟨q13, M14, g14, m53⟩ := h_bd2 m52
      clear m52
      refine r_callV1 hw (tX1_emptyDraft l G b0 g14) lB_X1_emptyDraft lI_X1_emptyDraft mL_X7_131 (c := 1) rfl h9 rfl (Nat.le_of_ble_eq_true rfl) (Nat.le_of_ble_eq_true rfl) rfl (Nat.le_of_ble_eq_true rfl) dX7_third_43 ?_
      refine r_astore hw dX7_third_46 (by decide) rfl ?_
      refine r_iconst (v := 0) hw dX7_third_48 rfl ?_
      obtain ⟨i15, ei15, m54⟩ := h_nm m53
      clear m53
      refine r_topI (w := w) ei15 ?_
      refine r_istore hw dX7_third_49 (by decide) rfl ?_
      refine r_sub hw [4, 3, 2, 1, 0] rfl ?_
      obtain ⟨v51, n051, hn51, hv51⟩ := h_lp m54
      clear m54
      have L51 : ∀ n : Nat, ∀ (i16 : Int32) (M17 : Mm), it (mX7_third_L51 K R r q8 q12 q13) n (i16, M17) = some v51 → w 0 0 51 [(0, .ref r), (2, .ref q8), (3, .ref q12), (4, .ref q13), (5, .int i16)] [] K R M17 := by
        intro n51
        induction n51 with
        | zero => intro i16 M17 hz; exact absurd hz h_it0
        | succ n51 ih51 =>
          intro i16 M17 m55
          replace m55 : (mX7_third_B51 K R r q8 q12 q13 i16 M17).bind (Sum.elim (it (mX7_third_L51 K R r q8 q12 q13) n51) some) = some v51 := m55
          unfold mX7_third_B51 at m55
          refine r_iload hw dX7_third_51 4 rfl ?_
          refine r_aload_n hw dX7_third_53 1 rfl ?_
          obtain ⟨h18, m56⟩ := h_ck m55
          clear m55
          refine r_getI hw fO_X7_148 h18 dX7_third_54 ?_
          refine r_icmp_ge (tgt := 116) hw dX7_third_57 (by decide) (fun c19 => ?_) (fun c19 => ?_)
          · have m57 := h_if_f c19 m56
            clear m56
            have m58 := h_ex m57 hv51
            clear m57
            refine r_aload_n hw dX7_third_116 0 rfl ?_
            obtain ⟨q20, bq20, m59⟩ := h_bd m58
            clear m58
            refine r_getR hw fO_X7_25 h1 bq20 dX7_third_117 ?_
            obtain ⟨h23, m60⟩ := h_ck m59
            clear m59
            obtain ⟨R21, M22, g22, m61⟩ := h_bd2 m60
            clear m60
            refine r_callV0 hw (tX1_keepDraft l G b0 g22) lB_X1_keepDraft lI_X1_keepDraft mL_X7_138 (c := 1) rfl h23 rfl (Nat.le_of_ble_eq_true rfl) (Nat.le_of_ble_eq_true rfl) rfl (Nat.le_of_ble_eq_true rfl) dX7_third_120 ?_
            refine r_aload hw dX7_third_123 3 rfl ?_
            obtain ⟨h24, m62⟩ := h_ck m61
            clear m61
            refine r_getI hw fO_X7_148 h24 dX7_third_125 ?_
            refine r_i2l hw dX7_third_128 ?_
            cases h_ret m62
            exact r_lreturn hq rfl rfl dX7_third_129
          · have m63 := h_if_t c19 m56
            clear m56
            refine r_iconst (v := 0) hw dX7_third_60 rfl ?_
            obtain ⟨i25, ei25, m64⟩ := h_nm m63
            clear m63
            refine r_topI (w := w) ei25 ?_
            refine r_istore hw dX7_third_61 (by decide) rfl ?_
            refine r_sub hw [1, 2, 3, 4, 5, 0] rfl ?_
            obtain ⟨v63, n063, hn63, hv63⟩ := h_lp m64
            clear m64
            have L63 : ∀ n : Nat, ∀ (i26 : Int32) (M27 : Mm), it (mX7_third_L63 K R r q8 q12 q13 i16) n (i26, M27) = some v63 → w 0 0 63 [(0, .ref r), (2, .ref q8), (3, .ref q12), (4, .ref q13), (5, .int i16), (6, .int i26)] [] K R M27 := by
              intro n63
              induction n63 with
              | zero => intro i26 M27 hz; exact absurd hz h_it0
              | succ n63 ih63 =>
                intro i26 M27 m65
                replace m65 : (mX7_third_B63 K R r q8 q12 q13 i16 i26 M27).bind (Sum.elim (it (mX7_third_L63 K R r q8 q12 q13 i16) n63) some) = some v63 := m65
                unfold mX7_third_B63 at m65
                refine r_iload hw dX7_third_63 5 rfl ?_
                refine r_aload_n hw dX7_third_65 2 rfl ?_
                obtain ⟨h28, m66⟩ := h_ck m65
                clear m65
                refine r_getI hw fO_X7_148 h28 dX7_third_66 ?_
                refine r_icmp_ge (tgt := 110) hw dX7_third_69 (by decide) (fun c29 => ?_) (fun c29 => ?_)
                · have m67 := h_if_f c29 m66
                  clear m66
                  have m68 := h_ex m67 hv63
                  clear m67
                  obtain ⟨i30, ei30, m69⟩ := h_nm m68
                  clear m68
                  refine r_iinc (j := 4) (v := i30) hw dX7_third_110 rfl (by rw [ei30]; rfl) (by decide) rfl ?_
                  refine r_goto (tgt := 51) hw dX7_third_113 (by decide) ?_
                  refine r_sub hw [1, 2, 3, 4, 0] rfl ?_
                  exact ih51 _ _ m69
                · have m70 := h_if_t c29 m66
                  clear m66
                  refine r_aload_n hw dX7_third_72 0 rfl ?_
                  refine r_aload hw dX7_third_73 3 rfl ?_
                  refine r_aload_n hw dX7_third_75 1 rfl ?_
                  obtain ⟨q31, bq31, m71⟩ := h_bd m70
                  clear m70
                  refine r_getR hw fO_X7_149 h18 bq31 dX7_third_76 ?_
                  refine r_iload hw dX7_third_79 4 rfl ?_
                  obtain ⟨h32, m72⟩ := h_ck m71
                  clear m71
                  obtain ⟨q33, bq33, m73⟩ := h_bd m72
                  clear m72
                  refine r_aaload hw 2 (by decide) h32 bq33 dX7_third_81 ?_
                  refine r_aload_n hw dX7_third_82 2 rfl ?_
                  obtain ⟨q34, bq34, m74⟩ := h_bd m73
                  clear m73
                  refine r_getR hw fO_X7_149 h28 bq34 dX7_third_83 ?_
                  refine r_iload hw dX7_third_86 5 rfl ?_
                  obtain ⟨h35, m75⟩ := h_ck m74
                  clear m74
                  obtain ⟨q36, bq36, m76⟩ := h_bd m75
                  clear m75
                  refine r_aaload hw 2 (by decide) h35 bq36 dX7_third_88 ?_
                  obtain ⟨l37, M38, g38, m77⟩ := h_bd2 m76
                  clear m76
                  refine r_callV1 hw (tX7_addCommon l G b0 g38) lB_X7_addCommon lI_X7_addCommon mL_X7_303 (c := 7) rfl h1 rfl (Nat.le_of_ble_eq_true rfl) (Nat.le_of_ble_eq_true rfl) rfl (Nat.le_of_ble_eq_true rfl) dX7_third_89 ?_
                  refine r_lstore hw dX7_third_92 (by decide) rfl ?_
                  refine r_lload hw dX7_third_94 0 rfl ?_
                  refine r_lconst (v := 0) hw dX7_third_96 rfl ?_
                  refine r_lcmp_eq (tgt := 104) hw dX7_third_97 dX7_third_98 (by decide) (fun c39 => ?_) (fun c39 => ?_)
                  · have m78 := h_if_t c39 m77
                    clear m77
                    obtain ⟨i40, ei40, m79⟩ := h_nm m78
                    clear m78
                    refine r_iinc (j := 6) (v := i40) hw dX7_third_104 rfl (by rw [ei40]; rfl) (by decide) rfl ?_
                    refine r_goto (tgt := 63) hw dX7_third_107 (by decide) ?_
                    refine r_sub hw [2, 3, 4, 5, 6, 0] rfl ?_
                    exact ih63 _ _ m79
                  · have m80 := h_if_f c39 m77
                    clear m77
                    have m81 := h_ex m80 hv63
                    clear m80
                    have m82 := h_ex m81 hv51
                    clear m81
                    refine r_lload hw dX7_third_101 0 rfl ?_
                    cases h_ret m82
                    exact r_lreturn hq rfl rfl dX7_third_103
            exact L63 n063 _ _ hn63
      exact L51 n051 _ _ hn51
    · have m83 := h_if_t c6 m45
      clear m45
      refine r_ldc2 (v := (-9000000000000000002)) hw dX7_third_20 kW_X7_118 ?_
      cases h_ret m83
      exact r_lreturn hq rfl rfl dX7_third_23
  · have m84 := h_if_t c3 m42
    clear m42
    refine r_ldc2 (v := (-9000000000000000001)) hw dX7_third_7 kW_X7_87 ?_
    cases h_ret m84
    exact r_lreturn hq rfl rfl dX7_third_10
theorem dX7_figuresTold_0 : decode cX7_figuresTold 0 = .ok (.lconst 0, 1) := by decide +kernel
theorem dX7_figuresTold_1 : decode cX7_figuresTold 1 = .ok (.lstore_n 1, 1) := by decide +kernel
theorem dX7_figuresTold_2 : decode cX7_figuresTold 2 = .ok (.iconst 0, 1) := by decide +kernel
theorem dX7_figuresTold_3 : decode cX7_figuresTold 3 = .ok (.istore_n 3, 1) := by decide +kernel
theorem dX7_figuresTold_4 : decode cX7_figuresTold 4 = .ok (.iload_n 3, 1) := by decide +kernel
theorem dX7_figuresTold_5 : decode cX7_figuresTold 5 = .ok (.iconst 5, 1) := by decide +kernel
theorem dX7_figuresTold_6 : decode cX7_figuresTold 6 = .ok (.if_icmp .ge 29, 3) := by decide +kernel
theorem dX7_figuresTold_9 : decode cX7_figuresTold 9 = .ok (.lload_n 1, 1) := by decide +kernel
theorem dX7_figuresTold_10 : decode cX7_figuresTold 10 = .ok (.aload_n 0, 1) := by decide +kernel
theorem dX7_figuresTold_11 : decode cX7_figuresTold 11 = .ok (.getfield 18, 3) := by decide +kernel
theorem dX7_figuresTold_14 : decode cX7_figuresTold 14 = .ok (.iload_n 3, 1) := by decide +kernel
theorem dX7_figuresTold_15 : decode cX7_figuresTold 15 = .ok (.aaload, 1) := by decide +kernel
theorem dX7_figuresTold_16 : decode cX7_figuresTold 16 = .ok (.getfield 89, 3) := by decide +kernel
theorem dX7_figuresTold_19 : decode cX7_figuresTold 19 = .ok (.ifCond .ne 7, 3) := by decide +kernel
theorem dX7_figuresTold_22 : decode cX7_figuresTold 22 = .ok (.lconst 0, 1) := by decide +kernel
theorem dX7_figuresTold_23 : decode cX7_figuresTold 23 = .ok (.goto 4, 3) := by decide +kernel
theorem dX7_figuresTold_26 : decode cX7_figuresTold 26 = .ok (.lconst 1, 1) := by decide +kernel
theorem dX7_figuresTold_27 : decode cX7_figuresTold 27 = .ok (.ladd, 1) := by decide +kernel
theorem dX7_figuresTold_28 : decode cX7_figuresTold 28 = .ok (.lstore_n 1, 1) := by decide +kernel
theorem dX7_figuresTold_29 : decode cX7_figuresTold 29 = .ok (.iinc 3 1, 3) := by decide +kernel
theorem dX7_figuresTold_32 : decode cX7_figuresTold 32 = .ok (.goto (-28), 3) := by decide +kernel
theorem dX7_figuresTold_35 : decode cX7_figuresTold 35 = .ok (.lload_n 1, 1) := by decide +kernel
theorem dX7_figuresTold_36 : decode cX7_figuresTold 36 = .ok (.lreturn, 1) := by decide +kernel
set_option maxHeartbeats 4000000 in
set_option maxRecDepth 100000 in
theorem tX7_figuresTold (l : Launch) (G : Gg) (b0 : Nat) {K : Kk} {R : Rr} {M : Mm} {r : Nat} {res : Int64} (hm : mX7_figuresTold K R M r = some (res)) : CT l G b0 yX7_figuresTold cX7_figuresTold 4 (some .long) (rmz 1 0) [.ref r] K R M (some (.long res)) K R M := by
  refine ct_of (by decide +kernel) (Nat.le_of_ble_eq_true rfl) (fun w hq => ?_)
  have hw := hq.b
  change w 0 0 0 [(0, .ref r)] [] K R M
  replace hm := h_start hm
  unfold mX7_figuresTold at hm
  obtain ⟨h1, m17⟩ := h_ck hm
  clear hm
  refine r_lconst (v := 0) hw dX7_figuresTold_0 rfl ?_
  obtain ⟨l2, el2, m18⟩ := h_nm m17
  clear m17
  refine r_topL (w := w) el2 ?_
  refine r_lstore_n hw dX7_figuresTold_1 rfl (by decide) rfl ?_
  refine r_iconst (v := 0) hw dX7_figuresTold_2 rfl ?_
  obtain ⟨i3, ei3, m19⟩ := h_nm m18
  clear m18
  refine r_topI (w := w) ei3 ?_
  refine r_istore_n hw dX7_figuresTold_3 rfl (by decide) rfl ?_
  refine r_sub hw [2, 1, 0] rfl ?_
  obtain ⟨v4, n04, hn4, hv4⟩ := h_lp m19
  clear m19
  have L4 : ∀ n : Nat, ∀ (l4 : Int64) (i5 : Int32), it (mX7_figuresTold_L4 K R M r) n (l4, i5) = some v4 → w 0 0 4 [(0, .ref r), (1, .long l4), (3, .int i5)] [] K R M := by
    intro n4
    induction n4 with
    | zero => intro l4 i5 hz; exact absurd hz h_it0
    | succ n4 ih4 =>
      intro l4 i5 m20
      replace m20 : (mX7_figuresTold_B4 K R M r l4 i5).bind (Sum.elim (it (mX7_figuresTold_L4 K R M r) n4) some) = some v4 := m20
      unfold mX7_figuresTold_B4 at m20
      have J27 : ∀ (i6 : Int32) (s7 : Int64) (s8 : Int64), (mX7_figuresTold_J27 K R M r i6 s7 s8).bind (Sum.elim (it (mX7_figuresTold_L4 K R M r) n4) some) = some v4 → w 0 0 27 [(0, .ref r), (3, .int i6)] [.long s8, .long s7] K R M := by
        intro i6 s7 s8 m21
        unfold mX7_figuresTold_J27 at m21
        refine r_ladd hw dX7_figuresTold_27 ?_
        obtain ⟨l9, el9, m22⟩ := h_nm m21
        clear m21
        refine r_topL (w := w) el9 ?_
        refine r_lstore_n hw dX7_figuresTold_28 rfl (by decide) rfl ?_
        obtain ⟨i10, ei10, m23⟩ := h_nm m22
        clear m22
        refine r_iinc (j := 2) (v := i10) hw dX7_figuresTold_29 rfl (by rw [ei10]; rfl) (by decide) rfl ?_
        refine r_goto (tgt := 4) hw dX7_figuresTold_32 (by decide) ?_
        refine r_sub hw [2, 1, 0] rfl ?_
        exact ih4 _ _ m23
      refine r_iload_n hw dX7_figuresTold_4 2 rfl ?_
      refine r_iconst (v := 5) hw dX7_figuresTold_5 rfl ?_
      refine r_icmp_ge (tgt := 35) hw dX7_figuresTold_6 (by decide) (fun c11 => ?_) (fun c11 => ?_)
      · have m24 := h_if_f c11 m20
        clear m20
        have m25 := h_ex m24 hv4
        clear m24
        refine r_lload_n hw dX7_figuresTold_35 1 rfl ?_
        cases h_ret m25
        exact r_lreturn hq rfl rfl dX7_figuresTold_36
      · have m26 := h_if_t c11 m20
        clear m20
        refine r_lload_n hw dX7_figuresTold_9 1 rfl ?_
        refine r_aload_n hw dX7_figuresTold_10 0 rfl ?_
        obtain ⟨q12, bq12, m27⟩ := h_bd m26
        clear m26
        refine r_getR hw fO_X7_18 h1 bq12 dX7_figuresTold_11 ?_
        refine r_iload_n hw dX7_figuresTold_14 2 rfl ?_
        obtain ⟨h13, m28⟩ := h_ck m27
        clear m27
        obtain ⟨q14, bq14, m29⟩ := h_bd m28
        clear m28
        refine r_aaload hw 0 (by decide) h13 bq14 dX7_figuresTold_15 ?_
        obtain ⟨h15, m30⟩ := h_ck m29
        clear m29
        refine r_getI hw fO_X7_89 h15 dX7_figuresTold_16 ?_
        refine r_if_ne (tgt := 26) hw dX7_figuresTold_19 (by decide) (fun c16 => ?_) (fun c16 => ?_)
        · have m31 := h_if_f c16 m30
          clear m30
          refine r_lconst (v := 1) hw dX7_figuresTold_26 rfl ?_
          refine r_sub hw [0, 2] rfl ?_
          exact J27 _ _ _ m31
        · have m32 := h_if_t c16 m30
          clear m30
          refine r_lconst (v := 0) hw dX7_figuresTold_22 rfl ?_
          refine r_goto (tgt := 27) hw dX7_figuresTold_23 (by decide) ?_
          refine r_sub hw [0, 2] rfl ?_
          exact J27 _ _ _ m32
  exact L4 n04 _ _ hn4
theorem dX7_plansLaid_0 : decode cX7_plansLaid 0 = .ok (.lconst 0, 1) := by decide +kernel
theorem dX7_plansLaid_1 : decode cX7_plansLaid 1 = .ok (.lstore_n 1, 1) := by decide +kernel
theorem dX7_plansLaid_2 : decode cX7_plansLaid 2 = .ok (.iconst 0, 1) := by decide +kernel
theorem dX7_plansLaid_3 : decode cX7_plansLaid 3 = .ok (.istore_n 3, 1) := by decide +kernel
theorem dX7_plansLaid_4 : decode cX7_plansLaid 4 = .ok (.iload_n 3, 1) := by decide +kernel
theorem dX7_plansLaid_5 : decode cX7_plansLaid 5 = .ok (.iconst 4, 1) := by decide +kernel
theorem dX7_plansLaid_6 : decode cX7_plansLaid 6 = .ok (.if_icmp .ge 26, 3) := by decide +kernel
theorem dX7_plansLaid_9 : decode cX7_plansLaid 9 = .ok (.lload_n 1, 1) := by decide +kernel
theorem dX7_plansLaid_10 : decode cX7_plansLaid 10 = .ok (.aload_n 0, 1) := by decide +kernel
theorem dX7_plansLaid_11 : decode cX7_plansLaid 11 = .ok (.getfield 36, 3) := by decide +kernel
theorem dX7_plansLaid_14 : decode cX7_plansLaid 14 = .ok (.iload_n 3, 1) := by decide +kernel
theorem dX7_plansLaid_15 : decode cX7_plansLaid 15 = .ok (.baload, 1) := by decide +kernel
theorem dX7_plansLaid_16 : decode cX7_plansLaid 16 = .ok (.ifCond .eq 7, 3) := by decide +kernel
theorem dX7_plansLaid_19 : decode cX7_plansLaid 19 = .ok (.lconst 1, 1) := by decide +kernel
theorem dX7_plansLaid_20 : decode cX7_plansLaid 20 = .ok (.goto 4, 3) := by decide +kernel
theorem dX7_plansLaid_23 : decode cX7_plansLaid 23 = .ok (.lconst 0, 1) := by decide +kernel
theorem dX7_plansLaid_24 : decode cX7_plansLaid 24 = .ok (.ladd, 1) := by decide +kernel
theorem dX7_plansLaid_25 : decode cX7_plansLaid 25 = .ok (.lstore_n 1, 1) := by decide +kernel
theorem dX7_plansLaid_26 : decode cX7_plansLaid 26 = .ok (.iinc 3 1, 3) := by decide +kernel
theorem dX7_plansLaid_29 : decode cX7_plansLaid 29 = .ok (.goto (-25), 3) := by decide +kernel
theorem dX7_plansLaid_32 : decode cX7_plansLaid 32 = .ok (.lload_n 1, 1) := by decide +kernel
theorem dX7_plansLaid_33 : decode cX7_plansLaid 33 = .ok (.lreturn, 1) := by decide +kernel
set_option maxHeartbeats 4000000 in
set_option maxRecDepth 100000 in
theorem tX7_plansLaid (l : Launch) (G : Gg) (b0 : Nat) {K : Kk} {R : Rr} {M : Mm} {r : Nat} {res : Int64} (hm : mX7_plansLaid K R M r = some (res)) : CT l G b0 yX7_plansLaid cX7_plansLaid 4 (some .long) (rmz 1 0) [.ref r] K R M (some (.long res)) K R M := by
  refine ct_of (by decide +kernel) (Nat.le_of_ble_eq_true rfl) (fun w hq => ?_)
  have hw := hq.b
  change w 0 0 0 [(0, .ref r)] [] K R M
  replace hm := h_start hm
  unfold mX7_plansLaid at hm
  obtain ⟨h1, m15⟩ := h_ck hm
  clear hm
  refine r_lconst (v := 0) hw dX7_plansLaid_0 rfl ?_
  obtain ⟨l2, el2, m16⟩ := h_nm m15
  clear m15
  refine r_topL (w := w) el2 ?_
  refine r_lstore_n hw dX7_plansLaid_1 rfl (by decide) rfl ?_
  refine r_iconst (v := 0) hw dX7_plansLaid_2 rfl ?_
  obtain ⟨i3, ei3, m17⟩ := h_nm m16
  clear m16
  refine r_topI (w := w) ei3 ?_
  refine r_istore_n hw dX7_plansLaid_3 rfl (by decide) rfl ?_
  refine r_sub hw [2, 1, 0] rfl ?_
  obtain ⟨v4, n04, hn4, hv4⟩ := h_lp m17
  clear m17
  have L4 : ∀ n : Nat, ∀ (l4 : Int64) (i5 : Int32), it (mX7_plansLaid_L4 K R M r) n (l4, i5) = some v4 → w 0 0 4 [(0, .ref r), (1, .long l4), (3, .int i5)] [] K R M := by
    intro n4
    induction n4 with
    | zero => intro l4 i5 hz; exact absurd hz h_it0
    | succ n4 ih4 =>
      intro l4 i5 m18
      replace m18 : (mX7_plansLaid_B4 K R M r l4 i5).bind (Sum.elim (it (mX7_plansLaid_L4 K R M r) n4) some) = some v4 := m18
      unfold mX7_plansLaid_B4 at m18
      have J24 : ∀ (i6 : Int32) (s7 : Int64) (s8 : Int64), (mX7_plansLaid_J24 K R M r i6 s7 s8).bind (Sum.elim (it (mX7_plansLaid_L4 K R M r) n4) some) = some v4 → w 0 0 24 [(0, .ref r), (3, .int i6)] [.long s8, .long s7] K R M := by
        intro i6 s7 s8 m19
        unfold mX7_plansLaid_J24 at m19
        refine r_ladd hw dX7_plansLaid_24 ?_
        obtain ⟨l9, el9, m20⟩ := h_nm m19
        clear m19
        refine r_topL (w := w) el9 ?_
        refine r_lstore_n hw dX7_plansLaid_25 rfl (by decide) rfl ?_
        obtain ⟨i10, ei10, m21⟩ := h_nm m20
        clear m20
        refine r_iinc (j := 2) (v := i10) hw dX7_plansLaid_26 rfl (by rw [ei10]; rfl) (by decide) rfl ?_
        refine r_goto (tgt := 4) hw dX7_plansLaid_29 (by decide) ?_
        refine r_sub hw [2, 1, 0] rfl ?_
        exact ih4 _ _ m21
      refine r_iload_n hw dX7_plansLaid_4 2 rfl ?_
      refine r_iconst (v := 4) hw dX7_plansLaid_5 rfl ?_
      refine r_icmp_ge (tgt := 32) hw dX7_plansLaid_6 (by decide) (fun c11 => ?_) (fun c11 => ?_)
      · have m22 := h_if_f c11 m18
        clear m18
        have m23 := h_ex m22 hv4
        clear m22
        refine r_lload_n hw dX7_plansLaid_32 1 rfl ?_
        cases h_ret m23
        exact r_lreturn hq rfl rfl dX7_plansLaid_33
      · have m24 := h_if_t c11 m18
        clear m18
        refine r_lload_n hw dX7_plansLaid_9 1 rfl ?_
        refine r_aload_n hw dX7_plansLaid_10 0 rfl ?_
        obtain ⟨q12, bq12, m25⟩ := h_bd m24
        clear m24
        refine r_getR hw fO_X7_36 h1 bq12 dX7_plansLaid_11 ?_
        refine r_iload_n hw dX7_plansLaid_14 2 rfl ?_
        obtain ⟨h13, m26⟩ := h_ck m25
        clear m25
        refine r_baload hw h13 dX7_plansLaid_15 ?_
        refine r_if_eq (tgt := 23) hw dX7_plansLaid_16 (by decide) (fun c14 => ?_) (fun c14 => ?_)
        · have m27 := h_if_t c14 m26
          clear m26
          refine r_lconst (v := 0) hw dX7_plansLaid_23 rfl ?_
          refine r_sub hw [0, 2] rfl ?_
          exact J24 _ _ _ m27
        · have m28 := h_if_f c14 m26
          clear m26
          refine r_lconst (v := 1) hw dX7_plansLaid_19 rfl ?_
          refine r_goto (tgt := 24) hw dX7_plansLaid_20 (by decide) ?_
          refine r_sub hw [0, 2] rfl ?_
          exact J24 _ _ _ m28
  exact L4 n04 _ _ hn4
theorem dX7_count_0 : decode cX7_count 0 = .ok (.iload_n 1, 1) := by decide +kernel
theorem dX7_count_1 : decode cX7_count 1 = .ok (.tableswitch 103 0 6 #[43, 55, 64, 69, 78, 87, 92], 43) := by decide +kernel
theorem dX7_count_44 : decode cX7_count 44 = .ok (.aload_n 0, 1) := by decide +kernel
theorem dX7_count_45 : decode cX7_count 45 = .ok (.getfield 25, 3) := by decide +kernel
theorem dX7_count_48 : decode cX7_count 48 = .ok (.invokevirtual 145, 3) := by decide +kernel
theorem dX7_count_51 : decode cX7_count 51 = .ok (.getfield 148, 3) := by decide +kernel
theorem dX7_count_54 : decode cX7_count 54 = .ok (.i2l, 1) := by decide +kernel
theorem dX7_count_55 : decode cX7_count 55 = .ok (.lreturn, 1) := by decide +kernel
theorem dX7_count_56 : decode cX7_count 56 = .ok (.aload_n 0, 1) := by decide +kernel
theorem dX7_count_57 : decode cX7_count 57 = .ok (.getfield 14, 3) := by decide +kernel
theorem dX7_count_60 : decode cX7_count 60 = .ok (.getfield 89, 3) := by decide +kernel
theorem dX7_count_63 : decode cX7_count 63 = .ok (.i2l, 1) := by decide +kernel
theorem dX7_count_64 : decode cX7_count 64 = .ok (.lreturn, 1) := by decide +kernel
theorem dX7_count_65 : decode cX7_count 65 = .ok (.aload_n 0, 1) := by decide +kernel
theorem dX7_count_66 : decode cX7_count 66 = .ok (.invokevirtual 313, 3) := by decide +kernel
theorem dX7_count_69 : decode cX7_count 69 = .ok (.lreturn, 1) := by decide +kernel
theorem dX7_count_70 : decode cX7_count 70 = .ok (.aload_n 0, 1) := by decide +kernel
theorem dX7_count_71 : decode cX7_count 71 = .ok (.getfield 25, 3) := by decide +kernel
theorem dX7_count_74 : decode cX7_count 74 = .ok (.invokevirtual 237, 3) := by decide +kernel
theorem dX7_count_77 : decode cX7_count 77 = .ok (.i2l, 1) := by decide +kernel
theorem dX7_count_78 : decode cX7_count 78 = .ok (.lreturn, 1) := by decide +kernel
theorem dX7_count_79 : decode cX7_count 79 = .ok (.aload_n 0, 1) := by decide +kernel
theorem dX7_count_80 : decode cX7_count 80 = .ok (.getfield 25, 3) := by decide +kernel
theorem dX7_count_83 : decode cX7_count 83 = .ok (.invokevirtual 244, 3) := by decide +kernel
theorem dX7_count_86 : decode cX7_count 86 = .ok (.i2l, 1) := by decide +kernel
theorem dX7_count_87 : decode cX7_count 87 = .ok (.lreturn, 1) := by decide +kernel
theorem dX7_count_88 : decode cX7_count 88 = .ok (.aload_n 0, 1) := by decide +kernel
theorem dX7_count_89 : decode cX7_count 89 = .ok (.invokevirtual 316, 3) := by decide +kernel
theorem dX7_count_92 : decode cX7_count 92 = .ok (.lreturn, 1) := by decide +kernel
theorem dX7_count_93 : decode cX7_count 93 = .ok (.aload_n 0, 1) := by decide +kernel
theorem dX7_count_94 : decode cX7_count 94 = .ok (.getfield 25, 3) := by decide +kernel
theorem dX7_count_97 : decode cX7_count 97 = .ok (.invokevirtual 145, 3) := by decide +kernel
theorem dX7_count_100 : decode cX7_count 100 = .ok (.invokevirtual 274, 3) := by decide +kernel
theorem dX7_count_103 : decode cX7_count 103 = .ok (.lreturn, 1) := by decide +kernel
theorem dX7_count_104 : decode cX7_count 104 = .ok (.ldc2_w 87, 3) := by decide +kernel
theorem dX7_count_107 : decode cX7_count 107 = .ok (.lreturn, 1) := by decide +kernel
set_option maxHeartbeats 4000000 in
set_option maxRecDepth 100000 in
theorem tX7_count (l : Launch) (G : Gg) (b0 : Nat) {K : Kk} {R : Rr} {M : Mm} {r : Nat} {a0 : Int32} {res : Int64} (hm : mX7_count K R M r a0 = some (res)) : CT l G b0 yX7_count cX7_count 2 (some .long) (rmz 4 68) [.ref r, .int a0] K R M (some (.long res)) K R M := by
  refine ct_of (by decide +kernel) (Nat.le_of_ble_eq_true rfl) (fun w hq => ?_)
  have hw := hq.b
  change w 0 0 0 [(0, .ref r), (1, .int a0)] [] K R M
  replace hm := h_start hm
  unfold mX7_count at hm
  obtain ⟨h1, m28⟩ := h_ck hm
  clear hm
  refine r_iload_n hw dX7_count_0 1 rfl ?_
  by_cases c2 : a0 = 0
  · have m29 := h_if_t c2 m28
    clear m28
    rw [c2]
    refine r_tabIn (tgt := 44) hw dX7_count_1 (by decide) (by decide) rfl (by decide) ?_
    refine r_aload_n hw dX7_count_44 0 rfl ?_
    obtain ⟨q3, bq3, m30⟩ := h_bd m29
    clear m29
    refine r_getR hw fO_X7_25 h1 bq3 dX7_count_45 ?_
    obtain ⟨h5, m31⟩ := h_ck m30
    clear m30
    obtain ⟨q4, g4, m32⟩ := h_bd m31
    clear m31
    refine r_callV1 hw (tX1_now l G b0 g4) lB_X1_now lI_X1_now mL_X7_145 (c := 1) rfl h5 rfl (Nat.le_of_ble_eq_true rfl) (Nat.le_of_ble_eq_true rfl) rfl (Nat.le_of_ble_eq_true rfl) dX7_count_48 ?_
    obtain ⟨h6, m33⟩ := h_ck m32
    clear m32
    refine r_getI hw fO_X7_148 h6 dX7_count_51 ?_
    refine r_i2l hw dX7_count_54 ?_
    cases h_ret m33
    exact r_lreturn hq rfl rfl dX7_count_55
  have m34 := h_if_f c2 m28
  clear m28
  by_cases c7 : a0 = 1
  · have m35 := h_if_t c7 m34
    clear m34
    rw [c7]
    refine r_tabIn (tgt := 56) hw dX7_count_1 (by decide) (by decide) rfl (by decide) ?_
    refine r_aload_n hw dX7_count_56 0 rfl ?_
    obtain ⟨q8, bq8, m36⟩ := h_bd m35
    clear m35
    refine r_getR hw fO_X7_14 h1 bq8 dX7_count_57 ?_
    obtain ⟨h9, m37⟩ := h_ck m36
    clear m36
    refine r_getI hw fO_X7_89 h9 dX7_count_60 ?_
    refine r_i2l hw dX7_count_63 ?_
    cases h_ret m37
    exact r_lreturn hq rfl rfl dX7_count_64
  have m38 := h_if_f c7 m34
  clear m34
  by_cases c10 : a0 = 2
  · have m39 := h_if_t c10 m38
    clear m38
    rw [c10]
    refine r_tabIn (tgt := 65) hw dX7_count_1 (by decide) (by decide) rfl (by decide) ?_
    refine r_aload_n hw dX7_count_65 0 rfl ?_
    obtain ⟨l11, g11, m40⟩ := h_bd m39
    clear m39
    refine r_callV1 hw (tX7_figuresTold l G b0 g11) lB_X7_figuresTold lI_X7_figuresTold mL_X7_313 (c := 7) rfl h1 rfl (Nat.le_of_ble_eq_true rfl) (Nat.le_of_ble_eq_true rfl) rfl (Nat.le_of_ble_eq_true rfl) dX7_count_66 ?_
    cases h_ret m40
    exact r_lreturn hq rfl rfl dX7_count_69
  have m41 := h_if_f c10 m38
  clear m38
  by_cases c12 : a0 = 3
  · have m42 := h_if_t c12 m41
    clear m41
    rw [c12]
    refine r_tabIn (tgt := 70) hw dX7_count_1 (by decide) (by decide) rfl (by decide) ?_
    refine r_aload_n hw dX7_count_70 0 rfl ?_
    obtain ⟨q13, bq13, m43⟩ := h_bd m42
    clear m42
    refine r_getR hw fO_X7_25 h1 bq13 dX7_count_71 ?_
    obtain ⟨h15, m44⟩ := h_ck m43
    clear m43
    obtain ⟨i14, g14, m45⟩ := h_bd m44
    clear m44
    refine r_callV1 hw (tX1_kept l G b0 g14) lB_X1_kept lI_X1_kept mL_X7_237 (c := 1) rfl h15 rfl (Nat.le_of_ble_eq_true rfl) (Nat.le_of_ble_eq_true rfl) rfl (Nat.le_of_ble_eq_true rfl) dX7_count_74 ?_
    refine r_i2l hw dX7_count_77 ?_
    cases h_ret m45
    exact r_lreturn hq rfl rfl dX7_count_78
  have m46 := h_if_f c12 m41
  clear m41
  by_cases c16 : a0 = 4
  · have m47 := h_if_t c16 m46
    clear m46
    rw [c16]
    refine r_tabIn (tgt := 79) hw dX7_count_1 (by decide) (by decide) rfl (by decide) ?_
    refine r_aload_n hw dX7_count_79 0 rfl ?_
    obtain ⟨q17, bq17, m48⟩ := h_bd m47
    clear m47
    refine r_getR hw fO_X7_25 h1 bq17 dX7_count_80 ?_
    obtain ⟨h19, m49⟩ := h_ck m48
    clear m48
    obtain ⟨i18, g18, m50⟩ := h_bd m49
    clear m49
    refine r_callV1 hw (tX1_undone l G b0 g18) lB_X1_undone lI_X1_undone mL_X7_244 (c := 1) rfl h19 rfl (Nat.le_of_ble_eq_true rfl) (Nat.le_of_ble_eq_true rfl) rfl (Nat.le_of_ble_eq_true rfl) dX7_count_83 ?_
    refine r_i2l hw dX7_count_86 ?_
    cases h_ret m50
    exact r_lreturn hq rfl rfl dX7_count_87
  have m51 := h_if_f c16 m46
  clear m46
  by_cases c20 : a0 = 5
  · have m52 := h_if_t c20 m51
    clear m51
    rw [c20]
    refine r_tabIn (tgt := 88) hw dX7_count_1 (by decide) (by decide) rfl (by decide) ?_
    refine r_aload_n hw dX7_count_88 0 rfl ?_
    obtain ⟨l21, g21, m53⟩ := h_bd m52
    clear m52
    refine r_callV1 hw (tX7_plansLaid l G b0 g21) lB_X7_plansLaid lI_X7_plansLaid mL_X7_316 (c := 7) rfl h1 rfl (Nat.le_of_ble_eq_true rfl) (Nat.le_of_ble_eq_true rfl) rfl (Nat.le_of_ble_eq_true rfl) dX7_count_89 ?_
    cases h_ret m53
    exact r_lreturn hq rfl rfl dX7_count_92
  have m54 := h_if_f c20 m51
  clear m51
  by_cases c22 : a0 = 6
  · have m55 := h_if_t c22 m54
    clear m54
    rw [c22]
    refine r_tabIn (tgt := 93) hw dX7_count_1 (by decide) (by decide) rfl (by decide) ?_
    refine r_aload_n hw dX7_count_93 0 rfl ?_
    obtain ⟨q23, bq23, m56⟩ := h_bd m55
    clear m55
    refine r_getR hw fO_X7_25 h1 bq23 dX7_count_94 ?_
    obtain ⟨h25, m57⟩ := h_ck m56
    clear m56
    obtain ⟨q24, g24, m58⟩ := h_bd m57
    clear m57
    refine r_callV1 hw (tX1_now l G b0 g24) lB_X1_now lI_X1_now mL_X7_145 (c := 1) rfl h25 rfl (Nat.le_of_ble_eq_true rfl) (Nat.le_of_ble_eq_true rfl) rfl (Nat.le_of_ble_eq_true rfl) dX7_count_97 ?_
    obtain ⟨h27, m59⟩ := h_ck m58
    clear m58
    obtain ⟨l26, g26, m60⟩ := h_bd m59
    clear m59
    refine r_callV1 hw (tX4_twiceArea l G b0 g26) lB_X4_twiceArea lI_X4_twiceArea mL_X7_274 (c := 4) rfl h27 rfl (Nat.le_of_ble_eq_true rfl) (Nat.le_of_ble_eq_true rfl) rfl (Nat.le_of_ble_eq_true rfl) dX7_count_100 ?_
    cases h_ret m60
    exact r_lreturn hq rfl rfl dX7_count_103
  have m61 := h_if_f c22 m54
  clear m54
  refine r_tabOut (tgt := 104) hw dX7_count_1 (sw_out 7 (by decide) (fun j hj => by match j, hj with | 0, _ => exact c2 | 1, _ => exact c7 | 2, _ => exact c10 | 3, _ => exact c12 | 4, _ => exact c16 | 5, _ => exact c20 | 6, _ => exact c22)) (by decide) ?_
  refine r_ldc2 (v := (-9000000000000000001)) hw dX7_count_104 kW_X7_87 ?_
  cases h_ret m61
  exact r_lreturn hq rfl rfl dX7_count_107
theorem dX8_isIn_0 : decode cX8_isIn 0 = .ok (.lload_n 0, 1) := by decide +kernel
theorem dX8_isIn_1 : decode cX8_isIn 1 = .ok (.lload_n 2, 1) := by decide +kernel
theorem dX8_isIn_2 : decode cX8_isIn 2 = .ok (.lcmp, 1) := by decide +kernel
theorem dX8_isIn_3 : decode cX8_isIn 3 = .ok (.ifCond .lt 14, 3) := by decide +kernel
theorem dX8_isIn_6 : decode cX8_isIn 6 = .ok (.lload_n 0, 1) := by decide +kernel
theorem dX8_isIn_7 : decode cX8_isIn 7 = .ok (.lload 4, 2) := by decide +kernel
theorem dX8_isIn_9 : decode cX8_isIn 9 = .ok (.lcmp, 1) := by decide +kernel
theorem dX8_isIn_10 : decode cX8_isIn 10 = .ok (.ifCond .gt 7, 3) := by decide +kernel
theorem dX8_isIn_13 : decode cX8_isIn 13 = .ok (.iconst 1, 1) := by decide +kernel
theorem dX8_isIn_14 : decode cX8_isIn 14 = .ok (.goto 4, 3) := by decide +kernel
theorem dX8_isIn_17 : decode cX8_isIn 17 = .ok (.iconst 0, 1) := by decide +kernel
theorem dX8_isIn_18 : decode cX8_isIn 18 = .ok (.ireturn, 1) := by decide +kernel
set_option maxHeartbeats 4000000 in
set_option maxRecDepth 100000 in
theorem tX8_isIn (l : Launch) (G : Gg) (b0 : Nat) {K : Kk} {R : Rr} {M : Mm} {a0 : Int64} {a1 : Int64} {a2 : Int64} {res : Int32} (hm : mX8_isIn K R M a0 a1 a2 = some (res)) : CT l G b0 yX8_isIn cX8_isIn 6 (some .boolean) (rmz 1 0) [.long a0, .long a1, .long a2] K R M (some (.int res)) K R M := by
  refine ct_of (by decide +kernel) (Nat.le_of_ble_eq_true rfl) (fun w hq => ?_)
  have hw := hq.b
  change w 0 0 0 [(0, .long a0), (2, .long a1), (4, .long a2)] [] K R M
  replace hm := h_start hm
  unfold mX8_isIn at hm
  refine r_lload_n hw dX8_isIn_0 0 rfl ?_
  refine r_lload_n hw dX8_isIn_1 1 rfl ?_
  refine r_lcmp_lt (tgt := 17) hw dX8_isIn_2 dX8_isIn_3 (by decide) (fun c1 => ?_) (fun c1 => ?_)
  · have m3 := h_if_t c1 hm
    clear hm
    refine r_iconst (v := 0) hw dX8_isIn_17 rfl ?_
    cases h_ret m3
    exact r_zreturn hq isB_0 rfl rfl dX8_isIn_18
  · have m4 := h_if_f c1 hm
    clear hm
    refine r_lload_n hw dX8_isIn_6 0 rfl ?_
    refine r_lload hw dX8_isIn_7 2 rfl ?_
    refine r_lcmp_gt (tgt := 17) hw dX8_isIn_9 dX8_isIn_10 (by decide) (fun c2 => ?_) (fun c2 => ?_)
    · have m5 := h_if_f c2 m4
      clear m4
      refine r_iconst (v := 0) hw dX8_isIn_17 rfl ?_
      cases h_ret m5
      exact r_zreturn hq isB_0 rfl rfl dX8_isIn_18
    · have m6 := h_if_t c2 m4
      clear m4
      refine r_iconst (v := 1) hw dX8_isIn_13 rfl ?_
      refine r_goto (tgt := 18) hw dX8_isIn_14 (by decide) ?_
      cases h_ret m6
      exact r_zreturn hq isB_1 rfl rfl dX8_isIn_18
theorem dX8_isPlace_0 : decode cX8_isPlace 0 = .ok (.lload_n 0, 1) := by decide +kernel
theorem dX8_isPlace_1 : decode cX8_isPlace 1 = .ok (.ldc2_w 91, 3) := by decide +kernel
theorem dX8_isPlace_4 : decode cX8_isPlace 4 = .ok (.ldc2_w 93, 3) := by decide +kernel
theorem dX8_isPlace_7 : decode cX8_isPlace 7 = .ok (.invokestatic 95, 3) := by decide +kernel
theorem dX8_isPlace_10 : decode cX8_isPlace 10 = .ok (.ifCond .eq 20, 3) := by decide +kernel
theorem dX8_isPlace_13 : decode cX8_isPlace 13 = .ok (.lload_n 2, 1) := by decide +kernel
theorem dX8_isPlace_14 : decode cX8_isPlace 14 = .ok (.ldc2_w 91, 3) := by decide +kernel
theorem dX8_isPlace_17 : decode cX8_isPlace 17 = .ok (.ldc2_w 93, 3) := by decide +kernel
theorem dX8_isPlace_20 : decode cX8_isPlace 20 = .ok (.invokestatic 95, 3) := by decide +kernel
theorem dX8_isPlace_23 : decode cX8_isPlace 23 = .ok (.ifCond .eq 7, 3) := by decide +kernel
theorem dX8_isPlace_26 : decode cX8_isPlace 26 = .ok (.iconst 1, 1) := by decide +kernel
theorem dX8_isPlace_27 : decode cX8_isPlace 27 = .ok (.goto 4, 3) := by decide +kernel
theorem dX8_isPlace_30 : decode cX8_isPlace 30 = .ok (.iconst 0, 1) := by decide +kernel
theorem dX8_isPlace_31 : decode cX8_isPlace 31 = .ok (.ireturn, 1) := by decide +kernel
set_option maxHeartbeats 4000000 in
set_option maxRecDepth 100000 in
theorem tX8_isPlace (l : Launch) (G : Gg) (b0 : Nat) {K : Kk} {R : Rr} {M : Mm} {a0 : Int64} {a1 : Int64} {res : Int32} (hm : mX8_isPlace K R M a0 a1 = some (res)) : CT l G b0 yX8_isPlace cX8_isPlace 4 (some .boolean) (rmz 2 25) [.long a0, .long a1] K R M (some (.int res)) K R M := by
  refine ct_of (by decide +kernel) (Nat.le_of_ble_eq_true rfl) (fun w hq => ?_)
  have hw := hq.b
  change w 0 0 0 [(0, .long a0), (2, .long a1)] [] K R M
  replace hm := h_start hm
  unfold mX8_isPlace at hm
  refine r_lload_n hw dX8_isPlace_0 0 rfl ?_
  refine r_ldc2 (v := (-100000)) hw dX8_isPlace_1 kW_X8_91 ?_
  refine r_ldc2 (v := 100000) hw dX8_isPlace_4 kW_X8_93 ?_
  obtain ⟨i1, g1, m5⟩ := h_bd hm
  clear hm
  refine r_callS1 hw (tX8_isIn l G b0 g1) lB_X8_isIn sT_X8_isIn mL_X8_95 rfl rfl (Nat.le_of_ble_eq_true rfl) (Nat.le_of_ble_eq_true rfl) rfl (Nat.le_of_ble_eq_true rfl) dX8_isPlace_7 ?_
  refine r_if_eq (tgt := 30) hw dX8_isPlace_10 (by decide) (fun c2 => ?_) (fun c2 => ?_)
  · have m6 := h_if_t c2 m5
    clear m5
    refine r_iconst (v := 0) hw dX8_isPlace_30 rfl ?_
    cases h_ret m6
    exact r_zreturn hq isB_0 rfl rfl dX8_isPlace_31
  · have m7 := h_if_f c2 m5
    clear m5
    refine r_lload_n hw dX8_isPlace_13 1 rfl ?_
    refine r_ldc2 (v := (-100000)) hw dX8_isPlace_14 kW_X8_91 ?_
    refine r_ldc2 (v := 100000) hw dX8_isPlace_17 kW_X8_93 ?_
    obtain ⟨i3, g3, m8⟩ := h_bd m7
    clear m7
    refine r_callS1 hw (tX8_isIn l G b0 g3) lB_X8_isIn sT_X8_isIn mL_X8_95 rfl rfl (Nat.le_of_ble_eq_true rfl) (Nat.le_of_ble_eq_true rfl) rfl (Nat.le_of_ble_eq_true rfl) dX8_isPlace_20 ?_
    refine r_if_eq (tgt := 30) hw dX8_isPlace_23 (by decide) (fun c4 => ?_) (fun c4 => ?_)
    · have m9 := h_if_t c4 m8
      clear m8
      refine r_iconst (v := 0) hw dX8_isPlace_30 rfl ?_
      cases h_ret m9
      exact r_zreturn hq isB_0 rfl rfl dX8_isPlace_31
    · have m10 := h_if_f c4 m8
      clear m8
      refine r_iconst (v := 1) hw dX8_isPlace_26 rfl ?_
      refine r_goto (tgt := 31) hw dX8_isPlace_27 (by decide) ?_
      cases h_ret m10
      exact r_zreturn hq isB_1 rfl rfl dX8_isPlace_31
theorem dX8_pieces_0 : decode cX8_pieces 0 = .ok (.aload_n 0, 1) := by decide +kernel
theorem dX8_pieces_1 : decode cX8_pieces 1 = .ok (.getfield 7, 3) := by decide +kernel
theorem dX8_pieces_4 : decode cX8_pieces 4 = .ok (.sipush 1480, 3) := by decide +kernel
theorem dX8_pieces_7 : decode cX8_pieces 7 = .ok (.laload, 1) := by decide +kernel
theorem dX8_pieces_8 : decode cX8_pieces 8 = .ok (.l2i, 1) := by decide +kernel
theorem dX8_pieces_9 : decode cX8_pieces 9 = .ok (.ireturn, 1) := by decide +kernel
set_option maxHeartbeats 4000000 in
set_option maxRecDepth 100000 in
theorem tX8_pieces (l : Launch) (G : Gg) (b0 : Nat) {K : Kk} {R : Rr} {M : Mm} {r : Nat} {res : Int32} (hm : mX8_pieces K R M r = some (res)) : CT l G b0 yX8_pieces cX8_pieces 1 (some .int) (rmz 1 0) [.ref r] K R M (some (.int res)) K R M := by
  refine ct_of (by decide +kernel) (Nat.le_of_ble_eq_true rfl) (fun w hq => ?_)
  have hw := hq.b
  change w 0 0 0 [(0, .ref r)] [] K R M
  replace hm := h_start hm
  unfold mX8_pieces at hm
  obtain ⟨h1, m4⟩ := h_ck hm
  clear hm
  refine r_aload_n hw dX8_pieces_0 0 rfl ?_
  obtain ⟨q2, bq2, m5⟩ := h_bd m4
  clear m4
  refine r_getR hw fO_X8_7 h1 bq2 dX8_pieces_1 ?_
  refine r_sipush (v := 1480) hw dX8_pieces_4 rfl ?_
  obtain ⟨h3, m6⟩ := h_ck m5
  clear m5
  refine r_laload hw h3 dX8_pieces_7 ?_
  refine r_l2i hw dX8_pieces_8 ?_
  cases h_ret m6
  exact r_ireturn hq rfl rfl dX8_pieces_9
theorem dX8_isPiece_0 : decode cX8_isPiece 0 = .ok (.iload_n 1, 1) := by decide +kernel
theorem dX8_isPiece_1 : decode cX8_isPiece 1 = .ok (.i2l, 1) := by decide +kernel
theorem dX8_isPiece_2 : decode cX8_isPiece 2 = .ok (.lconst 0, 1) := by decide +kernel
theorem dX8_isPiece_3 : decode cX8_isPiece 3 = .ok (.aload_n 0, 1) := by decide +kernel
theorem dX8_isPiece_4 : decode cX8_isPiece 4 = .ok (.invokevirtual 99, 3) := by decide +kernel
theorem dX8_isPiece_7 : decode cX8_isPiece 7 = .ok (.iconst 1, 1) := by decide +kernel
theorem dX8_isPiece_8 : decode cX8_isPiece 8 = .ok (.isub, 1) := by decide +kernel
theorem dX8_isPiece_9 : decode cX8_isPiece 9 = .ok (.i2l, 1) := by decide +kernel
theorem dX8_isPiece_10 : decode cX8_isPiece 10 = .ok (.invokestatic 95, 3) := by decide +kernel
theorem dX8_isPiece_13 : decode cX8_isPiece 13 = .ok (.ireturn, 1) := by decide +kernel
set_option maxHeartbeats 4000000 in
set_option maxRecDepth 100000 in
theorem tX8_isPiece (l : Launch) (G : Gg) (b0 : Nat) {K : Kk} {R : Rr} {M : Mm} {r : Nat} {a0 : Int32} {res : Int32} (hm : mX8_isPiece K R M r a0 = some (res)) : CT l G b0 yX8_isPiece cX8_isPiece 2 (some .boolean) (rmz 2 25) [.ref r, .int a0] K R M (some (.int res)) K R M := by
  refine ct_of (by decide +kernel) (Nat.le_of_ble_eq_true rfl) (fun w hq => ?_)
  have hw := hq.b
  change w 0 0 0 [(0, .ref r), (1, .int a0)] [] K R M
  replace hm := h_start hm
  unfold mX8_isPiece at hm
  obtain ⟨h1, m5⟩ := h_ck hm
  clear hm
  refine r_iload_n hw dX8_isPiece_0 1 rfl ?_
  refine r_i2l hw dX8_isPiece_1 ?_
  refine r_lconst (v := 0) hw dX8_isPiece_2 rfl ?_
  refine r_aload_n hw dX8_isPiece_3 0 rfl ?_
  obtain ⟨i2, g2, m6⟩ := h_bd m5
  clear m5
  refine r_callV1 hw (tX8_pieces l G b0 g2) lB_X8_pieces lI_X8_pieces mL_X8_99 (c := 8) rfl h1 rfl (Nat.le_of_ble_eq_true rfl) (Nat.le_of_ble_eq_true rfl) rfl (Nat.le_of_ble_eq_true rfl) dX8_isPiece_4 ?_
  refine r_iconst (v := 1) hw dX8_isPiece_7 rfl ?_
  refine r_isub hw dX8_isPiece_8 ?_
  refine r_i2l hw dX8_isPiece_9 ?_
  obtain ⟨i3, g3, m7⟩ := h_bd m6
  clear m6
  refine r_callS1 hw (tX8_isIn l G b0 g3) lB_X8_isIn sT_X8_isIn mL_X8_95 rfl rfl (Nat.le_of_ble_eq_true rfl) (Nat.le_of_ble_eq_true rfl) rfl (Nat.le_of_ble_eq_true rfl) dX8_isPiece_10 ?_
  obtain ⟨h4, m8⟩ := h_ck m7
  clear m7
  cases h_ret m8
  exact r_zreturn hq h4 rfl rfl dX8_isPiece_13
theorem dX8_get_0 : decode cX8_get 0 = .ok (.aload_n 0, 1) := by decide +kernel
theorem dX8_get_1 : decode cX8_get 1 = .ok (.getfield 7, 3) := by decide +kernel
theorem dX8_get_4 : decode cX8_get 4 = .ok (.bipush 37, 2) := by decide +kernel
theorem dX8_get_6 : decode cX8_get 6 = .ok (.iload_n 1, 1) := by decide +kernel
theorem dX8_get_7 : decode cX8_get 7 = .ok (.imul, 1) := by decide +kernel
theorem dX8_get_8 : decode cX8_get 8 = .ok (.iload_n 2, 1) := by decide +kernel
theorem dX8_get_9 : decode cX8_get 9 = .ok (.iadd, 1) := by decide +kernel
theorem dX8_get_10 : decode cX8_get 10 = .ok (.laload, 1) := by decide +kernel
theorem dX8_get_11 : decode cX8_get 11 = .ok (.lreturn, 1) := by decide +kernel
set_option maxHeartbeats 4000000 in
set_option maxRecDepth 100000 in
theorem tX8_get (l : Launch) (G : Gg) (b0 : Nat) {K : Kk} {R : Rr} {M : Mm} {r : Nat} {a0 : Int32} {a1 : Int32} {res : Int64} (hm : mX8_get K R M r a0 a1 = some (res)) : CT l G b0 yX8_get cX8_get 3 (some .long) (rmz 1 0) [.ref r, .int a0, .int a1] K R M (some (.long res)) K R M := by
  refine ct_of (by decide +kernel) (Nat.le_of_ble_eq_true rfl) (fun w hq => ?_)
  have hw := hq.b
  change w 0 0 0 [(0, .ref r), (1, .int a0), (2, .int a1)] [] K R M
  replace hm := h_start hm
  unfold mX8_get at hm
  obtain ⟨h1, m4⟩ := h_ck hm
  clear hm
  refine r_aload_n hw dX8_get_0 0 rfl ?_
  obtain ⟨q2, bq2, m5⟩ := h_bd m4
  clear m4
  refine r_getR hw fO_X8_7 h1 bq2 dX8_get_1 ?_
  refine r_bipush (v := 37) hw dX8_get_4 rfl ?_
  refine r_iload_n hw dX8_get_6 1 rfl ?_
  refine r_imul hw dX8_get_7 ?_
  refine r_iload_n hw dX8_get_8 2 rfl ?_
  refine r_iadd hw dX8_get_9 ?_
  obtain ⟨h3, m6⟩ := h_ck m5
  clear m5
  refine r_laload hw h3 dX8_get_10 ?_
  cases h_ret m6
  exact r_lreturn hq rfl rfl dX8_get_11
theorem dX8_size_0 : decode cX8_size 0 = .ok (.aload_n 0, 1) := by decide +kernel
theorem dX8_size_1 : decode cX8_size 1 = .ok (.iload_n 1, 1) := by decide +kernel
theorem dX8_size_2 : decode cX8_size 2 = .ok (.iconst 0, 1) := by decide +kernel
theorem dX8_size_3 : decode cX8_size 3 = .ok (.invokevirtual 103, 3) := by decide +kernel
theorem dX8_size_6 : decode cX8_size 6 = .ok (.l2i, 1) := by decide +kernel
theorem dX8_size_7 : decode cX8_size 7 = .ok (.ireturn, 1) := by decide +kernel
set_option maxHeartbeats 4000000 in
set_option maxRecDepth 100000 in
theorem tX8_size (l : Launch) (G : Gg) (b0 : Nat) {K : Kk} {R : Rr} {M : Mm} {r : Nat} {a0 : Int32} {res : Int32} (hm : mX8_size K R M r a0 = some (res)) : CT l G b0 yX8_size cX8_size 2 (some .int) (rmz 2 22) [.ref r, .int a0] K R M (some (.int res)) K R M := by
  refine ct_of (by decide +kernel) (Nat.le_of_ble_eq_true rfl) (fun w hq => ?_)
  have hw := hq.b
  change w 0 0 0 [(0, .ref r), (1, .int a0)] [] K R M
  replace hm := h_start hm
  unfold mX8_size at hm
  obtain ⟨h1, m3⟩ := h_ck hm
  clear hm
  refine r_aload_n hw dX8_size_0 0 rfl ?_
  refine r_iload_n hw dX8_size_1 1 rfl ?_
  refine r_iconst (v := 0) hw dX8_size_2 rfl ?_
  obtain ⟨l2, g2, m4⟩ := h_bd m3
  clear m3
  refine r_callV1 hw (tX8_get l G b0 g2) lB_X8_get lI_X8_get mL_X8_103 (c := 8) rfl h1 rfl (Nat.le_of_ble_eq_true rfl) (Nat.le_of_ble_eq_true rfl) rfl (Nat.le_of_ble_eq_true rfl) dX8_size_3 ?_
  refine r_l2i hw dX8_size_6 ?_
  cases h_ret m4
  exact r_ireturn hq rfl rfl dX8_size_7
theorem dX8_keep_0 : decode cX8_keep 0 = .ok (.aload_n 0, 1) := by decide +kernel
theorem dX8_keep_1 : decode cX8_keep 1 = .ok (.getfield 107, 3) := by decide +kernel
theorem dX8_keep_4 : decode cX8_keep 4 = .ok (.bipush 6, 2) := by decide +kernel
theorem dX8_keep_6 : decode cX8_keep 6 = .ok (.if_icmp .ne 44, 3) := by decide +kernel
theorem dX8_keep_9 : decode cX8_keep 9 = .ok (.iconst 0, 1) := by decide +kernel
theorem dX8_keep_10 : decode cX8_keep 10 = .ok (.istore_n 1, 1) := by decide +kernel
theorem dX8_keep_11 : decode cX8_keep 11 = .ok (.iload_n 1, 1) := by decide +kernel
theorem dX8_keep_12 : decode cX8_keep 12 = .ok (.sipush 7405, 3) := by decide +kernel
theorem dX8_keep_15 : decode cX8_keep 15 = .ok (.if_icmp .ge 25, 3) := by decide +kernel
theorem dX8_keep_18 : decode cX8_keep 18 = .ok (.aload_n 0, 1) := by decide +kernel
theorem dX8_keep_19 : decode cX8_keep 19 = .ok (.getfield 13, 3) := by decide +kernel
theorem dX8_keep_22 : decode cX8_keep 22 = .ok (.iload_n 1, 1) := by decide +kernel
theorem dX8_keep_23 : decode cX8_keep 23 = .ok (.aload_n 0, 1) := by decide +kernel
theorem dX8_keep_24 : decode cX8_keep 24 = .ok (.getfield 13, 3) := by decide +kernel
theorem dX8_keep_27 : decode cX8_keep 27 = .ok (.iload_n 1, 1) := by decide +kernel
theorem dX8_keep_28 : decode cX8_keep 28 = .ok (.sipush 1481, 3) := by decide +kernel
theorem dX8_keep_31 : decode cX8_keep 31 = .ok (.iadd, 1) := by decide +kernel
theorem dX8_keep_32 : decode cX8_keep 32 = .ok (.laload, 1) := by decide +kernel
theorem dX8_keep_33 : decode cX8_keep 33 = .ok (.lastore, 1) := by decide +kernel
theorem dX8_keep_34 : decode cX8_keep 34 = .ok (.iinc 1 1, 3) := by decide +kernel
theorem dX8_keep_37 : decode cX8_keep 37 = .ok (.goto (-26), 3) := by decide +kernel
theorem dX8_keep_40 : decode cX8_keep 40 = .ok (.aload_n 0, 1) := by decide +kernel
theorem dX8_keep_41 : decode cX8_keep 41 = .ok (.dup, 1) := by decide +kernel
theorem dX8_keep_42 : decode cX8_keep 42 = .ok (.getfield 107, 3) := by decide +kernel
theorem dX8_keep_45 : decode cX8_keep 45 = .ok (.iconst 1, 1) := by decide +kernel
theorem dX8_keep_46 : decode cX8_keep 46 = .ok (.isub, 1) := by decide +kernel
theorem dX8_keep_47 : decode cX8_keep 47 = .ok (.putfield 107, 3) := by decide +kernel
theorem dX8_keep_50 : decode cX8_keep 50 = .ok (.iconst 0, 1) := by decide +kernel
theorem dX8_keep_51 : decode cX8_keep 51 = .ok (.istore_n 1, 1) := by decide +kernel
theorem dX8_keep_52 : decode cX8_keep 52 = .ok (.iload_n 1, 1) := by decide +kernel
theorem dX8_keep_53 : decode cX8_keep 53 = .ok (.sipush 1481, 3) := by decide +kernel
theorem dX8_keep_56 : decode cX8_keep 56 = .ok (.if_icmp .ge 30, 3) := by decide +kernel
theorem dX8_keep_59 : decode cX8_keep 59 = .ok (.aload_n 0, 1) := by decide +kernel
theorem dX8_keep_60 : decode cX8_keep 60 = .ok (.getfield 13, 3) := by decide +kernel
theorem dX8_keep_63 : decode cX8_keep 63 = .ok (.sipush 1481, 3) := by decide +kernel
theorem dX8_keep_66 : decode cX8_keep 66 = .ok (.aload_n 0, 1) := by decide +kernel
theorem dX8_keep_67 : decode cX8_keep 67 = .ok (.getfield 107, 3) := by decide +kernel
theorem dX8_keep_70 : decode cX8_keep 70 = .ok (.imul, 1) := by decide +kernel
theorem dX8_keep_71 : decode cX8_keep 71 = .ok (.iload_n 1, 1) := by decide +kernel
theorem dX8_keep_72 : decode cX8_keep 72 = .ok (.iadd, 1) := by decide +kernel
theorem dX8_keep_73 : decode cX8_keep 73 = .ok (.aload_n 0, 1) := by decide +kernel
theorem dX8_keep_74 : decode cX8_keep 74 = .ok (.getfield 7, 3) := by decide +kernel
theorem dX8_keep_77 : decode cX8_keep 77 = .ok (.iload_n 1, 1) := by decide +kernel
theorem dX8_keep_78 : decode cX8_keep 78 = .ok (.laload, 1) := by decide +kernel
theorem dX8_keep_79 : decode cX8_keep 79 = .ok (.lastore, 1) := by decide +kernel
theorem dX8_keep_80 : decode cX8_keep 80 = .ok (.iinc 1 1, 3) := by decide +kernel
theorem dX8_keep_83 : decode cX8_keep 83 = .ok (.goto (-31), 3) := by decide +kernel
theorem dX8_keep_86 : decode cX8_keep 86 = .ok (.aload_n 0, 1) := by decide +kernel
theorem dX8_keep_87 : decode cX8_keep 87 = .ok (.dup, 1) := by decide +kernel
theorem dX8_keep_88 : decode cX8_keep 88 = .ok (.getfield 107, 3) := by decide +kernel
theorem dX8_keep_91 : decode cX8_keep 91 = .ok (.iconst 1, 1) := by decide +kernel
theorem dX8_keep_92 : decode cX8_keep 92 = .ok (.iadd, 1) := by decide +kernel
theorem dX8_keep_93 : decode cX8_keep 93 = .ok (.putfield 107, 3) := by decide +kernel
theorem dX8_keep_96 : decode cX8_keep 96 = .ok (.aload_n 0, 1) := by decide +kernel
theorem dX8_keep_97 : decode cX8_keep 97 = .ok (.iconst 0, 1) := by decide +kernel
theorem dX8_keep_98 : decode cX8_keep 98 = .ok (.putfield 110, 3) := by decide +kernel
theorem dX8_keep_101 : decode cX8_keep 101 = .ok (.return_, 1) := by decide +kernel
set_option maxHeartbeats 4000000 in
set_option maxRecDepth 100000 in
theorem tX8_keep (l : Launch) (G : Gg) (b0 : Nat) {K : Kk} {R : Rr} {M : Mm} {r : Nat} {M' : Mm} (hm : mX8_keep K R M r = some (M')) : CT l G b0 yX8_keep cX8_keep 2 none (rmz 1 0) [.ref r] K R M none K R M' := by
  refine ct_of (by decide +kernel) (Nat.le_of_ble_eq_true rfl) (fun w hq => ?_)
  have hw := hq.b
  change w 0 0 0 [(0, .ref r)] [] K R M
  replace hm := h_start hm
  unfold mX8_keep at hm
  obtain ⟨h1, m26⟩ := h_ck hm
  clear hm
  have J50 : ∀ (M2 : Mm), (mX8_keep_J50 K R M2 r).bind some = some (M') → w 0 0 50 [(0, .ref r)] [] K R M2 := by
    intro M2  m27
    unfold mX8_keep_J50 at m27
    refine r_iconst (v := 0) hw dX8_keep_50 rfl ?_
    obtain ⟨i3, ei3, m28⟩ := h_nm m27
    clear m27
    refine r_topI (w := w) ei3 ?_
    refine r_istore_n hw dX8_keep_51 rfl (by decide) rfl ?_
    refine r_sub hw [1, 0] rfl ?_
    obtain ⟨v52, n052, hn52, hv52⟩ := h_lp m28
    clear m28
    have L52 : ∀ n : Nat, ∀ (i4 : Int32) (M5 : Mm), it (mX8_keep_L52 K R r) n (i4, M5) = some v52 → w 0 0 52 [(0, .ref r), (1, .int i4)] [] K R M5 := by
      intro n52
      induction n52 with
      | zero => intro i4 M5 hz; exact absurd hz h_it0
      | succ n52 ih52 =>
        intro i4 M5 m29
        replace m29 : (mX8_keep_B52 K R r i4 M5).bind (Sum.elim (it (mX8_keep_L52 K R r) n52) some) = some v52 := m29
        unfold mX8_keep_B52 at m29
        refine r_iload_n hw dX8_keep_52 1 rfl ?_
        refine r_sipush (v := 1481) hw dX8_keep_53 rfl ?_
        refine r_icmp_ge (tgt := 86) hw dX8_keep_56 (by decide) (fun c6 => ?_) (fun c6 => ?_)
        · have m30 := h_if_f c6 m29
          clear m29
          have m31 := h_ex m30 hv52
          clear m30
          refine r_aload_n hw dX8_keep_86 0 rfl ?_
          refine r_dup hw dX8_keep_87 rfl ?_
          refine r_getI hw fO_X8_107 h1 dX8_keep_88 ?_
          refine r_iconst (v := 1) hw dX8_keep_91 rfl ?_
          refine r_iadd hw dX8_keep_92 ?_
          obtain ⟨M7, eM7, m32⟩ := h_nm m31
          clear m31
          refine r_putI hw fP_X8_107 h1 dX8_keep_93 (r_mem ?_ rfl eM7)
          refine r_aload_n hw dX8_keep_96 0 rfl ?_
          refine r_iconst (v := 0) hw dX8_keep_97 rfl ?_
          obtain ⟨M8, eM8, m33⟩ := h_nm m32
          clear m32
          refine r_putI hw fP_X8_110 h1 dX8_keep_98 (r_mem ?_ rfl eM8)
          cases h_ret m33
          exact r_return hq rfl rfl dX8_keep_101
        · have m34 := h_if_t c6 m29
          clear m29
          refine r_aload_n hw dX8_keep_59 0 rfl ?_
          obtain ⟨q9, bq9, m35⟩ := h_bd m34
          clear m34
          refine r_getR hw fO_X8_13 h1 bq9 dX8_keep_60 ?_
          refine r_sipush (v := 1481) hw dX8_keep_63 rfl ?_
          refine r_aload_n hw dX8_keep_66 0 rfl ?_
          refine r_getI hw fO_X8_107 h1 dX8_keep_67 ?_
          refine r_imul hw dX8_keep_70 ?_
          refine r_iload_n hw dX8_keep_71 1 rfl ?_
          refine r_iadd hw dX8_keep_72 ?_
          refine r_aload_n hw dX8_keep_73 0 rfl ?_
          obtain ⟨q10, bq10, m36⟩ := h_bd m35
          clear m35
          refine r_getR hw fO_X8_7 h1 bq10 dX8_keep_74 ?_
          refine r_iload_n hw dX8_keep_77 1 rfl ?_
          obtain ⟨h11, m37⟩ := h_ck m36
          clear m36
          refine r_laload hw h11 dX8_keep_78 ?_
          obtain ⟨h12, m38⟩ := h_ck m37
          clear m37
          obtain ⟨M13, eM13, m39⟩ := h_nm m38
          clear m38
          refine r_lastore hw h12 dX8_keep_79 (r_mem ?_ rfl eM13)
          obtain ⟨i14, ei14, m40⟩ := h_nm m39
          clear m39
          refine r_iinc (j := 1) (v := i14) hw dX8_keep_80 rfl (by rw [ei14]; rfl) (by decide) rfl ?_
          refine r_goto (tgt := 52) hw dX8_keep_83 (by decide) ?_
          refine r_sub hw [1, 0] rfl ?_
          exact ih52 _ _ m40
    exact L52 n052 _ _ hn52
  refine r_aload_n hw dX8_keep_0 0 rfl ?_
  refine r_getI hw fO_X8_107 h1 dX8_keep_1 ?_
  refine r_bipush (v := 6) hw dX8_keep_4 rfl ?_
  refine r_icmp_ne (tgt := 50) hw dX8_keep_6 (by decide) (fun c15 => ?_) (fun c15 => ?_)
  · have m41 := h_if_f c15 m26
    clear m26
    exact J50 _ m41
  · have m42 := h_if_t c15 m26
    clear m26
    refine r_iconst (v := 0) hw dX8_keep_9 rfl ?_
    obtain ⟨i16, ei16, m43⟩ := h_nm m42
    clear m42
    refine r_topI (w := w) ei16 ?_
    refine r_istore_n hw dX8_keep_10 rfl (by decide) rfl ?_
    refine r_sub hw [1, 0] rfl ?_
    obtain ⟨v11, n011, hn11, hv11⟩ := h_lp m43
    clear m43
    have L11 : ∀ n : Nat, ∀ (i17 : Int32) (M18 : Mm), it (mX8_keep_L11 K R r) n (i17, M18) = some v11 → w 0 0 11 [(0, .ref r), (1, .int i17)] [] K R M18 := by
      intro n11
      induction n11 with
      | zero => intro i17 M18 hz; exact absurd hz h_it0
      | succ n11 ih11 =>
        intro i17 M18 m44
        replace m44 : (mX8_keep_B11 K R r i17 M18).bind (Sum.elim (it (mX8_keep_L11 K R r) n11) some) = some v11 := m44
        unfold mX8_keep_B11 at m44
        refine r_iload_n hw dX8_keep_11 1 rfl ?_
        refine r_sipush (v := 7405) hw dX8_keep_12 rfl ?_
        refine r_icmp_ge (tgt := 40) hw dX8_keep_15 (by decide) (fun c19 => ?_) (fun c19 => ?_)
        · have m45 := h_if_f c19 m44
          clear m44
          have m46 := h_ex m45 hv11
          clear m45
          refine r_aload_n hw dX8_keep_40 0 rfl ?_
          refine r_dup hw dX8_keep_41 rfl ?_
          refine r_getI hw fO_X8_107 h1 dX8_keep_42 ?_
          refine r_iconst (v := 1) hw dX8_keep_45 rfl ?_
          refine r_isub hw dX8_keep_46 ?_
          obtain ⟨M20, eM20, m47⟩ := h_nm m46
          clear m46
          refine r_putI hw fP_X8_107 h1 dX8_keep_47 (r_mem ?_ rfl eM20)
          refine r_sub hw [0] rfl ?_
          exact J50 _ m47
        · have m48 := h_if_t c19 m44
          clear m44
          refine r_aload_n hw dX8_keep_18 0 rfl ?_
          obtain ⟨q21, bq21, m49⟩ := h_bd m48
          clear m48
          refine r_getR hw fO_X8_13 h1 bq21 dX8_keep_19 ?_
          refine r_iload_n hw dX8_keep_22 1 rfl ?_
          refine r_aload_n hw dX8_keep_23 0 rfl ?_
          refine r_getR hw fO_X8_13 h1 bq21 dX8_keep_24 ?_
          refine r_iload_n hw dX8_keep_27 1 rfl ?_
          refine r_sipush (v := 1481) hw dX8_keep_28 rfl ?_
          refine r_iadd hw dX8_keep_31 ?_
          obtain ⟨h22, m50⟩ := h_ck m49
          clear m49
          refine r_laload hw h22 dX8_keep_32 ?_
          obtain ⟨h23, m51⟩ := h_ck m50
          clear m50
          obtain ⟨M24, eM24, m52⟩ := h_nm m51
          clear m51
          refine r_lastore hw h23 dX8_keep_33 (r_mem ?_ rfl eM24)
          obtain ⟨i25, ei25, m53⟩ := h_nm m52
          clear m52
          refine r_iinc (j := 1) (v := i25) hw dX8_keep_34 rfl (by rw [ei25]; rfl) (by decide) rfl ?_
          refine r_goto (tgt := 11) hw dX8_keep_37 (by decide) ?_
          refine r_sub hw [1, 0] rfl ?_
          exact ih11 _ _ m53
    exact L11 n011 _ _ hn11
theorem dX8_undo_0 : decode cX8_undo 0 = .ok (.aload_n 0, 1) := by decide +kernel
theorem dX8_undo_1 : decode cX8_undo 1 = .ok (.getfield 107, 3) := by decide +kernel
theorem dX8_undo_4 : decode cX8_undo 4 = .ok (.ifCond .ne 7, 3) := by decide +kernel
theorem dX8_undo_7 : decode cX8_undo 7 = .ok (.ldc2_w 113, 3) := by decide +kernel
theorem dX8_undo_10 : decode cX8_undo 10 = .ok (.lreturn, 1) := by decide +kernel
theorem dX8_undo_11 : decode cX8_undo 11 = .ok (.aload_n 0, 1) := by decide +kernel
theorem dX8_undo_12 : decode cX8_undo 12 = .ok (.dup, 1) := by decide +kernel
theorem dX8_undo_13 : decode cX8_undo 13 = .ok (.getfield 107, 3) := by decide +kernel
theorem dX8_undo_16 : decode cX8_undo 16 = .ok (.iconst 1, 1) := by decide +kernel
theorem dX8_undo_17 : decode cX8_undo 17 = .ok (.isub, 1) := by decide +kernel
theorem dX8_undo_18 : decode cX8_undo 18 = .ok (.putfield 107, 3) := by decide +kernel
theorem dX8_undo_21 : decode cX8_undo 21 = .ok (.iconst 0, 1) := by decide +kernel
theorem dX8_undo_22 : decode cX8_undo 22 = .ok (.istore_n 1, 1) := by decide +kernel
theorem dX8_undo_23 : decode cX8_undo 23 = .ok (.iload_n 1, 1) := by decide +kernel
theorem dX8_undo_24 : decode cX8_undo 24 = .ok (.sipush 1481, 3) := by decide +kernel
theorem dX8_undo_27 : decode cX8_undo 27 = .ok (.if_icmp .ge 51, 3) := by decide +kernel
theorem dX8_undo_30 : decode cX8_undo 30 = .ok (.aload_n 0, 1) := by decide +kernel
theorem dX8_undo_31 : decode cX8_undo 31 = .ok (.getfield 16, 3) := by decide +kernel
theorem dX8_undo_34 : decode cX8_undo 34 = .ok (.sipush 1481, 3) := by decide +kernel
theorem dX8_undo_37 : decode cX8_undo 37 = .ok (.aload_n 0, 1) := by decide +kernel
theorem dX8_undo_38 : decode cX8_undo 38 = .ok (.getfield 110, 3) := by decide +kernel
theorem dX8_undo_41 : decode cX8_undo 41 = .ok (.imul, 1) := by decide +kernel
theorem dX8_undo_42 : decode cX8_undo 42 = .ok (.iload_n 1, 1) := by decide +kernel
theorem dX8_undo_43 : decode cX8_undo 43 = .ok (.iadd, 1) := by decide +kernel
theorem dX8_undo_44 : decode cX8_undo 44 = .ok (.aload_n 0, 1) := by decide +kernel
theorem dX8_undo_45 : decode cX8_undo 45 = .ok (.getfield 7, 3) := by decide +kernel
theorem dX8_undo_48 : decode cX8_undo 48 = .ok (.iload_n 1, 1) := by decide +kernel
theorem dX8_undo_49 : decode cX8_undo 49 = .ok (.laload, 1) := by decide +kernel
theorem dX8_undo_50 : decode cX8_undo 50 = .ok (.lastore, 1) := by decide +kernel
theorem dX8_undo_51 : decode cX8_undo 51 = .ok (.aload_n 0, 1) := by decide +kernel
theorem dX8_undo_52 : decode cX8_undo 52 = .ok (.getfield 7, 3) := by decide +kernel
theorem dX8_undo_55 : decode cX8_undo 55 = .ok (.iload_n 1, 1) := by decide +kernel
theorem dX8_undo_56 : decode cX8_undo 56 = .ok (.aload_n 0, 1) := by decide +kernel
theorem dX8_undo_57 : decode cX8_undo 57 = .ok (.getfield 13, 3) := by decide +kernel
theorem dX8_undo_60 : decode cX8_undo 60 = .ok (.sipush 1481, 3) := by decide +kernel
theorem dX8_undo_63 : decode cX8_undo 63 = .ok (.aload_n 0, 1) := by decide +kernel
theorem dX8_undo_64 : decode cX8_undo 64 = .ok (.getfield 107, 3) := by decide +kernel
theorem dX8_undo_67 : decode cX8_undo 67 = .ok (.imul, 1) := by decide +kernel
theorem dX8_undo_68 : decode cX8_undo 68 = .ok (.iload_n 1, 1) := by decide +kernel
theorem dX8_undo_69 : decode cX8_undo 69 = .ok (.iadd, 1) := by decide +kernel
theorem dX8_undo_70 : decode cX8_undo 70 = .ok (.laload, 1) := by decide +kernel
theorem dX8_undo_71 : decode cX8_undo 71 = .ok (.lastore, 1) := by decide +kernel
theorem dX8_undo_72 : decode cX8_undo 72 = .ok (.iinc 1 1, 3) := by decide +kernel
theorem dX8_undo_75 : decode cX8_undo 75 = .ok (.goto (-52), 3) := by decide +kernel
theorem dX8_undo_78 : decode cX8_undo 78 = .ok (.aload_n 0, 1) := by decide +kernel
theorem dX8_undo_79 : decode cX8_undo 79 = .ok (.dup, 1) := by decide +kernel
theorem dX8_undo_80 : decode cX8_undo 80 = .ok (.getfield 110, 3) := by decide +kernel
theorem dX8_undo_83 : decode cX8_undo 83 = .ok (.iconst 1, 1) := by decide +kernel
theorem dX8_undo_84 : decode cX8_undo 84 = .ok (.iadd, 1) := by decide +kernel
theorem dX8_undo_85 : decode cX8_undo 85 = .ok (.putfield 110, 3) := by decide +kernel
theorem dX8_undo_88 : decode cX8_undo 88 = .ok (.aload_n 0, 1) := by decide +kernel
theorem dX8_undo_89 : decode cX8_undo 89 = .ok (.getfield 107, 3) := by decide +kernel
theorem dX8_undo_92 : decode cX8_undo 92 = .ok (.i2l, 1) := by decide +kernel
theorem dX8_undo_93 : decode cX8_undo 93 = .ok (.lreturn, 1) := by decide +kernel
set_option maxHeartbeats 4000000 in
set_option maxRecDepth 100000 in
theorem tX8_undo (l : Launch) (G : Gg) (b0 : Nat) {K : Kk} {R : Rr} {M : Mm} {r : Nat} {res : Int64} {M' : Mm} (hm : mX8_undo K R M r = some (res, M')) : CT l G b0 yX8_undo cX8_undo 2 (some .long) (rmz 1 0) [.ref r] K R M (some (.long res)) K R M' := by
  refine ct_of (by decide +kernel) (Nat.le_of_ble_eq_true rfl) (fun w hq => ?_)
  have hw := hq.b
  change w 0 0 0 [(0, .ref r)] [] K R M
  replace hm := h_start hm
  unfold mX8_undo at hm
  obtain ⟨h1, m18⟩ := h_ck hm
  clear hm
  refine r_aload_n hw dX8_undo_0 0 rfl ?_
  refine r_getI hw fO_X8_107 h1 dX8_undo_1 ?_
  refine r_if_ne (tgt := 11) hw dX8_undo_4 (by decide) (fun c2 => ?_) (fun c2 => ?_)
  · have m19 := h_if_f c2 m18
    clear m18
    refine r_aload_n hw dX8_undo_11 0 rfl ?_
    refine r_dup hw dX8_undo_12 rfl ?_
    refine r_getI hw fO_X8_107 h1 dX8_undo_13 ?_
    refine r_iconst (v := 1) hw dX8_undo_16 rfl ?_
    refine r_isub hw dX8_undo_17 ?_
    obtain ⟨M3, eM3, m20⟩ := h_nm m19
    clear m19
    refine r_putI hw fP_X8_107 h1 dX8_undo_18 (r_mem ?_ rfl eM3)
    refine r_iconst (v := 0) hw dX8_undo_21 rfl ?_
    obtain ⟨i4, ei4, m21⟩ := h_nm m20
    clear m20
    refine r_topI (w := w) ei4 ?_
    refine r_istore_n hw dX8_undo_22 rfl (by decide) rfl ?_
    refine r_sub hw [1, 0] rfl ?_
    obtain ⟨v23, n023, hn23, hv23⟩ := h_lp m21
    clear m21
    have L23 : ∀ n : Nat, ∀ (i5 : Int32) (M6 : Mm), it (mX8_undo_L23 K R r) n (i5, M6) = some v23 → w 0 0 23 [(0, .ref r), (1, .int i5)] [] K R M6 := by
      intro n23
      induction n23 with
      | zero => intro i5 M6 hz; exact absurd hz h_it0
      | succ n23 ih23 =>
        intro i5 M6 m22
        replace m22 : (mX8_undo_B23 K R r i5 M6).bind (Sum.elim (it (mX8_undo_L23 K R r) n23) some) = some v23 := m22
        unfold mX8_undo_B23 at m22
        refine r_iload_n hw dX8_undo_23 1 rfl ?_
        refine r_sipush (v := 1481) hw dX8_undo_24 rfl ?_
        refine r_icmp_ge (tgt := 78) hw dX8_undo_27 (by decide) (fun c7 => ?_) (fun c7 => ?_)
        · have m23 := h_if_f c7 m22
          clear m22
          have m24 := h_ex m23 hv23
          clear m23
          refine r_aload_n hw dX8_undo_78 0 rfl ?_
          refine r_dup hw dX8_undo_79 rfl ?_
          refine r_getI hw fO_X8_110 h1 dX8_undo_80 ?_
          refine r_iconst (v := 1) hw dX8_undo_83 rfl ?_
          refine r_iadd hw dX8_undo_84 ?_
          obtain ⟨M8, eM8, m25⟩ := h_nm m24
          clear m24
          refine r_putI hw fP_X8_110 h1 dX8_undo_85 (r_mem ?_ rfl eM8)
          refine r_aload_n hw dX8_undo_88 0 rfl ?_
          refine r_getI hw fO_X8_107 h1 dX8_undo_89 ?_
          refine r_i2l hw dX8_undo_92 ?_
          cases h_ret m25
          exact r_lreturn hq rfl rfl dX8_undo_93
        · have m26 := h_if_t c7 m22
          clear m22
          refine r_aload_n hw dX8_undo_30 0 rfl ?_
          obtain ⟨q9, bq9, m27⟩ := h_bd m26
          clear m26
          refine r_getR hw fO_X8_16 h1 bq9 dX8_undo_31 ?_
          refine r_sipush (v := 1481) hw dX8_undo_34 rfl ?_
          refine r_aload_n hw dX8_undo_37 0 rfl ?_
          refine r_getI hw fO_X8_110 h1 dX8_undo_38 ?_
          refine r_imul hw dX8_undo_41 ?_
          refine r_iload_n hw dX8_undo_42 1 rfl ?_
          refine r_iadd hw dX8_undo_43 ?_
          refine r_aload_n hw dX8_undo_44 0 rfl ?_
          obtain ⟨q10, bq10, m28⟩ := h_bd m27
          clear m27
          refine r_getR hw fO_X8_7 h1 bq10 dX8_undo_45 ?_
          refine r_iload_n hw dX8_undo_48 1 rfl ?_
          obtain ⟨h11, m29⟩ := h_ck m28
          clear m28
          refine r_laload hw h11 dX8_undo_49 ?_
          obtain ⟨h12, m30⟩ := h_ck m29
          clear m29
          obtain ⟨M13, eM13, m31⟩ := h_nm m30
          clear m30
          refine r_lastore hw h12 dX8_undo_50 (r_mem ?_ rfl eM13)
          refine r_aload_n hw dX8_undo_51 0 rfl ?_
          refine r_getR hw fO_X8_7 h1 bq10 dX8_undo_52 ?_
          refine r_iload_n hw dX8_undo_55 1 rfl ?_
          refine r_aload_n hw dX8_undo_56 0 rfl ?_
          obtain ⟨q14, bq14, m32⟩ := h_bd m31
          clear m31
          refine r_getR hw fO_X8_13 h1 bq14 dX8_undo_57 ?_
          refine r_sipush (v := 1481) hw dX8_undo_60 rfl ?_
          refine r_aload_n hw dX8_undo_63 0 rfl ?_
          refine r_getI hw fO_X8_107 h1 dX8_undo_64 ?_
          refine r_imul hw dX8_undo_67 ?_
          refine r_iload_n hw dX8_undo_68 1 rfl ?_
          refine r_iadd hw dX8_undo_69 ?_
          obtain ⟨h15, m33⟩ := h_ck m32
          clear m32
          refine r_laload hw h15 dX8_undo_70 ?_
          obtain ⟨M16, eM16, m34⟩ := h_nm m33
          clear m33
          refine r_lastore hw h11 dX8_undo_71 (r_mem ?_ rfl eM16)
          obtain ⟨i17, ei17, m35⟩ := h_nm m34
          clear m34
          refine r_iinc (j := 1) (v := i17) hw dX8_undo_72 rfl (by rw [ei17]; rfl) (by decide) rfl ?_
          refine r_goto (tgt := 23) hw dX8_undo_75 (by decide) ?_
          refine r_sub hw [1, 0] rfl ?_
          exact ih23 _ _ m35
    exact L23 n023 _ _ hn23
  · have m36 := h_if_t c2 m18
    clear m18
    refine r_ldc2 (v := (-9000000000000000002)) hw dX8_undo_7 kW_X8_113 ?_
    cases h_ret m36
    exact r_lreturn hq rfl rfl dX8_undo_10
